/-! methods, by program: X6_set, X6_hill, X6_wind, X6_areTwo, X2_areTogether, X0_takeIn, X6_join, X0_halveInto, X6_part, X6_feed, X3_empty, X4_goesOn, J0_isLatin1_aae02, J0_coder_7d493, J0_length_8abf5, J1_canEncode_9a6ad, J1_indexOfChar_4cfef, J1_indexOf_4cfef, J0_indexOf_7cf53, J0_indexOf_0f7a4, X4_takeOneOf, X3_add, X4_readP, X4_readS, X4_readB, X4_readA, X4_readT, X4_isDigitNext, X4_readNumber, X4_stop, X4_readQ -/
def F_X6_set (k0 : Nat) (x1 : Int32) (x2 : Int32) (x3 : Int32) (h : Mem) : Option (Int32 × Mem) :=
  (bnd (F_X6_hasCloud k0 x1 h) (fun r1 h2 =>
  (if r1 = 0 then
    (bnd (F_X6_refuse k0 (-1000000001 : Int32) h2) (fun r3 h4 =>
    (some (r3, h4))))
  else
    (bnd (F_X6_within x2 (0 : Int32) (4 : Int32) h2) (fun r5 h6 =>
    (if r5 = 0 then
      (bnd (F_X6_refuse k0 (-1000000001 : Int32) h6) (fun r7 h8 =>
      (some (r7, h8))))
    else
      (bnd (F_X6_mostToSet x2 h6) (fun r9 h10 =>
      (bnd (F_X6_within x3 (0 : Int32) r9 h10) (fun r11 h12 =>
      (if r11 = 0 then
        (bnd (F_X6_refuse k0 (-1000000001 : Int32) h12) (fun r13 h14 =>
        (some (r13, h14))))
      else
        (gin x1 8
        (if (h12 (((k0 + 1) + 1) + 11 + 2 * ix x1) 4) = 0 then
          (bnd (F_X6_refuse k0 (-1000000003 : Int32) h12) (fun r16 h17 =>
          (some (r16, h17))))
        else
          (gin x1 8
          (bnd (F_X0_change (((k0 + 1) + 1) + 11 + 2 * ix x1) x2 x3 h12) (fun r19 h20 =>
          (some (r19, h20))))))))))))))))))
set_option maxRecDepth 10000 in
set_option maxHeartbeats 1000000 in
theorem ok_X6_set (l : Launch) (ω : WX) {k0 : Nat} (hk0 : lay k0 = 6) (x1 : Int32) (x2 : Int32) (x3 : Int32) (h : Mem) : MC rvI l ω yX6_set cX6_set 4 (some .int) 2 [.ref (ω.1 + k0), .int x1, .int x2, .int x3] h (F_X6_set k0 x1 x2 x3 h) := by
  refine MC.of (by decide +kernel) [(0, .ref (ω.1 + k0)), (1, .int x1), (2, .int x2), (3, .int x3)] rfl (Nat.le_of_ble_eq_true rfl) (fun χ K => ?_)
  have K : Kok ω χ "SaltClouds" cX6_set 4 (some .int) 2 := K
  unfold F_X6_set
  refine J_aload_n (pc := 0) K dX6_set_0 0 rfl 0 rfl ?_
  refine J_iload_n (pc := 1) K dX6_set_1 1 rfl 1 rfl ?_
  refine J_callVI (As := [.int x1]) (rest := []) (pc := 2) K cs_SaltClouds_72 (ok_X6_hasCloud l ω hk0 x1 h) hk0 (by decide) rfl rfl (Nat.le_of_ble_eq_true rfl) dX6_set_2 (fun r1 h2 => ?_)
  refine J_if_eq (pc := 5) K 29 dX6_set_5 (by decide) ?_ ?_
  · refine J_aload_n (pc := 29) K dX6_set_29 0 rfl 0 rfl ?_
    refine J_ldc (pc := 30) K kc_SaltClouds_59 dX6_set_30 ?_
    refine J_callVI (As := [.int (-1000000001 : Int32)]) (rest := []) (pc := 32) K cs_SaltClouds_60 (ok_X6_refuse l ω hk0 (-1000000001 : Int32) h2) hk0 (by decide) rfl rfl (Nat.le_of_ble_eq_true rfl) dX6_set_32 (fun r3 h4 => ?_)
    exact J_iret (pc := 35) K dX6_set_35
  · refine J_iload_n (pc := 8) K dX6_set_8 2 rfl 2 rfl ?_
    refine J_iconst (pc := 9) K (0) dX6_set_9 (by decide) ?_
    refine J_iconst (pc := 10) K (4) dX6_set_10 (by decide) ?_
    refine J_callTI (As := [.int x2, .int (0 : Int32), .int (4 : Int32)]) (rest := []) (pc := 11) K cs_SaltClouds_51 (ok_X6_within l ω x2 (0 : Int32) (4 : Int32) h2) (by decide) rfl rfl (Nat.le_of_ble_eq_true rfl) dX6_set_11 (fun r5 h6 => ?_)
    refine J_if_eq (pc := 14) K 29 dX6_set_14 (by decide) ?_ ?_
    · refine J_aload_n (pc := 29) K dX6_set_29 0 rfl 0 rfl ?_
      refine J_ldc (pc := 30) K kc_SaltClouds_59 dX6_set_30 ?_
      refine J_callVI (As := [.int (-1000000001 : Int32)]) (rest := []) (pc := 32) K cs_SaltClouds_60 (ok_X6_refuse l ω hk0 (-1000000001 : Int32) h6) hk0 (by decide) rfl rfl (Nat.le_of_ble_eq_true rfl) dX6_set_32 (fun r7 h8 => ?_)
      exact J_iret (pc := 35) K dX6_set_35
    · refine J_iload_n (pc := 17) K dX6_set_17 3 rfl 3 rfl ?_
      refine J_iconst (pc := 18) K (0) dX6_set_18 (by decide) ?_
      refine J_iload_n (pc := 19) K dX6_set_19 2 rfl 2 rfl ?_
      refine J_callTI (As := [.int x2]) (rest := [.int (0 : Int32), .int x3]) (pc := 20) K cs_SaltClouds_100 (ok_X6_mostToSet l ω x2 h6) (by decide) rfl rfl (Nat.le_of_ble_eq_true rfl) dX6_set_20 (fun r9 h10 => ?_)
      refine J_callTI (As := [.int x3, .int (0 : Int32), .int r9]) (rest := []) (pc := 23) K cs_SaltClouds_51 (ok_X6_within l ω x3 (0 : Int32) r9 h10) (by decide) rfl rfl (Nat.le_of_ble_eq_true rfl) dX6_set_23 (fun r11 h12 => ?_)
      refine J_if_ne (pc := 26) K 36 dX6_set_26 (by decide) ?_ ?_
      · refine J_aload_n (pc := 29) K dX6_set_29 0 rfl 0 rfl ?_
        refine J_ldc (pc := 30) K kc_SaltClouds_59 dX6_set_30 ?_
        refine J_callVI (As := [.int (-1000000001 : Int32)]) (rest := []) (pc := 32) K cs_SaltClouds_60 (ok_X6_refuse l ω hk0 (-1000000001 : Int32) h12) hk0 (by decide) rfl rfl (Nat.le_of_ble_eq_true rfl) dX6_set_32 (fun r13 h14 => ?_)
        exact J_iret (pc := 35) K dX6_set_35
      · refine J_aload_n (pc := 36) K dX6_set_36 0 rfl 0 rfl ?_
        refine J_getR (pc := 37) K gf_SaltClouds_12 hk0 1 rfl dX6_set_37 ?_
        refine J_getR (pc := 40) K gf_SaltClouds_79 (ty_6_1 hk0) 1 rfl dX6_set_40 ?_
        refine J_iload_n (pc := 43) K dX6_set_43 1 rfl 1 rfl ?_
        refine J_aldC (pc := 44) K (a := (k0 + 1) + 1) (ty_2_1 (ty_6_1 hk0)) dX6_set_44 (fun b15 => ?_)
        refine J_getI (pc := 45) K gf_SaltClouds_103 (ty_8e (ty_2_1 (ty_6_1 hk0)) b15) rfl dX6_set_45 ?_
        refine J_if_ne (pc := 48) K 58 dX6_set_48 (by decide) ?_ ?_
        · refine J_aload_n (pc := 51) K dX6_set_51 0 rfl 0 rfl ?_
          refine J_ldc (pc := 52) K kc_SaltClouds_107 dX6_set_52 ?_
          refine J_callVI (As := [.int (-1000000003 : Int32)]) (rest := []) (pc := 54) K cs_SaltClouds_60 (ok_X6_refuse l ω hk0 (-1000000003 : Int32) h12) hk0 (by decide) rfl rfl (Nat.le_of_ble_eq_true rfl) dX6_set_54 (fun r16 h17 => ?_)
          exact J_iret (pc := 57) K dX6_set_57
        · refine J_aload_n (pc := 58) K dX6_set_58 0 rfl 0 rfl ?_
          refine J_getR (pc := 59) K gf_SaltClouds_12 hk0 1 rfl dX6_set_59 ?_
          refine J_getR (pc := 62) K gf_SaltClouds_79 (ty_6_1 hk0) 1 rfl dX6_set_62 ?_
          refine J_iload_n (pc := 65) K dX6_set_65 1 rfl 1 rfl ?_
          refine J_aldC (pc := 66) K (a := (k0 + 1) + 1) (ty_2_1 (ty_6_1 hk0)) dX6_set_66 (fun b18 => ?_)
          refine J_iload_n (pc := 67) K dX6_set_67 2 rfl 2 rfl ?_
          refine J_iload_n (pc := 68) K dX6_set_68 3 rfl 3 rfl ?_
          refine J_callVI (As := [.int x2, .int x3]) (rest := []) (pc := 69) K cs_SaltClouds_108 (ok_X0_change l ω (ty_8e (ty_2_1 (ty_6_1 hk0)) b18) x2 x3 h12) (ty_8e (ty_2_1 (ty_6_1 hk0)) b18) (by decide) rfl rfl (Nat.le_of_ble_eq_true rfl) dX6_set_69 (fun r19 h20 => ?_)
          exact J_iret (pc := 72) K dX6_set_72
def F_X6_hill (k0 : Nat) (x1 : Int32) (x2 : Int32) (h : Mem) : Option (Int32 × Mem) :=
  (bnd (F_X6_isPlace x1 h) (fun r1 h2 =>
  (if r1 = 0 then
    (bnd (F_X6_refuse k0 (-1000000001 : Int32) h2) (fun r3 h4 =>
    (some (r3, h4))))
  else
    (bnd (F_X6_within x2 (0 : Int32) (9 : Int32) h2) (fun r5 h6 =>
    (if r5 = 0 then
      (bnd (F_X6_refuse k0 (-1000000001 : Int32) h6) (fun r7 h8 =>
      (some (r7, h8))))
    else
      (gin x1 12
      (seqi (h6 ((k0 + 1) + 2) (ix x1)) (fun v9 =>
      (gin x1 12 (seqh (upm h6 ((k0 + 1) + 2) (ix x1) x2) (fun h10 =>
      (some (v9, h10))))))))))))))
set_option maxRecDepth 10000 in
set_option maxHeartbeats 1000000 in
theorem ok_X6_hill (l : Launch) (ω : WX) {k0 : Nat} (hk0 : lay k0 = 6) (x1 : Int32) (x2 : Int32) (h : Mem) : MC rvI l ω yX6_hill cX6_hill 4 (some .int) 2 [.ref (ω.1 + k0), .int x1, .int x2] h (F_X6_hill k0 x1 x2 h) := by
  refine MC.of (by decide +kernel) [(0, .ref (ω.1 + k0)), (1, .int x1), (2, .int x2)] rfl (Nat.le_of_ble_eq_true rfl) (fun χ K => ?_)
  have K : Kok ω χ "SaltClouds" cX6_hill 4 (some .int) 2 := K
  unfold F_X6_hill
  refine J_iload_n (pc := 0) K dX6_hill_0 1 rfl 1 rfl ?_
  refine J_callTI (As := [.int x1]) (rest := []) (pc := 1) K cs_SaltClouds_55 (ok_X6_isPlace l ω x1 h) (by decide) rfl rfl (Nat.le_of_ble_eq_true rfl) dX6_hill_1 (fun r1 h2 => ?_)
  refine J_if_eq (pc := 4) K 17 dX6_hill_4 (by decide) ?_ ?_
  · refine J_aload_n (pc := 17) K dX6_hill_17 0 rfl 0 rfl ?_
    refine J_ldc (pc := 18) K kc_SaltClouds_59 dX6_hill_18 ?_
    refine J_callVI (As := [.int (-1000000001 : Int32)]) (rest := []) (pc := 20) K cs_SaltClouds_60 (ok_X6_refuse l ω hk0 (-1000000001 : Int32) h2) hk0 (by decide) rfl rfl (Nat.le_of_ble_eq_true rfl) dX6_hill_20 (fun r3 h4 => ?_)
    exact J_iret (pc := 23) K dX6_hill_23
  · refine J_iload_n (pc := 7) K dX6_hill_7 2 rfl 2 rfl ?_
    refine J_iconst (pc := 8) K (0) dX6_hill_8 (by decide) ?_
    refine J_bipush (pc := 9) K (9) dX6_hill_9 (by decide) ?_
    refine J_callTI (As := [.int x2, .int (0 : Int32), .int (9 : Int32)]) (rest := []) (pc := 11) K cs_SaltClouds_51 (ok_X6_within l ω x2 (0 : Int32) (9 : Int32) h2) (by decide) rfl rfl (Nat.le_of_ble_eq_true rfl) dX6_hill_11 (fun r5 h6 => ?_)
    refine J_if_ne (pc := 14) K 24 dX6_hill_14 (by decide) ?_ ?_
    · refine J_aload_n (pc := 17) K dX6_hill_17 0 rfl 0 rfl ?_
      refine J_ldc (pc := 18) K kc_SaltClouds_59 dX6_hill_18 ?_
      refine J_callVI (As := [.int (-1000000001 : Int32)]) (rest := []) (pc := 20) K cs_SaltClouds_60 (ok_X6_refuse l ω hk0 (-1000000001 : Int32) h6) hk0 (by decide) rfl rfl (Nat.le_of_ble_eq_true rfl) dX6_hill_20 (fun r7 h8 => ?_)
      exact J_iret (pc := 23) K dX6_hill_23
    · refine J_aload_n (pc := 24) K dX6_hill_24 0 rfl 0 rfl ?_
      refine J_getR (pc := 25) K gf_SaltClouds_12 hk0 1 rfl dX6_hill_25 ?_
      refine J_getR (pc := 28) K gf_SaltClouds_111 (ty_6_1 hk0) 2 rfl dX6_hill_28 ?_
      refine J_iload_n (pc := 31) K dX6_hill_31 1 rfl 1 rfl ?_
      refine J_iald (pc := 32) K (a := (k0 + 1) + 2) (n := 12) (ty_2_2 (ty_6_1 hk0)) dX6_hill_32 ?_
      refine J_topi (fun v9 => ?_)
      refine J_istore_n (pc := 33) K dX6_hill_33 3 rfl (by decide) [(3, .int v9), (0, .ref (ω.1 + k0)), (1, .int x1), (2, .int x2)] rfl ?_
      refine J_aload_n (pc := 34) K dX6_hill_34 0 rfl 1 rfl ?_
      refine J_getR (pc := 35) K gf_SaltClouds_12 hk0 1 rfl dX6_hill_35 ?_
      refine J_getR (pc := 38) K gf_SaltClouds_111 (ty_6_1 hk0) 2 rfl dX6_hill_38 ?_
      refine J_iload_n (pc := 41) K dX6_hill_41 1 rfl 2 rfl ?_
      refine J_iload_n (pc := 42) K dX6_hill_42 2 rfl 3 rfl ?_
      refine J_iast (pc := 43) K (a := (k0 + 1) + 2) (n := 12) (ty_2_2 (ty_6_1 hk0)) dX6_hill_43 (fun h10 => ?_)
      refine J_iload_n (pc := 44) K dX6_hill_44 3 rfl 0 rfl ?_
      exact J_iret (pc := 45) K dX6_hill_45
def F_X6_wind (k0 : Nat) (x1 : Int32) (x2 : Int32) (h : Mem) : Option (Int32 × Mem) :=
  (bnd (F_X6_within x1 (0 : Int32) (7 : Int32) h) (fun r1 h2 =>
  (if r1 = 0 then
    (bnd (F_X6_refuse k0 (-1000000001 : Int32) h2) (fun r3 h4 =>
    (some (r3, h4))))
  else
    (bnd (F_X6_within x2 (-3 : Int32) (3 : Int32) h2) (fun r5 h6 =>
    (if r5 = 0 then
      (bnd (F_X6_refuse k0 (-1000000001 : Int32) h6) (fun r7 h8 =>
      (some (r7, h8))))
    else
      (gin x1 8
      (seqi (h6 ((k0 + 1) + 3) (ix x1)) (fun v9 =>
      (gin x1 8 (seqh (upm h6 ((k0 + 1) + 3) (ix x1) x2) (fun h10 =>
      (some (v9, h10))))))))))))))
set_option maxRecDepth 10000 in
set_option maxHeartbeats 1000000 in
theorem ok_X6_wind (l : Launch) (ω : WX) {k0 : Nat} (hk0 : lay k0 = 6) (x1 : Int32) (x2 : Int32) (h : Mem) : MC rvI l ω yX6_wind cX6_wind 4 (some .int) 2 [.ref (ω.1 + k0), .int x1, .int x2] h (F_X6_wind k0 x1 x2 h) := by
  refine MC.of (by decide +kernel) [(0, .ref (ω.1 + k0)), (1, .int x1), (2, .int x2)] rfl (Nat.le_of_ble_eq_true rfl) (fun χ K => ?_)
  have K : Kok ω χ "SaltClouds" cX6_wind 4 (some .int) 2 := K
  unfold F_X6_wind
  refine J_iload_n (pc := 0) K dX6_wind_0 1 rfl 1 rfl ?_
  refine J_iconst (pc := 1) K (0) dX6_wind_1 (by decide) ?_
  refine J_bipush (pc := 2) K (7) dX6_wind_2 (by decide) ?_
  refine J_callTI (As := [.int x1, .int (0 : Int32), .int (7 : Int32)]) (rest := []) (pc := 4) K cs_SaltClouds_51 (ok_X6_within l ω x1 (0 : Int32) (7 : Int32) h) (by decide) rfl rfl (Nat.le_of_ble_eq_true rfl) dX6_wind_4 (fun r1 h2 => ?_)
  refine J_if_eq (pc := 7) K 20 dX6_wind_7 (by decide) ?_ ?_
  · refine J_aload_n (pc := 20) K dX6_wind_20 0 rfl 0 rfl ?_
    refine J_ldc (pc := 21) K kc_SaltClouds_59 dX6_wind_21 ?_
    refine J_callVI (As := [.int (-1000000001 : Int32)]) (rest := []) (pc := 23) K cs_SaltClouds_60 (ok_X6_refuse l ω hk0 (-1000000001 : Int32) h2) hk0 (by decide) rfl rfl (Nat.le_of_ble_eq_true rfl) dX6_wind_23 (fun r3 h4 => ?_)
    exact J_iret (pc := 26) K dX6_wind_26
  · refine J_iload_n (pc := 10) K dX6_wind_10 2 rfl 2 rfl ?_
    refine J_bipush (pc := 11) K (-3) dX6_wind_11 (by decide) ?_
    refine J_iconst (pc := 13) K (3) dX6_wind_13 (by decide) ?_
    refine J_callTI (As := [.int x2, .int (-3 : Int32), .int (3 : Int32)]) (rest := []) (pc := 14) K cs_SaltClouds_51 (ok_X6_within l ω x2 (-3 : Int32) (3 : Int32) h2) (by decide) rfl rfl (Nat.le_of_ble_eq_true rfl) dX6_wind_14 (fun r5 h6 => ?_)
    refine J_if_ne (pc := 17) K 27 dX6_wind_17 (by decide) ?_ ?_
    · refine J_aload_n (pc := 20) K dX6_wind_20 0 rfl 0 rfl ?_
      refine J_ldc (pc := 21) K kc_SaltClouds_59 dX6_wind_21 ?_
      refine J_callVI (As := [.int (-1000000001 : Int32)]) (rest := []) (pc := 23) K cs_SaltClouds_60 (ok_X6_refuse l ω hk0 (-1000000001 : Int32) h6) hk0 (by decide) rfl rfl (Nat.le_of_ble_eq_true rfl) dX6_wind_23 (fun r7 h8 => ?_)
      exact J_iret (pc := 26) K dX6_wind_26
    · refine J_aload_n (pc := 27) K dX6_wind_27 0 rfl 0 rfl ?_
      refine J_getR (pc := 28) K gf_SaltClouds_12 hk0 1 rfl dX6_wind_28 ?_
      refine J_getR (pc := 31) K gf_SaltClouds_114 (ty_6_1 hk0) 3 rfl dX6_wind_31 ?_
      refine J_iload_n (pc := 34) K dX6_wind_34 1 rfl 1 rfl ?_
      refine J_iald (pc := 35) K (a := (k0 + 1) + 3) (n := 8) (ty_2_3 (ty_6_1 hk0)) dX6_wind_35 ?_
      refine J_topi (fun v9 => ?_)
      refine J_istore_n (pc := 36) K dX6_wind_36 3 rfl (by decide) [(3, .int v9), (0, .ref (ω.1 + k0)), (1, .int x1), (2, .int x2)] rfl ?_
      refine J_aload_n (pc := 37) K dX6_wind_37 0 rfl 1 rfl ?_
      refine J_getR (pc := 38) K gf_SaltClouds_12 hk0 1 rfl dX6_wind_38 ?_
      refine J_getR (pc := 41) K gf_SaltClouds_114 (ty_6_1 hk0) 3 rfl dX6_wind_41 ?_
      refine J_iload_n (pc := 44) K dX6_wind_44 1 rfl 2 rfl ?_
      refine J_iload_n (pc := 45) K dX6_wind_45 2 rfl 3 rfl ?_
      refine J_iast (pc := 46) K (a := (k0 + 1) + 3) (n := 8) (ty_2_3 (ty_6_1 hk0)) dX6_wind_46 (fun h10 => ?_)
      refine J_iload_n (pc := 47) K dX6_wind_47 3 rfl 0 rfl ?_
      exact J_iret (pc := 48) K dX6_wind_48
def F_X6_areTwo (k0 : Nat) (x1 : Int32) (x2 : Int32) (h : Mem) : Option (Int32 × Mem) :=
  (bnd (F_X6_hasCloud k0 x1 h) (fun r1 h2 =>
  (if r1 = 0 then
    (some ((0 : Int32), h2))
  else
    (bnd (F_X6_hasCloud k0 x2 h2) (fun r3 h4 =>
    (if r3 = 0 then
      (some ((0 : Int32), h4))
    else
      (if x1 = x2 then
        (some ((0 : Int32), h4))
      else
        (some ((1 : Int32), h4)))))))))
set_option maxRecDepth 10000 in
set_option maxHeartbeats 1000000 in
theorem ok_X6_areTwo (l : Launch) (ω : WX) {k0 : Nat} (hk0 : lay k0 = 6) (x1 : Int32) (x2 : Int32) (h : Mem) : MC rvI l ω yX6_areTwo cX6_areTwo 3 (some .boolean) 2 [.ref (ω.1 + k0), .int x1, .int x2] h (F_X6_areTwo k0 x1 x2 h) := by
  refine MC.of (by decide +kernel) [(0, .ref (ω.1 + k0)), (1, .int x1), (2, .int x2)] rfl (Nat.le_of_ble_eq_true rfl) (fun χ K => ?_)
  have K : Kok ω χ "SaltClouds" cX6_areTwo 3 (some .boolean) 2 := K
  unfold F_X6_areTwo
  refine J_aload_n (pc := 0) K dX6_areTwo_0 0 rfl 0 rfl ?_
  refine J_iload_n (pc := 1) K dX6_areTwo_1 1 rfl 1 rfl ?_
  refine J_callVI (As := [.int x1]) (rest := []) (pc := 2) K cs_SaltClouds_72 (ok_X6_hasCloud l ω hk0 x1 h) hk0 (by decide) rfl rfl (Nat.le_of_ble_eq_true rfl) dX6_areTwo_2 (fun r1 h2 => ?_)
  refine J_if_eq (pc := 5) K 25 dX6_areTwo_5 (by decide) ?_ ?_
  · refine J_iconst (pc := 25) K (0) dX6_areTwo_25 (by decide) ?_
    exact J_nret (pc := 26) K rfl dX6_areTwo_26
  · refine J_aload_n (pc := 8) K dX6_areTwo_8 0 rfl 0 rfl ?_
    refine J_iload_n (pc := 9) K dX6_areTwo_9 2 rfl 2 rfl ?_
    refine J_callVI (As := [.int x2]) (rest := []) (pc := 10) K cs_SaltClouds_72 (ok_X6_hasCloud l ω hk0 x2 h2) hk0 (by decide) rfl rfl (Nat.le_of_ble_eq_true rfl) dX6_areTwo_10 (fun r3 h4 => ?_)
    refine J_if_eq (pc := 13) K 25 dX6_areTwo_13 (by decide) ?_ ?_
    · refine J_iconst (pc := 25) K (0) dX6_areTwo_25 (by decide) ?_
      exact J_nret (pc := 26) K rfl dX6_areTwo_26
    · refine J_iload_n (pc := 16) K dX6_areTwo_16 1 rfl 1 rfl ?_
      refine J_iload_n (pc := 17) K dX6_areTwo_17 2 rfl 2 rfl ?_
      refine J_icmp_eq (pc := 18) K 25 dX6_areTwo_18 (by decide) ?_ ?_
      · refine J_iconst (pc := 25) K (0) dX6_areTwo_25 (by decide) ?_
        exact J_nret (pc := 26) K rfl dX6_areTwo_26
      · refine J_iconst (pc := 21) K (1) dX6_areTwo_21 (by decide) ?_
        refine J_goto (pc := 22) K 26 dX6_areTwo_22 (by decide) ?_
        exact J_nret (pc := 26) K rfl dX6_areTwo_26
def F_X2_areTogether (k0 : Nat) (x1 : Int32) (x2 : Int32) (h : Mem) : Option (Int32 × Mem) :=
  (gin x1 8
  (if (h ((k0 + 1) + 11 + 2 * ix x1) 4) = 0 then
    (some ((0 : Int32), h))
  else
    (gin x2 8
    (if (h ((k0 + 1) + 11 + 2 * ix x2) 4) = 0 then
      (some ((0 : Int32), h))
    else
      (gin x1 8
      (gin x2 8
      (if (h ((k0 + 1) + 11 + 2 * ix x1) 2) = (h ((k0 + 1) + 11 + 2 * ix x2) 2) then
        (some ((1 : Int32), h))
      else
        (some ((0 : Int32), h)))))))))
set_option maxRecDepth 10000 in
set_option maxHeartbeats 1000000 in
theorem ok_X2_areTogether (l : Launch) (ω : WX) {k0 : Nat} (hk0 : lay k0 = 2) (x1 : Int32) (x2 : Int32) (h : Mem) : MC rvI l ω yX2_areTogether cX2_areTogether 3 (some .boolean) 0 [.ref (ω.1 + k0), .int x1, .int x2] h (F_X2_areTogether k0 x1 x2 h) := by
  refine MC.of (by decide +kernel) [(0, .ref (ω.1 + k0)), (1, .int x1), (2, .int x2)] rfl (Nat.le_of_ble_eq_true rfl) (fun χ K => ?_)
  have K : Kok ω χ "SaltClouds$Sky" cX2_areTogether 3 (some .boolean) 0 := K
  unfold F_X2_areTogether
  refine J_aload_n (pc := 0) K dX2_areTogether_0 0 rfl 0 rfl ?_
  refine J_getR (pc := 1) K gf_SaltClouds_Sky_11 hk0 1 rfl dX2_areTogether_1 ?_
  refine J_iload_n (pc := 4) K dX2_areTogether_4 1 rfl 1 rfl ?_
  refine J_aldC (pc := 5) K (a := k0 + 1) (ty_2_1 hk0) dX2_areTogether_5 (fun b1 => ?_)
  refine J_getI (pc := 6) K gf_SaltClouds_Sky_93 (ty_8e (ty_2_1 hk0) b1) rfl dX2_areTogether_6 ?_
  refine J_if_eq (pc := 9) K 49 dX2_areTogether_9 (by decide) ?_ ?_
  · refine J_iconst (pc := 49) K (0) dX2_areTogether_49 (by decide) ?_
    exact J_nret (pc := 50) K rfl dX2_areTogether_50
  · refine J_aload_n (pc := 12) K dX2_areTogether_12 0 rfl 0 rfl ?_
    refine J_getR (pc := 13) K gf_SaltClouds_Sky_11 hk0 1 rfl dX2_areTogether_13 ?_
    refine J_iload_n (pc := 16) K dX2_areTogether_16 2 rfl 2 rfl ?_
    refine J_aldC (pc := 17) K (a := k0 + 1) (ty_2_1 hk0) dX2_areTogether_17 (fun b2 => ?_)
    refine J_getI (pc := 18) K gf_SaltClouds_Sky_93 (ty_8e (ty_2_1 hk0) b2) rfl dX2_areTogether_18 ?_
    refine J_if_eq (pc := 21) K 49 dX2_areTogether_21 (by decide) ?_ ?_
    · refine J_iconst (pc := 49) K (0) dX2_areTogether_49 (by decide) ?_
      exact J_nret (pc := 50) K rfl dX2_areTogether_50
    · refine J_aload_n (pc := 24) K dX2_areTogether_24 0 rfl 0 rfl ?_
      refine J_getR (pc := 25) K gf_SaltClouds_Sky_11 hk0 1 rfl dX2_areTogether_25 ?_
      refine J_iload_n (pc := 28) K dX2_areTogether_28 1 rfl 1 rfl ?_
      refine J_aldC (pc := 29) K (a := k0 + 1) (ty_2_1 hk0) dX2_areTogether_29 (fun b3 => ?_)
      refine J_getI (pc := 30) K gf_SaltClouds_Sky_83 (ty_8e (ty_2_1 hk0) b3) rfl dX2_areTogether_30 ?_
      refine J_aload_n (pc := 33) K dX2_areTogether_33 0 rfl 0 rfl ?_
      refine J_getR (pc := 34) K gf_SaltClouds_Sky_11 hk0 1 rfl dX2_areTogether_34 ?_
      refine J_iload_n (pc := 37) K dX2_areTogether_37 2 rfl 2 rfl ?_
      refine J_aldC (pc := 38) K (a := k0 + 1) (ty_2_1 hk0) dX2_areTogether_38 (fun b4 => ?_)
      refine J_getI (pc := 39) K gf_SaltClouds_Sky_83 (ty_8e (ty_2_1 hk0) b4) rfl dX2_areTogether_39 ?_
      refine J_icmp_ne (pc := 42) K 49 dX2_areTogether_42 (by decide) ?_ ?_
      · refine J_iconst (pc := 45) K (1) dX2_areTogether_45 (by decide) ?_
        refine J_goto (pc := 46) K 50 dX2_areTogether_46 (by decide) ?_
        exact J_nret (pc := 50) K rfl dX2_areTogether_50
      · refine J_iconst (pc := 49) K (0) dX2_areTogether_49 (by decide) ?_
        exact J_nret (pc := 50) K rfl dX2_areTogether_50
def F_X0_takeIn_21 (N : Nat) (k0 : Nat) (k1 : Nat) (kt : Mem → Option (Unit × Mem)) : Nat → Int32 → Mem → Option (Unit × Mem)
  | 0, _, _ => none
  | n + 1, u2, h =>
    (if (3 : Int32) ≤ u2 then
      (kt h)
    else
      (gin u2 3
      (gin u2 3
      (bnd (F_J9_min_7cf53 (99 : Int32) ((h (k0 + 1) (ix u2)) + (h (k1 + 1) (ix u2))) h) (fun r4 h5 =>
      (gin u2 3 (seqh (upm h5 (k0 + 1) (ix u2) r4) (fun h6 =>
      (gin u2 3 (seqh (upm h6 (k1 + 1) (ix u2) (0 : Int32)) (fun h7 =>
      (F_X0_takeIn_21 N k0 k1 kt n (u2 + 1) h7))))))))))))
set_option maxRecDepth 10000 in
set_option maxHeartbeats 1000000 in
theorem okL_X0_takeIn_21 {l : Launch} {ω : WX} {χ : KT} {d : Nat} (K : Kok ω χ "SaltClouds$Cloud" cX0_takeIn 3 none d) (hd : 1 ≤ d) (N : Nat) {k0 : Nat} (hk0 : lay k0 = 0) {k1 : Nat} (hk1 : lay k1 = 0) {kt : Mem → Option (Unit × Mem)} (hK : ∀ (h : Mem), J (ZM rvV ω χ) l ω χ 63 3 [(1, .ref (ω.1 + k1))] [] h (kt h)) : ∀ (n : Nat) (u2 : Int32) (h : Mem), J (ZM rvV ω χ) l ω χ 21 3 [(0, .ref (ω.1 + k0)), (1, .ref (ω.1 + k1)), (2, .int u2)] [] h (F_X0_takeIn_21 N k0 k1 kt n u2 h) := by
  intro n
  induction n with
  | zero =>
    intro u2 h
    exact J_none rfl
  | succ n ih =>
    intro u2 h
    rw [F_X0_takeIn_21]
    refine J_iload_n (pc := 21) K dX0_takeIn_21 2 rfl 2 rfl ?_
    refine J_iconst (pc := 22) K (3) dX0_takeIn_22 (by decide) ?_
    refine J_icmp_ge (pc := 23) K 63 dX0_takeIn_23 (by decide) ?_ ?_
    · refine J_lv [1] [(1, .ref (ω.1 + k1))] rfl ?_
      exact hK h
    · refine J_aload_n (pc := 26) K dX0_takeIn_26 0 rfl 0 rfl ?_
      refine J_getR (pc := 27) K gf_SaltClouds_Cloud_28 hk0 1 rfl dX0_takeIn_27 ?_
      refine J_iload_n (pc := 30) K dX0_takeIn_30 2 rfl 2 rfl ?_
      refine J_bipush (pc := 31) K (99) dX0_takeIn_31 (by decide) ?_
      refine J_aload_n (pc := 33) K dX0_takeIn_33 0 rfl 0 rfl ?_
      refine J_getR (pc := 34) K gf_SaltClouds_Cloud_28 hk0 1 rfl dX0_takeIn_34 ?_
      refine J_iload_n (pc := 37) K dX0_takeIn_37 2 rfl 2 rfl ?_
      refine J_iald (pc := 38) K (a := k0 + 1) (n := 3) (ty_0_1 hk0) dX0_takeIn_38 ?_
      refine J_aload_n (pc := 39) K dX0_takeIn_39 1 rfl 1 rfl ?_
      refine J_getR (pc := 40) K gf_SaltClouds_Cloud_28 hk1 1 rfl dX0_takeIn_40 ?_
      refine J_iload_n (pc := 43) K dX0_takeIn_43 2 rfl 2 rfl ?_
      refine J_iald (pc := 44) K (a := k1 + 1) (n := 3) (ty_0_1 hk1) dX0_takeIn_44 ?_
      refine J_iadd (pc := 45) K dX0_takeIn_45 ?_
      refine J_callTI (As := [.int (99 : Int32), .int ((h (k0 + 1) (ix u2)) + (h (k1 + 1) (ix u2)))]) (rest := [.int u2, .ref (ω.1 + (k0 + 1))]) (pc := 46) K cs_SaltClouds_Cloud_50 (ok_J9_min_7cf53 l ω (99 : Int32) ((h (k0 + 1) (ix u2)) + (h (k1 + 1) (ix u2))) h) (by omega) rfl rfl (Nat.le_of_ble_eq_true rfl) dX0_takeIn_46 (fun r4 h5 => ?_)
      refine J_iast (pc := 49) K (a := k0 + 1) (n := 3) (ty_0_1 hk0) dX0_takeIn_49 (fun h6 => ?_)
      refine J_aload_n (pc := 50) K dX0_takeIn_50 1 rfl 1 rfl ?_
      refine J_getR (pc := 51) K gf_SaltClouds_Cloud_28 hk1 1 rfl dX0_takeIn_51 ?_
      refine J_iload_n (pc := 54) K dX0_takeIn_54 2 rfl 2 rfl ?_
      refine J_iconst (pc := 55) K (0) dX0_takeIn_55 (by decide) ?_
      refine J_iast (pc := 56) K (a := k1 + 1) (n := 3) (ty_0_1 hk1) dX0_takeIn_56 (fun h7 => ?_)
      refine J_iinc (pc := 57) K (1) dX0_takeIn_57 2 rfl (by decide) (by decide) [(2, .int (u2 + 1)), (0, .ref (ω.1 + k0)), (1, .ref (ω.1 + k1))] rfl ?_
      refine J_goto (pc := 60) K 21 dX0_takeIn_60 (by decide) ?_
      refine J_lv [1, 2, 0] [(0, .ref (ω.1 + k0)), (1, .ref (ω.1 + k1)), (2, .int (u2 + 1))] rfl ?_
      exact ih (u2 + 1) h7
def F_X0_takeIn (N : Nat) (k0 : Nat) (k1 : Nat) (h : Mem) : Option (Unit × Mem) :=
  (bnd (F_J9_min_7cf53 (999 : Int32) ((h k0 3) + (h k1 3)) h) (fun r1 h2 =>
  (seqh (upm h2 k0 3 r1) (fun h3 =>
  (F_X0_takeIn_21 N k0 k1 (fun (h8 : Mem) =>
    (seqh (upm h8 k1 3 (0 : Int32)) (fun h9 =>
    (seqh (upm h9 k1 4 (0 : Int32)) (fun h10 =>
    (some ((), h10))))))) N (0 : Int32) h3)))))
set_option maxRecDepth 10000 in
set_option maxHeartbeats 1000000 in
theorem ok_X0_takeIn (l : Launch) (ω : WX) (N : Nat) {k0 : Nat} (hk0 : lay k0 = 0) {k1 : Nat} (hk1 : lay k1 = 0) (h : Mem) : MC rvV l ω yX0_takeIn cX0_takeIn 3 none 1 [.ref (ω.1 + k0), .ref (ω.1 + k1)] h (F_X0_takeIn N k0 k1 h) := by
  refine MC.of (by decide +kernel) [(0, .ref (ω.1 + k0)), (1, .ref (ω.1 + k1))] rfl (Nat.le_of_ble_eq_true rfl) (fun χ K => ?_)
  have K : Kok ω χ "SaltClouds$Cloud" cX0_takeIn 3 none 1 := K
  unfold F_X0_takeIn
  refine J_aload_n (pc := 0) K dX0_takeIn_0 0 rfl 0 rfl ?_
  refine J_sipush (pc := 1) K (999) dX0_takeIn_1 (by decide) ?_
  refine J_aload_n (pc := 4) K dX0_takeIn_4 0 rfl 0 rfl ?_
  refine J_getI (pc := 5) K gf_SaltClouds_Cloud_21 hk0 rfl dX0_takeIn_5 ?_
  refine J_aload_n (pc := 8) K dX0_takeIn_8 1 rfl 1 rfl ?_
  refine J_getI (pc := 9) K gf_SaltClouds_Cloud_21 hk1 rfl dX0_takeIn_9 ?_
  refine J_iadd (pc := 12) K dX0_takeIn_12 ?_
  refine J_callTI (As := [.int (999 : Int32), .int ((h k0 3) + (h k1 3))]) (rest := [.ref (ω.1 + k0)]) (pc := 13) K cs_SaltClouds_Cloud_50 (ok_J9_min_7cf53 l ω (999 : Int32) ((h k0 3) + (h k1 3)) h) (by decide) rfl rfl (Nat.le_of_ble_eq_true rfl) dX0_takeIn_13 (fun r1 h2 => ?_)
  refine J_putI (pc := 16) K gf_SaltClouds_Cloud_21 hk0 (by decide) rfl dX0_takeIn_16 (fun h3 => ?_)
  refine J_iconst (pc := 19) K (0) dX0_takeIn_19 (by decide) ?_
  refine J_istore_n (pc := 20) K dX0_takeIn_20 2 rfl (by decide) [(2, .int (0 : Int32)), (0, .ref (ω.1 + k0)), (1, .ref (ω.1 + k1))] rfl ?_
  refine J_lv [1, 2, 0] [(0, .ref (ω.1 + k0)), (1, .ref (ω.1 + k1)), (2, .int (0 : Int32))] rfl ?_
  refine okL_X0_takeIn_21 K  (by decide) N hk0 hk1 (fun h8 => ?_) _ _ _
  refine J_aload_n (pc := 63) K dX0_takeIn_63 1 rfl 0 rfl ?_
  refine J_iconst (pc := 64) K (0) dX0_takeIn_64 (by decide) ?_
  refine J_putI (pc := 65) K gf_SaltClouds_Cloud_21 hk1 (by decide) rfl dX0_takeIn_65 (fun h9 => ?_)
  refine J_aload_n (pc := 68) K dX0_takeIn_68 1 rfl 0 rfl ?_
  refine J_iconst (pc := 69) K (0) dX0_takeIn_69 (by decide) ?_
  refine J_putZc (pc := 70) K (Or.inl rfl) gf_SaltClouds_Cloud_24 hk1 (by decide) rfl dX0_takeIn_70 (fun h10 => ?_)
  exact J_vret (pc := 73) K dX0_takeIn_73
def F_X6_join (N : Nat) (k0 : Nat) (x1 : Int32) (x2 : Int32) (h : Mem) : Option (Int32 × Mem) :=
  (bnd (F_X6_areTwo k0 x1 x2 h) (fun r1 h2 =>
  (if r1 = 0 then
    (bnd (F_X6_refuse k0 (-1000000001 : Int32) h2) (fun r3 h4 =>
    (some (r3, h4))))
  else
    (bnd (F_X2_areTogether (k0 + 1) x1 x2 h2) (fun r5 h6 =>
    (if r5 = 0 then
      (bnd (F_X6_refuse k0 (-1000000003 : Int32) h6) (fun r7 h8 =>
      (some (r7, h8))))
    else
      (gin x1 8
      (gin x2 8
      (bnd (F_X0_takeIn N (((k0 + 1) + 1) + 11 + 2 * ix x1) (((k0 + 1) + 1) + 11 + 2 * ix x2) h6) (fun _ h12 =>
      (gin x1 8
      (some (h12 (((k0 + 1) + 1) + 11 + 2 * ix x1) 3, h12)))))))))))))
set_option maxRecDepth 10000 in
set_option maxHeartbeats 1000000 in
theorem ok_X6_join (l : Launch) (ω : WX) (N : Nat) {k0 : Nat} (hk0 : lay k0 = 6) (x1 : Int32) (x2 : Int32) (h : Mem) : MC rvI l ω yX6_join cX6_join 3 (some .int) 3 [.ref (ω.1 + k0), .int x1, .int x2] h (F_X6_join N k0 x1 x2 h) := by
  refine MC.of (by decide +kernel) [(0, .ref (ω.1 + k0)), (1, .int x1), (2, .int x2)] rfl (Nat.le_of_ble_eq_true rfl) (fun χ K => ?_)
  have K : Kok ω χ "SaltClouds" cX6_join 3 (some .int) 3 := K
  unfold F_X6_join
  refine J_aload_n (pc := 0) K dX6_join_0 0 rfl 0 rfl ?_
  refine J_iload_n (pc := 1) K dX6_join_1 1 rfl 1 rfl ?_
  refine J_iload_n (pc := 2) K dX6_join_2 2 rfl 2 rfl ?_
  refine J_callVI (As := [.int x1, .int x2]) (rest := []) (pc := 3) K cs_SaltClouds_117 (ok_X6_areTwo l ω hk0 x1 x2 h) hk0 (by decide) rfl rfl (Nat.le_of_ble_eq_true rfl) dX6_join_3 (fun r1 h2 => ?_)
  refine J_if_ne (pc := 6) K 16 dX6_join_6 (by decide) ?_ ?_
  · refine J_aload_n (pc := 9) K dX6_join_9 0 rfl 0 rfl ?_
    refine J_ldc (pc := 10) K kc_SaltClouds_59 dX6_join_10 ?_
    refine J_callVI (As := [.int (-1000000001 : Int32)]) (rest := []) (pc := 12) K cs_SaltClouds_60 (ok_X6_refuse l ω hk0 (-1000000001 : Int32) h2) hk0 (by decide) rfl rfl (Nat.le_of_ble_eq_true rfl) dX6_join_12 (fun r3 h4 => ?_)
    exact J_iret (pc := 15) K dX6_join_15
  · refine J_aload_n (pc := 16) K dX6_join_16 0 rfl 0 rfl ?_
    refine J_getR (pc := 17) K gf_SaltClouds_12 hk0 1 rfl dX6_join_17 ?_
    refine J_iload_n (pc := 20) K dX6_join_20 1 rfl 1 rfl ?_
    refine J_iload_n (pc := 21) K dX6_join_21 2 rfl 2 rfl ?_
    refine J_callVI (As := [.int x1, .int x2]) (rest := []) (pc := 22) K cs_SaltClouds_120 (ok_X2_areTogether l ω (ty_6_1 hk0) x1 x2 h2) (ty_6_1 hk0) (by decide) rfl rfl (Nat.le_of_ble_eq_true rfl) dX6_join_22 (fun r5 h6 => ?_)
    refine J_if_ne (pc := 25) K 35 dX6_join_25 (by decide) ?_ ?_
    · refine J_aload_n (pc := 28) K dX6_join_28 0 rfl 0 rfl ?_
      refine J_ldc (pc := 29) K kc_SaltClouds_107 dX6_join_29 ?_
      refine J_callVI (As := [.int (-1000000003 : Int32)]) (rest := []) (pc := 31) K cs_SaltClouds_60 (ok_X6_refuse l ω hk0 (-1000000003 : Int32) h6) hk0 (by decide) rfl rfl (Nat.le_of_ble_eq_true rfl) dX6_join_31 (fun r7 h8 => ?_)
      exact J_iret (pc := 34) K dX6_join_34
    · refine J_aload_n (pc := 35) K dX6_join_35 0 rfl 0 rfl ?_
      refine J_getR (pc := 36) K gf_SaltClouds_12 hk0 1 rfl dX6_join_36 ?_
      refine J_getR (pc := 39) K gf_SaltClouds_79 (ty_6_1 hk0) 1 rfl dX6_join_39 ?_
      refine J_iload_n (pc := 42) K dX6_join_42 1 rfl 1 rfl ?_
      refine J_aldC (pc := 43) K (a := (k0 + 1) + 1) (ty_2_1 (ty_6_1 hk0)) dX6_join_43 (fun b9 => ?_)
      refine J_aload_n (pc := 44) K dX6_join_44 0 rfl 0 rfl ?_
      refine J_getR (pc := 45) K gf_SaltClouds_12 hk0 1 rfl dX6_join_45 ?_
      refine J_getR (pc := 48) K gf_SaltClouds_79 (ty_6_1 hk0) 1 rfl dX6_join_48 ?_
      refine J_iload_n (pc := 51) K dX6_join_51 2 rfl 2 rfl ?_
      refine J_aldC (pc := 52) K (a := (k0 + 1) + 1) (ty_2_1 (ty_6_1 hk0)) dX6_join_52 (fun b10 => ?_)
      refine J_callVU (As := [.ref (ω.1 + (((k0 + 1) + 1) + 11 + 2 * ix x2))]) (rest := []) (pc := 53) K cs_SaltClouds_123 (ok_X0_takeIn l ω N (ty_8e (ty_2_1 (ty_6_1 hk0)) b9) (ty_8e (ty_2_1 (ty_6_1 hk0)) b10) h6) (ty_8e (ty_2_1 (ty_6_1 hk0)) b9) (by decide) rfl rfl (Nat.le_of_ble_eq_true rfl) dX6_join_53 (fun _ h12 => ?_)
      refine J_aload_n (pc := 56) K dX6_join_56 0 rfl 0 rfl ?_
      refine J_getR (pc := 57) K gf_SaltClouds_12 hk0 1 rfl dX6_join_57 ?_
      refine J_getR (pc := 60) K gf_SaltClouds_79 (ty_6_1 hk0) 1 rfl dX6_join_60 ?_
      refine J_iload_n (pc := 63) K dX6_join_63 1 rfl 1 rfl ?_
      refine J_aldC (pc := 64) K (a := (k0 + 1) + 1) (ty_2_1 (ty_6_1 hk0)) dX6_join_64 (fun b13 => ?_)
      refine J_getI (pc := 65) K gf_SaltClouds_127 (ty_8e (ty_2_1 (ty_6_1 hk0)) b13) rfl dX6_join_65 ?_
      exact J_iret (pc := 68) K dX6_join_68
def F_X0_halveInto_38 (N : Nat) (k0 : Nat) (k1 : Nat) (kt : Mem → Option (Unit × Mem)) : Nat → Int32 → Mem → Option (Unit × Mem)
  | 0, _, _ => none
  | n + 1, u2, h =>
    (if (3 : Int32) ≤ u2 then
      (kt h)
    else
      (gin u2 3
      (gnz (2 : Int32)
      (gin u2 3 (seqh (upm h (k1 + 1) (ix u2) ((h (k0 + 1) (ix u2)) / (2 : Int32))) (fun h5 =>
      (gin u2 3
      (gin u2 3
      (gin u2 3 (seqh (upm h5 (k0 + 1) (ix u2) ((h5 (k0 + 1) (ix u2)) - (h5 (k1 + 1) (ix u2)))) (fun h6 =>
      (F_X0_halveInto_38 N k0 k1 kt n (u2 + 1) h6))))))))))))
set_option maxRecDepth 10000 in
set_option maxHeartbeats 1000000 in
theorem okL_X0_halveInto_38 {l : Launch} {ω : WX} {χ : KT} {d : Nat} (K : Kok ω χ "SaltClouds$Cloud" cX0_halveInto 3 none d) (hd : 0 ≤ d) (N : Nat) {k0 : Nat} (hk0 : lay k0 = 0) {k1 : Nat} (hk1 : lay k1 = 0) {kt : Mem → Option (Unit × Mem)} (hK : ∀ (h : Mem), J (ZM rvV ω χ) l ω χ 78 3 [] [] h (kt h)) : ∀ (n : Nat) (u2 : Int32) (h : Mem), J (ZM rvV ω χ) l ω χ 38 3 [(0, .ref (ω.1 + k0)), (1, .ref (ω.1 + k1)), (2, .int u2)] [] h (F_X0_halveInto_38 N k0 k1 kt n u2 h) := by
  intro n
  induction n with
  | zero =>
    intro u2 h
    exact J_none rfl
  | succ n ih =>
    intro u2 h
    rw [F_X0_halveInto_38]
    refine J_iload_n (pc := 38) K dX0_halveInto_38 2 rfl 2 rfl ?_
    refine J_iconst (pc := 39) K (3) dX0_halveInto_39 (by decide) ?_
    refine J_icmp_ge (pc := 40) K 78 dX0_halveInto_40 (by decide) ?_ ?_
    · refine J_lv [] [] rfl ?_
      exact hK h
    · refine J_aload_n (pc := 43) K dX0_halveInto_43 1 rfl 1 rfl ?_
      refine J_getR (pc := 44) K gf_SaltClouds_Cloud_28 hk1 1 rfl dX0_halveInto_44 ?_
      refine J_iload_n (pc := 47) K dX0_halveInto_47 2 rfl 2 rfl ?_
      refine J_aload_n (pc := 48) K dX0_halveInto_48 0 rfl 0 rfl ?_
      refine J_getR (pc := 49) K gf_SaltClouds_Cloud_28 hk0 1 rfl dX0_halveInto_49 ?_
      refine J_iload_n (pc := 52) K dX0_halveInto_52 2 rfl 2 rfl ?_
      refine J_iald (pc := 53) K (a := k0 + 1) (n := 3) (ty_0_1 hk0) dX0_halveInto_53 ?_
      refine J_iconst (pc := 54) K (2) dX0_halveInto_54 (by decide) ?_
      refine J_idiv (pc := 55) K dX0_halveInto_55 ?_
      refine J_iast (pc := 56) K (a := k1 + 1) (n := 3) (ty_0_1 hk1) dX0_halveInto_56 (fun h5 => ?_)
      refine J_aload_n (pc := 57) K dX0_halveInto_57 0 rfl 0 rfl ?_
      refine J_getR (pc := 58) K gf_SaltClouds_Cloud_28 hk0 1 rfl dX0_halveInto_58 ?_
      refine J_iload_n (pc := 61) K dX0_halveInto_61 2 rfl 2 rfl ?_
      refine J_dup2 (pc := 62) K dX0_halveInto_62 rfl rfl ?_
      refine J_iald (pc := 63) K (a := k0 + 1) (n := 3) (ty_0_1 hk0) dX0_halveInto_63 ?_
      refine J_aload_n (pc := 64) K dX0_halveInto_64 1 rfl 1 rfl ?_
      refine J_getR (pc := 65) K gf_SaltClouds_Cloud_28 hk1 1 rfl dX0_halveInto_65 ?_
      refine J_iload_n (pc := 68) K dX0_halveInto_68 2 rfl 2 rfl ?_
      refine J_iald (pc := 69) K (a := k1 + 1) (n := 3) (ty_0_1 hk1) dX0_halveInto_69 ?_
      refine J_isub (pc := 70) K dX0_halveInto_70 ?_
      refine J_iast (pc := 71) K (a := k0 + 1) (n := 3) (ty_0_1 hk0) dX0_halveInto_71 (fun h6 => ?_)
      refine J_iinc (pc := 72) K (1) dX0_halveInto_72 2 rfl (by decide) (by decide) [(2, .int (u2 + 1)), (0, .ref (ω.1 + k0)), (1, .ref (ω.1 + k1))] rfl ?_
      refine J_goto (pc := 75) K 38 dX0_halveInto_75 (by decide) ?_
      refine J_lv [1, 2, 0] [(0, .ref (ω.1 + k0)), (1, .ref (ω.1 + k1)), (2, .int (u2 + 1))] rfl ?_
      exact ih (u2 + 1) h6
def F_X0_halveInto (N : Nat) (k0 : Nat) (k1 : Nat) (h : Mem) : Option (Unit × Mem) :=
  (seqh (upm h k1 4 (1 : Int32)) (fun h1 =>
  (seqh (upm h1 k1 2 (h1 k0 2)) (fun h2 =>
  (gnz (2 : Int32)
  (seqh (upm h2 k1 3 ((h2 k0 3) / (2 : Int32))) (fun h3 =>
  (seqh (upm h3 k0 3 ((h3 k0 3) - (h3 k1 3))) (fun h4 =>
  (F_X0_halveInto_38 N k0 k1 (fun (h7 : Mem) =>
    (some ((), h7))) N (0 : Int32) h4))))))))))
set_option maxRecDepth 10000 in
set_option maxHeartbeats 1000000 in
theorem ok_X0_halveInto (l : Launch) (ω : WX) (N : Nat) {k0 : Nat} (hk0 : lay k0 = 0) {k1 : Nat} (hk1 : lay k1 = 0) (h : Mem) : MC rvV l ω yX0_halveInto cX0_halveInto 3 none 0 [.ref (ω.1 + k0), .ref (ω.1 + k1)] h (F_X0_halveInto N k0 k1 h) := by
  refine MC.of (by decide +kernel) [(0, .ref (ω.1 + k0)), (1, .ref (ω.1 + k1))] rfl (Nat.le_of_ble_eq_true rfl) (fun χ K => ?_)
  have K : Kok ω χ "SaltClouds$Cloud" cX0_halveInto 3 none 0 := K
  unfold F_X0_halveInto
  refine J_aload_n (pc := 0) K dX0_halveInto_0 1 rfl 1 rfl ?_
  refine J_iconst (pc := 1) K (1) dX0_halveInto_1 (by decide) ?_
  refine J_putZc (pc := 2) K (Or.inr rfl) gf_SaltClouds_Cloud_24 hk1 (by decide) rfl dX0_halveInto_2 (fun h1 => ?_)
  refine J_aload_n (pc := 5) K dX0_halveInto_5 1 rfl 1 rfl ?_
  refine J_aload_n (pc := 6) K dX0_halveInto_6 0 rfl 0 rfl ?_
  refine J_getI (pc := 7) K gf_SaltClouds_Cloud_18 hk0 rfl dX0_halveInto_7 ?_
  refine J_putI (pc := 10) K gf_SaltClouds_Cloud_18 hk1 (by decide) rfl dX0_halveInto_10 (fun h2 => ?_)
  refine J_aload_n (pc := 13) K dX0_halveInto_13 1 rfl 1 rfl ?_
  refine J_aload_n (pc := 14) K dX0_halveInto_14 0 rfl 0 rfl ?_
  refine J_getI (pc := 15) K gf_SaltClouds_Cloud_21 hk0 rfl dX0_halveInto_15 ?_
  refine J_iconst (pc := 18) K (2) dX0_halveInto_18 (by decide) ?_
  refine J_idiv (pc := 19) K dX0_halveInto_19 ?_
  refine J_putI (pc := 20) K gf_SaltClouds_Cloud_21 hk1 (by decide) rfl dX0_halveInto_20 (fun h3 => ?_)
  refine J_aload_n (pc := 23) K dX0_halveInto_23 0 rfl 0 rfl ?_
  refine J_dup (pc := 24) K dX0_halveInto_24 rfl ?_
  refine J_getI (pc := 25) K gf_SaltClouds_Cloud_21 hk0 rfl dX0_halveInto_25 ?_
  refine J_aload_n (pc := 28) K dX0_halveInto_28 1 rfl 1 rfl ?_
  refine J_getI (pc := 29) K gf_SaltClouds_Cloud_21 hk1 rfl dX0_halveInto_29 ?_
  refine J_isub (pc := 32) K dX0_halveInto_32 ?_
  refine J_putI (pc := 33) K gf_SaltClouds_Cloud_21 hk0 (by decide) rfl dX0_halveInto_33 (fun h4 => ?_)
  refine J_iconst (pc := 36) K (0) dX0_halveInto_36 (by decide) ?_
  refine J_istore_n (pc := 37) K dX0_halveInto_37 2 rfl (by decide) [(2, .int (0 : Int32)), (0, .ref (ω.1 + k0)), (1, .ref (ω.1 + k1))] rfl ?_
  refine J_lv [1, 2, 0] [(0, .ref (ω.1 + k0)), (1, .ref (ω.1 + k1)), (2, .int (0 : Int32))] rfl ?_
  refine okL_X0_halveInto_38 K  (by decide) N hk0 hk1 (fun h7 => ?_) _ _ _
  exact J_vret (pc := 78) K dX0_halveInto_78
def F_X6_part (N : Nat) (k0 : Nat) (x1 : Int32) (x2 : Int32) (h : Mem) : Option (Int32 × Mem) :=
  (bnd (F_X6_areTwo k0 x1 x2 h) (fun r1 h2 =>
  (if r1 = 0 then
    (bnd (F_X6_refuse k0 (-1000000001 : Int32) h2) (fun r3 h4 =>
    (some (r3, h4))))
  else
    (gin x1 8
    (if (h2 (((k0 + 1) + 1) + 11 + 2 * ix x1) 4) = 0 then
      (bnd (F_X6_refuse k0 (-1000000003 : Int32) h2) (fun r6 h7 =>
      (some (r6, h7))))
    else
      (gin x2 8
      (if (h2 (((k0 + 1) + 1) + 11 + 2 * ix x2) 4) = 0 then
        (gin x1 8
        (gin x2 8
        (bnd (F_X0_halveInto N (((k0 + 1) + 1) + 11 + 2 * ix x1) (((k0 + 1) + 1) + 11 + 2 * ix x2) h2) (fun _ h12 =>
        (gin x2 8
        (some (h12 (((k0 + 1) + 1) + 11 + 2 * ix x2) 3, h12)))))))
      else
        (bnd (F_X6_refuse k0 (-1000000003 : Int32) h2) (fun r14 h15 =>
        (some (r14, h15)))))))))))
set_option maxRecDepth 10000 in
set_option maxHeartbeats 1000000 in
theorem ok_X6_part (l : Launch) (ω : WX) (N : Nat) {k0 : Nat} (hk0 : lay k0 = 6) (x1 : Int32) (x2 : Int32) (h : Mem) : MC rvI l ω yX6_part cX6_part 3 (some .int) 3 [.ref (ω.1 + k0), .int x1, .int x2] h (F_X6_part N k0 x1 x2 h) := by
  refine MC.of (by decide +kernel) [(0, .ref (ω.1 + k0)), (1, .int x1), (2, .int x2)] rfl (Nat.le_of_ble_eq_true rfl) (fun χ K => ?_)
  have K : Kok ω χ "SaltClouds" cX6_part 3 (some .int) 3 := K
  unfold F_X6_part
  refine J_aload_n (pc := 0) K dX6_part_0 0 rfl 0 rfl ?_
  refine J_iload_n (pc := 1) K dX6_part_1 1 rfl 1 rfl ?_
  refine J_iload_n (pc := 2) K dX6_part_2 2 rfl 2 rfl ?_
  refine J_callVI (As := [.int x1, .int x2]) (rest := []) (pc := 3) K cs_SaltClouds_117 (ok_X6_areTwo l ω hk0 x1 x2 h) hk0 (by decide) rfl rfl (Nat.le_of_ble_eq_true rfl) dX6_part_3 (fun r1 h2 => ?_)
  refine J_if_ne (pc := 6) K 16 dX6_part_6 (by decide) ?_ ?_
  · refine J_aload_n (pc := 9) K dX6_part_9 0 rfl 0 rfl ?_
    refine J_ldc (pc := 10) K kc_SaltClouds_59 dX6_part_10 ?_
    refine J_callVI (As := [.int (-1000000001 : Int32)]) (rest := []) (pc := 12) K cs_SaltClouds_60 (ok_X6_refuse l ω hk0 (-1000000001 : Int32) h2) hk0 (by decide) rfl rfl (Nat.le_of_ble_eq_true rfl) dX6_part_12 (fun r3 h4 => ?_)
    exact J_iret (pc := 15) K dX6_part_15
  · refine J_aload_n (pc := 16) K dX6_part_16 0 rfl 0 rfl ?_
    refine J_getR (pc := 17) K gf_SaltClouds_12 hk0 1 rfl dX6_part_17 ?_
    refine J_getR (pc := 20) K gf_SaltClouds_79 (ty_6_1 hk0) 1 rfl dX6_part_20 ?_
    refine J_iload_n (pc := 23) K dX6_part_23 1 rfl 1 rfl ?_
    refine J_aldC (pc := 24) K (a := (k0 + 1) + 1) (ty_2_1 (ty_6_1 hk0)) dX6_part_24 (fun b5 => ?_)
    refine J_getI (pc := 25) K gf_SaltClouds_103 (ty_8e (ty_2_1 (ty_6_1 hk0)) b5) rfl dX6_part_25 ?_
    refine J_if_eq (pc := 28) K 46 dX6_part_28 (by decide) ?_ ?_
    · refine J_aload_n (pc := 46) K dX6_part_46 0 rfl 0 rfl ?_
      refine J_ldc (pc := 47) K kc_SaltClouds_107 dX6_part_47 ?_
      refine J_callVI (As := [.int (-1000000003 : Int32)]) (rest := []) (pc := 49) K cs_SaltClouds_60 (ok_X6_refuse l ω hk0 (-1000000003 : Int32) h2) hk0 (by decide) rfl rfl (Nat.le_of_ble_eq_true rfl) dX6_part_49 (fun r6 h7 => ?_)
      exact J_iret (pc := 52) K dX6_part_52
    · refine J_aload_n (pc := 31) K dX6_part_31 0 rfl 0 rfl ?_
      refine J_getR (pc := 32) K gf_SaltClouds_12 hk0 1 rfl dX6_part_32 ?_
      refine J_getR (pc := 35) K gf_SaltClouds_79 (ty_6_1 hk0) 1 rfl dX6_part_35 ?_
      refine J_iload_n (pc := 38) K dX6_part_38 2 rfl 2 rfl ?_
      refine J_aldC (pc := 39) K (a := (k0 + 1) + 1) (ty_2_1 (ty_6_1 hk0)) dX6_part_39 (fun b8 => ?_)
      refine J_getI (pc := 40) K gf_SaltClouds_103 (ty_8e (ty_2_1 (ty_6_1 hk0)) b8) rfl dX6_part_40 ?_
      refine J_if_eq (pc := 43) K 53 dX6_part_43 (by decide) ?_ ?_
      · refine J_aload_n (pc := 53) K dX6_part_53 0 rfl 0 rfl ?_
        refine J_getR (pc := 54) K gf_SaltClouds_12 hk0 1 rfl dX6_part_54 ?_
        refine J_getR (pc := 57) K gf_SaltClouds_79 (ty_6_1 hk0) 1 rfl dX6_part_57 ?_
        refine J_iload_n (pc := 60) K dX6_part_60 1 rfl 1 rfl ?_
        refine J_aldC (pc := 61) K (a := (k0 + 1) + 1) (ty_2_1 (ty_6_1 hk0)) dX6_part_61 (fun b9 => ?_)
        refine J_aload_n (pc := 62) K dX6_part_62 0 rfl 0 rfl ?_
        refine J_getR (pc := 63) K gf_SaltClouds_12 hk0 1 rfl dX6_part_63 ?_
        refine J_getR (pc := 66) K gf_SaltClouds_79 (ty_6_1 hk0) 1 rfl dX6_part_66 ?_
        refine J_iload_n (pc := 69) K dX6_part_69 2 rfl 2 rfl ?_
        refine J_aldC (pc := 70) K (a := (k0 + 1) + 1) (ty_2_1 (ty_6_1 hk0)) dX6_part_70 (fun b10 => ?_)
        refine J_callVU (As := [.ref (ω.1 + (((k0 + 1) + 1) + 11 + 2 * ix x2))]) (rest := []) (pc := 71) K cs_SaltClouds_130 (ok_X0_halveInto l ω N (ty_8e (ty_2_1 (ty_6_1 hk0)) b9) (ty_8e (ty_2_1 (ty_6_1 hk0)) b10) h2) (ty_8e (ty_2_1 (ty_6_1 hk0)) b9) (by decide) rfl rfl (Nat.le_of_ble_eq_true rfl) dX6_part_71 (fun _ h12 => ?_)
        refine J_aload_n (pc := 74) K dX6_part_74 0 rfl 0 rfl ?_
        refine J_getR (pc := 75) K gf_SaltClouds_12 hk0 1 rfl dX6_part_75 ?_
        refine J_getR (pc := 78) K gf_SaltClouds_79 (ty_6_1 hk0) 1 rfl dX6_part_78 ?_
        refine J_iload_n (pc := 81) K dX6_part_81 2 rfl 2 rfl ?_
        refine J_aldC (pc := 82) K (a := (k0 + 1) + 1) (ty_2_1 (ty_6_1 hk0)) dX6_part_82 (fun b13 => ?_)
        refine J_getI (pc := 83) K gf_SaltClouds_127 (ty_8e (ty_2_1 (ty_6_1 hk0)) b13) rfl dX6_part_83 ?_
        exact J_iret (pc := 86) K dX6_part_86
      · refine J_aload_n (pc := 46) K dX6_part_46 0 rfl 0 rfl ?_
        refine J_ldc (pc := 47) K kc_SaltClouds_107 dX6_part_47 ?_
        refine J_callVI (As := [.int (-1000000003 : Int32)]) (rest := []) (pc := 49) K cs_SaltClouds_60 (ok_X6_refuse l ω hk0 (-1000000003 : Int32) h2) hk0 (by decide) rfl rfl (Nat.le_of_ble_eq_true rfl) dX6_part_49 (fun r14 h15 => ?_)
        exact J_iret (pc := 52) K dX6_part_52
def F_X6_feed_41 (N : Nat) (k0 : Nat) (w1 : Int64) (w3 : Int32) (kt : Mem → Option (Int32 × Mem)) : Nat → Int32 → Mem → Option (Int32 × Mem)
  | 0, _, _ => none
  | n + 1, u4, h =>
    (if w3 ≤ u4 then
      (kt h)
    else
      (gin ((h (k0 + 1) 8) + u4) 50 (seqh (upm h ((k0 + 1) + 4) (ix ((h (k0 + 1) 8) + u4)) (((lush w1 ((8 : Int32) * u4)).toInt32) &&& (255 : Int32))) (fun h5 =>
      (F_X6_feed_41 N k0 w1 w3 kt n (u4 + 1) h5)))))
set_option maxRecDepth 10000 in
set_option maxHeartbeats 1000000 in
theorem okL_X6_feed_41 {l : Launch} {ω : WX} {χ : KT} {d : Nat} (K : Kok ω χ "SaltClouds" cX6_feed 5 (some .int) d) (hd : 0 ≤ d) (N : Nat) {k0 : Nat} (hk0 : lay k0 = 6) {w1 : Int64} {w3 : Int32} {kt : Mem → Option (Int32 × Mem)} (hK : ∀ (h : Mem), J (ZM rvI ω χ) l ω χ 83 5 [(0, .ref (ω.1 + k0)), (3, .int w3)] [] h (kt h)) : ∀ (n : Nat) (u4 : Int32) (h : Mem), J (ZM rvI ω χ) l ω χ 41 5 [(0, .ref (ω.1 + k0)), (1, .long w1), (3, .int w3), (4, .int u4)] [] h (F_X6_feed_41 N k0 w1 w3 kt n u4 h) := by
  intro n
  induction n with
  | zero =>
    intro u4 h
    exact J_none rfl
  | succ n ih =>
    intro u4 h
    rw [F_X6_feed_41]
    refine J_iload (pc := 41) K dX6_feed_41 3 rfl ?_
    refine J_iload_n (pc := 43) K dX6_feed_43 3 rfl 2 rfl ?_
    refine J_icmp_ge (pc := 44) K 83 dX6_feed_44 (by decide) ?_ ?_
    · refine J_lv [0, 2] [(0, .ref (ω.1 + k0)), (3, .int w3)] rfl ?_
      exact hK h
    · refine J_aload_n (pc := 47) K dX6_feed_47 0 rfl 0 rfl ?_
      refine J_getR (pc := 48) K gf_SaltClouds_12 hk0 1 rfl dX6_feed_48 ?_
      refine J_getR (pc := 51) K gf_SaltClouds_136 (ty_6_1 hk0) 4 rfl dX6_feed_51 ?_
      refine J_aload_n (pc := 54) K dX6_feed_54 0 rfl 0 rfl ?_
      refine J_getR (pc := 55) K gf_SaltClouds_12 hk0 1 rfl dX6_feed_55 ?_
      refine J_getI (pc := 58) K gf_SaltClouds_133 (ty_6_1 hk0) rfl dX6_feed_58 ?_
      refine J_iload (pc := 61) K dX6_feed_61 3 rfl ?_
      refine J_iadd (pc := 63) K dX6_feed_63 ?_
      refine J_lload_n (pc := 64) K dX6_feed_64 1 rfl 1 rfl ?_
      refine J_bipush (pc := 65) K (8) dX6_feed_65 (by decide) ?_
      refine J_iload (pc := 67) K dX6_feed_67 3 rfl ?_
      refine J_imul (pc := 69) K dX6_feed_69 ?_
      refine J_lushr (pc := 70) K dX6_feed_70 ?_
      refine J_l2i (pc := 71) K dX6_feed_71 ?_
      refine J_sipush (pc := 72) K (255) dX6_feed_72 (by decide) ?_
      refine J_iand (pc := 75) K dX6_feed_75 ?_
      refine J_iast (pc := 76) K (a := (k0 + 1) + 4) (n := 50) (ty_2_4 (ty_6_1 hk0)) dX6_feed_76 (fun h5 => ?_)
      refine J_iinc (pc := 77) K (1) dX6_feed_77 3 rfl (by decide) (by decide) [(4, .int (u4 + 1)), (0, .ref (ω.1 + k0)), (1, .long w1), (3, .int w3)] rfl ?_
      refine J_goto (pc := 80) K 41 dX6_feed_80 (by decide) ?_
      refine J_lv [1, 2, 3, 0] [(0, .ref (ω.1 + k0)), (1, .long w1), (3, .int w3), (4, .int (u4 + 1))] rfl ?_
      exact ih (u4 + 1) h5
def F_X6_feed (N : Nat) (k0 : Nat) (x1 : Int64) (x3 : Int32) (h : Mem) : Option (Int32 × Mem) :=
  (bnd (F_X6_within x3 (1 : Int32) (8 : Int32) h) (fun r1 h2 =>
  (if r1 = 0 then
    (bnd (F_X6_refuse k0 (-1000000001 : Int32) h2) (fun r3 h4 =>
    (some (r3, h4))))
  else
    (if ((h2 (k0 + 1) 8) + x3) ≤ (50 : Int32) then
      (F_X6_feed_41 N k0 x1 x3 (fun (h6 : Mem) =>
        (seqh (upm h6 (k0 + 1) 8 ((h6 (k0 + 1) 8) + x3)) (fun h7 =>
        (some (h7 (k0 + 1) 8, h7))))) N (0 : Int32) h2)
    else
      (bnd (F_X6_refuse k0 (-1000000004 : Int32) h2) (fun r8 h9 =>
      (some (r8, h9))))))))
set_option maxRecDepth 10000 in
set_option maxHeartbeats 1000000 in
theorem ok_X6_feed (l : Launch) (ω : WX) (N : Nat) {k0 : Nat} (hk0 : lay k0 = 6) (x1 : Int64) (x3 : Int32) (h : Mem) : MC rvI l ω yX6_feed cX6_feed 5 (some .int) 2 [.ref (ω.1 + k0), .long x1, .int x3] h (F_X6_feed N k0 x1 x3 h) := by
  refine MC.of (by decide +kernel) [(0, .ref (ω.1 + k0)), (1, .long x1), (3, .int x3)] rfl (Nat.le_of_ble_eq_true rfl) (fun χ K => ?_)
  have K : Kok ω χ "SaltClouds" cX6_feed 5 (some .int) 2 := K
  unfold F_X6_feed
  refine J_iload_n (pc := 0) K dX6_feed_0 3 rfl 2 rfl ?_
  refine J_iconst (pc := 1) K (1) dX6_feed_1 (by decide) ?_
  refine J_bipush (pc := 2) K (8) dX6_feed_2 (by decide) ?_
  refine J_callTI (As := [.int x3, .int (1 : Int32), .int (8 : Int32)]) (rest := []) (pc := 4) K cs_SaltClouds_51 (ok_X6_within l ω x3 (1 : Int32) (8 : Int32) h) (by decide) rfl rfl (Nat.le_of_ble_eq_true rfl) dX6_feed_4 (fun r1 h2 => ?_)
  refine J_if_ne (pc := 7) K 17 dX6_feed_7 (by decide) ?_ ?_
  · refine J_aload_n (pc := 10) K dX6_feed_10 0 rfl 0 rfl ?_
    refine J_ldc (pc := 11) K kc_SaltClouds_59 dX6_feed_11 ?_
    refine J_callVI (As := [.int (-1000000001 : Int32)]) (rest := []) (pc := 13) K cs_SaltClouds_60 (ok_X6_refuse l ω hk0 (-1000000001 : Int32) h2) hk0 (by decide) rfl rfl (Nat.le_of_ble_eq_true rfl) dX6_feed_13 (fun r3 h4 => ?_)
    exact J_iret (pc := 16) K dX6_feed_16
  · refine J_aload_n (pc := 17) K dX6_feed_17 0 rfl 0 rfl ?_
    refine J_getR (pc := 18) K gf_SaltClouds_12 hk0 1 rfl dX6_feed_18 ?_
    refine J_getI (pc := 21) K gf_SaltClouds_133 (ty_6_1 hk0) rfl dX6_feed_21 ?_
    refine J_iload_n (pc := 24) K dX6_feed_24 3 rfl 2 rfl ?_
    refine J_iadd (pc := 25) K dX6_feed_25 ?_
    refine J_bipush (pc := 26) K (50) dX6_feed_26 (by decide) ?_
    refine J_icmp_le (pc := 28) K 38 dX6_feed_28 (by decide) ?_ ?_
    · refine J_iconst (pc := 38) K (0) dX6_feed_38 (by decide) ?_
      refine J_istore (pc := 39) K dX6_feed_39 (by decide) [(4, .int (0 : Int32)), (0, .ref (ω.1 + k0)), (1, .long x1), (3, .int x3)] rfl ?_
      refine J_lv [1, 2, 3, 0] [(0, .ref (ω.1 + k0)), (1, .long x1), (3, .int x3), (4, .int (0 : Int32))] rfl ?_
      refine okL_X6_feed_41 K  (by decide) N hk0 (fun h6 => ?_) _ _ _
      refine J_aload_n (pc := 83) K dX6_feed_83 0 rfl 0 rfl ?_
      refine J_getR (pc := 84) K gf_SaltClouds_12 hk0 1 rfl dX6_feed_84 ?_
      refine J_dup (pc := 87) K dX6_feed_87 rfl ?_
      refine J_getI (pc := 88) K gf_SaltClouds_133 (ty_6_1 hk0) rfl dX6_feed_88 ?_
      refine J_iload_n (pc := 91) K dX6_feed_91 3 rfl 1 rfl ?_
      refine J_iadd (pc := 92) K dX6_feed_92 ?_
      refine J_putI (pc := 93) K gf_SaltClouds_133 (ty_6_1 hk0) (by decide) rfl dX6_feed_93 (fun h7 => ?_)
      refine J_aload_n (pc := 96) K dX6_feed_96 0 rfl 0 rfl ?_
      refine J_getR (pc := 97) K gf_SaltClouds_12 hk0 1 rfl dX6_feed_97 ?_
      refine J_getI (pc := 100) K gf_SaltClouds_133 (ty_6_1 hk0) rfl dX6_feed_100 ?_
      exact J_iret (pc := 103) K dX6_feed_103
    · refine J_aload_n (pc := 31) K dX6_feed_31 0 rfl 0 rfl ?_
      refine J_ldc (pc := 32) K kc_SaltClouds_67 dX6_feed_32 ?_
      refine J_callVI (As := [.int (-1000000004 : Int32)]) (rest := []) (pc := 34) K cs_SaltClouds_60 (ok_X6_refuse l ω hk0 (-1000000004 : Int32) h2) hk0 (by decide) rfl rfl (Nat.le_of_ble_eq_true rfl) dX6_feed_34 (fun r8 h9 => ?_)
      exact J_iret (pc := 37) K dX6_feed_37
def F_X3_empty (k0 : Nat) (h : Mem) : Option (Unit × Mem) :=
  (seqh (upm h k0 0 (0 : Int32)) (fun h1 =>
  (seqh (upm h1 k0 2 (0 : Int32)) (fun h2 =>
  (some ((), h2))))))
set_option maxRecDepth 10000 in
set_option maxHeartbeats 1000000 in
theorem ok_X3_empty (l : Launch) (ω : WX) {k0 : Nat} (hk0 : lay k0 = 3) (h : Mem) : MC rvV l ω yX3_empty cX3_empty 1 none 0 [.ref (ω.1 + k0)] h (F_X3_empty k0 h) := by
  refine MC.of (by decide +kernel) [(0, .ref (ω.1 + k0))] rfl (Nat.le_of_ble_eq_true rfl) (fun χ K => ?_)
  have K : Kok ω χ "SaltClouds$Text" cX3_empty 1 none 0 := K
  unfold F_X3_empty
  refine J_aload_n (pc := 0) K dX3_empty_0 0 rfl 0 rfl ?_
  refine J_iconst (pc := 1) K (0) dX3_empty_1 (by decide) ?_
  refine J_putZc (pc := 2) K (Or.inl rfl) gf_SaltClouds_Text_9 hk0 (by decide) rfl dX3_empty_2 (fun h1 => ?_)
  refine J_aload_n (pc := 5) K dX3_empty_5 0 rfl 0 rfl ?_
  refine J_iconst (pc := 6) K (0) dX3_empty_6 (by decide) ?_
  refine J_putI (pc := 7) K gf_SaltClouds_Text_19 hk0 (by decide) rfl dX3_empty_7 (fun h2 => ?_)
  exact J_vret (pc := 10) K dX3_empty_10
def F_X4_goesOn (k0 : Nat) (h : Mem) : Option (Int32 × Mem) :=
  (if 0 ≤ (h k0 5) then
    (some ((0 : Int32), h))
  else
    (if (h k0 4) < 0 then
      (some ((0 : Int32), h))
    else
      (if (h k0 2) ≤ (h k0 4) then
        (some ((0 : Int32), h))
      else
        (gar (h k0 1) (fun a1 =>
        (if (nI (lay a1 - 1000)) ≤ (h k0 4) then
          (some ((0 : Int32), h))
        else
          (some ((1 : Int32), h))))))))
set_option maxRecDepth 10000 in
set_option maxHeartbeats 1000000 in
theorem ok_X4_goesOn (l : Launch) (ω : WX) {k0 : Nat} (hk0 : lay k0 = 4) (h : Mem) : MC rvI l ω yX4_goesOn cX4_goesOn 1 (some .boolean) 0 [.ref (ω.1 + k0)] h (F_X4_goesOn k0 h) := by
  refine MC.of (by decide +kernel) [(0, .ref (ω.1 + k0))] rfl (Nat.le_of_ble_eq_true rfl) (fun χ K => ?_)
  have K : Kok ω χ "SaltClouds$TextReader" cX4_goesOn 1 (some .boolean) 0 := K
  unfold F_X4_goesOn
  refine J_aload_n (pc := 0) K dX4_goesOn_0 0 rfl 0 rfl ?_
  refine J_getI (pc := 1) K gf_SaltClouds_TextReader_35 hk0 rfl dX4_goesOn_1 ?_
  refine J_if_ge (pc := 4) K 41 dX4_goesOn_4 (by decide) ?_ ?_
  · refine J_iconst (pc := 41) K (0) dX4_goesOn_41 (by decide) ?_
    exact J_nret (pc := 42) K rfl dX4_goesOn_42
  · refine J_aload_n (pc := 7) K dX4_goesOn_7 0 rfl 0 rfl ?_
    refine J_getI (pc := 8) K gf_SaltClouds_TextReader_32 hk0 rfl dX4_goesOn_8 ?_
    refine J_if_lt (pc := 11) K 41 dX4_goesOn_11 (by decide) ?_ ?_
    · refine J_iconst (pc := 41) K (0) dX4_goesOn_41 (by decide) ?_
      exact J_nret (pc := 42) K rfl dX4_goesOn_42
    · refine J_aload_n (pc := 14) K dX4_goesOn_14 0 rfl 0 rfl ?_
      refine J_getI (pc := 15) K gf_SaltClouds_TextReader_32 hk0 rfl dX4_goesOn_15 ?_
      refine J_aload_n (pc := 18) K dX4_goesOn_18 0 rfl 0 rfl ?_
      refine J_getI (pc := 19) K gf_SaltClouds_TextReader_22 hk0 rfl dX4_goesOn_19 ?_
      refine J_icmp_ge (pc := 22) K 41 dX4_goesOn_22 (by decide) ?_ ?_
      · refine J_iconst (pc := 41) K (0) dX4_goesOn_41 (by decide) ?_
        exact J_nret (pc := 42) K rfl dX4_goesOn_42
      · refine J_aload_n (pc := 25) K dX4_goesOn_25 0 rfl 0 rfl ?_
        refine J_getI (pc := 26) K gf_SaltClouds_TextReader_32 hk0 rfl dX4_goesOn_26 ?_
        refine J_aload_n (pc := 29) K dX4_goesOn_29 0 rfl 0 rfl ?_
        refine J_getA (pc := 30) K gf_SaltClouds_TextReader_18 hk0 rfl dX4_goesOn_30 (fun a1 ha1 => ?_)
        refine J_alen (pc := 33) K (a := a1) (n := (lay a1 - 1000)) ha1 dX4_goesOn_33 ?_
        refine J_icmp_ge (pc := 34) K 41 dX4_goesOn_34 (by decide) ?_ ?_
        · refine J_iconst (pc := 41) K (0) dX4_goesOn_41 (by decide) ?_
          exact J_nret (pc := 42) K rfl dX4_goesOn_42
        · refine J_iconst (pc := 37) K (1) dX4_goesOn_37 (by decide) ?_
          refine J_goto (pc := 38) K 42 dX4_goesOn_38 (by decide) ?_
          exact J_nret (pc := 42) K rfl dX4_goesOn_42
def F_J0_isLatin1_aae02 (k0 : Nat) (h : Mem) : Option (Int32 × Mem) :=
  (if (1 : Int32) = 0 then
    (some ((0 : Int32), h))
  else
    (if (0 : Int32) = 0 then
      (some ((1 : Int32), h))
    else
      (some ((0 : Int32), h))))
set_option maxRecDepth 10000 in
set_option maxHeartbeats 1000000 in
theorem ok_J0_isLatin1_aae02 (l : Launch) (ω : WX) {k0 : Nat} (hk0 : k0 < 10) (h : Mem) : MC rvI l ω yJ0_isLatin1_aae02 cJ0_isLatin1_aae02 1 (some .boolean) 0 [.ref (ω.2.2.2.1 k0)] h (F_J0_isLatin1_aae02 k0 h) := by
  refine MC.of (by decide +kernel) [(0, .ref (ω.2.2.2.1 k0))] rfl (Nat.le_of_ble_eq_true rfl) (fun χ K => ?_)
  have K : Kok ω χ "java/lang/String" cJ0_isLatin1_aae02 1 (some .boolean) 0 := K
  unfold F_J0_isLatin1_aae02
  refine J_gets (pc := 0) K fw_java_lang_String_38 dJ0_isLatin1_aae02_0 ?_
  refine J_if_eq (pc := 3) K 17 dJ0_isLatin1_aae02_3 (by decide) ?_ ?_
  · refine J_iconst (pc := 17) K (0) dJ0_isLatin1_aae02_17 (by decide) ?_
    exact J_nret (pc := 18) K rfl dJ0_isLatin1_aae02_18
  · refine J_aload_n (pc := 6) K dJ0_isLatin1_aae02_6 0 rfl 0 rfl ?_
    refine J_scod (pc := 7) K hk0 fw_java_lang_String_15 dJ0_isLatin1_aae02_7 ?_
    refine J_if_ne (pc := 10) K 17 dJ0_isLatin1_aae02_10 (by decide) ?_ ?_
    · refine J_iconst (pc := 13) K (1) dJ0_isLatin1_aae02_13 (by decide) ?_
      refine J_goto (pc := 14) K 18 dJ0_isLatin1_aae02_14 (by decide) ?_
      exact J_nret (pc := 18) K rfl dJ0_isLatin1_aae02_18
    · refine J_iconst (pc := 17) K (0) dJ0_isLatin1_aae02_17 (by decide) ?_
      exact J_nret (pc := 18) K rfl dJ0_isLatin1_aae02_18
def F_J0_coder_7d493 (k0 : Nat) (h : Mem) : Option (Int32 × Mem) :=
  (if (1 : Int32) = 0 then
    (some ((1 : Int32), h))
  else
    (some ((0 : Int32), h)))
set_option maxRecDepth 10000 in
set_option maxHeartbeats 1000000 in
theorem ok_J0_coder_7d493 (l : Launch) (ω : WX) {k0 : Nat} (hk0 : k0 < 10) (h : Mem) : MC rvI l ω yJ0_coder_7d493 cJ0_coder_7d493 1 (some .byte) 0 [.ref (ω.2.2.2.1 k0)] h (F_J0_coder_7d493 k0 h) := by
  refine MC.of (by decide +kernel) [(0, .ref (ω.2.2.2.1 k0))] rfl (Nat.le_of_ble_eq_true rfl) (fun χ K => ?_)
  have K : Kok ω χ "java/lang/String" cJ0_coder_7d493 1 (some .byte) 0 := K
  unfold F_J0_coder_7d493
  refine J_gets (pc := 0) K fw_java_lang_String_38 dJ0_coder_7d493_0 ?_
  refine J_if_eq (pc := 3) K 13 dJ0_coder_7d493_3 (by decide) ?_ ?_
  · refine J_iconst (pc := 13) K (1) dJ0_coder_7d493_13 (by decide) ?_
    exact J_nret (pc := 14) K rfl dJ0_coder_7d493_14
  · refine J_aload_n (pc := 6) K dJ0_coder_7d493_6 0 rfl 0 rfl ?_
    refine J_scod (pc := 7) K hk0 fw_java_lang_String_15 dJ0_coder_7d493_7 ?_
    refine J_goto (pc := 10) K 14 dJ0_coder_7d493_10 (by decide) ?_
    exact J_nret (pc := 14) K rfl dJ0_coder_7d493_14
def F_J0_length_8abf5 (k0 : Nat) (h : Mem) : Option (Int32 × Mem) :=
  (bnd (F_J0_coder_7d493 k0 h) (fun r1 h2 =>
  (some ((nI (lenS.getD k0 0)) >>> (r1 &&& 31), h2))))
set_option maxRecDepth 10000 in
set_option maxHeartbeats 1000000 in
theorem ok_J0_length_8abf5 (l : Launch) (ω : WX) {k0 : Nat} (hk0 : k0 < 10) (h : Mem) : MC rvI l ω yJ0_length_8abf5 cJ0_length_8abf5 1 (some .int) 1 [.ref (ω.2.2.2.1 k0)] h (F_J0_length_8abf5 k0 h) := by
  refine MC.of (by decide +kernel) [(0, .ref (ω.2.2.2.1 k0))] rfl (Nat.le_of_ble_eq_true rfl) (fun χ K => ?_)
  have K : Kok ω χ "java/lang/String" cJ0_length_8abf5 1 (some .int) 1 := K
  unfold F_J0_length_8abf5
  refine J_aload_n (pc := 0) K dJ0_length_8abf5_0 0 rfl 0 rfl ?_
  refine J_sval (pc := 1) K hk0 fw_java_lang_String_9 dJ0_length_8abf5_1 ?_
  refine J_slen (pc := 4) K hk0 dJ0_length_8abf5_4 ?_
  refine J_aload_n (pc := 5) K dJ0_length_8abf5_5 0 rfl 0 rfl ?_
  refine J_callVsI (As := []) (rest := [.int (nI (lenS.getD k0 0))]) (pc := 6) K cs_java_lang_String_335 (ok_J0_coder_7d493 l ω (k0 := k0) hk0 h) hk0 (by decide) rfl rfl (Nat.le_of_ble_eq_true rfl) dJ0_length_8abf5_6 (fun r1 h2 => ?_)
  refine J_ishr (pc := 9) K dJ0_length_8abf5_9 ?_
  exact J_iret (pc := 10) K dJ0_length_8abf5_10
def F_J1_canEncode_9a6ad (x0 : Int32) (h : Mem) : Option (Int32 × Mem) :=
  (if x0 < 0 then
    (some ((0 : Int32), h))
  else
    (if (255 : Int32) < x0 then
      (some ((0 : Int32), h))
    else
      (some ((1 : Int32), h))))
set_option maxRecDepth 10000 in
set_option maxHeartbeats 1000000 in
theorem ok_J1_canEncode_9a6ad (l : Launch) (ω : WX) (x0 : Int32) (h : Mem) : MC rvI l ω yJ1_canEncode_9a6ad cJ1_canEncode_9a6ad 1 (some .boolean) 0 [.int x0] h (F_J1_canEncode_9a6ad x0 h) := by
  refine MC.of (by decide +kernel) [(0, .int x0)] rfl (Nat.le_of_ble_eq_true rfl) (fun χ K => ?_)
  have K : Kok ω χ "java/lang/StringLatin1" cJ1_canEncode_9a6ad 1 (some .boolean) 0 := K
  unfold F_J1_canEncode_9a6ad
  refine J_iload_n (pc := 0) K dJ1_canEncode_9a6ad_0 0 rfl 0 rfl ?_
  refine J_if_lt (pc := 1) K 15 dJ1_canEncode_9a6ad_1 (by decide) ?_ ?_
  · refine J_iconst (pc := 15) K (0) dJ1_canEncode_9a6ad_15 (by decide) ?_
    exact J_nret (pc := 16) K rfl dJ1_canEncode_9a6ad_16
  · refine J_iload_n (pc := 4) K dJ1_canEncode_9a6ad_4 0 rfl 0 rfl ?_
    refine J_sipush (pc := 5) K (255) dJ1_canEncode_9a6ad_5 (by decide) ?_
    refine J_icmp_gt (pc := 8) K 15 dJ1_canEncode_9a6ad_8 (by decide) ?_ ?_
    · refine J_iconst (pc := 15) K (0) dJ1_canEncode_9a6ad_15 (by decide) ?_
      exact J_nret (pc := 16) K rfl dJ1_canEncode_9a6ad_16
    · refine J_iconst (pc := 11) K (1) dJ1_canEncode_9a6ad_11 (by decide) ?_
      refine J_goto (pc := 12) K 16 dJ1_canEncode_9a6ad_12 (by decide) ?_
      exact J_nret (pc := 16) K rfl dJ1_canEncode_9a6ad_16
def F_J1_indexOfChar_4cfef_7 (N : Nat) (k0 : Nat) (w3 : Int32) (w4 : Int32) (kt : Mem → Option (Int32 × Mem)) : Nat → Int32 → Mem → Option (Int32 × Mem)
  | 0, _, _ => none
  | n + 1, u5, h =>
    (if w3 ≤ u5 then
      (kt h)
    else
      (gin u5 (lenS.getD k0 0)
      (if ((bytS.getD k0 []).getD (ix u5) 0) = w4 then
        (some (u5, h))
      else
        (F_J1_indexOfChar_4cfef_7 N k0 w3 w4 kt n (u5 + 1) h))))
set_option maxRecDepth 10000 in
set_option maxHeartbeats 1000000 in
theorem okL_J1_indexOfChar_4cfef_7 {l : Launch} {ω : WX} {χ : KT} {d : Nat} (K : Kok ω χ "java/lang/StringLatin1" cJ1_indexOfChar_4cfef 6 (some .int) d) (hd : 0 ≤ d) (N : Nat) {k0 : Nat} (hk0 : k0 < 10) {w3 : Int32} {w4 : Int32} {kt : Mem → Option (Int32 × Mem)} (hK : ∀ (h : Mem), J (ZM rvI ω χ) l ω χ 31 6 [] [] h (kt h)) : ∀ (n : Nat) (u5 : Int32) (h : Mem), J (ZM rvI ω χ) l ω χ 7 6 [(0, .ref (ω.2.2.2.2 k0)), (3, .int w3), (4, .int w4), (5, .int u5)] [] h (F_J1_indexOfChar_4cfef_7 N k0 w3 w4 kt n u5 h) := by
  intro n
  induction n with
  | zero =>
    intro u5 h
    exact J_none rfl
  | succ n ih =>
    intro u5 h
    rw [F_J1_indexOfChar_4cfef_7]
    refine J_iload (pc := 7) K dJ1_indexOfChar_4cfef_7 3 rfl ?_
    refine J_iload_n (pc := 9) K dJ1_indexOfChar_4cfef_9 3 rfl 1 rfl ?_
    refine J_icmp_ge (pc := 10) K 31 dJ1_indexOfChar_4cfef_10 (by decide) ?_ ?_
    · refine J_lv [] [] rfl ?_
      exact hK h
    · refine J_aload_n (pc := 13) K dJ1_indexOfChar_4cfef_13 0 rfl 0 rfl ?_
      refine J_iload (pc := 14) K dJ1_indexOfChar_4cfef_14 3 rfl ?_
      refine J_bald (pc := 16) K hk0 dJ1_indexOfChar_4cfef_16 ?_
      refine J_iload (pc := 17) K dJ1_indexOfChar_4cfef_17 2 rfl ?_
      refine J_icmp_ne (pc := 19) K 25 dJ1_indexOfChar_4cfef_19 (by decide) ?_ ?_
      · refine J_iload (pc := 22) K dJ1_indexOfChar_4cfef_22 3 rfl ?_
        exact J_iret (pc := 24) K dJ1_indexOfChar_4cfef_24
      · refine J_iinc (pc := 25) K (1) dJ1_indexOfChar_4cfef_25 3 rfl (by decide) (by decide) [(5, .int (u5 + 1)), (0, .ref (ω.2.2.2.2 k0)), (3, .int w3), (4, .int w4)] rfl ?_
        refine J_goto (pc := 28) K 7 dJ1_indexOfChar_4cfef_28 (by decide) ?_
        refine J_lv [1, 2, 3, 0] [(0, .ref (ω.2.2.2.2 k0)), (3, .int w3), (4, .int w4), (5, .int (u5 + 1))] rfl ?_
        exact ih (u5 + 1) h
def F_J1_indexOfChar_4cfef (N : Nat) (k0 : Nat) (x1 : Int32) (x2 : Int32) (x3 : Int32) (h : Mem) : Option (Int32 × Mem) :=
  (seqi (i2b x1) (fun v1 =>
  (F_J1_indexOfChar_4cfef_7 N k0 x3 v1 (fun (h2 : Mem) =>
    (some ((-1 : Int32), h2))) N x2 h)))
set_option maxRecDepth 10000 in
set_option maxHeartbeats 1000000 in
theorem ok_J1_indexOfChar_4cfef (l : Launch) (ω : WX) (N : Nat) {k0 : Nat} (hk0 : k0 < 10) (x1 : Int32) (x2 : Int32) (x3 : Int32) (h : Mem) : MC rvI l ω yJ1_indexOfChar_4cfef cJ1_indexOfChar_4cfef 6 (some .int) 0 [.ref (ω.2.2.2.2 k0), .int x1, .int x2, .int x3] h (F_J1_indexOfChar_4cfef N k0 x1 x2 x3 h) := by
  refine MC.of (by decide +kernel) [(0, .ref (ω.2.2.2.2 k0)), (1, .int x1), (2, .int x2), (3, .int x3)] rfl (Nat.le_of_ble_eq_true rfl) (fun χ K => ?_)
  have K : Kok ω χ "java/lang/StringLatin1" cJ1_indexOfChar_4cfef 6 (some .int) 0 := K
  unfold F_J1_indexOfChar_4cfef
  refine J_iload_n (pc := 0) K dJ1_indexOfChar_4cfef_0 1 rfl 1 rfl ?_
  refine J_i2b (pc := 1) K dJ1_indexOfChar_4cfef_1 ?_
  refine J_topi (fun v1 => ?_)
  refine J_istore (pc := 2) K dJ1_indexOfChar_4cfef_2 (by decide) [(4, .int v1), (0, .ref (ω.2.2.2.2 k0)), (1, .int x1), (2, .int x2), (3, .int x3)] rfl ?_
  refine J_iload_n (pc := 4) K dJ1_indexOfChar_4cfef_4 2 rfl 3 rfl ?_
  refine J_istore (pc := 5) K dJ1_indexOfChar_4cfef_5 (by decide) [(5, .int x2), (4, .int v1), (0, .ref (ω.2.2.2.2 k0)), (1, .int x1), (2, .int x2), (3, .int x3)] rfl ?_
  refine J_lv [2, 5, 1, 0] [(0, .ref (ω.2.2.2.2 k0)), (3, .int x3), (4, .int v1), (5, .int x2)] rfl ?_
  refine okL_J1_indexOfChar_4cfef_7 K  (by decide) N hk0 (fun h2 => ?_) _ _ _
  refine J_iconst (pc := 31) K (-1) dJ1_indexOfChar_4cfef_31 (by decide) ?_
  exact J_iret (pc := 32) K dJ1_indexOfChar_4cfef_32
def F_J1_indexOf_4cfef (N : Nat) (k0 : Nat) (x1 : Int32) (x2 : Int32) (x3 : Int32) (h : Mem) : Option (Int32 × Mem) :=
  (bnd (F_J1_canEncode_9a6ad x1 h) (fun r1 h2 =>
  (if r1 = 0 then
    (some ((-1 : Int32), h2))
  else
    (bnd (F_J9_max_7cf53 x2 (0 : Int32) h2) (fun r3 h4 =>
    (bnd (F_J9_min_7cf53 x3 (nI (lenS.getD k0 0)) h4) (fun r5 h6 =>
    (if r3 < r5 then
      (bnd (F_J1_indexOfChar_4cfef N k0 x1 r3 r5 h6) (fun r7 h8 =>
      (some (r7, h8))))
    else
      (some ((-1 : Int32), h6))))))))))
set_option maxRecDepth 10000 in
set_option maxHeartbeats 1000000 in
theorem ok_J1_indexOf_4cfef (l : Launch) (ω : WX) (N : Nat) {k0 : Nat} (hk0 : k0 < 10) (x1 : Int32) (x2 : Int32) (x3 : Int32) (h : Mem) : MC rvI l ω yJ1_indexOf_4cfef cJ1_indexOf_4cfef 4 (some .int) 1 [.ref (ω.2.2.2.2 k0), .int x1, .int x2, .int x3] h (F_J1_indexOf_4cfef N k0 x1 x2 x3 h) := by
  refine MC.of (by decide +kernel) [(0, .ref (ω.2.2.2.2 k0)), (1, .int x1), (2, .int x2), (3, .int x3)] rfl (Nat.le_of_ble_eq_true rfl) (fun χ K => ?_)
  have K : Kok ω χ "java/lang/StringLatin1" cJ1_indexOf_4cfef 4 (some .int) 1 := K
  unfold F_J1_indexOf_4cfef
  refine J_iload_n (pc := 0) K dJ1_indexOf_4cfef_0 1 rfl 1 rfl ?_
  refine J_callTI (As := [.int x1]) (rest := []) (pc := 1) K cs_java_lang_StringLatin1_88 (ok_J1_canEncode_9a6ad l ω x1 h) (by decide) rfl rfl (Nat.le_of_ble_eq_true rfl) dJ1_indexOf_4cfef_1 (fun r1 h2 => ?_)
  refine J_if_ne (pc := 4) K 9 dJ1_indexOf_4cfef_4 (by decide) ?_ ?_
  · refine J_iconst (pc := 7) K (-1) dJ1_indexOf_4cfef_7 (by decide) ?_
    exact J_iret (pc := 8) K dJ1_indexOf_4cfef_8
  · refine J_iload_n (pc := 9) K dJ1_indexOf_4cfef_9 2 rfl 2 rfl ?_
    refine J_iconst (pc := 10) K (0) dJ1_indexOf_4cfef_10 (by decide) ?_
    refine J_callTI (As := [.int x2, .int (0 : Int32)]) (rest := []) (pc := 11) K cs_java_lang_StringLatin1_92 (ok_J9_max_7cf53 l ω x2 (0 : Int32) h2) (by decide) rfl rfl (Nat.le_of_ble_eq_true rfl) dJ1_indexOf_4cfef_11 (fun r3 h4 => ?_)
    refine J_istore_n (pc := 14) K dJ1_indexOf_4cfef_14 2 rfl (by decide) [(2, .int r3), (0, .ref (ω.2.2.2.2 k0)), (1, .int x1), (3, .int x3)] rfl ?_
    refine J_iload_n (pc := 15) K dJ1_indexOf_4cfef_15 3 rfl 3 rfl ?_
    refine J_aload_n (pc := 16) K dJ1_indexOf_4cfef_16 0 rfl 1 rfl ?_
    refine J_slen (pc := 17) K hk0 dJ1_indexOf_4cfef_17 ?_
    refine J_callTI (As := [.int x3, .int (nI (lenS.getD k0 0))]) (rest := []) (pc := 18) K cs_java_lang_StringLatin1_38 (ok_J9_min_7cf53 l ω x3 (nI (lenS.getD k0 0)) h4) (by decide) rfl rfl (Nat.le_of_ble_eq_true rfl) dJ1_indexOf_4cfef_18 (fun r5 h6 => ?_)
    refine J_istore_n (pc := 21) K dJ1_indexOf_4cfef_21 3 rfl (by decide) [(3, .int r5), (2, .int r3), (0, .ref (ω.2.2.2.2 k0)), (1, .int x1)] rfl ?_
    refine J_iload_n (pc := 22) K dJ1_indexOf_4cfef_22 2 rfl 1 rfl ?_
    refine J_iload_n (pc := 23) K dJ1_indexOf_4cfef_23 3 rfl 0 rfl ?_
    refine J_icmp_lt (pc := 24) K 29 dJ1_indexOf_4cfef_24 (by decide) ?_ ?_
    · refine J_aload_n (pc := 29) K dJ1_indexOf_4cfef_29 0 rfl 2 rfl ?_
      refine J_iload_n (pc := 30) K dJ1_indexOf_4cfef_30 1 rfl 3 rfl ?_
      refine J_iload_n (pc := 31) K dJ1_indexOf_4cfef_31 2 rfl 1 rfl ?_
      refine J_iload_n (pc := 32) K dJ1_indexOf_4cfef_32 3 rfl 0 rfl ?_
      refine J_callTI (As := [.ref (ω.2.2.2.2 k0), .int x1, .int r3, .int r5]) (rest := []) (pc := 33) K cs_java_lang_StringLatin1_95 (ok_J1_indexOfChar_4cfef l ω N (k0 := k0) hk0 x1 r3 r5 h6) (by decide) rfl rfl (Nat.le_of_ble_eq_true rfl) dJ1_indexOf_4cfef_33 (fun r7 h8 => ?_)
      exact J_iret (pc := 36) K dJ1_indexOf_4cfef_36
    · refine J_iconst (pc := 27) K (-1) dJ1_indexOf_4cfef_27 (by decide) ?_
      exact J_iret (pc := 28) K dJ1_indexOf_4cfef_28
def F_J0_indexOf_7cf53 (N : Nat) (k0 : Nat) (x1 : Int32) (x2 : Int32) (h : Mem) : Option (Int32 × Mem) :=
  (bnd (F_J0_isLatin1_aae02 k0 h) (fun r1 h2 =>
  (if r1 = 0 then
    (bnd (F_J0_length_8abf5 k0 h2) (fun r3 h4 =>
    none))
  else
    (bnd (F_J0_length_8abf5 k0 h2) (fun r5 h6 =>
    (bnd (F_J1_indexOf_4cfef N k0 x1 x2 r5 h6) (fun r7 h8 =>
    (some (r7, h8)))))))))
set_option maxRecDepth 10000 in
set_option maxHeartbeats 1000000 in
theorem ok_J0_indexOf_7cf53 (l : Launch) (ω : WX) (N : Nat) {k0 : Nat} (hk0 : k0 < 10) (x1 : Int32) (x2 : Int32) (h : Mem) : MC rvI l ω yJ0_indexOf_7cf53 cJ0_indexOf_7cf53 3 (some .int) 2 [.ref (ω.2.2.2.1 k0), .int x1, .int x2] h (F_J0_indexOf_7cf53 N k0 x1 x2 h) := by
  refine MC.of (by decide +kernel) [(0, .ref (ω.2.2.2.1 k0)), (1, .int x1), (2, .int x2)] rfl (Nat.le_of_ble_eq_true rfl) (fun χ K => ?_)
  have K : Kok ω χ "java/lang/String" cJ0_indexOf_7cf53 3 (some .int) 2 := K
  unfold F_J0_indexOf_7cf53
  refine J_aload_n (pc := 0) K dJ0_indexOf_7cf53_0 0 rfl 0 rfl ?_
  refine J_callVsI (As := []) (rest := []) (pc := 1) K cs_java_lang_String_492 (ok_J0_isLatin1_aae02 l ω (k0 := k0) hk0 h) hk0 (by decide) rfl rfl (Nat.le_of_ble_eq_true rfl) dJ0_indexOf_7cf53_1 (fun r1 h2 => ?_)
  refine J_if_eq (pc := 4) K 23 dJ0_indexOf_7cf53_4 (by decide) ?_ ?_
  · refine J_aload_n (pc := 23) K dJ0_indexOf_7cf53_23 0 rfl 0 rfl ?_
    refine J_sval (pc := 24) K hk0 fw_java_lang_String_9 dJ0_indexOf_7cf53_24 ?_
    refine J_iload_n (pc := 27) K dJ0_indexOf_7cf53_27 1 rfl 1 rfl ?_
    refine J_iload_n (pc := 28) K dJ0_indexOf_7cf53_28 2 rfl 2 rfl ?_
    refine J_aload_n (pc := 29) K dJ0_indexOf_7cf53_29 0 rfl 0 rfl ?_
    refine J_callVsI (As := []) (rest := [.int x2, .int x1, .ref (ω.2.2.2.2 k0)]) (pc := 30) K cs_java_lang_String_505 (ok_J0_length_8abf5 l ω (k0 := k0) hk0 h2) hk0 (by decide) rfl rfl (Nat.le_of_ble_eq_true rfl) dJ0_indexOf_7cf53_30 (fun r3 h4 => ?_)
    exact J_none rfl
  · refine J_aload_n (pc := 7) K dJ0_indexOf_7cf53_7 0 rfl 0 rfl ?_
    refine J_sval (pc := 8) K hk0 fw_java_lang_String_9 dJ0_indexOf_7cf53_8 ?_
    refine J_iload_n (pc := 11) K dJ0_indexOf_7cf53_11 1 rfl 1 rfl ?_
    refine J_iload_n (pc := 12) K dJ0_indexOf_7cf53_12 2 rfl 2 rfl ?_
    refine J_aload_n (pc := 13) K dJ0_indexOf_7cf53_13 0 rfl 0 rfl ?_
    refine J_callVsI (As := []) (rest := [.int x2, .int x1, .ref (ω.2.2.2.2 k0)]) (pc := 14) K cs_java_lang_String_505 (ok_J0_length_8abf5 l ω (k0 := k0) hk0 h2) hk0 (by decide) rfl rfl (Nat.le_of_ble_eq_true rfl) dJ0_indexOf_7cf53_14 (fun r5 h6 => ?_)
    refine J_callTI (As := [.ref (ω.2.2.2.2 k0), .int x1, .int x2, .int r5]) (rest := []) (pc := 17) K cs_java_lang_String_637 (ok_J1_indexOf_4cfef l ω N (k0 := k0) hk0 x1 x2 r5 h6) (by decide) rfl rfl (Nat.le_of_ble_eq_true rfl) dJ0_indexOf_7cf53_17 (fun r7 h8 => ?_)
    refine J_goto (pc := 20) K 36 dJ0_indexOf_7cf53_20 (by decide) ?_
    exact J_iret (pc := 36) K dJ0_indexOf_7cf53_36
def F_J0_indexOf_0f7a4 (N : Nat) (k0 : Nat) (x1 : Int32) (h : Mem) : Option (Int32 × Mem) :=
  (bnd (F_J0_indexOf_7cf53 N k0 x1 (0 : Int32) h) (fun r1 h2 =>
  (some (r1, h2))))
set_option maxRecDepth 10000 in
set_option maxHeartbeats 1000000 in
theorem ok_J0_indexOf_0f7a4 (l : Launch) (ω : WX) (N : Nat) {k0 : Nat} (hk0 : k0 < 10) (x1 : Int32) (h : Mem) : MC rvI l ω yJ0_indexOf_0f7a4 cJ0_indexOf_0f7a4 2 (some .int) 3 [.ref (ω.2.2.2.1 k0), .int x1] h (F_J0_indexOf_0f7a4 N k0 x1 h) := by
  refine MC.of (by decide +kernel) [(0, .ref (ω.2.2.2.1 k0)), (1, .int x1)] rfl (Nat.le_of_ble_eq_true rfl) (fun χ K => ?_)
  have K : Kok ω χ "java/lang/String" cJ0_indexOf_0f7a4 2 (some .int) 3 := K
  unfold F_J0_indexOf_0f7a4
  refine J_aload_n (pc := 0) K dJ0_indexOf_0f7a4_0 0 rfl 0 rfl ?_
  refine J_iload_n (pc := 1) K dJ0_indexOf_0f7a4_1 1 rfl 1 rfl ?_
  refine J_iconst (pc := 2) K (0) dJ0_indexOf_0f7a4_2 (by decide) ?_
  refine J_callVsI (As := [.int x1, .int (0 : Int32)]) (rest := []) (pc := 3) K cs_java_lang_String_633 (ok_J0_indexOf_7cf53 l ω N (k0 := k0) hk0 x1 (0 : Int32) h) hk0 (by decide) rfl rfl (Nat.le_of_ble_eq_true rfl) dJ0_indexOf_0f7a4_3 (fun r1 h2 => ?_)
  exact J_iret (pc := 6) K dJ0_indexOf_0f7a4_6
def F_X4_takeOneOf (N : Nat) (k0 : Nat) (k1 : Nat) (h : Mem) : Option (Int32 × Mem) :=
  (bnd (F_X4_goesOn k0 h) (fun r1 h2 =>
  (if r1 = 0 then
    (some ((0 : Int32), h2))
  else
    (gar (h2 k0 1) (fun a3 =>
    (seqi (h2 k0 4) (fun v4 =>
    (gin v4 (lay a3 - 1000)
    (bnd (F_J0_indexOf_0f7a4 N k1 (i2c (h2 a3 (ix v4))) h2) (fun r5 h6 =>
    (if 0 ≤ r5 then
      (seqh (upm h6 k0 4 ((h6 k0 4) + (1 : Int32))) (fun h7 =>
      (gar (h7 k0 1) (fun a8 =>
      (seqi ((h7 k0 4) - (1 : Int32)) (fun v9 =>
      (gin v9 (lay a8 - 1000)
      (some (h7 a8 (ix v9), h7)))))))))
    else
      (some ((0 : Int32), h6)))))))))))))
set_option maxRecDepth 10000 in
set_option maxHeartbeats 1000000 in
theorem ok_X4_takeOneOf (l : Launch) (ω : WX) (N : Nat) {k0 : Nat} (hk0 : lay k0 = 4) {k1 : Nat} (hk1 : k1 < 10) (h : Mem) : MC rvI l ω yX4_takeOneOf cX4_takeOneOf 2 (some .int) 4 [.ref (ω.1 + k0), .ref (ω.2.2.2.1 k1)] h (F_X4_takeOneOf N k0 k1 h) := by
  refine MC.of (by decide +kernel) [(0, .ref (ω.1 + k0)), (1, .ref (ω.2.2.2.1 k1))] rfl (Nat.le_of_ble_eq_true rfl) (fun χ K => ?_)
  have K : Kok ω χ "SaltClouds$TextReader" cX4_takeOneOf 2 (some .int) 4 := K
  unfold F_X4_takeOneOf
  refine J_aload_n (pc := 0) K dX4_takeOneOf_0 0 rfl 0 rfl ?_
  refine J_callVI (As := []) (rest := []) (pc := 1) K cs_SaltClouds_TextReader_111 (ok_X4_goesOn l ω hk0 h) hk0 (by decide) rfl rfl (Nat.le_of_ble_eq_true rfl) dX4_takeOneOf_1 (fun r1 h2 => ?_)
  refine J_if_eq (pc := 4) K 24 dX4_takeOneOf_4 (by decide) ?_ ?_
  · refine J_iconst (pc := 24) K (0) dX4_takeOneOf_24 (by decide) ?_
    exact J_iret (pc := 25) K dX4_takeOneOf_25
  · refine J_aload_n (pc := 7) K dX4_takeOneOf_7 1 rfl 1 rfl ?_
    refine J_aload_n (pc := 8) K dX4_takeOneOf_8 0 rfl 0 rfl ?_
    refine J_getA (pc := 9) K gf_SaltClouds_TextReader_18 hk0 rfl dX4_takeOneOf_9 (fun a3 ha3 => ?_)
    refine J_aload_n (pc := 12) K dX4_takeOneOf_12 0 rfl 0 rfl ?_
    refine J_getI (pc := 13) K gf_SaltClouds_TextReader_32 hk0 rfl dX4_takeOneOf_13 ?_
    refine J_topi (fun v4 => ?_)
    refine J_iald (pc := 16) K (a := a3) (n := (lay a3 - 1000)) ha3 dX4_takeOneOf_16 ?_
    refine J_i2c (pc := 17) K dX4_takeOneOf_17 ?_
    refine J_callVsI (As := [.int (i2c (h2 a3 (ix v4)))]) (rest := []) (pc := 18) K cs_SaltClouds_TextReader_101 (ok_J0_indexOf_0f7a4 l ω N (k0 := k1) hk1 (i2c (h2 a3 (ix v4))) h2) hk1 (by decide) rfl rfl (Nat.le_of_ble_eq_true rfl) dX4_takeOneOf_18 (fun r5 h6 => ?_)
    refine J_if_ge (pc := 21) K 26 dX4_takeOneOf_21 (by decide) ?_ ?_
    · refine J_aload_n (pc := 26) K dX4_takeOneOf_26 0 rfl 0 rfl ?_
      refine J_dup (pc := 27) K dX4_takeOneOf_27 rfl ?_
      refine J_getI (pc := 28) K gf_SaltClouds_TextReader_32 hk0 rfl dX4_takeOneOf_28 ?_
      refine J_iconst (pc := 31) K (1) dX4_takeOneOf_31 (by decide) ?_
      refine J_iadd (pc := 32) K dX4_takeOneOf_32 ?_
      refine J_putI (pc := 33) K gf_SaltClouds_TextReader_32 hk0 (by decide) rfl dX4_takeOneOf_33 (fun h7 => ?_)
      refine J_aload_n (pc := 36) K dX4_takeOneOf_36 0 rfl 0 rfl ?_
      refine J_getA (pc := 37) K gf_SaltClouds_TextReader_18 hk0 rfl dX4_takeOneOf_37 (fun a8 ha8 => ?_)
      refine J_aload_n (pc := 40) K dX4_takeOneOf_40 0 rfl 0 rfl ?_
      refine J_getI (pc := 41) K gf_SaltClouds_TextReader_32 hk0 rfl dX4_takeOneOf_41 ?_
      refine J_iconst (pc := 44) K (1) dX4_takeOneOf_44 (by decide) ?_
      refine J_isub (pc := 45) K dX4_takeOneOf_45 ?_
      refine J_topi (fun v9 => ?_)
      refine J_iald (pc := 46) K (a := a8) (n := (lay a8 - 1000)) ha8 dX4_takeOneOf_46 ?_
      exact J_iret (pc := 47) K dX4_takeOneOf_47
    · refine J_iconst (pc := 24) K (0) dX4_takeOneOf_24 (by decide) ?_
      exact J_iret (pc := 25) K dX4_takeOneOf_25
def F_X3_add (k0 : Nat) (x1 : Int32) (h : Mem) : Option (Unit × Mem) :=
  (if (nI 50) ≤ (h k0 2) then
    (some ((), h))
  else
    (gin (h k0 2) 50 (seqh (upm h (k0 + 1) (ix (h k0 2)) x1) (fun h1 =>
    (seqh (upm h1 k0 2 ((h1 k0 2) + (1 : Int32))) (fun h2 =>
    (some ((), h2))))))))
set_option maxRecDepth 10000 in
set_option maxHeartbeats 1000000 in
theorem ok_X3_add (l : Launch) (ω : WX) {k0 : Nat} (hk0 : lay k0 = 3) (x1 : Int32) (h : Mem) : MC rvV l ω yX3_add cX3_add 2 none 0 [.ref (ω.1 + k0), .int x1] h (F_X3_add k0 x1 h) := by
  refine MC.of (by decide +kernel) [(0, .ref (ω.1 + k0)), (1, .int x1)] rfl (Nat.le_of_ble_eq_true rfl) (fun χ K => ?_)
  have K : Kok ω χ "SaltClouds$Text" cX3_add 2 none 0 := K
  unfold F_X3_add
  refine J_aload_n (pc := 0) K dX3_add_0 0 rfl 0 rfl ?_
  refine J_getI (pc := 1) K gf_SaltClouds_Text_19 hk0 rfl dX3_add_1 ?_
  refine J_aload_n (pc := 4) K dX3_add_4 0 rfl 0 rfl ?_
  refine J_getR (pc := 5) K gf_SaltClouds_Text_15 hk0 1 rfl dX3_add_5 ?_
  refine J_alen (pc := 8) K (a := k0 + 1) (n := 50) (ty_3_1 hk0) dX3_add_8 ?_
  refine J_icmp_ge (pc := 9) K 32 dX3_add_9 (by decide) ?_ ?_
  · exact J_vret (pc := 32) K dX3_add_32
  · refine J_aload_n (pc := 12) K dX3_add_12 0 rfl 0 rfl ?_
    refine J_getR (pc := 13) K gf_SaltClouds_Text_15 hk0 1 rfl dX3_add_13 ?_
    refine J_aload_n (pc := 16) K dX3_add_16 0 rfl 0 rfl ?_
    refine J_getI (pc := 17) K gf_SaltClouds_Text_19 hk0 rfl dX3_add_17 ?_
    refine J_iload_n (pc := 20) K dX3_add_20 1 rfl 1 rfl ?_
    refine J_iast (pc := 21) K (a := k0 + 1) (n := 50) (ty_3_1 hk0) dX3_add_21 (fun h1 => ?_)
    refine J_aload_n (pc := 22) K dX3_add_22 0 rfl 0 rfl ?_
    refine J_dup (pc := 23) K dX3_add_23 rfl ?_
    refine J_getI (pc := 24) K gf_SaltClouds_Text_19 hk0 rfl dX3_add_24 ?_
    refine J_iconst (pc := 27) K (1) dX3_add_27 (by decide) ?_
    refine J_iadd (pc := 28) K dX3_add_28 ?_
    refine J_putI (pc := 29) K gf_SaltClouds_Text_19 hk0 (by decide) rfl dX3_add_29 (fun h2 => ?_)
    exact J_vret (pc := 32) K dX3_add_32
def F_X4_readP_14 (oq : Nat → Int32 → Mem → Option (Unit × Mem)) (N : Nat) (k0 : Nat) (w1 : Int32) (kt : Mem → Option (Unit × Mem)) : Nat → Int32 → Int32 → Mem → Option (Unit × Mem)
  | 0, _, _, _ => none
  | n + 1, u2, u3, h =>
    (if (50 : Int32) ≤ u3 then
      (kt h)
    else
      (if u2 = 0 then
        (kt h)
      else
        (bnd (oq k0 w1 h) (fun _ h6 =>
        (bnd (F_X3_add (k0 + 1) (-u2) h6) (fun _ h8 =>
        (bnd (F_X4_takeOneOf N k0 5 h8) (fun r9 h10 =>
        (F_X4_readP_14 oq N k0 w1 kt n r9 (u3 + 1) h10)))))))))
set_option maxRecDepth 10000 in
set_option maxHeartbeats 1000000 in
theorem okL_X4_readP_14 {l : Launch} {ω : WX} {χ : KT} {d : Nat} (K : Kok ω χ "SaltClouds$TextReader" cX4_readP 4 none d) {oq : Nat → Int32 → Mem → Option (Unit × Mem)} {dq : Nat} (hq : ∀ {k0 : Nat} (hk0 : lay k0 = 4) (x1 : Int32) (h : Mem), MC rvV l ω yX4_readQ cX4_readQ 4 none dq [.ref (ω.1 + k0), .int x1] h (oq k0 x1 h)) (hd : (dq + 5) ≤ d) (N : Nat) {k0 : Nat} (hk0 : lay k0 = 4) {w1 : Int32} {kt : Mem → Option (Unit × Mem)} (hK : ∀ (h : Mem), J (ZM rvV ω χ) l ω χ 51 4 [] [] h (kt h)) : ∀ (n : Nat) (u2 : Int32) (u3 : Int32) (h : Mem), J (ZM rvV ω χ) l ω χ 14 4 [(0, .ref (ω.1 + k0)), (1, .int w1), (2, .int u2), (3, .int u3)] [] h (F_X4_readP_14 oq N k0 w1 kt n u2 u3 h) := by
  intro n
  induction n with
  | zero =>
    intro u2 u3 h
    exact J_none rfl
  | succ n ih =>
    intro u2 u3 h
    rw [F_X4_readP_14]
    refine J_iload_n (pc := 14) K dX4_readP_14 3 rfl 3 rfl ?_
    refine J_bipush (pc := 15) K (50) dX4_readP_15 (by decide) ?_
    refine J_icmp_ge (pc := 17) K 51 dX4_readP_17 (by decide) ?_ ?_
    · refine J_lv [] [] rfl ?_
      exact hK h
    · refine J_iload_n (pc := 20) K dX4_readP_20 2 rfl 2 rfl ?_
      refine J_if_eq (pc := 21) K 51 dX4_readP_21 (by decide) ?_ ?_
      · refine J_lv [] [] rfl ?_
        exact hK h
      · refine J_aload_n (pc := 24) K dX4_readP_24 0 rfl 0 rfl ?_
        refine J_iload_n (pc := 25) K dX4_readP_25 1 rfl 1 rfl ?_
        refine J_callVU (As := [.int w1]) (rest := []) (pc := 26) K cs_SaltClouds_TextReader_89 (hq hk0 w1 h) hk0 (by omega) rfl rfl (Nat.le_of_ble_eq_true rfl) dX4_readP_26 (fun _ h6 => ?_)
        refine J_aload_n (pc := 29) K dX4_readP_29 0 rfl 0 rfl ?_
        refine J_getR (pc := 30) K gf_SaltClouds_TextReader_12 hk0 1 rfl dX4_readP_30 ?_
        refine J_iload_n (pc := 33) K dX4_readP_33 2 rfl 2 rfl ?_
        refine J_ineg (pc := 34) K dX4_readP_34 ?_
        refine J_callVU (As := [.int (-u2)]) (rest := []) (pc := 35) K cs_SaltClouds_TextReader_71 (ok_X3_add l ω (ty_4_1 hk0) (-u2) h6) (ty_4_1 hk0) (by omega) rfl rfl (Nat.le_of_ble_eq_true rfl) dX4_readP_35 (fun _ h8 => ?_)
        refine J_aload_n (pc := 38) K dX4_readP_38 0 rfl 0 rfl ?_
        refine J_ldcS (pc := 39) K 5 (by decide) "*/%" rfl dX4_readP_39 ?_
        refine J_callVI (As := [.ref (ω.2.2.2.1 5)]) (rest := []) (pc := 41) K cs_SaltClouds_TextReader_67 (ok_X4_takeOneOf l ω N hk0 (k1 := 5) (by decide) h8) hk0 (by omega) rfl rfl (Nat.le_of_ble_eq_true rfl) dX4_readP_41 (fun r9 h10 => ?_)
        refine J_istore_n (pc := 44) K dX4_readP_44 2 rfl (by decide) [(2, .int r9), (0, .ref (ω.1 + k0)), (1, .int w1), (3, .int u3)] rfl ?_
        refine J_iinc (pc := 45) K (1) dX4_readP_45 3 rfl (by decide) (by decide) [(3, .int (u3 + 1)), (2, .int r9), (0, .ref (ω.1 + k0)), (1, .int w1)] rfl ?_
        refine J_goto (pc := 48) K 14 dX4_readP_48 (by decide) ?_
        refine J_lv [2, 3, 1, 0] [(0, .ref (ω.1 + k0)), (1, .int w1), (2, .int r9), (3, .int (u3 + 1))] rfl ?_
        exact ih r9 (u3 + 1) h10
def F_X4_readP (oq : Nat → Int32 → Mem → Option (Unit × Mem)) (N : Nat) (k0 : Nat) (x1 : Int32) (h : Mem) : Option (Unit × Mem) :=
  (bnd (oq k0 x1 h) (fun _ h2 =>
  (bnd (F_X4_takeOneOf N k0 5 h2) (fun r3 h4 =>
  (F_X4_readP_14 oq N k0 x1 (fun (h11 : Mem) =>
    (some ((), h11))) N r3 (0 : Int32) h4)))))
set_option maxRecDepth 10000 in
set_option maxHeartbeats 1000000 in
theorem ok_X4_readP (l : Launch) (ω : WX) {oq : Nat → Int32 → Mem → Option (Unit × Mem)} {dq : Nat} (hq : ∀ {k0 : Nat} (hk0 : lay k0 = 4) (x1 : Int32) (h : Mem), MC rvV l ω yX4_readQ cX4_readQ 4 none dq [.ref (ω.1 + k0), .int x1] h (oq k0 x1 h)) (N : Nat) {k0 : Nat} (hk0 : lay k0 = 4) (x1 : Int32) (h : Mem) : MC rvV l ω yX4_readP cX4_readP 4 none (dq + 5) [.ref (ω.1 + k0), .int x1] h (F_X4_readP oq N k0 x1 h) := by
  refine MC.of (by decide +kernel) [(0, .ref (ω.1 + k0)), (1, .int x1)] rfl (Nat.le_of_ble_eq_true rfl) (fun χ K => ?_)
  have K : Kok ω χ "SaltClouds$TextReader" cX4_readP 4 none (dq + 5) := K
  unfold F_X4_readP
  refine J_aload_n (pc := 0) K dX4_readP_0 0 rfl 0 rfl ?_
  refine J_iload_n (pc := 1) K dX4_readP_1 1 rfl 1 rfl ?_
  refine J_callVU (As := [.int x1]) (rest := []) (pc := 2) K cs_SaltClouds_TextReader_89 (hq hk0 x1 h) hk0 (by omega) rfl rfl (Nat.le_of_ble_eq_true rfl) dX4_readP_2 (fun _ h2 => ?_)
  refine J_aload_n (pc := 5) K dX4_readP_5 0 rfl 0 rfl ?_
  refine J_ldcS (pc := 6) K 5 (by decide) "*/%" rfl dX4_readP_6 ?_
  refine J_callVI (As := [.ref (ω.2.2.2.1 5)]) (rest := []) (pc := 8) K cs_SaltClouds_TextReader_67 (ok_X4_takeOneOf l ω N hk0 (k1 := 5) (by decide) h2) hk0 (by omega) rfl rfl (Nat.le_of_ble_eq_true rfl) dX4_readP_8 (fun r3 h4 => ?_)
  refine J_istore_n (pc := 11) K dX4_readP_11 2 rfl (by decide) [(2, .int r3), (0, .ref (ω.1 + k0)), (1, .int x1)] rfl ?_
  refine J_iconst (pc := 12) K (0) dX4_readP_12 (by decide) ?_
  refine J_istore_n (pc := 13) K dX4_readP_13 3 rfl (by decide) [(3, .int (0 : Int32)), (2, .int r3), (0, .ref (ω.1 + k0)), (1, .int x1)] rfl ?_
  refine J_lv [2, 3, 1, 0] [(0, .ref (ω.1 + k0)), (1, .int x1), (2, .int r3), (3, .int (0 : Int32))] rfl ?_
  refine okL_X4_readP_14 K hq (by omega) N hk0 (fun h11 => ?_) _ _ _ _
  exact J_vret (pc := 51) K dX4_readP_51
def F_X4_readS_14 (oq : Nat → Int32 → Mem → Option (Unit × Mem)) (N : Nat) (k0 : Nat) (w1 : Int32) (kt : Mem → Option (Unit × Mem)) : Nat → Int32 → Int32 → Mem → Option (Unit × Mem)
  | 0, _, _, _ => none
  | n + 1, u2, u3, h =>
    (if (50 : Int32) ≤ u3 then
      (kt h)
    else
      (if u2 = 0 then
        (kt h)
      else
        (bnd (F_X4_readP oq N k0 w1 h) (fun _ h6 =>
        (bnd (F_X3_add (k0 + 1) (-u2) h6) (fun _ h8 =>
        (bnd (F_X4_takeOneOf N k0 6 h8) (fun r9 h10 =>
        (F_X4_readS_14 oq N k0 w1 kt n r9 (u3 + 1) h10)))))))))
set_option maxRecDepth 10000 in
set_option maxHeartbeats 1000000 in
theorem okL_X4_readS_14 {l : Launch} {ω : WX} {χ : KT} {d : Nat} (K : Kok ω χ "SaltClouds$TextReader" cX4_readS 4 none d) {oq : Nat → Int32 → Mem → Option (Unit × Mem)} {dq : Nat} (hq : ∀ {k0 : Nat} (hk0 : lay k0 = 4) (x1 : Int32) (h : Mem), MC rvV l ω yX4_readQ cX4_readQ 4 none dq [.ref (ω.1 + k0), .int x1] h (oq k0 x1 h)) (hd : (dq + 6) ≤ d) (N : Nat) {k0 : Nat} (hk0 : lay k0 = 4) {w1 : Int32} {kt : Mem → Option (Unit × Mem)} (hK : ∀ (h : Mem), J (ZM rvV ω χ) l ω χ 51 4 [] [] h (kt h)) : ∀ (n : Nat) (u2 : Int32) (u3 : Int32) (h : Mem), J (ZM rvV ω χ) l ω χ 14 4 [(0, .ref (ω.1 + k0)), (1, .int w1), (2, .int u2), (3, .int u3)] [] h (F_X4_readS_14 oq N k0 w1 kt n u2 u3 h) := by
  intro n
  induction n with
  | zero =>
    intro u2 u3 h
    exact J_none rfl
  | succ n ih =>
    intro u2 u3 h
    rw [F_X4_readS_14]
    refine J_iload_n (pc := 14) K dX4_readS_14 3 rfl 3 rfl ?_
    refine J_bipush (pc := 15) K (50) dX4_readS_15 (by decide) ?_
    refine J_icmp_ge (pc := 17) K 51 dX4_readS_17 (by decide) ?_ ?_
    · refine J_lv [] [] rfl ?_
      exact hK h
    · refine J_iload_n (pc := 20) K dX4_readS_20 2 rfl 2 rfl ?_
      refine J_if_eq (pc := 21) K 51 dX4_readS_21 (by decide) ?_ ?_
      · refine J_lv [] [] rfl ?_
        exact hK h
      · refine J_aload_n (pc := 24) K dX4_readS_24 0 rfl 0 rfl ?_
        refine J_iload_n (pc := 25) K dX4_readS_25 1 rfl 1 rfl ?_
        refine J_callVU (As := [.int w1]) (rest := []) (pc := 26) K cs_SaltClouds_TextReader_84 (ok_X4_readP l ω hq N hk0 w1 h) hk0 (by omega) rfl rfl (Nat.le_of_ble_eq_true rfl) dX4_readS_26 (fun _ h6 => ?_)
        refine J_aload_n (pc := 29) K dX4_readS_29 0 rfl 0 rfl ?_
        refine J_getR (pc := 30) K gf_SaltClouds_TextReader_12 hk0 1 rfl dX4_readS_30 ?_
        refine J_iload_n (pc := 33) K dX4_readS_33 2 rfl 2 rfl ?_
        refine J_ineg (pc := 34) K dX4_readS_34 ?_
        refine J_callVU (As := [.int (-u2)]) (rest := []) (pc := 35) K cs_SaltClouds_TextReader_71 (ok_X3_add l ω (ty_4_1 hk0) (-u2) h6) (ty_4_1 hk0) (by omega) rfl rfl (Nat.le_of_ble_eq_true rfl) dX4_readS_35 (fun _ h8 => ?_)
        refine J_aload_n (pc := 38) K dX4_readS_38 0 rfl 0 rfl ?_
        refine J_ldcS (pc := 39) K 6 (by decide) "+-" rfl dX4_readS_39 ?_
        refine J_callVI (As := [.ref (ω.2.2.2.1 6)]) (rest := []) (pc := 41) K cs_SaltClouds_TextReader_67 (ok_X4_takeOneOf l ω N hk0 (k1 := 6) (by decide) h8) hk0 (by omega) rfl rfl (Nat.le_of_ble_eq_true rfl) dX4_readS_41 (fun r9 h10 => ?_)
        refine J_istore_n (pc := 44) K dX4_readS_44 2 rfl (by decide) [(2, .int r9), (0, .ref (ω.1 + k0)), (1, .int w1), (3, .int u3)] rfl ?_
        refine J_iinc (pc := 45) K (1) dX4_readS_45 3 rfl (by decide) (by decide) [(3, .int (u3 + 1)), (2, .int r9), (0, .ref (ω.1 + k0)), (1, .int w1)] rfl ?_
        refine J_goto (pc := 48) K 14 dX4_readS_48 (by decide) ?_
        refine J_lv [2, 3, 1, 0] [(0, .ref (ω.1 + k0)), (1, .int w1), (2, .int r9), (3, .int (u3 + 1))] rfl ?_
        exact ih r9 (u3 + 1) h10
def F_X4_readS (oq : Nat → Int32 → Mem → Option (Unit × Mem)) (N : Nat) (k0 : Nat) (x1 : Int32) (h : Mem) : Option (Unit × Mem) :=
  (bnd (F_X4_readP oq N k0 x1 h) (fun _ h2 =>
  (bnd (F_X4_takeOneOf N k0 6 h2) (fun r3 h4 =>
  (F_X4_readS_14 oq N k0 x1 (fun (h11 : Mem) =>
    (some ((), h11))) N r3 (0 : Int32) h4)))))
set_option maxRecDepth 10000 in
set_option maxHeartbeats 1000000 in
theorem ok_X4_readS (l : Launch) (ω : WX) {oq : Nat → Int32 → Mem → Option (Unit × Mem)} {dq : Nat} (hq : ∀ {k0 : Nat} (hk0 : lay k0 = 4) (x1 : Int32) (h : Mem), MC rvV l ω yX4_readQ cX4_readQ 4 none dq [.ref (ω.1 + k0), .int x1] h (oq k0 x1 h)) (N : Nat) {k0 : Nat} (hk0 : lay k0 = 4) (x1 : Int32) (h : Mem) : MC rvV l ω yX4_readS cX4_readS 4 none (dq + 6) [.ref (ω.1 + k0), .int x1] h (F_X4_readS oq N k0 x1 h) := by
  refine MC.of (by decide +kernel) [(0, .ref (ω.1 + k0)), (1, .int x1)] rfl (Nat.le_of_ble_eq_true rfl) (fun χ K => ?_)
  have K : Kok ω χ "SaltClouds$TextReader" cX4_readS 4 none (dq + 6) := K
  unfold F_X4_readS
  refine J_aload_n (pc := 0) K dX4_readS_0 0 rfl 0 rfl ?_
  refine J_iload_n (pc := 1) K dX4_readS_1 1 rfl 1 rfl ?_
  refine J_callVU (As := [.int x1]) (rest := []) (pc := 2) K cs_SaltClouds_TextReader_84 (ok_X4_readP l ω hq N hk0 x1 h) hk0 (by omega) rfl rfl (Nat.le_of_ble_eq_true rfl) dX4_readS_2 (fun _ h2 => ?_)
  refine J_aload_n (pc := 5) K dX4_readS_5 0 rfl 0 rfl ?_
  refine J_ldcS (pc := 6) K 6 (by decide) "+-" rfl dX4_readS_6 ?_
  refine J_callVI (As := [.ref (ω.2.2.2.1 6)]) (rest := []) (pc := 8) K cs_SaltClouds_TextReader_67 (ok_X4_takeOneOf l ω N hk0 (k1 := 6) (by decide) h2) hk0 (by omega) rfl rfl (Nat.le_of_ble_eq_true rfl) dX4_readS_8 (fun r3 h4 => ?_)
  refine J_istore_n (pc := 11) K dX4_readS_11 2 rfl (by decide) [(2, .int r3), (0, .ref (ω.1 + k0)), (1, .int x1)] rfl ?_
  refine J_iconst (pc := 12) K (0) dX4_readS_12 (by decide) ?_
  refine J_istore_n (pc := 13) K dX4_readS_13 3 rfl (by decide) [(3, .int (0 : Int32)), (2, .int r3), (0, .ref (ω.1 + k0)), (1, .int x1)] rfl ?_
  refine J_lv [2, 3, 1, 0] [(0, .ref (ω.1 + k0)), (1, .int x1), (2, .int r3), (3, .int (0 : Int32))] rfl ?_
  refine okL_X4_readS_14 K hq (by omega) N hk0 (fun h11 => ?_) _ _ _ _
  exact J_vret (pc := 51) K dX4_readS_51
def F_X4_readB (oq : Nat → Int32 → Mem → Option (Unit × Mem)) (N : Nat) (k0 : Nat) (x1 : Int32) (h : Mem) : Option (Unit × Mem) :=
  (bnd (F_X4_readS oq N k0 x1 h) (fun _ h2 =>
  (bnd (F_X4_takeOneOf N k0 7 h2) (fun r3 h4 =>
  (if r3 = 0 then
    (some ((), h4))
  else
    (bnd (F_X4_readS oq N k0 x1 h4) (fun _ h6 =>
    (bnd (F_X3_add (k0 + 1) (-r3) h6) (fun _ h8 =>
    (some ((), h8)))))))))))
set_option maxRecDepth 10000 in
set_option maxHeartbeats 1000000 in
theorem ok_X4_readB (l : Launch) (ω : WX) {oq : Nat → Int32 → Mem → Option (Unit × Mem)} {dq : Nat} (hq : ∀ {k0 : Nat} (hk0 : lay k0 = 4) (x1 : Int32) (h : Mem), MC rvV l ω yX4_readQ cX4_readQ 4 none dq [.ref (ω.1 + k0), .int x1] h (oq k0 x1 h)) (N : Nat) {k0 : Nat} (hk0 : lay k0 = 4) (x1 : Int32) (h : Mem) : MC rvV l ω yX4_readB cX4_readB 3 none (dq + 7) [.ref (ω.1 + k0), .int x1] h (F_X4_readB oq N k0 x1 h) := by
  refine MC.of (by decide +kernel) [(0, .ref (ω.1 + k0)), (1, .int x1)] rfl (Nat.le_of_ble_eq_true rfl) (fun χ K => ?_)
  have K : Kok ω χ "SaltClouds$TextReader" cX4_readB 3 none (dq + 7) := K
  unfold F_X4_readB
  refine J_aload_n (pc := 0) K dX4_readB_0 0 rfl 0 rfl ?_
  refine J_iload_n (pc := 1) K dX4_readB_1 1 rfl 1 rfl ?_
  refine J_callVU (As := [.int x1]) (rest := []) (pc := 2) K cs_SaltClouds_TextReader_79 (ok_X4_readS l ω hq N hk0 x1 h) hk0 (by omega) rfl rfl (Nat.le_of_ble_eq_true rfl) dX4_readB_2 (fun _ h2 => ?_)
  refine J_aload_n (pc := 5) K dX4_readB_5 0 rfl 0 rfl ?_
  refine J_ldcS (pc := 6) K 7 (by decide) "<=>" rfl dX4_readB_6 ?_
  refine J_callVI (As := [.ref (ω.2.2.2.1 7)]) (rest := []) (pc := 8) K cs_SaltClouds_TextReader_67 (ok_X4_takeOneOf l ω N hk0 (k1 := 7) (by decide) h2) hk0 (by omega) rfl rfl (Nat.le_of_ble_eq_true rfl) dX4_readB_8 (fun r3 h4 => ?_)
  refine J_istore_n (pc := 11) K dX4_readB_11 2 rfl (by decide) [(2, .int r3), (0, .ref (ω.1 + k0)), (1, .int x1)] rfl ?_
  refine J_iload_n (pc := 12) K dX4_readB_12 2 rfl 0 rfl ?_
  refine J_if_eq (pc := 13) K 30 dX4_readB_13 (by decide) ?_ ?_
  · exact J_vret (pc := 30) K dX4_readB_30
  · refine J_aload_n (pc := 16) K dX4_readB_16 0 rfl 1 rfl ?_
    refine J_iload_n (pc := 17) K dX4_readB_17 1 rfl 2 rfl ?_
    refine J_callVU (As := [.int x1]) (rest := []) (pc := 18) K cs_SaltClouds_TextReader_79 (ok_X4_readS l ω hq N hk0 x1 h4) hk0 (by omega) rfl rfl (Nat.le_of_ble_eq_true rfl) dX4_readB_18 (fun _ h6 => ?_)
    refine J_aload_n (pc := 21) K dX4_readB_21 0 rfl 1 rfl ?_
    refine J_getR (pc := 22) K gf_SaltClouds_TextReader_12 hk0 1 rfl dX4_readB_22 ?_
    refine J_iload_n (pc := 25) K dX4_readB_25 2 rfl 0 rfl ?_
    refine J_ineg (pc := 26) K dX4_readB_26 ?_
    refine J_callVU (As := [.int (-r3)]) (rest := []) (pc := 27) K cs_SaltClouds_TextReader_71 (ok_X3_add l ω (ty_4_1 hk0) (-r3) h6) (ty_4_1 hk0) (by omega) rfl rfl (Nat.le_of_ble_eq_true rfl) dX4_readB_27 (fun _ h8 => ?_)
    exact J_vret (pc := 30) K dX4_readB_30
def F_X4_readA_7 (oq : Nat → Int32 → Mem → Option (Unit × Mem)) (N : Nat) (k0 : Nat) (w1 : Int32) (kt : Mem → Option (Unit × Mem)) : Nat → Int32 → Mem → Option (Unit × Mem)
  | 0, _, _ => none
  | n + 1, u2, h =>
    (if (50 : Int32) ≤ u2 then
      (kt h)
    else
      (bnd (F_X4_takeOneOf N k0 8 h) (fun r3 h4 =>
      (if r3 = 0 then
        (kt h4)
      else
        (bnd (F_X4_readB oq N k0 w1 h4) (fun _ h6 =>
        (bnd (F_X3_add (k0 + 1) (-38 : Int32) h6) (fun _ h8 =>
        (F_X4_readA_7 oq N k0 w1 kt n (u2 + 1) h8)))))))))
set_option maxRecDepth 10000 in
set_option maxHeartbeats 1000000 in
theorem okL_X4_readA_7 {l : Launch} {ω : WX} {χ : KT} {d : Nat} (K : Kok ω χ "SaltClouds$TextReader" cX4_readA 3 none d) {oq : Nat → Int32 → Mem → Option (Unit × Mem)} {dq : Nat} (hq : ∀ {k0 : Nat} (hk0 : lay k0 = 4) (x1 : Int32) (h : Mem), MC rvV l ω yX4_readQ cX4_readQ 4 none dq [.ref (ω.1 + k0), .int x1] h (oq k0 x1 h)) (hd : (dq + 8) ≤ d) (N : Nat) {k0 : Nat} (hk0 : lay k0 = 4) {w1 : Int32} {kt : Mem → Option (Unit × Mem)} (hK : ∀ (h : Mem), J (ZM rvV ω χ) l ω χ 42 3 [] [] h (kt h)) : ∀ (n : Nat) (u2 : Int32) (h : Mem), J (ZM rvV ω χ) l ω χ 7 3 [(0, .ref (ω.1 + k0)), (1, .int w1), (2, .int u2)] [] h (F_X4_readA_7 oq N k0 w1 kt n u2 h) := by
  intro n
  induction n with
  | zero =>
    intro u2 h
    exact J_none rfl
  | succ n ih =>
    intro u2 h
    rw [F_X4_readA_7]
    refine J_iload_n (pc := 7) K dX4_readA_7 2 rfl 2 rfl ?_
    refine J_bipush (pc := 8) K (50) dX4_readA_8 (by decide) ?_
    refine J_icmp_ge (pc := 10) K 42 dX4_readA_10 (by decide) ?_ ?_
    · refine J_lv [] [] rfl ?_
      exact hK h
    · refine J_aload_n (pc := 13) K dX4_readA_13 0 rfl 0 rfl ?_
      refine J_ldcS (pc := 14) K 8 (by decide) "&" rfl dX4_readA_14 ?_
      refine J_callVI (As := [.ref (ω.2.2.2.1 8)]) (rest := []) (pc := 16) K cs_SaltClouds_TextReader_67 (ok_X4_takeOneOf l ω N hk0 (k1 := 8) (by decide) h) hk0 (by omega) rfl rfl (Nat.le_of_ble_eq_true rfl) dX4_readA_16 (fun r3 h4 => ?_)
      refine J_if_eq (pc := 19) K 42 dX4_readA_19 (by decide) ?_ ?_
      · refine J_lv [] [] rfl ?_
        exact hK h4
      · refine J_aload_n (pc := 22) K dX4_readA_22 0 rfl 0 rfl ?_
        refine J_iload_n (pc := 23) K dX4_readA_23 1 rfl 1 rfl ?_
        refine J_callVU (As := [.int w1]) (rest := []) (pc := 24) K cs_SaltClouds_TextReader_74 (ok_X4_readB l ω hq N hk0 w1 h4) hk0 (by omega) rfl rfl (Nat.le_of_ble_eq_true rfl) dX4_readA_24 (fun _ h6 => ?_)
        refine J_aload_n (pc := 27) K dX4_readA_27 0 rfl 0 rfl ?_
        refine J_getR (pc := 28) K gf_SaltClouds_TextReader_12 hk0 1 rfl dX4_readA_28 ?_
        refine J_bipush (pc := 31) K (-38) dX4_readA_31 (by decide) ?_
        refine J_callVU (As := [.int (-38 : Int32)]) (rest := []) (pc := 33) K cs_SaltClouds_TextReader_71 (ok_X3_add l ω (ty_4_1 hk0) (-38 : Int32) h6) (ty_4_1 hk0) (by omega) rfl rfl (Nat.le_of_ble_eq_true rfl) dX4_readA_33 (fun _ h8 => ?_)
        refine J_iinc (pc := 36) K (1) dX4_readA_36 2 rfl (by decide) (by decide) [(2, .int (u2 + 1)), (0, .ref (ω.1 + k0)), (1, .int w1)] rfl ?_
        refine J_goto (pc := 39) K 7 dX4_readA_39 (by decide) ?_
        refine J_lv [1, 2, 0] [(0, .ref (ω.1 + k0)), (1, .int w1), (2, .int (u2 + 1))] rfl ?_
        exact ih (u2 + 1) h8
def F_X4_readA (oq : Nat → Int32 → Mem → Option (Unit × Mem)) (N : Nat) (k0 : Nat) (x1 : Int32) (h : Mem) : Option (Unit × Mem) :=
  (bnd (F_X4_readB oq N k0 x1 h) (fun _ h2 =>
  (F_X4_readA_7 oq N k0 x1 (fun (h9 : Mem) =>
    (some ((), h9))) N (0 : Int32) h2)))
set_option maxRecDepth 10000 in
set_option maxHeartbeats 1000000 in
theorem ok_X4_readA (l : Launch) (ω : WX) {oq : Nat → Int32 → Mem → Option (Unit × Mem)} {dq : Nat} (hq : ∀ {k0 : Nat} (hk0 : lay k0 = 4) (x1 : Int32) (h : Mem), MC rvV l ω yX4_readQ cX4_readQ 4 none dq [.ref (ω.1 + k0), .int x1] h (oq k0 x1 h)) (N : Nat) {k0 : Nat} (hk0 : lay k0 = 4) (x1 : Int32) (h : Mem) : MC rvV l ω yX4_readA cX4_readA 3 none (dq + 8) [.ref (ω.1 + k0), .int x1] h (F_X4_readA oq N k0 x1 h) := by
  refine MC.of (by decide +kernel) [(0, .ref (ω.1 + k0)), (1, .int x1)] rfl (Nat.le_of_ble_eq_true rfl) (fun χ K => ?_)
  have K : Kok ω χ "SaltClouds$TextReader" cX4_readA 3 none (dq + 8) := K
  unfold F_X4_readA
  refine J_aload_n (pc := 0) K dX4_readA_0 0 rfl 0 rfl ?_
  refine J_iload_n (pc := 1) K dX4_readA_1 1 rfl 1 rfl ?_
  refine J_callVU (As := [.int x1]) (rest := []) (pc := 2) K cs_SaltClouds_TextReader_74 (ok_X4_readB l ω hq N hk0 x1 h) hk0 (by omega) rfl rfl (Nat.le_of_ble_eq_true rfl) dX4_readA_2 (fun _ h2 => ?_)
  refine J_iconst (pc := 5) K (0) dX4_readA_5 (by decide) ?_
  refine J_istore_n (pc := 6) K dX4_readA_6 2 rfl (by decide) [(2, .int (0 : Int32)), (0, .ref (ω.1 + k0)), (1, .int x1)] rfl ?_
  refine J_lv [1, 2, 0] [(0, .ref (ω.1 + k0)), (1, .int x1), (2, .int (0 : Int32))] rfl ?_
  refine okL_X4_readA_7 K hq (by omega) N hk0 (fun h9 => ?_) _ _ _
  exact J_vret (pc := 42) K dX4_readA_42
def F_X4_readT_7 (oq : Nat → Int32 → Mem → Option (Unit × Mem)) (N : Nat) (k0 : Nat) (w1 : Int32) (kt : Mem → Option (Unit × Mem)) : Nat → Int32 → Mem → Option (Unit × Mem)
  | 0, _, _ => none
  | n + 1, u2, h =>
    (if (50 : Int32) ≤ u2 then
      (kt h)
    else
      (bnd (F_X4_takeOneOf N k0 9 h) (fun r3 h4 =>
      (if r3 = 0 then
        (kt h4)
      else
        (bnd (F_X4_readA oq N k0 w1 h4) (fun _ h6 =>
        (bnd (F_X3_add (k0 + 1) (-124 : Int32) h6) (fun _ h8 =>
        (F_X4_readT_7 oq N k0 w1 kt n (u2 + 1) h8)))))))))
set_option maxRecDepth 10000 in
set_option maxHeartbeats 1000000 in
theorem okL_X4_readT_7 {l : Launch} {ω : WX} {χ : KT} {d : Nat} (K : Kok ω χ "SaltClouds$TextReader" cX4_readT 3 none d) {oq : Nat → Int32 → Mem → Option (Unit × Mem)} {dq : Nat} (hq : ∀ {k0 : Nat} (hk0 : lay k0 = 4) (x1 : Int32) (h : Mem), MC rvV l ω yX4_readQ cX4_readQ 4 none dq [.ref (ω.1 + k0), .int x1] h (oq k0 x1 h)) (hd : (dq + 9) ≤ d) (N : Nat) {k0 : Nat} (hk0 : lay k0 = 4) {w1 : Int32} {kt : Mem → Option (Unit × Mem)} (hK : ∀ (h : Mem), J (ZM rvV ω χ) l ω χ 42 3 [] [] h (kt h)) : ∀ (n : Nat) (u2 : Int32) (h : Mem), J (ZM rvV ω χ) l ω χ 7 3 [(0, .ref (ω.1 + k0)), (1, .int w1), (2, .int u2)] [] h (F_X4_readT_7 oq N k0 w1 kt n u2 h) := by
  intro n
  induction n with
  | zero =>
    intro u2 h
    exact J_none rfl
  | succ n ih =>
    intro u2 h
    rw [F_X4_readT_7]
    refine J_iload_n (pc := 7) K dX4_readT_7 2 rfl 2 rfl ?_
    refine J_bipush (pc := 8) K (50) dX4_readT_8 (by decide) ?_
    refine J_icmp_ge (pc := 10) K 42 dX4_readT_10 (by decide) ?_ ?_
    · refine J_lv [] [] rfl ?_
      exact hK h
    · refine J_aload_n (pc := 13) K dX4_readT_13 0 rfl 0 rfl ?_
      refine J_ldcS (pc := 14) K 9 (by decide) "|" rfl dX4_readT_14 ?_
      refine J_callVI (As := [.ref (ω.2.2.2.1 9)]) (rest := []) (pc := 16) K cs_SaltClouds_TextReader_67 (ok_X4_takeOneOf l ω N hk0 (k1 := 9) (by decide) h) hk0 (by omega) rfl rfl (Nat.le_of_ble_eq_true rfl) dX4_readT_16 (fun r3 h4 => ?_)
      refine J_if_eq (pc := 19) K 42 dX4_readT_19 (by decide) ?_ ?_
      · refine J_lv [] [] rfl ?_
        exact hK h4
      · refine J_aload_n (pc := 22) K dX4_readT_22 0 rfl 0 rfl ?_
        refine J_iload_n (pc := 23) K dX4_readT_23 1 rfl 1 rfl ?_
        refine J_callVU (As := [.int w1]) (rest := []) (pc := 24) K cs_SaltClouds_TextReader_62 (ok_X4_readA l ω hq N hk0 w1 h4) hk0 (by omega) rfl rfl (Nat.le_of_ble_eq_true rfl) dX4_readT_24 (fun _ h6 => ?_)
        refine J_aload_n (pc := 27) K dX4_readT_27 0 rfl 0 rfl ?_
        refine J_getR (pc := 28) K gf_SaltClouds_TextReader_12 hk0 1 rfl dX4_readT_28 ?_
        refine J_bipush (pc := 31) K (-124) dX4_readT_31 (by decide) ?_
        refine J_callVU (As := [.int (-124 : Int32)]) (rest := []) (pc := 33) K cs_SaltClouds_TextReader_71 (ok_X3_add l ω (ty_4_1 hk0) (-124 : Int32) h6) (ty_4_1 hk0) (by omega) rfl rfl (Nat.le_of_ble_eq_true rfl) dX4_readT_33 (fun _ h8 => ?_)
        refine J_iinc (pc := 36) K (1) dX4_readT_36 2 rfl (by decide) (by decide) [(2, .int (u2 + 1)), (0, .ref (ω.1 + k0)), (1, .int w1)] rfl ?_
        refine J_goto (pc := 39) K 7 dX4_readT_39 (by decide) ?_
        refine J_lv [1, 2, 0] [(0, .ref (ω.1 + k0)), (1, .int w1), (2, .int (u2 + 1))] rfl ?_
        exact ih (u2 + 1) h8
def F_X4_readT (oq : Nat → Int32 → Mem → Option (Unit × Mem)) (N : Nat) (k0 : Nat) (x1 : Int32) (h : Mem) : Option (Unit × Mem) :=
  (bnd (F_X4_readA oq N k0 x1 h) (fun _ h2 =>
  (F_X4_readT_7 oq N k0 x1 (fun (h9 : Mem) =>
    (some ((), h9))) N (0 : Int32) h2)))
set_option maxRecDepth 10000 in
set_option maxHeartbeats 1000000 in
theorem ok_X4_readT (l : Launch) (ω : WX) {oq : Nat → Int32 → Mem → Option (Unit × Mem)} {dq : Nat} (hq : ∀ {k0 : Nat} (hk0 : lay k0 = 4) (x1 : Int32) (h : Mem), MC rvV l ω yX4_readQ cX4_readQ 4 none dq [.ref (ω.1 + k0), .int x1] h (oq k0 x1 h)) (N : Nat) {k0 : Nat} (hk0 : lay k0 = 4) (x1 : Int32) (h : Mem) : MC rvV l ω yX4_readT cX4_readT 3 none (dq + 9) [.ref (ω.1 + k0), .int x1] h (F_X4_readT oq N k0 x1 h) := by
  refine MC.of (by decide +kernel) [(0, .ref (ω.1 + k0)), (1, .int x1)] rfl (Nat.le_of_ble_eq_true rfl) (fun χ K => ?_)
  have K : Kok ω χ "SaltClouds$TextReader" cX4_readT 3 none (dq + 9) := K
  unfold F_X4_readT
  refine J_aload_n (pc := 0) K dX4_readT_0 0 rfl 0 rfl ?_
  refine J_iload_n (pc := 1) K dX4_readT_1 1 rfl 1 rfl ?_
  refine J_callVU (As := [.int x1]) (rest := []) (pc := 2) K cs_SaltClouds_TextReader_62 (ok_X4_readA l ω hq N hk0 x1 h) hk0 (by omega) rfl rfl (Nat.le_of_ble_eq_true rfl) dX4_readT_2 (fun _ h2 => ?_)
  refine J_iconst (pc := 5) K (0) dX4_readT_5 (by decide) ?_
  refine J_istore_n (pc := 6) K dX4_readT_6 2 rfl (by decide) [(2, .int (0 : Int32)), (0, .ref (ω.1 + k0)), (1, .int x1)] rfl ?_
  refine J_lv [1, 2, 0] [(0, .ref (ω.1 + k0)), (1, .int x1), (2, .int (0 : Int32))] rfl ?_
  refine okL_X4_readT_7 K hq (by omega) N hk0 (fun h9 => ?_) _ _ _
  exact J_vret (pc := 42) K dX4_readT_42
def F_X4_isDigitNext (k0 : Nat) (h : Mem) : Option (Int32 × Mem) :=
  (bnd (F_X4_goesOn k0 h) (fun r1 h2 =>
  (if r1 = 0 then
    (some ((0 : Int32), h2))
  else
    (gar (h2 k0 1) (fun a3 =>
    (seqi (h2 k0 4) (fun v4 =>
    (gin v4 (lay a3 - 1000)
    (if (h2 a3 (ix v4)) < (48 : Int32) then
      (some ((0 : Int32), h2))
    else
      (gar (h2 k0 1) (fun a5 =>
      (seqi (h2 k0 4) (fun v6 =>
      (gin v6 (lay a5 - 1000)
      (if (57 : Int32) < (h2 a5 (ix v6)) then
        (some ((0 : Int32), h2))
      else
        (some ((1 : Int32), h2)))))))))))))))))
set_option maxRecDepth 10000 in
set_option maxHeartbeats 1000000 in
theorem ok_X4_isDigitNext (l : Launch) (ω : WX) {k0 : Nat} (hk0 : lay k0 = 4) (h : Mem) : MC rvI l ω yX4_isDigitNext cX4_isDigitNext 1 (some .boolean) 1 [.ref (ω.1 + k0)] h (F_X4_isDigitNext k0 h) := by
  refine MC.of (by decide +kernel) [(0, .ref (ω.1 + k0))] rfl (Nat.le_of_ble_eq_true rfl) (fun χ K => ?_)
  have K : Kok ω χ "SaltClouds$TextReader" cX4_isDigitNext 1 (some .boolean) 1 := K
  unfold F_X4_isDigitNext
  refine J_aload_n (pc := 0) K dX4_isDigitNext_0 0 rfl 0 rfl ?_
  refine J_callVI (As := []) (rest := []) (pc := 1) K cs_SaltClouds_TextReader_111 (ok_X4_goesOn l ω hk0 h) hk0 (by decide) rfl rfl (Nat.le_of_ble_eq_true rfl) dX4_isDigitNext_1 (fun r1 h2 => ?_)
  refine J_if_eq (pc := 4) K 39 dX4_isDigitNext_4 (by decide) ?_ ?_
  · refine J_iconst (pc := 39) K (0) dX4_isDigitNext_39 (by decide) ?_
    exact J_nret (pc := 40) K rfl dX4_isDigitNext_40
  · refine J_aload_n (pc := 7) K dX4_isDigitNext_7 0 rfl 0 rfl ?_
    refine J_getA (pc := 8) K gf_SaltClouds_TextReader_18 hk0 rfl dX4_isDigitNext_8 (fun a3 ha3 => ?_)
    refine J_aload_n (pc := 11) K dX4_isDigitNext_11 0 rfl 0 rfl ?_
    refine J_getI (pc := 12) K gf_SaltClouds_TextReader_32 hk0 rfl dX4_isDigitNext_12 ?_
    refine J_topi (fun v4 => ?_)
    refine J_iald (pc := 15) K (a := a3) (n := (lay a3 - 1000)) ha3 dX4_isDigitNext_15 ?_
    refine J_bipush (pc := 16) K (48) dX4_isDigitNext_16 (by decide) ?_
    refine J_icmp_lt (pc := 18) K 39 dX4_isDigitNext_18 (by decide) ?_ ?_
    · refine J_iconst (pc := 39) K (0) dX4_isDigitNext_39 (by decide) ?_
      exact J_nret (pc := 40) K rfl dX4_isDigitNext_40
    · refine J_aload_n (pc := 21) K dX4_isDigitNext_21 0 rfl 0 rfl ?_
      refine J_getA (pc := 22) K gf_SaltClouds_TextReader_18 hk0 rfl dX4_isDigitNext_22 (fun a5 ha5 => ?_)
      refine J_aload_n (pc := 25) K dX4_isDigitNext_25 0 rfl 0 rfl ?_
      refine J_getI (pc := 26) K gf_SaltClouds_TextReader_32 hk0 rfl dX4_isDigitNext_26 ?_
      refine J_topi (fun v6 => ?_)
      refine J_iald (pc := 29) K (a := a5) (n := (lay a5 - 1000)) ha5 dX4_isDigitNext_29 ?_
      refine J_bipush (pc := 30) K (57) dX4_isDigitNext_30 (by decide) ?_
      refine J_icmp_gt (pc := 32) K 39 dX4_isDigitNext_32 (by decide) ?_ ?_
      · refine J_iconst (pc := 39) K (0) dX4_isDigitNext_39 (by decide) ?_
        exact J_nret (pc := 40) K rfl dX4_isDigitNext_40
      · refine J_iconst (pc := 35) K (1) dX4_isDigitNext_35 (by decide) ?_
        refine J_goto (pc := 36) K 40 dX4_isDigitNext_36 (by decide) ?_
        exact J_nret (pc := 40) K rfl dX4_isDigitNext_40
def F_X4_readNumber_4 (N : Nat) (k0 : Nat) (kt : Int32 → Mem → Option (Unit × Mem)) : Nat → Int32 → Int32 → Mem → Option (Unit × Mem)
  | 0, _, _, _ => none
  | n + 1, u1, u2, h =>
    (if (4 : Int32) ≤ u2 then
      (kt u1 h)
    else
      (bnd (F_X4_isDigitNext k0 h) (fun r1 h2 =>
      (if r1 = 0 then
        (kt u1 h2)
      else
        (gar (h2 k0 1) (fun a3 =>
        (seqi (h2 k0 4) (fun v4 =>
        (gin v4 (lay a3 - 1000)
        (seqi ((((10 : Int32) * u1) + (h2 a3 (ix v4))) - (48 : Int32)) (fun v5 =>
        (seqh (upm h2 k0 4 ((h2 k0 4) + (1 : Int32))) (fun h6 =>
        (F_X4_readNumber_4 N k0 kt n v5 (u2 + 1) h6))))))))))))))
set_option maxRecDepth 10000 in
set_option maxHeartbeats 1000000 in
theorem okL_X4_readNumber_4 {l : Launch} {ω : WX} {χ : KT} {d : Nat} (K : Kok ω χ "SaltClouds$TextReader" cX4_readNumber 3 none d) (hd : 2 ≤ d) (N : Nat) {k0 : Nat} (hk0 : lay k0 = 4) {kt : Int32 → Mem → Option (Unit × Mem)} (hK : ∀ (u1 : Int32) (h : Mem), J (ZM rvV ω χ) l ω χ 50 3 [(0, .ref (ω.1 + k0)), (1, .int u1)] [] h (kt u1 h)) : ∀ (n : Nat) (u1 : Int32) (u2 : Int32) (h : Mem), J (ZM rvV ω χ) l ω χ 4 3 [(0, .ref (ω.1 + k0)), (1, .int u1), (2, .int u2)] [] h (F_X4_readNumber_4 N k0 kt n u1 u2 h) := by
  intro n
  induction n with
  | zero =>
    intro u1 u2 h
    exact J_none rfl
  | succ n ih =>
    intro u1 u2 h
    rw [F_X4_readNumber_4]
    refine J_iload_n (pc := 4) K dX4_readNumber_4 2 rfl 2 rfl ?_
    refine J_iconst (pc := 5) K (4) dX4_readNumber_5 (by decide) ?_
    refine J_icmp_ge (pc := 6) K 50 dX4_readNumber_6 (by decide) ?_ ?_
    · refine J_lv [0, 1] [(0, .ref (ω.1 + k0)), (1, .int u1)] rfl ?_
      exact hK u1 h
    · refine J_aload_n (pc := 9) K dX4_readNumber_9 0 rfl 0 rfl ?_
      refine J_callVI (As := []) (rest := []) (pc := 10) K cs_SaltClouds_TextReader_94 (ok_X4_isDigitNext l ω hk0 h) hk0 (by omega) rfl rfl (Nat.le_of_ble_eq_true rfl) dX4_readNumber_10 (fun r1 h2 => ?_)
      refine J_if_eq (pc := 13) K 50 dX4_readNumber_13 (by decide) ?_ ?_
      · refine J_lv [0, 1] [(0, .ref (ω.1 + k0)), (1, .int u1)] rfl ?_
        exact hK u1 h2
      · refine J_bipush (pc := 16) K (10) dX4_readNumber_16 (by decide) ?_
        refine J_iload_n (pc := 18) K dX4_readNumber_18 1 rfl 1 rfl ?_
        refine J_imul (pc := 19) K dX4_readNumber_19 ?_
        refine J_aload_n (pc := 20) K dX4_readNumber_20 0 rfl 0 rfl ?_
        refine J_getA (pc := 21) K gf_SaltClouds_TextReader_18 hk0 rfl dX4_readNumber_21 (fun a3 ha3 => ?_)
        refine J_aload_n (pc := 24) K dX4_readNumber_24 0 rfl 0 rfl ?_
        refine J_getI (pc := 25) K gf_SaltClouds_TextReader_32 hk0 rfl dX4_readNumber_25 ?_
        refine J_topi (fun v4 => ?_)
        refine J_iald (pc := 28) K (a := a3) (n := (lay a3 - 1000)) ha3 dX4_readNumber_28 ?_
        refine J_iadd (pc := 29) K dX4_readNumber_29 ?_
        refine J_bipush (pc := 30) K (48) dX4_readNumber_30 (by decide) ?_
        refine J_isub (pc := 32) K dX4_readNumber_32 ?_
        refine J_topi (fun v5 => ?_)
        refine J_istore_n (pc := 33) K dX4_readNumber_33 1 rfl (by decide) [(1, .int v5), (0, .ref (ω.1 + k0)), (2, .int u2)] rfl ?_
        refine J_aload_n (pc := 34) K dX4_readNumber_34 0 rfl 1 rfl ?_
        refine J_dup (pc := 35) K dX4_readNumber_35 rfl ?_
        refine J_getI (pc := 36) K gf_SaltClouds_TextReader_32 hk0 rfl dX4_readNumber_36 ?_
        refine J_iconst (pc := 39) K (1) dX4_readNumber_39 (by decide) ?_
        refine J_iadd (pc := 40) K dX4_readNumber_40 ?_
        refine J_putI (pc := 41) K gf_SaltClouds_TextReader_32 hk0 (by decide) rfl dX4_readNumber_41 (fun h6 => ?_)
        refine J_iinc (pc := 44) K (1) dX4_readNumber_44 2 rfl (by decide) (by decide) [(2, .int (u2 + 1)), (1, .int v5), (0, .ref (ω.1 + k0))] rfl ?_
        refine J_goto (pc := 47) K 4 dX4_readNumber_47 (by decide) ?_
        refine J_lv [2, 1, 0] [(0, .ref (ω.1 + k0)), (1, .int v5), (2, .int (u2 + 1))] rfl ?_
        exact ih v5 (u2 + 1) h6
def F_X4_readNumber (N : Nat) (k0 : Nat) (h : Mem) : Option (Unit × Mem) :=
  (F_X4_readNumber_4 N k0 (fun (v7 : Int32) (h8 : Mem) =>
    (bnd (F_X3_add (k0 + 1) v7 h8) (fun _ h10 =>
    (some ((), h10))))) N (0 : Int32) (0 : Int32) h)
set_option maxRecDepth 10000 in
set_option maxHeartbeats 1000000 in
theorem ok_X4_readNumber (l : Launch) (ω : WX) (N : Nat) {k0 : Nat} (hk0 : lay k0 = 4) (h : Mem) : MC rvV l ω yX4_readNumber cX4_readNumber 3 none 2 [.ref (ω.1 + k0)] h (F_X4_readNumber N k0 h) := by
  refine MC.of (by decide +kernel) [(0, .ref (ω.1 + k0))] rfl (Nat.le_of_ble_eq_true rfl) (fun χ K => ?_)
  have K : Kok ω χ "SaltClouds$TextReader" cX4_readNumber 3 none 2 := K
  unfold F_X4_readNumber
  refine J_iconst (pc := 0) K (0) dX4_readNumber_0 (by decide) ?_
  refine J_istore_n (pc := 1) K dX4_readNumber_1 1 rfl (by decide) [(1, .int (0 : Int32)), (0, .ref (ω.1 + k0))] rfl ?_
  refine J_iconst (pc := 2) K (0) dX4_readNumber_2 (by decide) ?_
  refine J_istore_n (pc := 3) K dX4_readNumber_3 2 rfl (by decide) [(2, .int (0 : Int32)), (1, .int (0 : Int32)), (0, .ref (ω.1 + k0))] rfl ?_
  refine J_lv [2, 1, 0] [(0, .ref (ω.1 + k0)), (1, .int (0 : Int32)), (2, .int (0 : Int32))] rfl ?_
  refine okL_X4_readNumber_4 K  (by decide) N hk0 (fun v7 h8 => ?_) _ _ _ _
  refine J_aload_n (pc := 50) K dX4_readNumber_50 0 rfl 0 rfl ?_
  refine J_getR (pc := 51) K gf_SaltClouds_TextReader_12 hk0 1 rfl dX4_readNumber_51 ?_
  refine J_iload_n (pc := 54) K dX4_readNumber_54 1 rfl 1 rfl ?_
  refine J_callVU (As := [.int v7]) (rest := []) (pc := 55) K cs_SaltClouds_TextReader_71 (ok_X3_add l ω (ty_4_1 hk0) v7 h8) (ty_4_1 hk0) (by decide) rfl rfl (Nat.le_of_ble_eq_true rfl) dX4_readNumber_55 (fun _ h10 => ?_)
  exact J_vret (pc := 58) K dX4_readNumber_58
def F_X4_stop (k0 : Nat) (h : Mem) : Option (Unit × Mem) :=
  (if 0 ≤ (h k0 5) then
    (some ((), h))
  else
    (seqh (upm h k0 5 (h k0 4)) (fun h1 =>
    (some ((), h1)))))
set_option maxRecDepth 10000 in
set_option maxHeartbeats 1000000 in
theorem ok_X4_stop (l : Launch) (ω : WX) {k0 : Nat} (hk0 : lay k0 = 4) (h : Mem) : MC rvV l ω yX4_stop cX4_stop 1 none 0 [.ref (ω.1 + k0)] h (F_X4_stop k0 h) := by
  refine MC.of (by decide +kernel) [(0, .ref (ω.1 + k0))] rfl (Nat.le_of_ble_eq_true rfl) (fun χ K => ?_)
  have K : Kok ω χ "SaltClouds$TextReader" cX4_stop 1 none 0 := K
  unfold F_X4_stop
  refine J_aload_n (pc := 0) K dX4_stop_0 0 rfl 0 rfl ?_
  refine J_getI (pc := 1) K gf_SaltClouds_TextReader_35 hk0 rfl dX4_stop_1 ?_
  refine J_if_ge (pc := 4) K 15 dX4_stop_4 (by decide) ?_ ?_
  · exact J_vret (pc := 15) K dX4_stop_15
  · refine J_aload_n (pc := 7) K dX4_stop_7 0 rfl 0 rfl ?_
    refine J_aload_n (pc := 8) K dX4_stop_8 0 rfl 0 rfl ?_
    refine J_getI (pc := 9) K gf_SaltClouds_TextReader_32 hk0 rfl dX4_stop_9 ?_
    refine J_putI (pc := 12) K gf_SaltClouds_TextReader_35 hk0 (by decide) rfl dX4_stop_12 (fun h1 => ?_)
    exact J_vret (pc := 15) K dX4_stop_15
def F_X4_readQ (N : Nat) : Nat → Nat → Int32 → Mem → Option (Unit × Mem)
  | 0, _, _, _ => none
  | n + 1, k0, x1, h =>
    (bnd (F_X4_isDigitNext k0 h) (fun r1 h2 =>
    (if r1 = 0 then
      (gst (h2 k0 3) (fun i3 =>
      (bnd (F_X4_takeOneOf N k0 i3 h2) (fun r4 h5 =>
      (if r4 = 0 then
        (jn (fun (s7 : Int32) (h8 : Mem) =>
          (if s7 = (33 : Int32) then
            (bnd (F_X4_readQ N n k0 (x1 + (1 : Int32)) h8) (fun _ h10 =>
            (bnd (F_X3_add (k0 + 1) (-33 : Int32) h10) (fun _ h12 =>
            (some ((), h12))))))
          else
            (if s7 = (40 : Int32) then
              (bnd (F_X4_readT (F_X4_readQ N n) N k0 (x1 + (1 : Int32)) h8) (fun _ h14 =>
              (bnd (F_X4_takeOneOf N k0 4 h14) (fun r15 h16 =>
              (if r15 = 0 then
                (bnd (F_X4_stop k0 h16) (fun _ h18 =>
                (some ((), h18))))
              else
                (some ((), h16)))))))
            else
              (bnd (F_X4_stop k0 h8) (fun _ h20 =>
              (some ((), h20))))))) (fun j6 =>
          (if (5 : Int32) ≤ x1 then
            (j6 (0 : Int32) h5)
          else
            (bnd (F_X4_takeOneOf N k0 3 h5) (fun r21 h22 =>
            (j6 r21 h22))))))
      else
        (gst (h5 k0 3) (fun i23 =>
        (bnd (F_J0_indexOf_0f7a4 N i23 (i2c r4) h5) (fun r24 h25 =>
        (bnd (F_X3_add (k0 + 1) ((-1 : Int32) - r24) h25) (fun _ h27 =>
        (some ((), h27)))))))))))))
    else
      (bnd (F_X4_readNumber N k0 h2) (fun _ h29 =>
      (some ((), h29)))))))
set_option maxRecDepth 10000 in
set_option maxHeartbeats 1000000 in
theorem ok_X4_readQ (l : Launch) (ω : WX) (N : Nat) : ∀ (n : Nat) {k0 : Nat} (hk0 : lay k0 = 4) (x1 : Int32) (h : Mem), MC rvV l ω yX4_readQ cX4_readQ 4 none (5 + 10 * n) [.ref (ω.1 + k0), .int x1] h (F_X4_readQ N n k0 x1 h) := by
  intro n
  induction n with
  | zero =>
    intro k0 hk0 x1 h r h1 e
    cases e
  | succ n ih =>
    intro k0 hk0 x1 h
    rw [F_X4_readQ]
    refine MC.of (by decide +kernel) [(0, .ref (ω.1 + k0)), (1, .int x1)] rfl (Nat.le_of_ble_eq_true rfl) (fun χ K => ?_)
    have K : Kok ω χ "SaltClouds$TextReader" cX4_readQ 4 none (5 + 10 * (n + 1)) := K
    refine J_aload_n (pc := 0) K dX4_readQ_0 0 rfl 0 rfl ?_
    refine J_callVI (As := []) (rest := []) (pc := 1) K cs_SaltClouds_TextReader_94 (ok_X4_isDigitNext l ω hk0 h) hk0 (by omega) rfl rfl (Nat.le_of_ble_eq_true rfl) dX4_readQ_1 (fun r1 h2 => ?_)
    refine J_if_eq (pc := 4) K 12 dX4_readQ_4 (by decide) ?_ ?_
    · refine J_aload_n (pc := 12) K dX4_readQ_12 0 rfl 0 rfl ?_
      refine J_aload_n (pc := 13) K dX4_readQ_13 0 rfl 0 rfl ?_
      refine J_getS (pc := 14) K gf_SaltClouds_TextReader_28 hk0 rfl dX4_readQ_14 (fun i3 hi3 => ?_)
      refine J_callVI (As := [.ref (ω.2.2.2.1 i3)]) (rest := []) (pc := 17) K cs_SaltClouds_TextReader_67 (ok_X4_takeOneOf l ω N hk0 (k1 := i3) hi3 h2) hk0 (by omega) rfl rfl (Nat.le_of_ble_eq_true rfl) dX4_readQ_17 (fun r4 h5 => ?_)
      refine J_istore_n (pc := 20) K dX4_readQ_20 2 rfl (by decide) [(2, .int r4), (0, .ref (ω.1 + k0)), (1, .int x1)] rfl ?_
      refine J_iload_n (pc := 21) K dX4_readQ_21 2 rfl 0 rfl ?_
      refine J_if_eq (pc := 22) K 44 dX4_readQ_22 (by decide) ?_ ?_
      · refine J_iload_n (pc := 44) K dX4_readQ_44 1 rfl 2 rfl ?_
        refine J_iconst (pc := 45) K (5) dX4_readQ_45 (by decide) ?_
        refine J_jn (fun j6 => ∀ (s7 : Int32) (h8 : Mem), J (ZM rvV ω χ) l ω χ 59 4 [(0, .ref (ω.1 + k0)), (1, .int x1)] [.int s7] h8 (j6 s7 h8)) ?_ ?_
        · intro s7 h8
          refine J_istore_n (pc := 59) K dX4_readQ_59 3 rfl (by decide) [(3, .int s7), (0, .ref (ω.1 + k0)), (1, .int x1)] rfl ?_
          refine J_iload_n (pc := 60) K dX4_readQ_60 3 rfl 0 rfl ?_
          refine J_bipush (pc := 61) K (33) dX4_readQ_61 (by decide) ?_
          refine J_icmp_ne (pc := 63) K 85 dX4_readQ_63 (by decide) ?_ ?_
          · refine J_aload_n (pc := 66) K dX4_readQ_66 0 rfl 1 rfl ?_
            refine J_iload_n (pc := 67) K dX4_readQ_67 1 rfl 2 rfl ?_
            refine J_iconst (pc := 68) K (1) dX4_readQ_68 (by decide) ?_
            refine J_iadd (pc := 69) K dX4_readQ_69 ?_
            refine J_callVU (As := [.int (x1 + (1 : Int32))]) (rest := []) (pc := 70) K cs_SaltClouds_TextReader_89 (ih hk0 (x1 + (1 : Int32)) h8) hk0 (by omega) rfl rfl (Nat.le_of_ble_eq_true rfl) dX4_readQ_70 (fun _ h10 => ?_)
            refine J_aload_n (pc := 73) K dX4_readQ_73 0 rfl 1 rfl ?_
            refine J_getR (pc := 74) K gf_SaltClouds_TextReader_12 hk0 1 rfl dX4_readQ_74 ?_
            refine J_bipush (pc := 77) K (-33) dX4_readQ_77 (by decide) ?_
            refine J_callVU (As := [.int (-33 : Int32)]) (rest := []) (pc := 79) K cs_SaltClouds_TextReader_71 (ok_X3_add l ω (ty_4_1 hk0) (-33 : Int32) h10) (ty_4_1 hk0) (by omega) rfl rfl (Nat.le_of_ble_eq_true rfl) dX4_readQ_79 (fun _ h12 => ?_)
            refine J_goto (pc := 82) K 118 dX4_readQ_82 (by decide) ?_
            exact J_vret (pc := 118) K dX4_readQ_118
          · refine J_iload_n (pc := 85) K dX4_readQ_85 3 rfl 0 rfl ?_
            refine J_bipush (pc := 86) K (40) dX4_readQ_86 (by decide) ?_
            refine J_icmp_ne (pc := 88) K 114 dX4_readQ_88 (by decide) ?_ ?_
            · refine J_aload_n (pc := 91) K dX4_readQ_91 0 rfl 1 rfl ?_
              refine J_iload_n (pc := 92) K dX4_readQ_92 1 rfl 2 rfl ?_
              refine J_iconst (pc := 93) K (1) dX4_readQ_93 (by decide) ?_
              refine J_iadd (pc := 94) K dX4_readQ_94 ?_
              refine J_callVU (As := [.int (x1 + (1 : Int32))]) (rest := []) (pc := 95) K cs_SaltClouds_TextReader_51 (ok_X4_readT l ω ih N hk0 (x1 + (1 : Int32)) h8) hk0 (by omega) rfl rfl (Nat.le_of_ble_eq_true rfl) dX4_readQ_95 (fun _ h14 => ?_)
              refine J_aload_n (pc := 98) K dX4_readQ_98 0 rfl 1 rfl ?_
              refine J_ldcS (pc := 99) K 4 (by decide) ")" rfl dX4_readQ_99 ?_
              refine J_callVI (As := [.ref (ω.2.2.2.1 4)]) (rest := []) (pc := 101) K cs_SaltClouds_TextReader_67 (ok_X4_takeOneOf l ω N hk0 (k1 := 4) (by decide) h14) hk0 (by omega) rfl rfl (Nat.le_of_ble_eq_true rfl) dX4_readQ_101 (fun r15 h16 => ?_)
              refine J_if_ne (pc := 104) K 118 dX4_readQ_104 (by decide) ?_ ?_
              · refine J_aload_n (pc := 107) K dX4_readQ_107 0 rfl 1 rfl ?_
                refine J_callVU (As := []) (rest := []) (pc := 108) K cs_SaltClouds_TextReader_55 (ok_X4_stop l ω hk0 h16) hk0 (by omega) rfl rfl (Nat.le_of_ble_eq_true rfl) dX4_readQ_108 (fun _ h18 => ?_)
                refine J_goto (pc := 111) K 118 dX4_readQ_111 (by decide) ?_
                exact J_vret (pc := 118) K dX4_readQ_118
              · exact J_vret (pc := 118) K dX4_readQ_118
            · refine J_aload_n (pc := 114) K dX4_readQ_114 0 rfl 1 rfl ?_
              refine J_callVU (As := []) (rest := []) (pc := 115) K cs_SaltClouds_TextReader_55 (ok_X4_stop l ω hk0 h8) hk0 (by omega) rfl rfl (Nat.le_of_ble_eq_true rfl) dX4_readQ_115 (fun _ h20 => ?_)
              exact J_vret (pc := 118) K dX4_readQ_118
        · intro j6 hj6
          refine J_icmp_ge (pc := 46) K 58 dX4_readQ_46 (by decide) ?_ ?_
          · refine J_iconst (pc := 58) K (0) dX4_readQ_58 (by decide) ?_
            refine J_lv [1, 2] [(0, .ref (ω.1 + k0)), (1, .int x1)] rfl ?_
            exact hj6 (0 : Int32) h5
          · refine J_aload_n (pc := 49) K dX4_readQ_49 0 rfl 1 rfl ?_
            refine J_ldcS (pc := 50) K 3 (by decide) "!(" rfl dX4_readQ_50 ?_
            refine J_callVI (As := [.ref (ω.2.2.2.1 3)]) (rest := []) (pc := 52) K cs_SaltClouds_TextReader_67 (ok_X4_takeOneOf l ω N hk0 (k1 := 3) (by decide) h5) hk0 (by omega) rfl rfl (Nat.le_of_ble_eq_true rfl) dX4_readQ_52 (fun r21 h22 => ?_)
            refine J_goto (pc := 55) K 59 dX4_readQ_55 (by decide) ?_
            refine J_lv [1, 2] [(0, .ref (ω.1 + k0)), (1, .int x1)] rfl ?_
            exact hj6 r21 h22
      · refine J_aload_n (pc := 25) K dX4_readQ_25 0 rfl 1 rfl ?_
        refine J_getR (pc := 26) K gf_SaltClouds_TextReader_12 hk0 1 rfl dX4_readQ_26 ?_
        refine J_iconst (pc := 29) K (-1) dX4_readQ_29 (by decide) ?_
        refine J_aload_n (pc := 30) K dX4_readQ_30 0 rfl 1 rfl ?_
        refine J_getS (pc := 31) K gf_SaltClouds_TextReader_28 hk0 rfl dX4_readQ_31 (fun i23 hi23 => ?_)
        refine J_iload_n (pc := 34) K dX4_readQ_34 2 rfl 0 rfl ?_
        refine J_i2c (pc := 35) K dX4_readQ_35 ?_
        refine J_callVsI (As := [.int (i2c r4)]) (rest := [.int (-1 : Int32), .ref (ω.1 + (k0 + 1))]) (pc := 36) K cs_SaltClouds_TextReader_101 (ok_J0_indexOf_0f7a4 l ω N (k0 := i23) hi23 (i2c r4) h5) hi23 (by omega) rfl rfl (Nat.le_of_ble_eq_true rfl) dX4_readQ_36 (fun r24 h25 => ?_)
        refine J_isub (pc := 39) K dX4_readQ_39 ?_
        refine J_callVU (As := [.int ((-1 : Int32) - r24)]) (rest := []) (pc := 40) K cs_SaltClouds_TextReader_71 (ok_X3_add l ω (ty_4_1 hk0) ((-1 : Int32) - r24) h25) (ty_4_1 hk0) (by omega) rfl rfl (Nat.le_of_ble_eq_true rfl) dX4_readQ_40 (fun _ h27 => ?_)
        exact J_vret (pc := 43) K dX4_readQ_43
    · refine J_aload_n (pc := 7) K dX4_readQ_7 0 rfl 0 rfl ?_
      refine J_callVU (As := []) (rest := []) (pc := 8) K cs_SaltClouds_TextReader_98 (ok_X4_readNumber l ω N hk0 h2) hk0 (by omega) rfl rfl (Nat.le_of_ble_eq_true rfl) dX4_readQ_8 (fun _ h29 => ?_)
      exact J_vret (pc := 11) K dX4_readQ_11
