/-! methods, by program: X7_walks, X7_lawOf, X7_nameOf, X7_isNobody, X7_windNow, X7_heightOf, X7_ofCloud, X7_become, X7_above, X7_as, X7_set, X7_hill, X7_wind, X7_join, X7_part, X7_law, X7_feed, X7_text, X7_rain -/
def F_X7_walks (N : Nat) (k0 : Nat) (x1 : Int32) (x2 : Int32) (x3 : Int32) (x4 : Int32) (h : Mem) : Option (Int32 × Mem) :=
  (seqh (upm h k0 7 x1) (fun h1 =>
  (seqh (upm h1 k0 8 (0 : Int32)) (fun h2 =>
  (seqi ((6 : Int32) + x1) (fun v3 =>
  (gin v3 262
  (seqh (upm h2 k0 9 (h2 (k0 + 1) (ix v3))) (fun h4 =>
  (seqh (upm h4 k0 10 (0 : Int32)) (fun h5 =>
  (seqh (upm h5 k0 14 (1 : Int32)) (fun h6 =>
  (seqh (upm h6 k0 11 x2) (fun h7 =>
  (seqh (upm h7 k0 12 x3) (fun h8 =>
  (seqh (upm h8 k0 13 x4) (fun h9 =>
  (bnd (F_X7_whole (F_X7_factor N 7) N k0 h9) (fun r10 h11 =>
  (if (h11 k0 14) = 0 then
    (seqh (upm h11 k0 14 (0 : Int32)) (fun h12 =>
    (some (r10, h12))))
  else
    (if (h11 k0 8) = (h11 k0 9) then
      (seqh (upm h11 k0 14 (1 : Int32)) (fun h13 =>
      (some (r10, h13))))
    else
      (seqh (upm h11 k0 14 (0 : Int32)) (fun h14 =>
      (some (r10, h14)))))))))))))))))))))))))))
set_option maxRecDepth 10000 in
set_option maxHeartbeats 1000000 in
theorem ok_X7_walks (l : Launch) (ω : WX) (N : Nat) {k0 : Nat} (hk0 : lay k0 = 7) (x1 : Int32) (x2 : Int32) (x3 : Int32) (x4 : Int32) (h : Mem) : MC rvI l ω yX7_walks cX7_walks 6 (some .int) 51 [.ref (ω.1 + k0), .int x1, .int x2, .int x3, .int x4] h (F_X7_walks N k0 x1 x2 x3 x4 h) := by
  refine MC.of (by decide +kernel) [(0, .ref (ω.1 + k0)), (1, .int x1), (2, .int x2), (3, .int x3), (4, .int x4)] rfl (Nat.le_of_ble_eq_true rfl) (fun χ K => ?_)
  have K : Kok ω χ "SaltCloudsModel" cX7_walks 6 (some .int) 51 := K
  unfold F_X7_walks
  refine J_aload_n (pc := 0) K dX7_walks_0 0 rfl 0 rfl ?_
  refine J_iload_n (pc := 1) K dX7_walks_1 1 rfl 1 rfl ?_
  refine J_putI (pc := 2) K gf_SaltCloudsModel_108 hk0 (by decide) rfl dX7_walks_2 (fun h1 => ?_)
  refine J_aload_n (pc := 5) K dX7_walks_5 0 rfl 0 rfl ?_
  refine J_iconst (pc := 6) K (0) dX7_walks_6 (by decide) ?_
  refine J_putI (pc := 7) K gf_SaltCloudsModel_115 hk0 (by decide) rfl dX7_walks_7 (fun h2 => ?_)
  refine J_aload_n (pc := 10) K dX7_walks_10 0 rfl 0 rfl ?_
  refine J_aload_n (pc := 11) K dX7_walks_11 0 rfl 0 rfl ?_
  refine J_getR (pc := 12) K gf_SaltCloudsModel_7 hk0 1 rfl dX7_walks_12 ?_
  refine J_bipush (pc := 15) K (6) dX7_walks_15 (by decide) ?_
  refine J_iload_n (pc := 17) K dX7_walks_17 1 rfl 1 rfl ?_
  refine J_iadd (pc := 18) K dX7_walks_18 ?_
  refine J_topi (fun v3 => ?_)
  refine J_iald (pc := 19) K (a := k0 + 1) (n := 262) (ty_7_1 hk0) dX7_walks_19 ?_
  refine J_putI (pc := 20) K gf_SaltCloudsModel_104 hk0 (by decide) rfl dX7_walks_20 (fun h4 => ?_)
  refine J_aload_n (pc := 23) K dX7_walks_23 0 rfl 0 rfl ?_
  refine J_iconst (pc := 24) K (0) dX7_walks_24 (by decide) ?_
  refine J_putI (pc := 25) K gf_SaltCloudsModel_142 hk0 (by decide) rfl dX7_walks_25 (fun h5 => ?_)
  refine J_aload_n (pc := 28) K dX7_walks_28 0 rfl 0 rfl ?_
  refine J_iconst (pc := 29) K (1) dX7_walks_29 (by decide) ?_
  refine J_putZc (pc := 30) K (Or.inr rfl) gf_SaltCloudsModel_111 hk0 (by decide) rfl dX7_walks_30 (fun h6 => ?_)
  refine J_aload_n (pc := 33) K dX7_walks_33 0 rfl 0 rfl ?_
  refine J_iload_n (pc := 34) K dX7_walks_34 2 rfl 2 rfl ?_
  refine J_putI (pc := 35) K gf_SaltCloudsModel_127 hk0 (by decide) rfl dX7_walks_35 (fun h7 => ?_)
  refine J_aload_n (pc := 38) K dX7_walks_38 0 rfl 0 rfl ?_
  refine J_iload_n (pc := 39) K dX7_walks_39 3 rfl 3 rfl ?_
  refine J_putI (pc := 40) K gf_SaltCloudsModel_130 hk0 (by decide) rfl dX7_walks_40 (fun h8 => ?_)
  refine J_aload_n (pc := 43) K dX7_walks_43 0 rfl 0 rfl ?_
  refine J_iload (pc := 44) K dX7_walks_44 4 rfl ?_
  refine J_putI (pc := 46) K gf_SaltCloudsModel_133 hk0 (by decide) rfl dX7_walks_46 (fun h9 => ?_)
  refine J_aload_n (pc := 49) K dX7_walks_49 0 rfl 0 rfl ?_
  refine J_callVI (As := []) (rest := []) (pc := 50) K cs_SaltCloudsModel_148 (ok_X7_whole l ω (ok_X7_factor l ω N 7) N hk0 h9) hk0 (by decide) rfl rfl (Nat.le_of_ble_eq_true rfl) dX7_walks_50 (fun r10 h11 => ?_)
  refine J_istore (pc := 53) K dX7_walks_53 (by decide) [(5, .int r10), (0, .ref (ω.1 + k0)), (1, .int x1), (2, .int x2), (3, .int x3), (4, .int x4)] rfl ?_
  refine J_aload_n (pc := 55) K dX7_walks_55 0 rfl 1 rfl ?_
  refine J_aload_n (pc := 56) K dX7_walks_56 0 rfl 1 rfl ?_
  refine J_getI (pc := 57) K gf_SaltCloudsModel_111 hk0 rfl dX7_walks_57 ?_
  refine J_if_eq (pc := 60) K 78 dX7_walks_60 (by decide) ?_ ?_
  · refine J_iconst (pc := 78) K (0) dX7_walks_78 (by decide) ?_
    refine J_putZc (pc := 79) K (Or.inl rfl) gf_SaltCloudsModel_111 hk0 (by decide) rfl dX7_walks_79 (fun h12 => ?_)
    refine J_iload (pc := 82) K dX7_walks_82 0 rfl ?_
    exact J_iret (pc := 84) K dX7_walks_84
  · refine J_aload_n (pc := 63) K dX7_walks_63 0 rfl 1 rfl ?_
    refine J_getI (pc := 64) K gf_SaltCloudsModel_115 hk0 rfl dX7_walks_64 ?_
    refine J_aload_n (pc := 67) K dX7_walks_67 0 rfl 1 rfl ?_
    refine J_getI (pc := 68) K gf_SaltCloudsModel_104 hk0 rfl dX7_walks_68 ?_
    refine J_icmp_ne (pc := 71) K 78 dX7_walks_71 (by decide) ?_ ?_
    · refine J_iconst (pc := 74) K (1) dX7_walks_74 (by decide) ?_
      refine J_goto (pc := 75) K 79 dX7_walks_75 (by decide) ?_
      refine J_putZc (pc := 79) K (Or.inr rfl) gf_SaltCloudsModel_111 hk0 (by decide) rfl dX7_walks_79 (fun h13 => ?_)
      refine J_iload (pc := 82) K dX7_walks_82 0 rfl ?_
      exact J_iret (pc := 84) K dX7_walks_84
    · refine J_iconst (pc := 78) K (0) dX7_walks_78 (by decide) ?_
      refine J_putZc (pc := 79) K (Or.inl rfl) gf_SaltCloudsModel_111 hk0 (by decide) rfl dX7_walks_79 (fun h14 => ?_)
      refine J_iload (pc := 82) K dX7_walks_82 0 rfl ?_
      exact J_iret (pc := 84) K dX7_walks_84
def F_X7_lawOf (N : Nat) (k0 : Nat) (x1 : Int32) (x2 : Int32) (x3 : Int32) (x4 : Int32) (h : Mem) : Option (Int32 × Mem) :=
  (seqi ((6 : Int32) + x1) (fun v1 =>
  (gin v1 262
  (if 0 ≤ (h (k0 + 1) (ix v1)) then
    (bnd (F_X7_walks N k0 x1 x2 x3 x4 h) (fun r2 h3 =>
    (if x1 = 0 then
      (some (r2, h3))
    else
      (bnd (F_X7_held r2 (0 : Int32) (99 : Int32) h3) (fun r4 h5 =>
      (some (r4, h5)))))))
  else
    (if x1 = 0 then
      (gnz (10 : Int32)
      (some (x2 / (10 : Int32), h)))
    else
      (jn (fun (s7 : Int32) (h8 : Mem) =>
        (gnz (9 : Int32)
        (bnd (F_X7_held (irm (s7 * (x2 - x3)) (9 : Int32)) (0 : Int32) (99 : Int32) h8) (fun r9 h10 =>
        (some (r9, h10)))))) (fun j6 =>
        (if x2 ≤ x3 then
          (j6 (0 : Int32) h)
        else
          (j6 (1 : Int32) h)))))))))
set_option maxRecDepth 10000 in
set_option maxHeartbeats 1000000 in
theorem ok_X7_lawOf (l : Launch) (ω : WX) (N : Nat) {k0 : Nat} (hk0 : lay k0 = 7) (x1 : Int32) (x2 : Int32) (x3 : Int32) (x4 : Int32) (h : Mem) : MC rvI l ω yX7_lawOf cX7_lawOf 6 (some .int) 52 [.ref (ω.1 + k0), .int x1, .int x2, .int x3, .int x4] h (F_X7_lawOf N k0 x1 x2 x3 x4 h) := by
  refine MC.of (by decide +kernel) [(0, .ref (ω.1 + k0)), (1, .int x1), (2, .int x2), (3, .int x3), (4, .int x4)] rfl (Nat.le_of_ble_eq_true rfl) (fun χ K => ?_)
  have K : Kok ω χ "SaltCloudsModel" cX7_lawOf 6 (some .int) 52 := K
  unfold F_X7_lawOf
  refine J_aload_n (pc := 0) K dX7_lawOf_0 0 rfl 0 rfl ?_
  refine J_getR (pc := 1) K gf_SaltCloudsModel_7 hk0 1 rfl dX7_lawOf_1 ?_
  refine J_bipush (pc := 4) K (6) dX7_lawOf_4 (by decide) ?_
  refine J_iload_n (pc := 6) K dX7_lawOf_6 1 rfl 1 rfl ?_
  refine J_iadd (pc := 7) K dX7_lawOf_7 ?_
  refine J_topi (fun v1 => ?_)
  refine J_iald (pc := 8) K (a := k0 + 1) (n := 262) (ty_7_1 hk0) dX7_lawOf_8 ?_
  refine J_if_ge (pc := 9) K 47 dX7_lawOf_9 (by decide) ?_ ?_
  · refine J_aload_n (pc := 47) K dX7_lawOf_47 0 rfl 0 rfl ?_
    refine J_iload_n (pc := 48) K dX7_lawOf_48 1 rfl 1 rfl ?_
    refine J_iload_n (pc := 49) K dX7_lawOf_49 2 rfl 2 rfl ?_
    refine J_iload_n (pc := 50) K dX7_lawOf_50 3 rfl 3 rfl ?_
    refine J_iload (pc := 51) K dX7_lawOf_51 4 rfl ?_
    refine J_callVI (As := [.int x1, .int x2, .int x3, .int x4]) (rest := []) (pc := 53) K cs_SaltCloudsModel_163 (ok_X7_walks l ω N hk0 x1 x2 x3 x4 h) hk0 (by decide) rfl rfl (Nat.le_of_ble_eq_true rfl) dX7_lawOf_53 (fun r2 h3 => ?_)
    refine J_istore (pc := 56) K dX7_lawOf_56 (by decide) [(5, .int r2), (0, .ref (ω.1 + k0)), (1, .int x1), (2, .int x2), (3, .int x3), (4, .int x4)] rfl ?_
    refine J_iload_n (pc := 58) K dX7_lawOf_58 1 rfl 2 rfl ?_
    refine J_if_ne (pc := 59) K 67 dX7_lawOf_59 (by decide) ?_ ?_
    · refine J_iload (pc := 62) K dX7_lawOf_62 0 rfl ?_
      refine J_goto (pc := 64) K 75 dX7_lawOf_64 (by decide) ?_
      exact J_iret (pc := 75) K dX7_lawOf_75
    · refine J_iload (pc := 67) K dX7_lawOf_67 0 rfl ?_
      refine J_iconst (pc := 69) K (0) dX7_lawOf_69 (by decide) ?_
      refine J_bipush (pc := 70) K (99) dX7_lawOf_70 (by decide) ?_
      refine J_callTI (As := [.int r2, .int (0 : Int32), .int (99 : Int32)]) (rest := []) (pc := 72) K cs_SaltCloudsModel_63 (ok_X7_held l ω r2 (0 : Int32) (99 : Int32) h3) (by decide) rfl rfl (Nat.le_of_ble_eq_true rfl) dX7_lawOf_72 (fun r4 h5 => ?_)
      exact J_iret (pc := 75) K dX7_lawOf_75
  · refine J_iload_n (pc := 12) K dX7_lawOf_12 1 rfl 1 rfl ?_
    refine J_if_ne (pc := 13) K 23 dX7_lawOf_13 (by decide) ?_ ?_
    · refine J_iload_n (pc := 16) K dX7_lawOf_16 2 rfl 2 rfl ?_
      refine J_bipush (pc := 17) K (10) dX7_lawOf_17 (by decide) ?_
      refine J_idiv (pc := 19) K dX7_lawOf_19 ?_
      refine J_goto (pc := 20) K 46 dX7_lawOf_20 (by decide) ?_
      exact J_iret (pc := 46) K dX7_lawOf_46
    · refine J_iload_n (pc := 23) K dX7_lawOf_23 2 rfl 2 rfl ?_
      refine J_iload_n (pc := 24) K dX7_lawOf_24 3 rfl 3 rfl ?_
      refine J_jn (fun j6 => ∀ (s7 : Int32) (h8 : Mem), J (ZM rvI ω χ) l ω χ 33 6 [(2, .int x2), (3, .int x3)] [.int s7] h8 (j6 s7 h8)) ?_ ?_
      · intro s7 h8
        refine J_iload_n (pc := 33) K dX7_lawOf_33 2 rfl 0 rfl ?_
        refine J_iload_n (pc := 34) K dX7_lawOf_34 3 rfl 1 rfl ?_
        refine J_isub (pc := 35) K dX7_lawOf_35 ?_
        refine J_imul (pc := 36) K dX7_lawOf_36 ?_
        refine J_bipush (pc := 37) K (9) dX7_lawOf_37 (by decide) ?_
        refine J_irem (pc := 39) K dX7_lawOf_39 ?_
        refine J_iconst (pc := 40) K (0) dX7_lawOf_40 (by decide) ?_
        refine J_bipush (pc := 41) K (99) dX7_lawOf_41 (by decide) ?_
        refine J_callTI (As := [.int (irm (s7 * (x2 - x3)) (9 : Int32)), .int (0 : Int32), .int (99 : Int32)]) (rest := []) (pc := 43) K cs_SaltCloudsModel_63 (ok_X7_held l ω (irm (s7 * (x2 - x3)) (9 : Int32)) (0 : Int32) (99 : Int32) h8) (by decide) rfl rfl (Nat.le_of_ble_eq_true rfl) dX7_lawOf_43 (fun r9 h10 => ?_)
        exact J_iret (pc := 46) K dX7_lawOf_46
      · intro j6 hj6
        refine J_icmp_le (pc := 25) K 32 dX7_lawOf_25 (by decide) ?_ ?_
        · refine J_iconst (pc := 32) K (0) dX7_lawOf_32 (by decide) ?_
          refine J_lv [2, 3] [(2, .int x2), (3, .int x3)] rfl ?_
          exact hj6 (0 : Int32) h
        · refine J_iconst (pc := 28) K (1) dX7_lawOf_28 (by decide) ?_
          refine J_goto (pc := 29) K 33 dX7_lawOf_29 (by decide) ?_
          refine J_lv [2, 3] [(2, .int x2), (3, .int x3)] rfl ?_
          exact hj6 (1 : Int32) h
def F_X7_nameOf (N : Nat) (k0 : Nat) (x1 : Int32) (h : Mem) : Option (Int32 × Mem) :=
  (bnd (F_X7_tasteOf k0 x1 h) (fun r1 h2 =>
  (bnd (F_X7_its k0 x1 (3 : Int32) h2) (fun r3 h4 =>
  (bnd (F_X7_its k0 x1 (4 : Int32) h4) (fun r5 h6 =>
  (bnd (F_X7_lawOf N k0 (0 : Int32) r1 r3 r5 h6) (fun r7 h8 =>
  (some (r7, h8))))))))))
set_option maxRecDepth 10000 in
set_option maxHeartbeats 1000000 in
theorem ok_X7_nameOf (l : Launch) (ω : WX) (N : Nat) {k0 : Nat} (hk0 : lay k0 = 7) (x1 : Int32) (h : Mem) : MC rvI l ω yX7_nameOf cX7_nameOf 2 (some .int) 53 [.ref (ω.1 + k0), .int x1] h (F_X7_nameOf N k0 x1 h) := by
  refine MC.of (by decide +kernel) [(0, .ref (ω.1 + k0)), (1, .int x1)] rfl (Nat.le_of_ble_eq_true rfl) (fun χ K => ?_)
  have K : Kok ω χ "SaltCloudsModel" cX7_nameOf 2 (some .int) 53 := K
  unfold F_X7_nameOf
  refine J_aload_n (pc := 0) K dX7_nameOf_0 0 rfl 0 rfl ?_
  refine J_iconst (pc := 1) K (0) dX7_nameOf_1 (by decide) ?_
  refine J_aload_n (pc := 2) K dX7_nameOf_2 0 rfl 0 rfl ?_
  refine J_iload_n (pc := 3) K dX7_nameOf_3 1 rfl 1 rfl ?_
  refine J_callVI (As := [.int x1]) (rest := [.int (0 : Int32), .ref (ω.1 + k0)]) (pc := 4) K cs_SaltCloudsModel_70 (ok_X7_tasteOf l ω hk0 x1 h) hk0 (by decide) rfl rfl (Nat.le_of_ble_eq_true rfl) dX7_nameOf_4 (fun r1 h2 => ?_)
  refine J_aload_n (pc := 7) K dX7_nameOf_7 0 rfl 0 rfl ?_
  refine J_iload_n (pc := 8) K dX7_nameOf_8 1 rfl 1 rfl ?_
  refine J_iconst (pc := 9) K (3) dX7_nameOf_9 (by decide) ?_
  refine J_callVI (As := [.int x1, .int (3 : Int32)]) (rest := [.int r1, .int (0 : Int32), .ref (ω.1 + k0)]) (pc := 10) K cs_SaltCloudsModel_45 (ok_X7_its l ω hk0 x1 (3 : Int32) h2) hk0 (by decide) rfl rfl (Nat.le_of_ble_eq_true rfl) dX7_nameOf_10 (fun r3 h4 => ?_)
  refine J_aload_n (pc := 13) K dX7_nameOf_13 0 rfl 0 rfl ?_
  refine J_iload_n (pc := 14) K dX7_nameOf_14 1 rfl 1 rfl ?_
  refine J_iconst (pc := 15) K (4) dX7_nameOf_15 (by decide) ?_
  refine J_callVI (As := [.int x1, .int (4 : Int32)]) (rest := [.int r3, .int r1, .int (0 : Int32), .ref (ω.1 + k0)]) (pc := 16) K cs_SaltCloudsModel_45 (ok_X7_its l ω hk0 x1 (4 : Int32) h4) hk0 (by decide) rfl rfl (Nat.le_of_ble_eq_true rfl) dX7_nameOf_16 (fun r5 h6 => ?_)
  refine J_callVI (As := [.int (0 : Int32), .int r1, .int r3, .int r5]) (rest := []) (pc := 19) K cs_SaltCloudsModel_73 (ok_X7_lawOf l ω N hk0 (0 : Int32) r1 r3 r5 h6) hk0 (by decide) rfl rfl (Nat.le_of_ble_eq_true rfl) dX7_nameOf_19 (fun r7 h8 => ?_)
  exact J_iret (pc := 22) K dX7_nameOf_22
def F_X7_isNobody (N : Nat) (k0 : Nat) (x1 : Int32) (h : Mem) : Option (Int32 × Mem) :=
  (bnd (F_X7_isThere k0 x1 h) (fun r1 h2 =>
  (if r1 = 0 then
    (some ((1 : Int32), h2))
  else
    (bnd (F_X7_nameOf N k0 x1 h2) (fun r3 h4 =>
    (if r3 = 0 then
      (some ((1 : Int32), h4))
    else
      (some ((0 : Int32), h4))))))))
set_option maxRecDepth 10000 in
set_option maxHeartbeats 1000000 in
theorem ok_X7_isNobody (l : Launch) (ω : WX) (N : Nat) {k0 : Nat} (hk0 : lay k0 = 7) (x1 : Int32) (h : Mem) : MC rvI l ω yX7_isNobody cX7_isNobody 2 (some .boolean) 54 [.ref (ω.1 + k0), .int x1] h (F_X7_isNobody N k0 x1 h) := by
  refine MC.of (by decide +kernel) [(0, .ref (ω.1 + k0)), (1, .int x1)] rfl (Nat.le_of_ble_eq_true rfl) (fun χ K => ?_)
  have K : Kok ω χ "SaltCloudsModel" cX7_isNobody 2 (some .boolean) 54 := K
  unfold F_X7_isNobody
  refine J_aload_n (pc := 0) K dX7_isNobody_0 0 rfl 0 rfl ?_
  refine J_iload_n (pc := 1) K dX7_isNobody_1 1 rfl 1 rfl ?_
  refine J_callVI (As := [.int x1]) (rest := []) (pc := 2) K cs_SaltCloudsModel_77 (ok_X7_isThere l ω hk0 x1 h) hk0 (by decide) rfl rfl (Nat.le_of_ble_eq_true rfl) dX7_isNobody_2 (fun r1 h2 => ?_)
  refine J_if_eq (pc := 5) K 16 dX7_isNobody_5 (by decide) ?_ ?_
  · refine J_iconst (pc := 16) K (1) dX7_isNobody_16 (by decide) ?_
    refine J_goto (pc := 17) K 21 dX7_isNobody_17 (by decide) ?_
    exact J_nret (pc := 21) K rfl dX7_isNobody_21
  · refine J_aload_n (pc := 8) K dX7_isNobody_8 0 rfl 0 rfl ?_
    refine J_iload_n (pc := 9) K dX7_isNobody_9 1 rfl 1 rfl ?_
    refine J_callVI (As := [.int x1]) (rest := []) (pc := 10) K cs_SaltCloudsModel_80 (ok_X7_nameOf l ω N hk0 x1 h2) hk0 (by decide) rfl rfl (Nat.le_of_ble_eq_true rfl) dX7_isNobody_10 (fun r3 h4 => ?_)
    refine J_if_ne (pc := 13) K 20 dX7_isNobody_13 (by decide) ?_ ?_
    · refine J_iconst (pc := 16) K (1) dX7_isNobody_16 (by decide) ?_
      refine J_goto (pc := 17) K 21 dX7_isNobody_17 (by decide) ?_
      exact J_nret (pc := 21) K rfl dX7_isNobody_21
    · refine J_iconst (pc := 20) K (0) dX7_isNobody_20 (by decide) ?_
      exact J_nret (pc := 21) K rfl dX7_isNobody_21
def F_X7_windNow (k0 : Nat) (h : Mem) : Option (Int32 × Mem) :=
  (gin (1 : Int32) 262
  (gnz (8 : Int32)
  (seqi ((8 : Int32) + (irm (h (k0 + 1) (ix (1 : Int32))) (8 : Int32))) (fun v1 =>
  (gin v1 262
  (some (h (k0 + 1) (ix v1), h)))))))
set_option maxRecDepth 10000 in
set_option maxHeartbeats 1000000 in
theorem ok_X7_windNow (l : Launch) (ω : WX) {k0 : Nat} (hk0 : lay k0 = 7) (h : Mem) : MC rvI l ω yX7_windNow cX7_windNow 1 (some .int) 0 [.ref (ω.1 + k0)] h (F_X7_windNow k0 h) := by
  refine MC.of (by decide +kernel) [(0, .ref (ω.1 + k0))] rfl (Nat.le_of_ble_eq_true rfl) (fun χ K => ?_)
  have K : Kok ω χ "SaltCloudsModel" cX7_windNow 1 (some .int) 0 := K
  unfold F_X7_windNow
  refine J_aload_n (pc := 0) K dX7_windNow_0 0 rfl 0 rfl ?_
  refine J_getR (pc := 1) K gf_SaltCloudsModel_7 hk0 1 rfl dX7_windNow_1 ?_
  refine J_bipush (pc := 4) K (8) dX7_windNow_4 (by decide) ?_
  refine J_aload_n (pc := 6) K dX7_windNow_6 0 rfl 0 rfl ?_
  refine J_getR (pc := 7) K gf_SaltCloudsModel_7 hk0 1 rfl dX7_windNow_7 ?_
  refine J_iconst (pc := 10) K (1) dX7_windNow_10 (by decide) ?_
  refine J_iald (pc := 11) K (a := k0 + 1) (n := 262) (ty_7_1 hk0) dX7_windNow_11 ?_
  refine J_bipush (pc := 12) K (8) dX7_windNow_12 (by decide) ?_
  refine J_irem (pc := 14) K dX7_windNow_14 ?_
  refine J_iadd (pc := 15) K dX7_windNow_15 ?_
  refine J_topi (fun v1 => ?_)
  refine J_iald (pc := 16) K (a := k0 + 1) (n := 262) (ty_7_1 hk0) dX7_windNow_16 ?_
  exact J_iret (pc := 17) K dX7_windNow_17
def F_X7_heightOf (k0 : Nat) (x1 : Int32) (h : Mem) : Option (Int32 × Mem) :=
  (bnd (F_X7_its k0 x1 (2 : Int32) h) (fun r1 h2 =>
  (seqi ((16 : Int32) + r1) (fun v3 =>
  (gin v3 262
  (some (h2 (k0 + 1) (ix v3), h2)))))))
set_option maxRecDepth 10000 in
set_option maxHeartbeats 1000000 in
theorem ok_X7_heightOf (l : Launch) (ω : WX) {k0 : Nat} (hk0 : lay k0 = 7) (x1 : Int32) (h : Mem) : MC rvI l ω yX7_heightOf cX7_heightOf 2 (some .int) 1 [.ref (ω.1 + k0), .int x1] h (F_X7_heightOf k0 x1 h) := by
  refine MC.of (by decide +kernel) [(0, .ref (ω.1 + k0)), (1, .int x1)] rfl (Nat.le_of_ble_eq_true rfl) (fun χ K => ?_)
  have K : Kok ω χ "SaltCloudsModel" cX7_heightOf 2 (some .int) 1 := K
  unfold F_X7_heightOf
  refine J_aload_n (pc := 0) K dX7_heightOf_0 0 rfl 0 rfl ?_
  refine J_getR (pc := 1) K gf_SaltCloudsModel_7 hk0 1 rfl dX7_heightOf_1 ?_
  refine J_bipush (pc := 4) K (16) dX7_heightOf_4 (by decide) ?_
  refine J_aload_n (pc := 6) K dX7_heightOf_6 0 rfl 0 rfl ?_
  refine J_iload_n (pc := 7) K dX7_heightOf_7 1 rfl 1 rfl ?_
  refine J_iconst (pc := 8) K (2) dX7_heightOf_8 (by decide) ?_
  refine J_callVI (As := [.int x1, .int (2 : Int32)]) (rest := [.int (16 : Int32), .ref (ω.1 + (k0 + 1))]) (pc := 9) K cs_SaltCloudsModel_45 (ok_X7_its l ω hk0 x1 (2 : Int32) h) hk0 (by decide) rfl rfl (Nat.le_of_ble_eq_true rfl) dX7_heightOf_9 (fun r1 h2 => ?_)
  refine J_iadd (pc := 12) K dX7_heightOf_12 ?_
  refine J_topi (fun v3 => ?_)
  refine J_iald (pc := 13) K (a := k0 + 1) (n := 262) (ty_7_1 hk0) dX7_heightOf_13 ?_
  exact J_iret (pc := 14) K dX7_heightOf_14
def F_X7_ofCloud (N : Nat) (k0 : Nat) (x1 : Int32) (x2 : Int32) (h : Mem) : Option (Int32 × Mem) :=
  (bnd (F_X7_isCloud k0 x1 h) (fun r1 h2 =>
  (if r1 = 0 then
    (bnd (F_X7_errs k0 (-1000000001 : Int32) h2) (fun r3 h4 =>
    (some (r3, h4))))
  else
    (bnd (F_X7_in x2 (0 : Int32) (11 : Int32) h2) (fun r5 h6 =>
    (if r5 = 0 then
      (bnd (F_X7_errs k0 (-1000000001 : Int32) h6) (fun r7 h8 =>
      (some (r7, h8))))
    else
      (if x2 = (8 : Int32) then
        (bnd (F_X7_tasteOf k0 x1 h6) (fun r9 h10 =>
        (some (r9, h10))))
      else
        (if x2 = (9 : Int32) then
          (bnd (F_X7_nameOf N k0 x1 h6) (fun r11 h12 =>
          (some (r11, h12))))
        else
          (if x2 = (10 : Int32) then
            (bnd (F_X7_windNow k0 h6) (fun r13 h14 =>
            (bnd (F_X7_driftsBy k0 x1 r13 h14) (fun r15 h16 =>
            (some (r15, h16))))))
          else
            (if x2 = (11 : Int32) then
              (bnd (F_X7_heightOf k0 x1 h6) (fun r17 h18 =>
              (if r17 = 0 then
                (some ((0 : Int32), h18))
              else
                (bnd (F_X7_heightOf k0 x1 h18) (fun r19 h20 =>
                (bnd (F_X7_rainsAt k0 x1 r19 h20) (fun r21 h22 =>
                (some (r21, h22)))))))))
            else
              (bnd (F_X7_its k0 x1 x2 h6) (fun r23 h24 =>
              (some (r23, h24))))))))))))))
set_option maxRecDepth 10000 in
set_option maxHeartbeats 1000000 in
theorem ok_X7_ofCloud (l : Launch) (ω : WX) (N : Nat) {k0 : Nat} (hk0 : lay k0 = 7) (x1 : Int32) (x2 : Int32) (h : Mem) : MC rvI l ω yX7_ofCloud cX7_ofCloud 3 (some .int) 54 [.ref (ω.1 + k0), .int x1, .int x2] h (F_X7_ofCloud N k0 x1 x2 h) := by
  refine MC.of (by decide +kernel) [(0, .ref (ω.1 + k0)), (1, .int x1), (2, .int x2)] rfl (Nat.le_of_ble_eq_true rfl) (fun χ K => ?_)
  have K : Kok ω χ "SaltCloudsModel" cX7_ofCloud 3 (some .int) 54 := K
  unfold F_X7_ofCloud
  refine J_aload_n (pc := 0) K dX7_ofCloud_0 0 rfl 0 rfl ?_
  refine J_iload_n (pc := 1) K dX7_ofCloud_1 1 rfl 1 rfl ?_
  refine J_callVI (As := [.int x1]) (rest := []) (pc := 2) K cs_SaltCloudsModel_83 (ok_X7_isCloud l ω hk0 x1 h) hk0 (by decide) rfl rfl (Nat.le_of_ble_eq_true rfl) dX7_ofCloud_2 (fun r1 h2 => ?_)
  refine J_if_eq (pc := 5) K 18 dX7_ofCloud_5 (by decide) ?_ ?_
  · refine J_aload_n (pc := 18) K dX7_ofCloud_18 0 rfl 0 rfl ?_
    refine J_ldc (pc := 19) K kc_SaltCloudsModel_53 dX7_ofCloud_19 ?_
    refine J_callVI (As := [.int (-1000000001 : Int32)]) (rest := []) (pc := 21) K cs_SaltCloudsModel_54 (ok_X7_errs l ω hk0 (-1000000001 : Int32) h2) hk0 (by decide) rfl rfl (Nat.le_of_ble_eq_true rfl) dX7_ofCloud_21 (fun r3 h4 => ?_)
    exact J_iret (pc := 24) K dX7_ofCloud_24
  · refine J_iload_n (pc := 8) K dX7_ofCloud_8 2 rfl 2 rfl ?_
    refine J_iconst (pc := 9) K (0) dX7_ofCloud_9 (by decide) ?_
    refine J_bipush (pc := 10) K (11) dX7_ofCloud_10 (by decide) ?_
    refine J_callTI (As := [.int x2, .int (0 : Int32), .int (11 : Int32)]) (rest := []) (pc := 12) K cs_SaltCloudsModel_41 (ok_X7_in l ω x2 (0 : Int32) (11 : Int32) h2) (by decide) rfl rfl (Nat.le_of_ble_eq_true rfl) dX7_ofCloud_12 (fun r5 h6 => ?_)
    refine J_if_ne (pc := 15) K 25 dX7_ofCloud_15 (by decide) ?_ ?_
    · refine J_aload_n (pc := 18) K dX7_ofCloud_18 0 rfl 0 rfl ?_
      refine J_ldc (pc := 19) K kc_SaltCloudsModel_53 dX7_ofCloud_19 ?_
      refine J_callVI (As := [.int (-1000000001 : Int32)]) (rest := []) (pc := 21) K cs_SaltCloudsModel_54 (ok_X7_errs l ω hk0 (-1000000001 : Int32) h6) hk0 (by decide) rfl rfl (Nat.le_of_ble_eq_true rfl) dX7_ofCloud_21 (fun r7 h8 => ?_)
      exact J_iret (pc := 24) K dX7_ofCloud_24
    · refine J_iload_n (pc := 25) K dX7_ofCloud_25 2 rfl 2 rfl ?_
      refine J_ite (fun e26_0 => ?_) (fun e26_0 => ?_)
      · refine J_tableIn (pc := 26) K (v := 8) 56 e26_0 dX7_ofCloud_26 (by decide) (by decide) rfl (by decide) ?_
        refine J_aload_n (pc := 56) K dX7_ofCloud_56 0 rfl 0 rfl ?_
        refine J_iload_n (pc := 57) K dX7_ofCloud_57 1 rfl 1 rfl ?_
        refine J_callVI (As := [.int x1]) (rest := []) (pc := 58) K cs_SaltCloudsModel_70 (ok_X7_tasteOf l ω hk0 x1 h6) hk0 (by decide) rfl rfl (Nat.le_of_ble_eq_true rfl) dX7_ofCloud_58 (fun r9 h10 => ?_)
        exact J_iret (pc := 61) K dX7_ofCloud_61
      · refine J_ite (fun e26_1 => ?_) (fun e26_1 => ?_)
        · refine J_tableIn (pc := 26) K (v := 9) 62 e26_1 dX7_ofCloud_26 (by decide) (by decide) rfl (by decide) ?_
          refine J_aload_n (pc := 62) K dX7_ofCloud_62 0 rfl 0 rfl ?_
          refine J_iload_n (pc := 63) K dX7_ofCloud_63 1 rfl 1 rfl ?_
          refine J_callVI (As := [.int x1]) (rest := []) (pc := 64) K cs_SaltCloudsModel_80 (ok_X7_nameOf l ω N hk0 x1 h6) hk0 (by decide) rfl rfl (Nat.le_of_ble_eq_true rfl) dX7_ofCloud_64 (fun r11 h12 => ?_)
          exact J_iret (pc := 67) K dX7_ofCloud_67
        · refine J_ite (fun e26_2 => ?_) (fun e26_2 => ?_)
          · refine J_tableIn (pc := 26) K (v := 10) 68 e26_2 dX7_ofCloud_26 (by decide) (by decide) rfl (by decide) ?_
            refine J_aload_n (pc := 68) K dX7_ofCloud_68 0 rfl 0 rfl ?_
            refine J_iload_n (pc := 69) K dX7_ofCloud_69 1 rfl 1 rfl ?_
            refine J_aload_n (pc := 70) K dX7_ofCloud_70 0 rfl 0 rfl ?_
            refine J_callVI (As := []) (rest := [.int x1, .ref (ω.1 + k0)]) (pc := 71) K cs_SaltCloudsModel_86 (ok_X7_windNow l ω hk0 h6) hk0 (by decide) rfl rfl (Nat.le_of_ble_eq_true rfl) dX7_ofCloud_71 (fun r13 h14 => ?_)
            refine J_callVI (As := [.int x1, .int r13]) (rest := []) (pc := 74) K cs_SaltCloudsModel_90 (ok_X7_driftsBy l ω hk0 x1 r13 h14) hk0 (by decide) rfl rfl (Nat.le_of_ble_eq_true rfl) dX7_ofCloud_74 (fun r15 h16 => ?_)
            exact J_iret (pc := 77) K dX7_ofCloud_77
          · refine J_ite (fun e26_3 => ?_) (fun e26_3 => ?_)
            · refine J_tableIn (pc := 26) K (v := 11) 78 e26_3 dX7_ofCloud_26 (by decide) (by decide) rfl (by decide) ?_
              refine J_aload_n (pc := 78) K dX7_ofCloud_78 0 rfl 0 rfl ?_
              refine J_iload_n (pc := 79) K dX7_ofCloud_79 1 rfl 1 rfl ?_
              refine J_callVI (As := [.int x1]) (rest := []) (pc := 80) K cs_SaltCloudsModel_93 (ok_X7_heightOf l ω hk0 x1 h6) hk0 (by decide) rfl rfl (Nat.le_of_ble_eq_true rfl) dX7_ofCloud_80 (fun r17 h18 => ?_)
              refine J_if_ne (pc := 83) K 90 dX7_ofCloud_83 (by decide) ?_ ?_
              · refine J_iconst (pc := 86) K (0) dX7_ofCloud_86 (by decide) ?_
                refine J_goto (pc := 87) K 100 dX7_ofCloud_87 (by decide) ?_
                exact J_iret (pc := 100) K dX7_ofCloud_100
              · refine J_aload_n (pc := 90) K dX7_ofCloud_90 0 rfl 0 rfl ?_
                refine J_iload_n (pc := 91) K dX7_ofCloud_91 1 rfl 1 rfl ?_
                refine J_aload_n (pc := 92) K dX7_ofCloud_92 0 rfl 0 rfl ?_
                refine J_iload_n (pc := 93) K dX7_ofCloud_93 1 rfl 1 rfl ?_
                refine J_callVI (As := [.int x1]) (rest := [.int x1, .ref (ω.1 + k0)]) (pc := 94) K cs_SaltCloudsModel_93 (ok_X7_heightOf l ω hk0 x1 h18) hk0 (by decide) rfl rfl (Nat.le_of_ble_eq_true rfl) dX7_ofCloud_94 (fun r19 h20 => ?_)
                refine J_callVI (As := [.int x1, .int r19]) (rest := []) (pc := 97) K cs_SaltCloudsModel_96 (ok_X7_rainsAt l ω hk0 x1 r19 h20) hk0 (by decide) rfl rfl (Nat.le_of_ble_eq_true rfl) dX7_ofCloud_97 (fun r21 h22 => ?_)
                exact J_iret (pc := 100) K dX7_ofCloud_100
            · refine J_tableOut (pc := 26) K 101 dX7_ofCloud_26 (by have q0 := lv_neT e26_0 (a := 8) (by decide); have q1 := lv_neT e26_1 (a := 9) (by decide); have q2 := lv_neT e26_2 (a := 10) (by decide); have q3 := lv_neT e26_3 (a := 11) (by decide); omega) (by decide) ?_
              refine J_aload_n (pc := 101) K dX7_ofCloud_101 0 rfl 0 rfl ?_
              refine J_iload_n (pc := 102) K dX7_ofCloud_102 1 rfl 1 rfl ?_
              refine J_iload_n (pc := 103) K dX7_ofCloud_103 2 rfl 2 rfl ?_
              refine J_callVI (As := [.int x1, .int x2]) (rest := []) (pc := 104) K cs_SaltCloudsModel_45 (ok_X7_its l ω hk0 x1 x2 h6) hk0 (by decide) rfl rfl (Nat.le_of_ble_eq_true rfl) dX7_ofCloud_104 (fun r23 h24 => ?_)
              exact J_iret (pc := 107) K dX7_ofCloud_107
def F_X7_become (k0 : Nat) (x1 : Int32) (x2 : Int32) (h : Mem) : Option (Int32 × Mem) :=
  (bnd (F_X7_isCloud k0 x1 h) (fun r1 h2 =>
  (if r1 = 0 then
    (bnd (F_X7_errs k0 (-1000000001 : Int32) h2) (fun r3 h4 =>
    (some (r3, h4))))
  else
    (bnd (F_X7_in x2 (0 : Int32) (69 : Int32) h2) (fun r5 h6 =>
    (if r5 = 0 then
      (bnd (F_X7_errs k0 (-1000000001 : Int32) h6) (fun r7 h8 =>
      (some (r7, h8))))
    else
      (bnd (F_X7_its k0 x1 (0 : Int32) h6) (fun r9 h10 =>
      (gnz (10 : Int32)
      (bnd (F_X7_puts k0 x1 (0 : Int32) (x2 / (10 : Int32)) h10) (fun _ h12 =>
      (gnz (10 : Int32)
      (bnd (F_X7_puts k0 x1 (1 : Int32) (irm x2 (10 : Int32)) h12) (fun _ h14 =>
      (some (r9, h14))))))))))))))))
set_option maxRecDepth 10000 in
set_option maxHeartbeats 1000000 in
theorem ok_X7_become (l : Launch) (ω : WX) {k0 : Nat} (hk0 : lay k0 = 7) (x1 : Int32) (x2 : Int32) (h : Mem) : MC rvI l ω yX7_become cX7_become 4 (some .int) 2 [.ref (ω.1 + k0), .int x1, .int x2] h (F_X7_become k0 x1 x2 h) := by
  refine MC.of (by decide +kernel) [(0, .ref (ω.1 + k0)), (1, .int x1), (2, .int x2)] rfl (Nat.le_of_ble_eq_true rfl) (fun χ K => ?_)
  have K : Kok ω χ "SaltCloudsModel" cX7_become 4 (some .int) 2 := K
  unfold F_X7_become
  refine J_aload_n (pc := 0) K dX7_become_0 0 rfl 0 rfl ?_
  refine J_iload_n (pc := 1) K dX7_become_1 1 rfl 1 rfl ?_
  refine J_callVI (As := [.int x1]) (rest := []) (pc := 2) K cs_SaltCloudsModel_83 (ok_X7_isCloud l ω hk0 x1 h) hk0 (by decide) rfl rfl (Nat.le_of_ble_eq_true rfl) dX7_become_2 (fun r1 h2 => ?_)
  refine J_if_eq (pc := 5) K 18 dX7_become_5 (by decide) ?_ ?_
  · refine J_aload_n (pc := 18) K dX7_become_18 0 rfl 0 rfl ?_
    refine J_ldc (pc := 19) K kc_SaltCloudsModel_53 dX7_become_19 ?_
    refine J_callVI (As := [.int (-1000000001 : Int32)]) (rest := []) (pc := 21) K cs_SaltCloudsModel_54 (ok_X7_errs l ω hk0 (-1000000001 : Int32) h2) hk0 (by decide) rfl rfl (Nat.le_of_ble_eq_true rfl) dX7_become_21 (fun r3 h4 => ?_)
    exact J_iret (pc := 24) K dX7_become_24
  · refine J_iload_n (pc := 8) K dX7_become_8 2 rfl 2 rfl ?_
    refine J_iconst (pc := 9) K (0) dX7_become_9 (by decide) ?_
    refine J_bipush (pc := 10) K (69) dX7_become_10 (by decide) ?_
    refine J_callTI (As := [.int x2, .int (0 : Int32), .int (69 : Int32)]) (rest := []) (pc := 12) K cs_SaltCloudsModel_41 (ok_X7_in l ω x2 (0 : Int32) (69 : Int32) h2) (by decide) rfl rfl (Nat.le_of_ble_eq_true rfl) dX7_become_12 (fun r5 h6 => ?_)
    refine J_if_ne (pc := 15) K 25 dX7_become_15 (by decide) ?_ ?_
    · refine J_aload_n (pc := 18) K dX7_become_18 0 rfl 0 rfl ?_
      refine J_ldc (pc := 19) K kc_SaltCloudsModel_53 dX7_become_19 ?_
      refine J_callVI (As := [.int (-1000000001 : Int32)]) (rest := []) (pc := 21) K cs_SaltCloudsModel_54 (ok_X7_errs l ω hk0 (-1000000001 : Int32) h6) hk0 (by decide) rfl rfl (Nat.le_of_ble_eq_true rfl) dX7_become_21 (fun r7 h8 => ?_)
      exact J_iret (pc := 24) K dX7_become_24
    · refine J_aload_n (pc := 25) K dX7_become_25 0 rfl 0 rfl ?_
      refine J_iload_n (pc := 26) K dX7_become_26 1 rfl 1 rfl ?_
      refine J_iconst (pc := 27) K (0) dX7_become_27 (by decide) ?_
      refine J_callVI (As := [.int x1, .int (0 : Int32)]) (rest := []) (pc := 28) K cs_SaltCloudsModel_45 (ok_X7_its l ω hk0 x1 (0 : Int32) h6) hk0 (by decide) rfl rfl (Nat.le_of_ble_eq_true rfl) dX7_become_28 (fun r9 h10 => ?_)
      refine J_istore_n (pc := 31) K dX7_become_31 3 rfl (by decide) [(3, .int r9), (0, .ref (ω.1 + k0)), (1, .int x1), (2, .int x2)] rfl ?_
      refine J_aload_n (pc := 32) K dX7_become_32 0 rfl 1 rfl ?_
      refine J_iload_n (pc := 33) K dX7_become_33 1 rfl 2 rfl ?_
      refine J_iconst (pc := 34) K (0) dX7_become_34 (by decide) ?_
      refine J_iload_n (pc := 35) K dX7_become_35 2 rfl 3 rfl ?_
      refine J_bipush (pc := 36) K (10) dX7_become_36 (by decide) ?_
      refine J_idiv (pc := 38) K dX7_become_38 ?_
      refine J_callVU (As := [.int x1, .int (0 : Int32), .int (x2 / (10 : Int32))]) (rest := []) (pc := 39) K cs_SaltCloudsModel_59 (ok_X7_puts l ω hk0 x1 (0 : Int32) (x2 / (10 : Int32)) h10) hk0 (by decide) rfl rfl (Nat.le_of_ble_eq_true rfl) dX7_become_39 (fun _ h12 => ?_)
      refine J_aload_n (pc := 42) K dX7_become_42 0 rfl 1 rfl ?_
      refine J_iload_n (pc := 43) K dX7_become_43 1 rfl 2 rfl ?_
      refine J_iconst (pc := 44) K (1) dX7_become_44 (by decide) ?_
      refine J_iload_n (pc := 45) K dX7_become_45 2 rfl 3 rfl ?_
      refine J_bipush (pc := 46) K (10) dX7_become_46 (by decide) ?_
      refine J_irem (pc := 48) K dX7_become_48 ?_
      refine J_callVU (As := [.int x1, .int (1 : Int32), .int (irm x2 (10 : Int32))]) (rest := []) (pc := 49) K cs_SaltCloudsModel_59 (ok_X7_puts l ω hk0 x1 (1 : Int32) (irm x2 (10 : Int32)) h12) hk0 (by decide) rfl rfl (Nat.le_of_ble_eq_true rfl) dX7_become_49 (fun _ h14 => ?_)
      refine J_iload_n (pc := 52) K dX7_become_52 3 rfl 0 rfl ?_
      exact J_iret (pc := 53) K dX7_become_53
def F_X7_above (x0 : Int32) (h : Mem) : Option (Int32 × Mem) :=
  (if x0 = 0 then
    (some ((-1 : Int32), h))
  else
    (if x0 = (4 : Int32) then
      (some ((1 : Int32), h))
    else
      (if x0 = (5 : Int32) then
        (some ((2 : Int32), h))
      else
        (if x0 = (6 : Int32) then
          (some ((3 : Int32), h))
        else
          (some ((0 : Int32), h))))))
set_option maxRecDepth 10000 in
set_option maxHeartbeats 1000000 in
theorem ok_X7_above (l : Launch) (ω : WX) (x0 : Int32) (h : Mem) : MC rvI l ω yX7_above cX7_above 1 (some .int) 0 [.int x0] h (F_X7_above x0 h) := by
  refine MC.of (by decide +kernel) [(0, .int x0)] rfl (Nat.le_of_ble_eq_true rfl) (fun χ K => ?_)
  have K : Kok ω χ "SaltCloudsModel" cX7_above 1 (some .int) 0 := K
  unfold F_X7_above
  refine J_iload_n (pc := 0) K dX7_above_0 0 rfl 0 rfl ?_
  refine J_if_ne (pc := 1) K 8 dX7_above_1 (by decide) ?_ ?_
  · refine J_iconst (pc := 4) K (-1) dX7_above_4 (by decide) ?_
    refine J_goto (pc := 5) K 37 dX7_above_5 (by decide) ?_
    exact J_iret (pc := 37) K dX7_above_37
  · refine J_iload_n (pc := 8) K dX7_above_8 0 rfl 0 rfl ?_
    refine J_iconst (pc := 9) K (4) dX7_above_9 (by decide) ?_
    refine J_icmp_ne (pc := 10) K 17 dX7_above_10 (by decide) ?_ ?_
    · refine J_iconst (pc := 13) K (1) dX7_above_13 (by decide) ?_
      refine J_goto (pc := 14) K 37 dX7_above_14 (by decide) ?_
      exact J_iret (pc := 37) K dX7_above_37
    · refine J_iload_n (pc := 17) K dX7_above_17 0 rfl 0 rfl ?_
      refine J_iconst (pc := 18) K (5) dX7_above_18 (by decide) ?_
      refine J_icmp_ne (pc := 19) K 26 dX7_above_19 (by decide) ?_ ?_
      · refine J_iconst (pc := 22) K (2) dX7_above_22 (by decide) ?_
        refine J_goto (pc := 23) K 37 dX7_above_23 (by decide) ?_
        exact J_iret (pc := 37) K dX7_above_37
      · refine J_iload_n (pc := 26) K dX7_above_26 0 rfl 0 rfl ?_
        refine J_bipush (pc := 27) K (6) dX7_above_27 (by decide) ?_
        refine J_icmp_ne (pc := 29) K 36 dX7_above_29 (by decide) ?_ ?_
        · refine J_iconst (pc := 32) K (3) dX7_above_32 (by decide) ?_
          refine J_goto (pc := 33) K 37 dX7_above_33 (by decide) ?_
          exact J_iret (pc := 37) K dX7_above_37
        · refine J_iconst (pc := 36) K (0) dX7_above_36 (by decide) ?_
          exact J_iret (pc := 37) K dX7_above_37
def F_X7_as_32 (N : Nat) (k0 : Nat) (w1 : Int32) (w2 : Int32) (kt : Int32 → Mem → Option (Int32 × Mem)) : Nat → Int32 → Mem → Option (Int32 × Mem)
  | 0, _, _ => none
  | n + 1, u3, h =>
    (if u3 < 0 then
      (kt u3 h)
    else
      (if u3 = w2 then
        (kt u3 h)
      else
        (bnd (F_X7_above u3 h) (fun r11 h12 =>
        (F_X7_as_32 N k0 w1 w2 kt n r11 h12)))))
set_option maxRecDepth 10000 in
set_option maxHeartbeats 1000000 in
theorem okL_X7_as_32 {l : Launch} {ω : WX} {χ : KT} {d : Nat} (K : Kok ω χ "SaltCloudsModel" cX7_as 4 (some .int) d) (hd : 1 ≤ d) (N : Nat) {k0 : Nat} (hk0 : lay k0 = 7) {w1 : Int32} {w2 : Int32} {kt : Int32 → Mem → Option (Int32 × Mem)} (hK : ∀ (u3 : Int32) (h : Mem), J (ZM rvI ω χ) l ω χ 49 4 [(0, .ref (ω.1 + k0)), (1, .int w1), (3, .int u3)] [] h (kt u3 h)) : ∀ (n : Nat) (u3 : Int32) (h : Mem), J (ZM rvI ω χ) l ω χ 32 4 [(0, .ref (ω.1 + k0)), (1, .int w1), (2, .int w2), (3, .int u3)] [] h (F_X7_as_32 N k0 w1 w2 kt n u3 h) := by
  intro n
  induction n with
  | zero =>
    intro u3 h
    exact J_none rfl
  | succ n ih =>
    intro u3 h
    rw [F_X7_as_32]
    refine J_iload_n (pc := 32) K dX7_as_32 3 rfl 3 rfl ?_
    refine J_if_lt (pc := 33) K 49 dX7_as_33 (by decide) ?_ ?_
    · refine J_lv [0, 1, 3] [(0, .ref (ω.1 + k0)), (1, .int w1), (3, .int u3)] rfl ?_
      exact hK u3 h
    · refine J_iload_n (pc := 36) K dX7_as_36 3 rfl 3 rfl ?_
      refine J_iload_n (pc := 37) K dX7_as_37 2 rfl 2 rfl ?_
      refine J_icmp_eq (pc := 38) K 49 dX7_as_38 (by decide) ?_ ?_
      · refine J_lv [0, 1, 3] [(0, .ref (ω.1 + k0)), (1, .int w1), (3, .int u3)] rfl ?_
        exact hK u3 h
      · refine J_iload_n (pc := 41) K dX7_as_41 3 rfl 3 rfl ?_
        refine J_callTI (As := [.int u3]) (rest := []) (pc := 42) K cs_SaltCloudsModel_99 (ok_X7_above l ω u3 h) (by omega) rfl rfl (Nat.le_of_ble_eq_true rfl) dX7_as_42 (fun r11 h12 => ?_)
        refine J_istore_n (pc := 45) K dX7_as_45 3 rfl (by decide) [(3, .int r11), (0, .ref (ω.1 + k0)), (1, .int w1), (2, .int w2)] rfl ?_
        refine J_goto (pc := 46) K 32 dX7_as_46 (by decide) ?_
        refine J_lv [1, 2, 3, 0] [(0, .ref (ω.1 + k0)), (1, .int w1), (2, .int w2), (3, .int r11)] rfl ?_
        exact ih r11 h12
def F_X7_as (N : Nat) (k0 : Nat) (x1 : Int32) (x2 : Int32) (h : Mem) : Option (Int32 × Mem) :=
  (bnd (F_X7_isCloud k0 x1 h) (fun r1 h2 =>
  (if r1 = 0 then
    (bnd (F_X7_errs k0 (-1000000001 : Int32) h2) (fun r3 h4 =>
    (some (r3, h4))))
  else
    (bnd (F_X7_in x2 (0 : Int32) (6 : Int32) h2) (fun r5 h6 =>
    (if r5 = 0 then
      (bnd (F_X7_errs k0 (-1000000001 : Int32) h6) (fun r7 h8 =>
      (some (r7, h8))))
    else
      (bnd (F_X7_its k0 x1 (0 : Int32) h6) (fun r9 h10 =>
      (F_X7_as_32 N k0 x1 x2 (fun (v13 : Int32) (h14 : Mem) =>
        (if 0 ≤ v13 then
          (bnd (F_X7_its k0 x1 (1 : Int32) h14) (fun r15 h16 =>
          (some (r15, h16))))
        else
          (bnd (F_X7_errs k0 (-1000000005 : Int32) h14) (fun r17 h18 =>
          (some (r17, h18)))))) N r9 h10)))))))))
set_option maxRecDepth 10000 in
set_option maxHeartbeats 1000000 in
theorem ok_X7_as (l : Launch) (ω : WX) (N : Nat) {k0 : Nat} (hk0 : lay k0 = 7) (x1 : Int32) (x2 : Int32) (h : Mem) : MC rvI l ω yX7_as cX7_as 4 (some .int) 2 [.ref (ω.1 + k0), .int x1, .int x2] h (F_X7_as N k0 x1 x2 h) := by
  refine MC.of (by decide +kernel) [(0, .ref (ω.1 + k0)), (1, .int x1), (2, .int x2)] rfl (Nat.le_of_ble_eq_true rfl) (fun χ K => ?_)
  have K : Kok ω χ "SaltCloudsModel" cX7_as 4 (some .int) 2 := K
  unfold F_X7_as
  refine J_aload_n (pc := 0) K dX7_as_0 0 rfl 0 rfl ?_
  refine J_iload_n (pc := 1) K dX7_as_1 1 rfl 1 rfl ?_
  refine J_callVI (As := [.int x1]) (rest := []) (pc := 2) K cs_SaltCloudsModel_83 (ok_X7_isCloud l ω hk0 x1 h) hk0 (by decide) rfl rfl (Nat.le_of_ble_eq_true rfl) dX7_as_2 (fun r1 h2 => ?_)
  refine J_if_eq (pc := 5) K 18 dX7_as_5 (by decide) ?_ ?_
  · refine J_aload_n (pc := 18) K dX7_as_18 0 rfl 0 rfl ?_
    refine J_ldc (pc := 19) K kc_SaltCloudsModel_53 dX7_as_19 ?_
    refine J_callVI (As := [.int (-1000000001 : Int32)]) (rest := []) (pc := 21) K cs_SaltCloudsModel_54 (ok_X7_errs l ω hk0 (-1000000001 : Int32) h2) hk0 (by decide) rfl rfl (Nat.le_of_ble_eq_true rfl) dX7_as_21 (fun r3 h4 => ?_)
    exact J_iret (pc := 24) K dX7_as_24
  · refine J_iload_n (pc := 8) K dX7_as_8 2 rfl 2 rfl ?_
    refine J_iconst (pc := 9) K (0) dX7_as_9 (by decide) ?_
    refine J_bipush (pc := 10) K (6) dX7_as_10 (by decide) ?_
    refine J_callTI (As := [.int x2, .int (0 : Int32), .int (6 : Int32)]) (rest := []) (pc := 12) K cs_SaltCloudsModel_41 (ok_X7_in l ω x2 (0 : Int32) (6 : Int32) h2) (by decide) rfl rfl (Nat.le_of_ble_eq_true rfl) dX7_as_12 (fun r5 h6 => ?_)
    refine J_if_ne (pc := 15) K 25 dX7_as_15 (by decide) ?_ ?_
    · refine J_aload_n (pc := 18) K dX7_as_18 0 rfl 0 rfl ?_
      refine J_ldc (pc := 19) K kc_SaltCloudsModel_53 dX7_as_19 ?_
      refine J_callVI (As := [.int (-1000000001 : Int32)]) (rest := []) (pc := 21) K cs_SaltCloudsModel_54 (ok_X7_errs l ω hk0 (-1000000001 : Int32) h6) hk0 (by decide) rfl rfl (Nat.le_of_ble_eq_true rfl) dX7_as_21 (fun r7 h8 => ?_)
      exact J_iret (pc := 24) K dX7_as_24
    · refine J_aload_n (pc := 25) K dX7_as_25 0 rfl 0 rfl ?_
      refine J_iload_n (pc := 26) K dX7_as_26 1 rfl 1 rfl ?_
      refine J_iconst (pc := 27) K (0) dX7_as_27 (by decide) ?_
      refine J_callVI (As := [.int x1, .int (0 : Int32)]) (rest := []) (pc := 28) K cs_SaltCloudsModel_45 (ok_X7_its l ω hk0 x1 (0 : Int32) h6) hk0 (by decide) rfl rfl (Nat.le_of_ble_eq_true rfl) dX7_as_28 (fun r9 h10 => ?_)
      refine J_istore_n (pc := 31) K dX7_as_31 3 rfl (by decide) [(3, .int r9), (0, .ref (ω.1 + k0)), (1, .int x1), (2, .int x2)] rfl ?_
      refine J_lv [1, 2, 3, 0] [(0, .ref (ω.1 + k0)), (1, .int x1), (2, .int x2), (3, .int r9)] rfl ?_
      refine okL_X7_as_32 K  (by decide) N hk0 (fun v13 h14 => ?_) _ _ _
      refine J_iload_n (pc := 49) K dX7_as_49 3 rfl 2 rfl ?_
      refine J_if_ge (pc := 50) K 62 dX7_as_50 (by decide) ?_ ?_
      · refine J_aload_n (pc := 62) K dX7_as_62 0 rfl 0 rfl ?_
        refine J_iload_n (pc := 63) K dX7_as_63 1 rfl 1 rfl ?_
        refine J_iconst (pc := 64) K (1) dX7_as_64 (by decide) ?_
        refine J_callVI (As := [.int x1, .int (1 : Int32)]) (rest := []) (pc := 65) K cs_SaltCloudsModel_45 (ok_X7_its l ω hk0 x1 (1 : Int32) h14) hk0 (by decide) rfl rfl (Nat.le_of_ble_eq_true rfl) dX7_as_65 (fun r15 h16 => ?_)
        exact J_iret (pc := 68) K dX7_as_68
      · refine J_aload_n (pc := 53) K dX7_as_53 0 rfl 0 rfl ?_
        refine J_ldc (pc := 54) K kc_SaltCloudsModel_102 dX7_as_54 ?_
        refine J_callVI (As := [.int (-1000000005 : Int32)]) (rest := []) (pc := 56) K cs_SaltCloudsModel_54 (ok_X7_errs l ω hk0 (-1000000005 : Int32) h14) hk0 (by decide) rfl rfl (Nat.le_of_ble_eq_true rfl) dX7_as_56 (fun r17 h18 => ?_)
        refine J_goto (pc := 59) K 68 dX7_as_59 (by decide) ?_
        exact J_iret (pc := 68) K dX7_as_68
def F_X7_set (k0 : Nat) (x1 : Int32) (x2 : Int32) (x3 : Int32) (h : Mem) : Option (Int32 × Mem) :=
  (jn (fun (s2 : Int32) (h3 : Mem) =>
    (bnd (F_X7_isCloud k0 x1 h3) (fun r4 h5 =>
    (if r4 = 0 then
      (bnd (F_X7_errs k0 (-1000000001 : Int32) h5) (fun r6 h7 =>
      (some (r6, h7))))
    else
      (if s2 = 0 then
        (bnd (F_X7_errs k0 (-1000000001 : Int32) h5) (fun r8 h9 =>
        (some (r8, h9))))
      else
        (bnd (F_X7_isThere k0 x1 h5) (fun r10 h11 =>
        (if r10 = 0 then
          (bnd (F_X7_errs k0 (-1000000003 : Int32) h11) (fun r12 h13 =>
          (some (r12, h13))))
        else
          (bnd (F_X7_its k0 x1 ((2 : Int32) + x2) h11) (fun r14 h15 =>
          (bnd (F_X7_puts k0 x1 ((2 : Int32) + x2) x3 h15) (fun _ h17 =>
          (some (r14, h17)))))))))))))) (fun j1 =>
    (if x2 = 0 then
      (bnd (F_X7_isPlace x3 h) (fun r18 h19 =>
      (j1 r18 h19)))
    else
      (if x2 = (1 : Int32) then
        (bnd (F_X7_in x3 (0 : Int32) (999 : Int32) h) (fun r20 h21 =>
        (j1 r20 h21)))
      else
        (bnd (F_X7_in x2 (2 : Int32) (4 : Int32) h) (fun r22 h23 =>
        (if r22 = 0 then
          (j1 (0 : Int32) h23)
        else
          (bnd (F_X7_in x3 (0 : Int32) (99 : Int32) h23) (fun r24 h25 =>
          (if r24 = 0 then
            (j1 (0 : Int32) h25)
          else
            (j1 (1 : Int32) h25)))))))))))
set_option maxRecDepth 10000 in
set_option maxHeartbeats 1000000 in
theorem ok_X7_set (l : Launch) (ω : WX) {k0 : Nat} (hk0 : lay k0 = 7) (x1 : Int32) (x2 : Int32) (x3 : Int32) (h : Mem) : MC rvI l ω yX7_set cX7_set 6 (some .int) 2 [.ref (ω.1 + k0), .int x1, .int x2, .int x3] h (F_X7_set k0 x1 x2 x3 h) := by
  refine MC.of (by decide +kernel) [(0, .ref (ω.1 + k0)), (1, .int x1), (2, .int x2), (3, .int x3)] rfl (Nat.le_of_ble_eq_true rfl) (fun χ K => ?_)
  have K : Kok ω χ "SaltCloudsModel" cX7_set 6 (some .int) 2 := K
  unfold F_X7_set
  refine J_iload_n (pc := 0) K dX7_set_0 2 rfl 2 rfl ?_
  refine J_jn (fun j1 => ∀ (s2 : Int32) (h3 : Mem), J (ZM rvI ω χ) l ω χ 51 6 [(0, .ref (ω.1 + k0)), (1, .int x1), (2, .int x2), (3, .int x3)] [.int s2] h3 (j1 s2 h3)) ?_ ?_
  · intro s2 h3
    refine J_istore (pc := 51) K dX7_set_51 (by decide) [(4, .int s2), (0, .ref (ω.1 + k0)), (1, .int x1), (2, .int x2), (3, .int x3)] rfl ?_
    refine J_aload_n (pc := 53) K dX7_set_53 0 rfl 1 rfl ?_
    refine J_iload_n (pc := 54) K dX7_set_54 1 rfl 2 rfl ?_
    refine J_callVI (As := [.int x1]) (rest := []) (pc := 55) K cs_SaltCloudsModel_83 (ok_X7_isCloud l ω hk0 x1 h3) hk0 (by decide) rfl rfl (Nat.le_of_ble_eq_true rfl) dX7_set_55 (fun r4 h5 => ?_)
    refine J_if_eq (pc := 58) K 66 dX7_set_58 (by decide) ?_ ?_
    · refine J_aload_n (pc := 66) K dX7_set_66 0 rfl 1 rfl ?_
      refine J_ldc (pc := 67) K kc_SaltCloudsModel_53 dX7_set_67 ?_
      refine J_callVI (As := [.int (-1000000001 : Int32)]) (rest := []) (pc := 69) K cs_SaltCloudsModel_54 (ok_X7_errs l ω hk0 (-1000000001 : Int32) h5) hk0 (by decide) rfl rfl (Nat.le_of_ble_eq_true rfl) dX7_set_69 (fun r6 h7 => ?_)
      exact J_iret (pc := 72) K dX7_set_72
    · refine J_iload (pc := 61) K dX7_set_61 0 rfl ?_
      refine J_if_ne (pc := 63) K 73 dX7_set_63 (by decide) ?_ ?_
      · refine J_aload_n (pc := 66) K dX7_set_66 0 rfl 1 rfl ?_
        refine J_ldc (pc := 67) K kc_SaltCloudsModel_53 dX7_set_67 ?_
        refine J_callVI (As := [.int (-1000000001 : Int32)]) (rest := []) (pc := 69) K cs_SaltCloudsModel_54 (ok_X7_errs l ω hk0 (-1000000001 : Int32) h5) hk0 (by decide) rfl rfl (Nat.le_of_ble_eq_true rfl) dX7_set_69 (fun r8 h9 => ?_)
        exact J_iret (pc := 72) K dX7_set_72
      · refine J_aload_n (pc := 73) K dX7_set_73 0 rfl 1 rfl ?_
        refine J_iload_n (pc := 74) K dX7_set_74 1 rfl 2 rfl ?_
        refine J_callVI (As := [.int x1]) (rest := []) (pc := 75) K cs_SaltCloudsModel_77 (ok_X7_isThere l ω hk0 x1 h5) hk0 (by decide) rfl rfl (Nat.le_of_ble_eq_true rfl) dX7_set_75 (fun r10 h11 => ?_)
        refine J_if_ne (pc := 78) K 88 dX7_set_78 (by decide) ?_ ?_
        · refine J_aload_n (pc := 81) K dX7_set_81 0 rfl 1 rfl ?_
          refine J_ldc (pc := 82) K kc_SaltCloudsModel_103 dX7_set_82 ?_
          refine J_callVI (As := [.int (-1000000003 : Int32)]) (rest := []) (pc := 84) K cs_SaltCloudsModel_54 (ok_X7_errs l ω hk0 (-1000000003 : Int32) h11) hk0 (by decide) rfl rfl (Nat.le_of_ble_eq_true rfl) dX7_set_84 (fun r12 h13 => ?_)
          exact J_iret (pc := 87) K dX7_set_87
        · refine J_aload_n (pc := 88) K dX7_set_88 0 rfl 1 rfl ?_
          refine J_iload_n (pc := 89) K dX7_set_89 1 rfl 2 rfl ?_
          refine J_iconst (pc := 90) K (2) dX7_set_90 (by decide) ?_
          refine J_iload_n (pc := 91) K dX7_set_91 2 rfl 3 rfl ?_
          refine J_iadd (pc := 92) K dX7_set_92 ?_
          refine J_callVI (As := [.int x1, .int ((2 : Int32) + x2)]) (rest := []) (pc := 93) K cs_SaltCloudsModel_45 (ok_X7_its l ω hk0 x1 ((2 : Int32) + x2) h11) hk0 (by decide) rfl rfl (Nat.le_of_ble_eq_true rfl) dX7_set_93 (fun r14 h15 => ?_)
          refine J_istore (pc := 96) K dX7_set_96 (by decide) [(5, .int r14), (4, .int s2), (0, .ref (ω.1 + k0)), (1, .int x1), (2, .int x2), (3, .int x3)] rfl ?_
          refine J_aload_n (pc := 98) K dX7_set_98 0 rfl 2 rfl ?_
          refine J_iload_n (pc := 99) K dX7_set_99 1 rfl 3 rfl ?_
          refine J_iconst (pc := 100) K (2) dX7_set_100 (by decide) ?_
          refine J_iload_n (pc := 101) K dX7_set_101 2 rfl 4 rfl ?_
          refine J_iadd (pc := 102) K dX7_set_102 ?_
          refine J_iload_n (pc := 103) K dX7_set_103 3 rfl 5 rfl ?_
          refine J_callVU (As := [.int x1, .int ((2 : Int32) + x2), .int x3]) (rest := []) (pc := 104) K cs_SaltCloudsModel_59 (ok_X7_puts l ω hk0 x1 ((2 : Int32) + x2) x3 h15) hk0 (by decide) rfl rfl (Nat.le_of_ble_eq_true rfl) dX7_set_104 (fun _ h17 => ?_)
          refine J_iload (pc := 107) K dX7_set_107 0 rfl ?_
          exact J_iret (pc := 109) K dX7_set_109
  · intro j1 hj1
    refine J_if_ne (pc := 1) K 11 dX7_set_1 (by decide) ?_ ?_
    · refine J_iload_n (pc := 4) K dX7_set_4 3 rfl 3 rfl ?_
      refine J_callTI (As := [.int x3]) (rest := []) (pc := 5) K cs_SaltCloudsModel_49 (ok_X7_isPlace l ω x3 h) (by decide) rfl rfl (Nat.le_of_ble_eq_true rfl) dX7_set_5 (fun r18 h19 => ?_)
      refine J_goto (pc := 8) K 51 dX7_set_8 (by decide) ?_
      exact hj1 r18 h19
    · refine J_iload_n (pc := 11) K dX7_set_11 2 rfl 2 rfl ?_
      refine J_iconst (pc := 12) K (1) dX7_set_12 (by decide) ?_
      refine J_icmp_ne (pc := 13) K 27 dX7_set_13 (by decide) ?_ ?_
      · refine J_iload_n (pc := 16) K dX7_set_16 3 rfl 3 rfl ?_
        refine J_iconst (pc := 17) K (0) dX7_set_17 (by decide) ?_
        refine J_sipush (pc := 18) K (999) dX7_set_18 (by decide) ?_
        refine J_callTI (As := [.int x3, .int (0 : Int32), .int (999 : Int32)]) (rest := []) (pc := 21) K cs_SaltCloudsModel_41 (ok_X7_in l ω x3 (0 : Int32) (999 : Int32) h) (by decide) rfl rfl (Nat.le_of_ble_eq_true rfl) dX7_set_21 (fun r20 h21 => ?_)
        refine J_goto (pc := 24) K 51 dX7_set_24 (by decide) ?_
        exact hj1 r20 h21
      · refine J_iload_n (pc := 27) K dX7_set_27 2 rfl 2 rfl ?_
        refine J_iconst (pc := 28) K (2) dX7_set_28 (by decide) ?_
        refine J_iconst (pc := 29) K (4) dX7_set_29 (by decide) ?_
        refine J_callTI (As := [.int x2, .int (2 : Int32), .int (4 : Int32)]) (rest := []) (pc := 30) K cs_SaltCloudsModel_41 (ok_X7_in l ω x2 (2 : Int32) (4 : Int32) h) (by decide) rfl rfl (Nat.le_of_ble_eq_true rfl) dX7_set_30 (fun r22 h23 => ?_)
        refine J_if_eq (pc := 33) K 50 dX7_set_33 (by decide) ?_ ?_
        · refine J_iconst (pc := 50) K (0) dX7_set_50 (by decide) ?_
          exact hj1 (0 : Int32) h23
        · refine J_iload_n (pc := 36) K dX7_set_36 3 rfl 3 rfl ?_
          refine J_iconst (pc := 37) K (0) dX7_set_37 (by decide) ?_
          refine J_bipush (pc := 38) K (99) dX7_set_38 (by decide) ?_
          refine J_callTI (As := [.int x3, .int (0 : Int32), .int (99 : Int32)]) (rest := []) (pc := 40) K cs_SaltCloudsModel_41 (ok_X7_in l ω x3 (0 : Int32) (99 : Int32) h23) (by decide) rfl rfl (Nat.le_of_ble_eq_true rfl) dX7_set_40 (fun r24 h25 => ?_)
          refine J_if_eq (pc := 43) K 50 dX7_set_43 (by decide) ?_ ?_
          · refine J_iconst (pc := 50) K (0) dX7_set_50 (by decide) ?_
            exact hj1 (0 : Int32) h25
          · refine J_iconst (pc := 46) K (1) dX7_set_46 (by decide) ?_
            refine J_goto (pc := 47) K 51 dX7_set_47 (by decide) ?_
            exact hj1 (1 : Int32) h25
def F_X7_hill (k0 : Nat) (x1 : Int32) (x2 : Int32) (h : Mem) : Option (Int32 × Mem) :=
  (bnd (F_X7_isPlace x1 h) (fun r1 h2 =>
  (if r1 = 0 then
    (bnd (F_X7_errs k0 (-1000000001 : Int32) h2) (fun r3 h4 =>
    (some (r3, h4))))
  else
    (bnd (F_X7_in x2 (0 : Int32) (9 : Int32) h2) (fun r5 h6 =>
    (if r5 = 0 then
      (bnd (F_X7_errs k0 (-1000000001 : Int32) h6) (fun r7 h8 =>
      (some (r7, h8))))
    else
      (seqi ((16 : Int32) + x1) (fun v9 =>
      (gin v9 262
      (seqi (h6 (k0 + 1) (ix v9)) (fun v10 =>
      (gin ((16 : Int32) + x1) 262 (seqh (upm h6 (k0 + 1) (ix ((16 : Int32) + x1)) x2) (fun h11 =>
      (some (v10, h11))))))))))))))))
set_option maxRecDepth 10000 in
set_option maxHeartbeats 1000000 in
theorem ok_X7_hill (l : Launch) (ω : WX) {k0 : Nat} (hk0 : lay k0 = 7) (x1 : Int32) (x2 : Int32) (h : Mem) : MC rvI l ω yX7_hill cX7_hill 4 (some .int) 2 [.ref (ω.1 + k0), .int x1, .int x2] h (F_X7_hill k0 x1 x2 h) := by
  refine MC.of (by decide +kernel) [(0, .ref (ω.1 + k0)), (1, .int x1), (2, .int x2)] rfl (Nat.le_of_ble_eq_true rfl) (fun χ K => ?_)
  have K : Kok ω χ "SaltCloudsModel" cX7_hill 4 (some .int) 2 := K
  unfold F_X7_hill
  refine J_iload_n (pc := 0) K dX7_hill_0 1 rfl 1 rfl ?_
  refine J_callTI (As := [.int x1]) (rest := []) (pc := 1) K cs_SaltCloudsModel_49 (ok_X7_isPlace l ω x1 h) (by decide) rfl rfl (Nat.le_of_ble_eq_true rfl) dX7_hill_1 (fun r1 h2 => ?_)
  refine J_if_eq (pc := 4) K 17 dX7_hill_4 (by decide) ?_ ?_
  · refine J_aload_n (pc := 17) K dX7_hill_17 0 rfl 0 rfl ?_
    refine J_ldc (pc := 18) K kc_SaltCloudsModel_53 dX7_hill_18 ?_
    refine J_callVI (As := [.int (-1000000001 : Int32)]) (rest := []) (pc := 20) K cs_SaltCloudsModel_54 (ok_X7_errs l ω hk0 (-1000000001 : Int32) h2) hk0 (by decide) rfl rfl (Nat.le_of_ble_eq_true rfl) dX7_hill_20 (fun r3 h4 => ?_)
    exact J_iret (pc := 23) K dX7_hill_23
  · refine J_iload_n (pc := 7) K dX7_hill_7 2 rfl 2 rfl ?_
    refine J_iconst (pc := 8) K (0) dX7_hill_8 (by decide) ?_
    refine J_bipush (pc := 9) K (9) dX7_hill_9 (by decide) ?_
    refine J_callTI (As := [.int x2, .int (0 : Int32), .int (9 : Int32)]) (rest := []) (pc := 11) K cs_SaltCloudsModel_41 (ok_X7_in l ω x2 (0 : Int32) (9 : Int32) h2) (by decide) rfl rfl (Nat.le_of_ble_eq_true rfl) dX7_hill_11 (fun r5 h6 => ?_)
    refine J_if_ne (pc := 14) K 24 dX7_hill_14 (by decide) ?_ ?_
    · refine J_aload_n (pc := 17) K dX7_hill_17 0 rfl 0 rfl ?_
      refine J_ldc (pc := 18) K kc_SaltCloudsModel_53 dX7_hill_18 ?_
      refine J_callVI (As := [.int (-1000000001 : Int32)]) (rest := []) (pc := 20) K cs_SaltCloudsModel_54 (ok_X7_errs l ω hk0 (-1000000001 : Int32) h6) hk0 (by decide) rfl rfl (Nat.le_of_ble_eq_true rfl) dX7_hill_20 (fun r7 h8 => ?_)
      exact J_iret (pc := 23) K dX7_hill_23
    · refine J_aload_n (pc := 24) K dX7_hill_24 0 rfl 0 rfl ?_
      refine J_getR (pc := 25) K gf_SaltCloudsModel_7 hk0 1 rfl dX7_hill_25 ?_
      refine J_bipush (pc := 28) K (16) dX7_hill_28 (by decide) ?_
      refine J_iload_n (pc := 30) K dX7_hill_30 1 rfl 1 rfl ?_
      refine J_iadd (pc := 31) K dX7_hill_31 ?_
      refine J_topi (fun v9 => ?_)
      refine J_iald (pc := 32) K (a := k0 + 1) (n := 262) (ty_7_1 hk0) dX7_hill_32 ?_
      refine J_topi (fun v10 => ?_)
      refine J_istore_n (pc := 33) K dX7_hill_33 3 rfl (by decide) [(3, .int v10), (0, .ref (ω.1 + k0)), (1, .int x1), (2, .int x2)] rfl ?_
      refine J_aload_n (pc := 34) K dX7_hill_34 0 rfl 1 rfl ?_
      refine J_getR (pc := 35) K gf_SaltCloudsModel_7 hk0 1 rfl dX7_hill_35 ?_
      refine J_bipush (pc := 38) K (16) dX7_hill_38 (by decide) ?_
      refine J_iload_n (pc := 40) K dX7_hill_40 1 rfl 2 rfl ?_
      refine J_iadd (pc := 41) K dX7_hill_41 ?_
      refine J_iload_n (pc := 42) K dX7_hill_42 2 rfl 3 rfl ?_
      refine J_iast (pc := 43) K (a := k0 + 1) (n := 262) (ty_7_1 hk0) dX7_hill_43 (fun h11 => ?_)
      refine J_iload_n (pc := 44) K dX7_hill_44 3 rfl 0 rfl ?_
      exact J_iret (pc := 45) K dX7_hill_45
def F_X7_wind (k0 : Nat) (x1 : Int32) (x2 : Int32) (h : Mem) : Option (Int32 × Mem) :=
  (bnd (F_X7_in x1 (0 : Int32) (7 : Int32) h) (fun r1 h2 =>
  (if r1 = 0 then
    (bnd (F_X7_errs k0 (-1000000001 : Int32) h2) (fun r3 h4 =>
    (some (r3, h4))))
  else
    (bnd (F_X7_in x2 (-3 : Int32) (3 : Int32) h2) (fun r5 h6 =>
    (if r5 = 0 then
      (bnd (F_X7_errs k0 (-1000000001 : Int32) h6) (fun r7 h8 =>
      (some (r7, h8))))
    else
      (seqi ((8 : Int32) + x1) (fun v9 =>
      (gin v9 262
      (seqi (h6 (k0 + 1) (ix v9)) (fun v10 =>
      (gin ((8 : Int32) + x1) 262 (seqh (upm h6 (k0 + 1) (ix ((8 : Int32) + x1)) x2) (fun h11 =>
      (some (v10, h11))))))))))))))))
set_option maxRecDepth 10000 in
set_option maxHeartbeats 1000000 in
theorem ok_X7_wind (l : Launch) (ω : WX) {k0 : Nat} (hk0 : lay k0 = 7) (x1 : Int32) (x2 : Int32) (h : Mem) : MC rvI l ω yX7_wind cX7_wind 4 (some .int) 1 [.ref (ω.1 + k0), .int x1, .int x2] h (F_X7_wind k0 x1 x2 h) := by
  refine MC.of (by decide +kernel) [(0, .ref (ω.1 + k0)), (1, .int x1), (2, .int x2)] rfl (Nat.le_of_ble_eq_true rfl) (fun χ K => ?_)
  have K : Kok ω χ "SaltCloudsModel" cX7_wind 4 (some .int) 1 := K
  unfold F_X7_wind
  refine J_iload_n (pc := 0) K dX7_wind_0 1 rfl 1 rfl ?_
  refine J_iconst (pc := 1) K (0) dX7_wind_1 (by decide) ?_
  refine J_bipush (pc := 2) K (7) dX7_wind_2 (by decide) ?_
  refine J_callTI (As := [.int x1, .int (0 : Int32), .int (7 : Int32)]) (rest := []) (pc := 4) K cs_SaltCloudsModel_41 (ok_X7_in l ω x1 (0 : Int32) (7 : Int32) h) (by decide) rfl rfl (Nat.le_of_ble_eq_true rfl) dX7_wind_4 (fun r1 h2 => ?_)
  refine J_if_eq (pc := 7) K 20 dX7_wind_7 (by decide) ?_ ?_
  · refine J_aload_n (pc := 20) K dX7_wind_20 0 rfl 0 rfl ?_
    refine J_ldc (pc := 21) K kc_SaltCloudsModel_53 dX7_wind_21 ?_
    refine J_callVI (As := [.int (-1000000001 : Int32)]) (rest := []) (pc := 23) K cs_SaltCloudsModel_54 (ok_X7_errs l ω hk0 (-1000000001 : Int32) h2) hk0 (by decide) rfl rfl (Nat.le_of_ble_eq_true rfl) dX7_wind_23 (fun r3 h4 => ?_)
    exact J_iret (pc := 26) K dX7_wind_26
  · refine J_iload_n (pc := 10) K dX7_wind_10 2 rfl 2 rfl ?_
    refine J_bipush (pc := 11) K (-3) dX7_wind_11 (by decide) ?_
    refine J_iconst (pc := 13) K (3) dX7_wind_13 (by decide) ?_
    refine J_callTI (As := [.int x2, .int (-3 : Int32), .int (3 : Int32)]) (rest := []) (pc := 14) K cs_SaltCloudsModel_41 (ok_X7_in l ω x2 (-3 : Int32) (3 : Int32) h2) (by decide) rfl rfl (Nat.le_of_ble_eq_true rfl) dX7_wind_14 (fun r5 h6 => ?_)
    refine J_if_ne (pc := 17) K 27 dX7_wind_17 (by decide) ?_ ?_
    · refine J_aload_n (pc := 20) K dX7_wind_20 0 rfl 0 rfl ?_
      refine J_ldc (pc := 21) K kc_SaltCloudsModel_53 dX7_wind_21 ?_
      refine J_callVI (As := [.int (-1000000001 : Int32)]) (rest := []) (pc := 23) K cs_SaltCloudsModel_54 (ok_X7_errs l ω hk0 (-1000000001 : Int32) h6) hk0 (by decide) rfl rfl (Nat.le_of_ble_eq_true rfl) dX7_wind_23 (fun r7 h8 => ?_)
      exact J_iret (pc := 26) K dX7_wind_26
    · refine J_aload_n (pc := 27) K dX7_wind_27 0 rfl 0 rfl ?_
      refine J_getR (pc := 28) K gf_SaltCloudsModel_7 hk0 1 rfl dX7_wind_28 ?_
      refine J_bipush (pc := 31) K (8) dX7_wind_31 (by decide) ?_
      refine J_iload_n (pc := 33) K dX7_wind_33 1 rfl 1 rfl ?_
      refine J_iadd (pc := 34) K dX7_wind_34 ?_
      refine J_topi (fun v9 => ?_)
      refine J_iald (pc := 35) K (a := k0 + 1) (n := 262) (ty_7_1 hk0) dX7_wind_35 ?_
      refine J_topi (fun v10 => ?_)
      refine J_istore_n (pc := 36) K dX7_wind_36 3 rfl (by decide) [(3, .int v10), (0, .ref (ω.1 + k0)), (1, .int x1), (2, .int x2)] rfl ?_
      refine J_aload_n (pc := 37) K dX7_wind_37 0 rfl 1 rfl ?_
      refine J_getR (pc := 38) K gf_SaltCloudsModel_7 hk0 1 rfl dX7_wind_38 ?_
      refine J_bipush (pc := 41) K (8) dX7_wind_41 (by decide) ?_
      refine J_iload_n (pc := 43) K dX7_wind_43 1 rfl 2 rfl ?_
      refine J_iadd (pc := 44) K dX7_wind_44 ?_
      refine J_iload_n (pc := 45) K dX7_wind_45 2 rfl 3 rfl ?_
      refine J_iast (pc := 46) K (a := k0 + 1) (n := 262) (ty_7_1 hk0) dX7_wind_46 (fun h11 => ?_)
      refine J_iload_n (pc := 47) K dX7_wind_47 3 rfl 0 rfl ?_
      exact J_iret (pc := 48) K dX7_wind_48
def F_X7_join_68 (N : Nat) (k0 : Nat) (w1 : Int32) (w2 : Int32) (kt : Mem → Option (Int32 × Mem)) : Nat → Int32 → Mem → Option (Int32 × Mem)
  | 0, _, _ => none
  | n + 1, u3, h =>
    (if (7 : Int32) ≤ u3 then
      (kt h)
    else
      (bnd (F_X7_its k0 w1 u3 h) (fun r23 h24 =>
      (bnd (F_X7_its k0 w2 u3 h24) (fun r25 h26 =>
      (jn (fun (v28 s29 : Int32) (h30 : Mem) =>
        (bnd (F_X7_held (r23 + r25) (0 : Int32) s29 h30) (fun r31 h32 =>
        (bnd (F_X7_puts k0 w1 u3 r31 h32) (fun _ h34 =>
        (bnd (F_X7_puts k0 w2 v28 (0 : Int32) h34) (fun _ h36 =>
        (F_X7_join_68 N k0 w1 w2 kt n (v28 + 1) h36)))))))) (fun j27 =>
        (if u3 = (3 : Int32) then
          (j27 u3 (999 : Int32) h26)
        else
          (j27 u3 (99 : Int32) h26)))))))))
set_option maxRecDepth 10000 in
set_option maxHeartbeats 1000000 in
theorem okL_X7_join_68 {l : Launch} {ω : WX} {χ : KT} {d : Nat} (K : Kok ω χ "SaltCloudsModel" cX7_join 4 (some .int) d) (hd : 1 ≤ d) (N : Nat) {k0 : Nat} (hk0 : lay k0 = 7) {w1 : Int32} {w2 : Int32} {kt : Mem → Option (Int32 × Mem)} (hK : ∀ (h : Mem), J (ZM rvI ω χ) l ω χ 123 4 [(0, .ref (ω.1 + k0)), (1, .int w1), (2, .int w2)] [] h (kt h)) : ∀ (n : Nat) (u3 : Int32) (h : Mem), J (ZM rvI ω χ) l ω χ 68 4 [(0, .ref (ω.1 + k0)), (1, .int w1), (2, .int w2), (3, .int u3)] [] h (F_X7_join_68 N k0 w1 w2 kt n u3 h) := by
  intro n
  induction n with
  | zero =>
    intro u3 h
    exact J_none rfl
  | succ n ih =>
    intro u3 h
    rw [F_X7_join_68]
    refine J_iload_n (pc := 68) K dX7_join_68 3 rfl 3 rfl ?_
    refine J_bipush (pc := 69) K (7) dX7_join_69 (by decide) ?_
    refine J_icmp_ge (pc := 71) K 123 dX7_join_71 (by decide) ?_ ?_
    · refine J_lv [0, 1, 2] [(0, .ref (ω.1 + k0)), (1, .int w1), (2, .int w2)] rfl ?_
      exact hK h
    · refine J_aload_n (pc := 74) K dX7_join_74 0 rfl 0 rfl ?_
      refine J_iload_n (pc := 75) K dX7_join_75 1 rfl 1 rfl ?_
      refine J_iload_n (pc := 76) K dX7_join_76 3 rfl 3 rfl ?_
      refine J_aload_n (pc := 77) K dX7_join_77 0 rfl 0 rfl ?_
      refine J_iload_n (pc := 78) K dX7_join_78 1 rfl 1 rfl ?_
      refine J_iload_n (pc := 79) K dX7_join_79 3 rfl 3 rfl ?_
      refine J_callVI (As := [.int w1, .int u3]) (rest := [.int u3, .int w1, .ref (ω.1 + k0)]) (pc := 80) K cs_SaltCloudsModel_45 (ok_X7_its l ω hk0 w1 u3 h) hk0 (by omega) rfl rfl (Nat.le_of_ble_eq_true rfl) dX7_join_80 (fun r23 h24 => ?_)
      refine J_aload_n (pc := 83) K dX7_join_83 0 rfl 0 rfl ?_
      refine J_iload_n (pc := 84) K dX7_join_84 2 rfl 2 rfl ?_
      refine J_iload_n (pc := 85) K dX7_join_85 3 rfl 3 rfl ?_
      refine J_callVI (As := [.int w2, .int u3]) (rest := [.int r23, .int u3, .int w1, .ref (ω.1 + k0)]) (pc := 86) K cs_SaltCloudsModel_45 (ok_X7_its l ω hk0 w2 u3 h24) hk0 (by omega) rfl rfl (Nat.le_of_ble_eq_true rfl) dX7_join_86 (fun r25 h26 => ?_)
      refine J_iadd (pc := 89) K dX7_join_89 ?_
      refine J_iconst (pc := 90) K (0) dX7_join_90 (by decide) ?_
      refine J_iload_n (pc := 91) K dX7_join_91 3 rfl 3 rfl ?_
      refine J_iconst (pc := 92) K (3) dX7_join_92 (by decide) ?_
      refine J_jn (fun j27 => ∀ (v28 s29 : Int32) (h30 : Mem), J (ZM rvI ω χ) l ω χ 104 4 [(0, .ref (ω.1 + k0)), (1, .int w1), (2, .int w2), (3, .int v28)] [.int s29, .int (0 : Int32), .int (r23 + r25), .int u3, .int w1, .ref (ω.1 + k0)] h30 (j27 v28 s29 h30)) ?_ ?_
      · intro v28 s29 h30
        refine J_callTI (As := [.int (r23 + r25), .int (0 : Int32), .int s29]) (rest := [.int u3, .int w1, .ref (ω.1 + k0)]) (pc := 104) K cs_SaltCloudsModel_63 (ok_X7_held l ω (r23 + r25) (0 : Int32) s29 h30) (by omega) rfl rfl (Nat.le_of_ble_eq_true rfl) dX7_join_104 (fun r31 h32 => ?_)
        refine J_callVU (As := [.int w1, .int u3, .int r31]) (rest := []) (pc := 107) K cs_SaltCloudsModel_59 (ok_X7_puts l ω hk0 w1 u3 r31 h32) hk0 (by omega) rfl rfl (Nat.le_of_ble_eq_true rfl) dX7_join_107 (fun _ h34 => ?_)
        refine J_aload_n (pc := 110) K dX7_join_110 0 rfl 0 rfl ?_
        refine J_iload_n (pc := 111) K dX7_join_111 2 rfl 2 rfl ?_
        refine J_iload_n (pc := 112) K dX7_join_112 3 rfl 3 rfl ?_
        refine J_iconst (pc := 113) K (0) dX7_join_113 (by decide) ?_
        refine J_callVU (As := [.int w2, .int v28, .int (0 : Int32)]) (rest := []) (pc := 114) K cs_SaltCloudsModel_59 (ok_X7_puts l ω hk0 w2 v28 (0 : Int32) h34) hk0 (by omega) rfl rfl (Nat.le_of_ble_eq_true rfl) dX7_join_114 (fun _ h36 => ?_)
        refine J_iinc (pc := 117) K (1) dX7_join_117 3 rfl (by decide) (by decide) [(3, .int (v28 + 1)), (0, .ref (ω.1 + k0)), (1, .int w1), (2, .int w2)] rfl ?_
        refine J_goto (pc := 120) K 68 dX7_join_120 (by decide) ?_
        refine J_lv [1, 2, 3, 0] [(0, .ref (ω.1 + k0)), (1, .int w1), (2, .int w2), (3, .int (v28 + 1))] rfl ?_
        exact ih (v28 + 1) h36
      · intro j27 hj27
        refine J_icmp_ne (pc := 93) K 102 dX7_join_93 (by decide) ?_ ?_
        · refine J_sipush (pc := 96) K (999) dX7_join_96 (by decide) ?_
          refine J_goto (pc := 99) K 104 dX7_join_99 (by decide) ?_
          exact hj27 u3 (999 : Int32) h26
        · refine J_bipush (pc := 102) K (99) dX7_join_102 (by decide) ?_
          exact hj27 u3 (99 : Int32) h26
def F_X7_join (N : Nat) (k0 : Nat) (x1 : Int32) (x2 : Int32) (h : Mem) : Option (Int32 × Mem) :=
  (bnd (F_X7_isCloud k0 x1 h) (fun r1 h2 =>
  (if r1 = 0 then
    (bnd (F_X7_errs k0 (-1000000001 : Int32) h2) (fun r3 h4 =>
    (some (r3, h4))))
  else
    (bnd (F_X7_isCloud k0 x2 h2) (fun r5 h6 =>
    (if r5 = 0 then
      (bnd (F_X7_errs k0 (-1000000001 : Int32) h6) (fun r7 h8 =>
      (some (r7, h8))))
    else
      (if x1 = x2 then
        (bnd (F_X7_errs k0 (-1000000001 : Int32) h6) (fun r9 h10 =>
        (some (r9, h10))))
      else
        (bnd (F_X7_isThere k0 x1 h6) (fun r11 h12 =>
        (if r11 = 0 then
          (bnd (F_X7_errs k0 (-1000000003 : Int32) h12) (fun r13 h14 =>
          (some (r13, h14))))
        else
          (bnd (F_X7_isThere k0 x2 h12) (fun r15 h16 =>
          (if r15 = 0 then
            (bnd (F_X7_errs k0 (-1000000003 : Int32) h16) (fun r17 h18 =>
            (some (r17, h18))))
          else
            (bnd (F_X7_its k0 x1 (2 : Int32) h16) (fun r19 h20 =>
            (bnd (F_X7_its k0 x2 (2 : Int32) h20) (fun r21 h22 =>
            (if r19 = r21 then
              (F_X7_join_68 N k0 x1 x2 (fun (h37 : Mem) =>
                (bnd (F_X7_puts k0 x2 (7 : Int32) (0 : Int32) h37) (fun _ h39 =>
                (bnd (F_X7_its k0 x1 (3 : Int32) h39) (fun r40 h41 =>
                (some (r40, h41))))))) N (3 : Int32) h22)
            else
              (bnd (F_X7_errs k0 (-1000000003 : Int32) h22) (fun r42 h43 =>
              (some (r42, h43))))))))))))))))))))))
set_option maxRecDepth 10000 in
set_option maxHeartbeats 1000000 in
theorem ok_X7_join (l : Launch) (ω : WX) (N : Nat) {k0 : Nat} (hk0 : lay k0 = 7) (x1 : Int32) (x2 : Int32) (h : Mem) : MC rvI l ω yX7_join cX7_join 4 (some .int) 2 [.ref (ω.1 + k0), .int x1, .int x2] h (F_X7_join N k0 x1 x2 h) := by
  refine MC.of (by decide +kernel) [(0, .ref (ω.1 + k0)), (1, .int x1), (2, .int x2)] rfl (Nat.le_of_ble_eq_true rfl) (fun χ K => ?_)
  have K : Kok ω χ "SaltCloudsModel" cX7_join 4 (some .int) 2 := K
  unfold F_X7_join
  refine J_aload_n (pc := 0) K dX7_join_0 0 rfl 0 rfl ?_
  refine J_iload_n (pc := 1) K dX7_join_1 1 rfl 1 rfl ?_
  refine J_callVI (As := [.int x1]) (rest := []) (pc := 2) K cs_SaltCloudsModel_83 (ok_X7_isCloud l ω hk0 x1 h) hk0 (by decide) rfl rfl (Nat.le_of_ble_eq_true rfl) dX7_join_2 (fun r1 h2 => ?_)
  refine J_if_eq (pc := 5) K 21 dX7_join_5 (by decide) ?_ ?_
  · refine J_aload_n (pc := 21) K dX7_join_21 0 rfl 0 rfl ?_
    refine J_ldc (pc := 22) K kc_SaltCloudsModel_53 dX7_join_22 ?_
    refine J_callVI (As := [.int (-1000000001 : Int32)]) (rest := []) (pc := 24) K cs_SaltCloudsModel_54 (ok_X7_errs l ω hk0 (-1000000001 : Int32) h2) hk0 (by decide) rfl rfl (Nat.le_of_ble_eq_true rfl) dX7_join_24 (fun r3 h4 => ?_)
    exact J_iret (pc := 27) K dX7_join_27
  · refine J_aload_n (pc := 8) K dX7_join_8 0 rfl 0 rfl ?_
    refine J_iload_n (pc := 9) K dX7_join_9 2 rfl 2 rfl ?_
    refine J_callVI (As := [.int x2]) (rest := []) (pc := 10) K cs_SaltCloudsModel_83 (ok_X7_isCloud l ω hk0 x2 h2) hk0 (by decide) rfl rfl (Nat.le_of_ble_eq_true rfl) dX7_join_10 (fun r5 h6 => ?_)
    refine J_if_eq (pc := 13) K 21 dX7_join_13 (by decide) ?_ ?_
    · refine J_aload_n (pc := 21) K dX7_join_21 0 rfl 0 rfl ?_
      refine J_ldc (pc := 22) K kc_SaltCloudsModel_53 dX7_join_22 ?_
      refine J_callVI (As := [.int (-1000000001 : Int32)]) (rest := []) (pc := 24) K cs_SaltCloudsModel_54 (ok_X7_errs l ω hk0 (-1000000001 : Int32) h6) hk0 (by decide) rfl rfl (Nat.le_of_ble_eq_true rfl) dX7_join_24 (fun r7 h8 => ?_)
      exact J_iret (pc := 27) K dX7_join_27
    · refine J_iload_n (pc := 16) K dX7_join_16 1 rfl 1 rfl ?_
      refine J_iload_n (pc := 17) K dX7_join_17 2 rfl 2 rfl ?_
      refine J_icmp_ne (pc := 18) K 28 dX7_join_18 (by decide) ?_ ?_
      · refine J_aload_n (pc := 21) K dX7_join_21 0 rfl 0 rfl ?_
        refine J_ldc (pc := 22) K kc_SaltCloudsModel_53 dX7_join_22 ?_
        refine J_callVI (As := [.int (-1000000001 : Int32)]) (rest := []) (pc := 24) K cs_SaltCloudsModel_54 (ok_X7_errs l ω hk0 (-1000000001 : Int32) h6) hk0 (by decide) rfl rfl (Nat.le_of_ble_eq_true rfl) dX7_join_24 (fun r9 h10 => ?_)
        exact J_iret (pc := 27) K dX7_join_27
      · refine J_aload_n (pc := 28) K dX7_join_28 0 rfl 0 rfl ?_
        refine J_iload_n (pc := 29) K dX7_join_29 1 rfl 1 rfl ?_
        refine J_callVI (As := [.int x1]) (rest := []) (pc := 30) K cs_SaltCloudsModel_77 (ok_X7_isThere l ω hk0 x1 h6) hk0 (by decide) rfl rfl (Nat.le_of_ble_eq_true rfl) dX7_join_30 (fun r11 h12 => ?_)
        refine J_if_eq (pc := 33) K 59 dX7_join_33 (by decide) ?_ ?_
        · refine J_aload_n (pc := 59) K dX7_join_59 0 rfl 0 rfl ?_
          refine J_ldc (pc := 60) K kc_SaltCloudsModel_103 dX7_join_60 ?_
          refine J_callVI (As := [.int (-1000000003 : Int32)]) (rest := []) (pc := 62) K cs_SaltCloudsModel_54 (ok_X7_errs l ω hk0 (-1000000003 : Int32) h12) hk0 (by decide) rfl rfl (Nat.le_of_ble_eq_true rfl) dX7_join_62 (fun r13 h14 => ?_)
          exact J_iret (pc := 65) K dX7_join_65
        · refine J_aload_n (pc := 36) K dX7_join_36 0 rfl 0 rfl ?_
          refine J_iload_n (pc := 37) K dX7_join_37 2 rfl 2 rfl ?_
          refine J_callVI (As := [.int x2]) (rest := []) (pc := 38) K cs_SaltCloudsModel_77 (ok_X7_isThere l ω hk0 x2 h12) hk0 (by decide) rfl rfl (Nat.le_of_ble_eq_true rfl) dX7_join_38 (fun r15 h16 => ?_)
          refine J_if_eq (pc := 41) K 59 dX7_join_41 (by decide) ?_ ?_
          · refine J_aload_n (pc := 59) K dX7_join_59 0 rfl 0 rfl ?_
            refine J_ldc (pc := 60) K kc_SaltCloudsModel_103 dX7_join_60 ?_
            refine J_callVI (As := [.int (-1000000003 : Int32)]) (rest := []) (pc := 62) K cs_SaltCloudsModel_54 (ok_X7_errs l ω hk0 (-1000000003 : Int32) h16) hk0 (by decide) rfl rfl (Nat.le_of_ble_eq_true rfl) dX7_join_62 (fun r17 h18 => ?_)
            exact J_iret (pc := 65) K dX7_join_65
          · refine J_aload_n (pc := 44) K dX7_join_44 0 rfl 0 rfl ?_
            refine J_iload_n (pc := 45) K dX7_join_45 1 rfl 1 rfl ?_
            refine J_iconst (pc := 46) K (2) dX7_join_46 (by decide) ?_
            refine J_callVI (As := [.int x1, .int (2 : Int32)]) (rest := []) (pc := 47) K cs_SaltCloudsModel_45 (ok_X7_its l ω hk0 x1 (2 : Int32) h16) hk0 (by decide) rfl rfl (Nat.le_of_ble_eq_true rfl) dX7_join_47 (fun r19 h20 => ?_)
            refine J_aload_n (pc := 50) K dX7_join_50 0 rfl 0 rfl ?_
            refine J_iload_n (pc := 51) K dX7_join_51 2 rfl 2 rfl ?_
            refine J_iconst (pc := 52) K (2) dX7_join_52 (by decide) ?_
            refine J_callVI (As := [.int x2, .int (2 : Int32)]) (rest := [.int r19]) (pc := 53) K cs_SaltCloudsModel_45 (ok_X7_its l ω hk0 x2 (2 : Int32) h20) hk0 (by decide) rfl rfl (Nat.le_of_ble_eq_true rfl) dX7_join_53 (fun r21 h22 => ?_)
            refine J_icmp_eq (pc := 56) K 66 dX7_join_56 (by decide) ?_ ?_
            · refine J_iconst (pc := 66) K (3) dX7_join_66 (by decide) ?_
              refine J_istore_n (pc := 67) K dX7_join_67 3 rfl (by decide) [(3, .int (3 : Int32)), (0, .ref (ω.1 + k0)), (1, .int x1), (2, .int x2)] rfl ?_
              refine J_lv [1, 2, 3, 0] [(0, .ref (ω.1 + k0)), (1, .int x1), (2, .int x2), (3, .int (3 : Int32))] rfl ?_
              refine okL_X7_join_68 K  (by decide) N hk0 (fun h37 => ?_) _ _ _
              refine J_aload_n (pc := 123) K dX7_join_123 0 rfl 0 rfl ?_
              refine J_iload_n (pc := 124) K dX7_join_124 2 rfl 2 rfl ?_
              refine J_bipush (pc := 125) K (7) dX7_join_125 (by decide) ?_
              refine J_iconst (pc := 127) K (0) dX7_join_127 (by decide) ?_
              refine J_callVU (As := [.int x2, .int (7 : Int32), .int (0 : Int32)]) (rest := []) (pc := 128) K cs_SaltCloudsModel_59 (ok_X7_puts l ω hk0 x2 (7 : Int32) (0 : Int32) h37) hk0 (by decide) rfl rfl (Nat.le_of_ble_eq_true rfl) dX7_join_128 (fun _ h39 => ?_)
              refine J_aload_n (pc := 131) K dX7_join_131 0 rfl 0 rfl ?_
              refine J_iload_n (pc := 132) K dX7_join_132 1 rfl 1 rfl ?_
              refine J_iconst (pc := 133) K (3) dX7_join_133 (by decide) ?_
              refine J_callVI (As := [.int x1, .int (3 : Int32)]) (rest := []) (pc := 134) K cs_SaltCloudsModel_45 (ok_X7_its l ω hk0 x1 (3 : Int32) h39) hk0 (by decide) rfl rfl (Nat.le_of_ble_eq_true rfl) dX7_join_134 (fun r40 h41 => ?_)
              exact J_iret (pc := 137) K dX7_join_137
            · refine J_aload_n (pc := 59) K dX7_join_59 0 rfl 0 rfl ?_
              refine J_ldc (pc := 60) K kc_SaltCloudsModel_103 dX7_join_60 ?_
              refine J_callVI (As := [.int (-1000000003 : Int32)]) (rest := []) (pc := 62) K cs_SaltCloudsModel_54 (ok_X7_errs l ω hk0 (-1000000003 : Int32) h22) hk0 (by decide) rfl rfl (Nat.le_of_ble_eq_true rfl) dX7_join_62 (fun r42 h43 => ?_)
              exact J_iret (pc := 65) K dX7_join_65
def F_X7_part_53 (N : Nat) (k0 : Nat) (w1 : Int32) (w2 : Int32) (kt : Mem → Option (Int32 × Mem)) : Nat → Int32 → Mem → Option (Int32 × Mem)
  | 0, _, _ => none
  | n + 1, u3, h =>
    (if (7 : Int32) ≤ u3 then
      (kt h)
    else
      (bnd (F_X7_its k0 w1 u3 h) (fun r17 h18 =>
      (gnz (2 : Int32)
      (bnd (F_X7_puts k0 w2 u3 (r17 / (2 : Int32)) h18) (fun _ h20 =>
      (bnd (F_X7_its k0 w1 u3 h20) (fun r21 h22 =>
      (bnd (F_X7_its k0 w2 u3 h22) (fun r23 h24 =>
      (bnd (F_X7_puts k0 w1 u3 (r21 - r23) h24) (fun _ h26 =>
      (F_X7_part_53 N k0 w1 w2 kt n (u3 + 1) h26)))))))))))))
set_option maxRecDepth 10000 in
set_option maxHeartbeats 1000000 in
theorem okL_X7_part_53 {l : Launch} {ω : WX} {χ : KT} {d : Nat} (K : Kok ω χ "SaltCloudsModel" cX7_part 4 (some .int) d) (hd : 1 ≤ d) (N : Nat) {k0 : Nat} (hk0 : lay k0 = 7) {w1 : Int32} {w2 : Int32} {kt : Mem → Option (Int32 × Mem)} (hK : ∀ (h : Mem), J (ZM rvI ω χ) l ω χ 98 4 [(0, .ref (ω.1 + k0)), (1, .int w1), (2, .int w2)] [] h (kt h)) : ∀ (n : Nat) (u3 : Int32) (h : Mem), J (ZM rvI ω χ) l ω χ 53 4 [(0, .ref (ω.1 + k0)), (1, .int w1), (2, .int w2), (3, .int u3)] [] h (F_X7_part_53 N k0 w1 w2 kt n u3 h) := by
  intro n
  induction n with
  | zero =>
    intro u3 h
    exact J_none rfl
  | succ n ih =>
    intro u3 h
    rw [F_X7_part_53]
    refine J_iload_n (pc := 53) K dX7_part_53 3 rfl 3 rfl ?_
    refine J_bipush (pc := 54) K (7) dX7_part_54 (by decide) ?_
    refine J_icmp_ge (pc := 56) K 98 dX7_part_56 (by decide) ?_ ?_
    · refine J_lv [0, 1, 2] [(0, .ref (ω.1 + k0)), (1, .int w1), (2, .int w2)] rfl ?_
      exact hK h
    · refine J_aload_n (pc := 59) K dX7_part_59 0 rfl 0 rfl ?_
      refine J_iload_n (pc := 60) K dX7_part_60 2 rfl 2 rfl ?_
      refine J_iload_n (pc := 61) K dX7_part_61 3 rfl 3 rfl ?_
      refine J_aload_n (pc := 62) K dX7_part_62 0 rfl 0 rfl ?_
      refine J_iload_n (pc := 63) K dX7_part_63 1 rfl 1 rfl ?_
      refine J_iload_n (pc := 64) K dX7_part_64 3 rfl 3 rfl ?_
      refine J_callVI (As := [.int w1, .int u3]) (rest := [.int u3, .int w2, .ref (ω.1 + k0)]) (pc := 65) K cs_SaltCloudsModel_45 (ok_X7_its l ω hk0 w1 u3 h) hk0 (by omega) rfl rfl (Nat.le_of_ble_eq_true rfl) dX7_part_65 (fun r17 h18 => ?_)
      refine J_iconst (pc := 68) K (2) dX7_part_68 (by decide) ?_
      refine J_idiv (pc := 69) K dX7_part_69 ?_
      refine J_callVU (As := [.int w2, .int u3, .int (r17 / (2 : Int32))]) (rest := []) (pc := 70) K cs_SaltCloudsModel_59 (ok_X7_puts l ω hk0 w2 u3 (r17 / (2 : Int32)) h18) hk0 (by omega) rfl rfl (Nat.le_of_ble_eq_true rfl) dX7_part_70 (fun _ h20 => ?_)
      refine J_aload_n (pc := 73) K dX7_part_73 0 rfl 0 rfl ?_
      refine J_iload_n (pc := 74) K dX7_part_74 1 rfl 1 rfl ?_
      refine J_iload_n (pc := 75) K dX7_part_75 3 rfl 3 rfl ?_
      refine J_aload_n (pc := 76) K dX7_part_76 0 rfl 0 rfl ?_
      refine J_iload_n (pc := 77) K dX7_part_77 1 rfl 1 rfl ?_
      refine J_iload_n (pc := 78) K dX7_part_78 3 rfl 3 rfl ?_
      refine J_callVI (As := [.int w1, .int u3]) (rest := [.int u3, .int w1, .ref (ω.1 + k0)]) (pc := 79) K cs_SaltCloudsModel_45 (ok_X7_its l ω hk0 w1 u3 h20) hk0 (by omega) rfl rfl (Nat.le_of_ble_eq_true rfl) dX7_part_79 (fun r21 h22 => ?_)
      refine J_aload_n (pc := 82) K dX7_part_82 0 rfl 0 rfl ?_
      refine J_iload_n (pc := 83) K dX7_part_83 2 rfl 2 rfl ?_
      refine J_iload_n (pc := 84) K dX7_part_84 3 rfl 3 rfl ?_
      refine J_callVI (As := [.int w2, .int u3]) (rest := [.int r21, .int u3, .int w1, .ref (ω.1 + k0)]) (pc := 85) K cs_SaltCloudsModel_45 (ok_X7_its l ω hk0 w2 u3 h22) hk0 (by omega) rfl rfl (Nat.le_of_ble_eq_true rfl) dX7_part_85 (fun r23 h24 => ?_)
      refine J_isub (pc := 88) K dX7_part_88 ?_
      refine J_callVU (As := [.int w1, .int u3, .int (r21 - r23)]) (rest := []) (pc := 89) K cs_SaltCloudsModel_59 (ok_X7_puts l ω hk0 w1 u3 (r21 - r23) h24) hk0 (by omega) rfl rfl (Nat.le_of_ble_eq_true rfl) dX7_part_89 (fun _ h26 => ?_)
      refine J_iinc (pc := 92) K (1) dX7_part_92 3 rfl (by decide) (by decide) [(3, .int (u3 + 1)), (0, .ref (ω.1 + k0)), (1, .int w1), (2, .int w2)] rfl ?_
      refine J_goto (pc := 95) K 53 dX7_part_95 (by decide) ?_
      refine J_lv [1, 2, 3, 0] [(0, .ref (ω.1 + k0)), (1, .int w1), (2, .int w2), (3, .int (u3 + 1))] rfl ?_
      exact ih (u3 + 1) h26
def F_X7_part (N : Nat) (k0 : Nat) (x1 : Int32) (x2 : Int32) (h : Mem) : Option (Int32 × Mem) :=
  (bnd (F_X7_isCloud k0 x1 h) (fun r1 h2 =>
  (if r1 = 0 then
    (bnd (F_X7_errs k0 (-1000000001 : Int32) h2) (fun r3 h4 =>
    (some (r3, h4))))
  else
    (bnd (F_X7_isCloud k0 x2 h2) (fun r5 h6 =>
    (if r5 = 0 then
      (bnd (F_X7_errs k0 (-1000000001 : Int32) h6) (fun r7 h8 =>
      (some (r7, h8))))
    else
      (if x1 = x2 then
        (bnd (F_X7_errs k0 (-1000000001 : Int32) h6) (fun r9 h10 =>
        (some (r9, h10))))
      else
        (bnd (F_X7_isThere k0 x1 h6) (fun r11 h12 =>
        (if r11 = 0 then
          (bnd (F_X7_errs k0 (-1000000003 : Int32) h12) (fun r13 h14 =>
          (some (r13, h14))))
        else
          (bnd (F_X7_isThere k0 x2 h12) (fun r15 h16 =>
          (if r15 = 0 then
            (F_X7_part_53 N k0 x1 x2 (fun (h27 : Mem) =>
              (bnd (F_X7_puts k0 x2 (7 : Int32) (1 : Int32) h27) (fun _ h29 =>
              (bnd (F_X7_its k0 x1 (2 : Int32) h29) (fun r30 h31 =>
              (bnd (F_X7_puts k0 x2 (2 : Int32) r30 h31) (fun _ h33 =>
              (bnd (F_X7_its k0 x2 (3 : Int32) h33) (fun r34 h35 =>
              (some (r34, h35))))))))))) N (3 : Int32) h16)
          else
            (bnd (F_X7_errs k0 (-1000000003 : Int32) h16) (fun r36 h37 =>
            (some (r36, h37)))))))))))))))))
set_option maxRecDepth 10000 in
set_option maxHeartbeats 1000000 in
theorem ok_X7_part (l : Launch) (ω : WX) (N : Nat) {k0 : Nat} (hk0 : lay k0 = 7) (x1 : Int32) (x2 : Int32) (h : Mem) : MC rvI l ω yX7_part cX7_part 4 (some .int) 2 [.ref (ω.1 + k0), .int x1, .int x2] h (F_X7_part N k0 x1 x2 h) := by
  refine MC.of (by decide +kernel) [(0, .ref (ω.1 + k0)), (1, .int x1), (2, .int x2)] rfl (Nat.le_of_ble_eq_true rfl) (fun χ K => ?_)
  have K : Kok ω χ "SaltCloudsModel" cX7_part 4 (some .int) 2 := K
  unfold F_X7_part
  refine J_aload_n (pc := 0) K dX7_part_0 0 rfl 0 rfl ?_
  refine J_iload_n (pc := 1) K dX7_part_1 1 rfl 1 rfl ?_
  refine J_callVI (As := [.int x1]) (rest := []) (pc := 2) K cs_SaltCloudsModel_83 (ok_X7_isCloud l ω hk0 x1 h) hk0 (by decide) rfl rfl (Nat.le_of_ble_eq_true rfl) dX7_part_2 (fun r1 h2 => ?_)
  refine J_if_eq (pc := 5) K 21 dX7_part_5 (by decide) ?_ ?_
  · refine J_aload_n (pc := 21) K dX7_part_21 0 rfl 0 rfl ?_
    refine J_ldc (pc := 22) K kc_SaltCloudsModel_53 dX7_part_22 ?_
    refine J_callVI (As := [.int (-1000000001 : Int32)]) (rest := []) (pc := 24) K cs_SaltCloudsModel_54 (ok_X7_errs l ω hk0 (-1000000001 : Int32) h2) hk0 (by decide) rfl rfl (Nat.le_of_ble_eq_true rfl) dX7_part_24 (fun r3 h4 => ?_)
    exact J_iret (pc := 27) K dX7_part_27
  · refine J_aload_n (pc := 8) K dX7_part_8 0 rfl 0 rfl ?_
    refine J_iload_n (pc := 9) K dX7_part_9 2 rfl 2 rfl ?_
    refine J_callVI (As := [.int x2]) (rest := []) (pc := 10) K cs_SaltCloudsModel_83 (ok_X7_isCloud l ω hk0 x2 h2) hk0 (by decide) rfl rfl (Nat.le_of_ble_eq_true rfl) dX7_part_10 (fun r5 h6 => ?_)
    refine J_if_eq (pc := 13) K 21 dX7_part_13 (by decide) ?_ ?_
    · refine J_aload_n (pc := 21) K dX7_part_21 0 rfl 0 rfl ?_
      refine J_ldc (pc := 22) K kc_SaltCloudsModel_53 dX7_part_22 ?_
      refine J_callVI (As := [.int (-1000000001 : Int32)]) (rest := []) (pc := 24) K cs_SaltCloudsModel_54 (ok_X7_errs l ω hk0 (-1000000001 : Int32) h6) hk0 (by decide) rfl rfl (Nat.le_of_ble_eq_true rfl) dX7_part_24 (fun r7 h8 => ?_)
      exact J_iret (pc := 27) K dX7_part_27
    · refine J_iload_n (pc := 16) K dX7_part_16 1 rfl 1 rfl ?_
      refine J_iload_n (pc := 17) K dX7_part_17 2 rfl 2 rfl ?_
      refine J_icmp_ne (pc := 18) K 28 dX7_part_18 (by decide) ?_ ?_
      · refine J_aload_n (pc := 21) K dX7_part_21 0 rfl 0 rfl ?_
        refine J_ldc (pc := 22) K kc_SaltCloudsModel_53 dX7_part_22 ?_
        refine J_callVI (As := [.int (-1000000001 : Int32)]) (rest := []) (pc := 24) K cs_SaltCloudsModel_54 (ok_X7_errs l ω hk0 (-1000000001 : Int32) h6) hk0 (by decide) rfl rfl (Nat.le_of_ble_eq_true rfl) dX7_part_24 (fun r9 h10 => ?_)
        exact J_iret (pc := 27) K dX7_part_27
      · refine J_aload_n (pc := 28) K dX7_part_28 0 rfl 0 rfl ?_
        refine J_iload_n (pc := 29) K dX7_part_29 1 rfl 1 rfl ?_
        refine J_callVI (As := [.int x1]) (rest := []) (pc := 30) K cs_SaltCloudsModel_77 (ok_X7_isThere l ω hk0 x1 h6) hk0 (by decide) rfl rfl (Nat.le_of_ble_eq_true rfl) dX7_part_30 (fun r11 h12 => ?_)
        refine J_if_eq (pc := 33) K 44 dX7_part_33 (by decide) ?_ ?_
        · refine J_aload_n (pc := 44) K dX7_part_44 0 rfl 0 rfl ?_
          refine J_ldc (pc := 45) K kc_SaltCloudsModel_103 dX7_part_45 ?_
          refine J_callVI (As := [.int (-1000000003 : Int32)]) (rest := []) (pc := 47) K cs_SaltCloudsModel_54 (ok_X7_errs l ω hk0 (-1000000003 : Int32) h12) hk0 (by decide) rfl rfl (Nat.le_of_ble_eq_true rfl) dX7_part_47 (fun r13 h14 => ?_)
          exact J_iret (pc := 50) K dX7_part_50
        · refine J_aload_n (pc := 36) K dX7_part_36 0 rfl 0 rfl ?_
          refine J_iload_n (pc := 37) K dX7_part_37 2 rfl 2 rfl ?_
          refine J_callVI (As := [.int x2]) (rest := []) (pc := 38) K cs_SaltCloudsModel_77 (ok_X7_isThere l ω hk0 x2 h12) hk0 (by decide) rfl rfl (Nat.le_of_ble_eq_true rfl) dX7_part_38 (fun r15 h16 => ?_)
          refine J_if_eq (pc := 41) K 51 dX7_part_41 (by decide) ?_ ?_
          · refine J_iconst (pc := 51) K (3) dX7_part_51 (by decide) ?_
            refine J_istore_n (pc := 52) K dX7_part_52 3 rfl (by decide) [(3, .int (3 : Int32)), (0, .ref (ω.1 + k0)), (1, .int x1), (2, .int x2)] rfl ?_
            refine J_lv [1, 2, 3, 0] [(0, .ref (ω.1 + k0)), (1, .int x1), (2, .int x2), (3, .int (3 : Int32))] rfl ?_
            refine okL_X7_part_53 K  (by decide) N hk0 (fun h27 => ?_) _ _ _
            refine J_aload_n (pc := 98) K dX7_part_98 0 rfl 0 rfl ?_
            refine J_iload_n (pc := 99) K dX7_part_99 2 rfl 2 rfl ?_
            refine J_bipush (pc := 100) K (7) dX7_part_100 (by decide) ?_
            refine J_iconst (pc := 102) K (1) dX7_part_102 (by decide) ?_
            refine J_callVU (As := [.int x2, .int (7 : Int32), .int (1 : Int32)]) (rest := []) (pc := 103) K cs_SaltCloudsModel_59 (ok_X7_puts l ω hk0 x2 (7 : Int32) (1 : Int32) h27) hk0 (by decide) rfl rfl (Nat.le_of_ble_eq_true rfl) dX7_part_103 (fun _ h29 => ?_)
            refine J_aload_n (pc := 106) K dX7_part_106 0 rfl 0 rfl ?_
            refine J_iload_n (pc := 107) K dX7_part_107 2 rfl 2 rfl ?_
            refine J_iconst (pc := 108) K (2) dX7_part_108 (by decide) ?_
            refine J_aload_n (pc := 109) K dX7_part_109 0 rfl 0 rfl ?_
            refine J_iload_n (pc := 110) K dX7_part_110 1 rfl 1 rfl ?_
            refine J_iconst (pc := 111) K (2) dX7_part_111 (by decide) ?_
            refine J_callVI (As := [.int x1, .int (2 : Int32)]) (rest := [.int (2 : Int32), .int x2, .ref (ω.1 + k0)]) (pc := 112) K cs_SaltCloudsModel_45 (ok_X7_its l ω hk0 x1 (2 : Int32) h29) hk0 (by decide) rfl rfl (Nat.le_of_ble_eq_true rfl) dX7_part_112 (fun r30 h31 => ?_)
            refine J_callVU (As := [.int x2, .int (2 : Int32), .int r30]) (rest := []) (pc := 115) K cs_SaltCloudsModel_59 (ok_X7_puts l ω hk0 x2 (2 : Int32) r30 h31) hk0 (by decide) rfl rfl (Nat.le_of_ble_eq_true rfl) dX7_part_115 (fun _ h33 => ?_)
            refine J_aload_n (pc := 118) K dX7_part_118 0 rfl 0 rfl ?_
            refine J_iload_n (pc := 119) K dX7_part_119 2 rfl 2 rfl ?_
            refine J_iconst (pc := 120) K (3) dX7_part_120 (by decide) ?_
            refine J_callVI (As := [.int x2, .int (3 : Int32)]) (rest := []) (pc := 121) K cs_SaltCloudsModel_45 (ok_X7_its l ω hk0 x2 (3 : Int32) h33) hk0 (by decide) rfl rfl (Nat.le_of_ble_eq_true rfl) dX7_part_121 (fun r34 h35 => ?_)
            exact J_iret (pc := 124) K dX7_part_124
          · refine J_aload_n (pc := 44) K dX7_part_44 0 rfl 0 rfl ?_
            refine J_ldc (pc := 45) K kc_SaltCloudsModel_103 dX7_part_45 ?_
            refine J_callVI (As := [.int (-1000000003 : Int32)]) (rest := []) (pc := 47) K cs_SaltCloudsModel_54 (ok_X7_errs l ω hk0 (-1000000003 : Int32) h16) hk0 (by decide) rfl rfl (Nat.le_of_ble_eq_true rfl) dX7_part_47 (fun r36 h37 => ?_)
            exact J_iret (pc := 50) K dX7_part_50
def F_X7_law (N : Nat) (k0 : Nat) (x1 : Int32) (x2 : Int32) (x3 : Int32) (x4 : Int32) (h : Mem) : Option (Int32 × Mem) :=
  (bnd (F_X7_in x1 (0 : Int32) (1 : Int32) h) (fun r1 h2 =>
  (if r1 = 0 then
    (bnd (F_X7_errs k0 (-1000000001 : Int32) h2) (fun r3 h4 =>
    (some (r3, h4))))
  else
    (bnd (F_X7_lawOf N k0 x1 x2 x3 x4 h2) (fun r5 h6 =>
    (some (r5, h6)))))))
set_option maxRecDepth 10000 in
set_option maxHeartbeats 1000000 in
theorem ok_X7_law (l : Launch) (ω : WX) (N : Nat) {k0 : Nat} (hk0 : lay k0 = 7) (x1 : Int32) (x2 : Int32) (x3 : Int32) (x4 : Int32) (h : Mem) : MC rvI l ω yX7_law cX7_law 5 (some .int) 53 [.ref (ω.1 + k0), .int x1, .int x2, .int x3, .int x4] h (F_X7_law N k0 x1 x2 x3 x4 h) := by
  refine MC.of (by decide +kernel) [(0, .ref (ω.1 + k0)), (1, .int x1), (2, .int x2), (3, .int x3), (4, .int x4)] rfl (Nat.le_of_ble_eq_true rfl) (fun χ K => ?_)
  have K : Kok ω χ "SaltCloudsModel" cX7_law 5 (some .int) 53 := K
  unfold F_X7_law
  refine J_iload_n (pc := 0) K dX7_law_0 1 rfl 1 rfl ?_
  refine J_iconst (pc := 1) K (0) dX7_law_1 (by decide) ?_
  refine J_iconst (pc := 2) K (1) dX7_law_2 (by decide) ?_
  refine J_callTI (As := [.int x1, .int (0 : Int32), .int (1 : Int32)]) (rest := []) (pc := 3) K cs_SaltCloudsModel_41 (ok_X7_in l ω x1 (0 : Int32) (1 : Int32) h) (by decide) rfl rfl (Nat.le_of_ble_eq_true rfl) dX7_law_3 (fun r1 h2 => ?_)
  refine J_if_eq (pc := 6) K 21 dX7_law_6 (by decide) ?_ ?_
  · refine J_aload_n (pc := 21) K dX7_law_21 0 rfl 0 rfl ?_
    refine J_ldc (pc := 22) K kc_SaltCloudsModel_53 dX7_law_22 ?_
    refine J_callVI (As := [.int (-1000000001 : Int32)]) (rest := []) (pc := 24) K cs_SaltCloudsModel_54 (ok_X7_errs l ω hk0 (-1000000001 : Int32) h2) hk0 (by decide) rfl rfl (Nat.le_of_ble_eq_true rfl) dX7_law_24 (fun r3 h4 => ?_)
    exact J_iret (pc := 27) K dX7_law_27
  · refine J_aload_n (pc := 9) K dX7_law_9 0 rfl 0 rfl ?_
    refine J_iload_n (pc := 10) K dX7_law_10 1 rfl 1 rfl ?_
    refine J_iload_n (pc := 11) K dX7_law_11 2 rfl 2 rfl ?_
    refine J_iload_n (pc := 12) K dX7_law_12 3 rfl 3 rfl ?_
    refine J_iload (pc := 13) K dX7_law_13 4 rfl ?_
    refine J_callVI (As := [.int x1, .int x2, .int x3, .int x4]) (rest := []) (pc := 15) K cs_SaltCloudsModel_73 (ok_X7_lawOf l ω N hk0 x1 x2 x3 x4 h2) hk0 (by decide) rfl rfl (Nat.le_of_ble_eq_true rfl) dX7_law_15 (fun r5 h6 => ?_)
    refine J_goto (pc := 18) K 27 dX7_law_18 (by decide) ?_
    exact J_iret (pc := 27) K dX7_law_27
def F_X7_feed_40 (N : Nat) (k0 : Nat) (w1 : Int64) (w3 : Int32) (kt : Mem → Option (Int32 × Mem)) : Nat → Int32 → Mem → Option (Int32 × Mem)
  | 0, _, _ => none
  | n + 1, u4, h =>
    (if w3 ≤ u4 then
      (kt h)
    else
      (gin (4 : Int32) 262
      (gin ((92 : Int32) + (h (k0 + 1) (ix (4 : Int32)))) 262 (seqh (upm h (k0 + 1) (ix ((92 : Int32) + (h (k0 + 1) (ix (4 : Int32))))) (((lshr w1 ((8 : Int32) * u4)) &&& (255 : Int64)).toInt32)) (fun h5 =>
      (gin (4 : Int32) 262
      (gin (4 : Int32) 262 (seqh (upm h5 (k0 + 1) (ix (4 : Int32)) ((h5 (k0 + 1) (ix (4 : Int32))) + (1 : Int32))) (fun h6 =>
      (F_X7_feed_40 N k0 w1 w3 kt n (u4 + 1) h6))))))))))
set_option maxRecDepth 10000 in
set_option maxHeartbeats 1000000 in
theorem okL_X7_feed_40 {l : Launch} {ω : WX} {χ : KT} {d : Nat} (K : Kok ω χ "SaltCloudsModel" cX7_feed 5 (some .int) d) (hd : 0 ≤ d) (N : Nat) {k0 : Nat} (hk0 : lay k0 = 7) {w1 : Int64} {w3 : Int32} {kt : Mem → Option (Int32 × Mem)} (hK : ∀ (h : Mem), J (ZM rvI ω χ) l ω χ 88 5 [(0, .ref (ω.1 + k0))] [] h (kt h)) : ∀ (n : Nat) (u4 : Int32) (h : Mem), J (ZM rvI ω χ) l ω χ 40 5 [(0, .ref (ω.1 + k0)), (1, .long w1), (3, .int w3), (4, .int u4)] [] h (F_X7_feed_40 N k0 w1 w3 kt n u4 h) := by
  intro n
  induction n with
  | zero =>
    intro u4 h
    exact J_none rfl
  | succ n ih =>
    intro u4 h
    rw [F_X7_feed_40]
    refine J_iload (pc := 40) K dX7_feed_40 3 rfl ?_
    refine J_iload_n (pc := 42) K dX7_feed_42 3 rfl 2 rfl ?_
    refine J_icmp_ge (pc := 43) K 88 dX7_feed_43 (by decide) ?_ ?_
    · refine J_lv [0] [(0, .ref (ω.1 + k0))] rfl ?_
      exact hK h
    · refine J_aload_n (pc := 46) K dX7_feed_46 0 rfl 0 rfl ?_
      refine J_getR (pc := 47) K gf_SaltCloudsModel_7 hk0 1 rfl dX7_feed_47 ?_
      refine J_bipush (pc := 50) K (92) dX7_feed_50 (by decide) ?_
      refine J_aload_n (pc := 52) K dX7_feed_52 0 rfl 0 rfl ?_
      refine J_getR (pc := 53) K gf_SaltCloudsModel_7 hk0 1 rfl dX7_feed_53 ?_
      refine J_iconst (pc := 56) K (4) dX7_feed_56 (by decide) ?_
      refine J_iald (pc := 57) K (a := k0 + 1) (n := 262) (ty_7_1 hk0) dX7_feed_57 ?_
      refine J_iadd (pc := 58) K dX7_feed_58 ?_
      refine J_lload_n (pc := 59) K dX7_feed_59 1 rfl 1 rfl ?_
      refine J_bipush (pc := 60) K (8) dX7_feed_60 (by decide) ?_
      refine J_iload (pc := 62) K dX7_feed_62 3 rfl ?_
      refine J_imul (pc := 64) K dX7_feed_64 ?_
      refine J_lshr (pc := 65) K dX7_feed_65 ?_
      refine J_ldc2 (pc := 66) K kl_SaltCloudsModel_166 dX7_feed_66 ?_
      refine J_land (pc := 69) K dX7_feed_69 ?_
      refine J_l2i (pc := 70) K dX7_feed_70 ?_
      refine J_iast (pc := 71) K (a := k0 + 1) (n := 262) (ty_7_1 hk0) dX7_feed_71 (fun h5 => ?_)
      refine J_aload_n (pc := 72) K dX7_feed_72 0 rfl 0 rfl ?_
      refine J_getR (pc := 73) K gf_SaltCloudsModel_7 hk0 1 rfl dX7_feed_73 ?_
      refine J_iconst (pc := 76) K (4) dX7_feed_76 (by decide) ?_
      refine J_dup2 (pc := 77) K dX7_feed_77 rfl rfl ?_
      refine J_iald (pc := 78) K (a := k0 + 1) (n := 262) (ty_7_1 hk0) dX7_feed_78 ?_
      refine J_iconst (pc := 79) K (1) dX7_feed_79 (by decide) ?_
      refine J_iadd (pc := 80) K dX7_feed_80 ?_
      refine J_iast (pc := 81) K (a := k0 + 1) (n := 262) (ty_7_1 hk0) dX7_feed_81 (fun h6 => ?_)
      refine J_iinc (pc := 82) K (1) dX7_feed_82 3 rfl (by decide) (by decide) [(4, .int (u4 + 1)), (0, .ref (ω.1 + k0)), (1, .long w1), (3, .int w3)] rfl ?_
      refine J_goto (pc := 85) K 40 dX7_feed_85 (by decide) ?_
      refine J_lv [1, 2, 3, 0] [(0, .ref (ω.1 + k0)), (1, .long w1), (3, .int w3), (4, .int (u4 + 1))] rfl ?_
      exact ih (u4 + 1) h6
def F_X7_feed (N : Nat) (k0 : Nat) (x1 : Int64) (x3 : Int32) (h : Mem) : Option (Int32 × Mem) :=
  (bnd (F_X7_in x3 (1 : Int32) (8 : Int32) h) (fun r1 h2 =>
  (if r1 = 0 then
    (bnd (F_X7_errs k0 (-1000000001 : Int32) h2) (fun r3 h4 =>
    (some (r3, h4))))
  else
    (gin (4 : Int32) 262
    (if ((h2 (k0 + 1) (ix (4 : Int32))) + x3) ≤ (50 : Int32) then
      (F_X7_feed_40 N k0 x1 x3 (fun (h7 : Mem) =>
        (gin (4 : Int32) 262
        (some (h7 (k0 + 1) (ix (4 : Int32)), h7)))) N (0 : Int32) h2)
    else
      (bnd (F_X7_errs k0 (-1000000004 : Int32) h2) (fun r8 h9 =>
      (some (r8, h9)))))))))
set_option maxRecDepth 10000 in
set_option maxHeartbeats 1000000 in
theorem ok_X7_feed (l : Launch) (ω : WX) (N : Nat) {k0 : Nat} (hk0 : lay k0 = 7) (x1 : Int64) (x3 : Int32) (h : Mem) : MC rvI l ω yX7_feed cX7_feed 5 (some .int) 1 [.ref (ω.1 + k0), .long x1, .int x3] h (F_X7_feed N k0 x1 x3 h) := by
  refine MC.of (by decide +kernel) [(0, .ref (ω.1 + k0)), (1, .long x1), (3, .int x3)] rfl (Nat.le_of_ble_eq_true rfl) (fun χ K => ?_)
  have K : Kok ω χ "SaltCloudsModel" cX7_feed 5 (some .int) 1 := K
  unfold F_X7_feed
  refine J_iload_n (pc := 0) K dX7_feed_0 3 rfl 2 rfl ?_
  refine J_iconst (pc := 1) K (1) dX7_feed_1 (by decide) ?_
  refine J_bipush (pc := 2) K (8) dX7_feed_2 (by decide) ?_
  refine J_callTI (As := [.int x3, .int (1 : Int32), .int (8 : Int32)]) (rest := []) (pc := 4) K cs_SaltCloudsModel_41 (ok_X7_in l ω x3 (1 : Int32) (8 : Int32) h) (by decide) rfl rfl (Nat.le_of_ble_eq_true rfl) dX7_feed_4 (fun r1 h2 => ?_)
  refine J_if_ne (pc := 7) K 17 dX7_feed_7 (by decide) ?_ ?_
  · refine J_aload_n (pc := 10) K dX7_feed_10 0 rfl 0 rfl ?_
    refine J_ldc (pc := 11) K kc_SaltCloudsModel_53 dX7_feed_11 ?_
    refine J_callVI (As := [.int (-1000000001 : Int32)]) (rest := []) (pc := 13) K cs_SaltCloudsModel_54 (ok_X7_errs l ω hk0 (-1000000001 : Int32) h2) hk0 (by decide) rfl rfl (Nat.le_of_ble_eq_true rfl) dX7_feed_13 (fun r3 h4 => ?_)
    exact J_iret (pc := 16) K dX7_feed_16
  · refine J_aload_n (pc := 17) K dX7_feed_17 0 rfl 0 rfl ?_
    refine J_getR (pc := 18) K gf_SaltCloudsModel_7 hk0 1 rfl dX7_feed_18 ?_
    refine J_iconst (pc := 21) K (4) dX7_feed_21 (by decide) ?_
    refine J_iald (pc := 22) K (a := k0 + 1) (n := 262) (ty_7_1 hk0) dX7_feed_22 ?_
    refine J_iload_n (pc := 23) K dX7_feed_23 3 rfl 2 rfl ?_
    refine J_iadd (pc := 24) K dX7_feed_24 ?_
    refine J_bipush (pc := 25) K (50) dX7_feed_25 (by decide) ?_
    refine J_icmp_le (pc := 27) K 37 dX7_feed_27 (by decide) ?_ ?_
    · refine J_iconst (pc := 37) K (0) dX7_feed_37 (by decide) ?_
      refine J_istore (pc := 38) K dX7_feed_38 (by decide) [(4, .int (0 : Int32)), (0, .ref (ω.1 + k0)), (1, .long x1), (3, .int x3)] rfl ?_
      refine J_lv [1, 2, 3, 0] [(0, .ref (ω.1 + k0)), (1, .long x1), (3, .int x3), (4, .int (0 : Int32))] rfl ?_
      refine okL_X7_feed_40 K  (by decide) N hk0 (fun h7 => ?_) _ _ _
      refine J_aload_n (pc := 88) K dX7_feed_88 0 rfl 0 rfl ?_
      refine J_getR (pc := 89) K gf_SaltCloudsModel_7 hk0 1 rfl dX7_feed_89 ?_
      refine J_iconst (pc := 92) K (4) dX7_feed_92 (by decide) ?_
      refine J_iald (pc := 93) K (a := k0 + 1) (n := 262) (ty_7_1 hk0) dX7_feed_93 ?_
      exact J_iret (pc := 94) K dX7_feed_94
    · refine J_aload_n (pc := 30) K dX7_feed_30 0 rfl 0 rfl ?_
      refine J_ldc (pc := 31) K kc_SaltCloudsModel_58 dX7_feed_31 ?_
      refine J_callVI (As := [.int (-1000000004 : Int32)]) (rest := []) (pc := 33) K cs_SaltCloudsModel_54 (ok_X7_errs l ω hk0 (-1000000004 : Int32) h2) hk0 (by decide) rfl rfl (Nat.le_of_ble_eq_true rfl) dX7_feed_33 (fun r8 h9 => ?_)
      exact J_iret (pc := 36) K dX7_feed_36
def F_X7_text_30 (N : Nat) (k0 : Nat) (w1 : Int32) (kt : Mem → Option (Int32 × Mem)) : Nat → Int32 → Mem → Option (Int32 × Mem)
  | 0, _, _ => none
  | n + 1, u2, h =>
    (if (50 : Int32) ≤ u2 then
      (kt h)
    else
      (seqi ((92 : Int32) + u2) (fun v7 =>
      (gin v7 262
      (gin (((162 : Int32) + ((50 : Int32) * w1)) + u2) 262 (seqh (upm h (k0 + 1) (ix (((162 : Int32) + ((50 : Int32) * w1)) + u2)) (h (k0 + 1) (ix v7))) (fun h8 =>
      (F_X7_text_30 N k0 w1 kt n (u2 + 1) h8))))))))
set_option maxRecDepth 10000 in
set_option maxHeartbeats 1000000 in
theorem okL_X7_text_30 {l : Launch} {ω : WX} {χ : KT} {d : Nat} (K : Kok ω χ "SaltCloudsModel" cX7_text 5 (some .int) d) (hd : 0 ≤ d) (N : Nat) {k0 : Nat} (hk0 : lay k0 = 7) {w1 : Int32} {kt : Mem → Option (Int32 × Mem)} (hK : ∀ (h : Mem), J (ZM rvI ω χ) l ω χ 66 5 [(0, .ref (ω.1 + k0)), (1, .int w1)] [] h (kt h)) : ∀ (n : Nat) (u2 : Int32) (h : Mem), J (ZM rvI ω χ) l ω χ 30 5 [(0, .ref (ω.1 + k0)), (1, .int w1), (2, .int u2)] [] h (F_X7_text_30 N k0 w1 kt n u2 h) := by
  intro n
  induction n with
  | zero =>
    intro u2 h
    exact J_none rfl
  | succ n ih =>
    intro u2 h
    rw [F_X7_text_30]
    refine J_iload_n (pc := 30) K dX7_text_30 2 rfl 2 rfl ?_
    refine J_bipush (pc := 31) K (50) dX7_text_31 (by decide) ?_
    refine J_icmp_ge (pc := 33) K 66 dX7_text_33 (by decide) ?_ ?_
    · refine J_lv [0, 1] [(0, .ref (ω.1 + k0)), (1, .int w1)] rfl ?_
      exact hK h
    · refine J_aload_n (pc := 36) K dX7_text_36 0 rfl 0 rfl ?_
      refine J_getR (pc := 37) K gf_SaltCloudsModel_7 hk0 1 rfl dX7_text_37 ?_
      refine J_sipush (pc := 40) K (162) dX7_text_40 (by decide) ?_
      refine J_bipush (pc := 43) K (50) dX7_text_43 (by decide) ?_
      refine J_iload_n (pc := 45) K dX7_text_45 1 rfl 1 rfl ?_
      refine J_imul (pc := 46) K dX7_text_46 ?_
      refine J_iadd (pc := 47) K dX7_text_47 ?_
      refine J_iload_n (pc := 48) K dX7_text_48 2 rfl 2 rfl ?_
      refine J_iadd (pc := 49) K dX7_text_49 ?_
      refine J_aload_n (pc := 50) K dX7_text_50 0 rfl 0 rfl ?_
      refine J_getR (pc := 51) K gf_SaltCloudsModel_7 hk0 1 rfl dX7_text_51 ?_
      refine J_bipush (pc := 54) K (92) dX7_text_54 (by decide) ?_
      refine J_iload_n (pc := 56) K dX7_text_56 2 rfl 2 rfl ?_
      refine J_iadd (pc := 57) K dX7_text_57 ?_
      refine J_topi (fun v7 => ?_)
      refine J_iald (pc := 58) K (a := k0 + 1) (n := 262) (ty_7_1 hk0) dX7_text_58 ?_
      refine J_iast (pc := 59) K (a := k0 + 1) (n := 262) (ty_7_1 hk0) dX7_text_59 (fun h8 => ?_)
      refine J_iinc (pc := 60) K (1) dX7_text_60 2 rfl (by decide) (by decide) [(2, .int (u2 + 1)), (0, .ref (ω.1 + k0)), (1, .int w1)] rfl ?_
      refine J_goto (pc := 63) K 30 dX7_text_63 (by decide) ?_
      refine J_lv [1, 2, 0] [(0, .ref (ω.1 + k0)), (1, .int w1), (2, .int (u2 + 1))] rfl ?_
      exact ih (u2 + 1) h8
def F_X7_text (N : Nat) (k0 : Nat) (x1 : Int32) (h : Mem) : Option (Int32 × Mem) :=
  (bnd (F_X7_in x1 (0 : Int32) (1 : Int32) h) (fun r1 h2 =>
  (if r1 = 0 then
    (bnd (F_X7_errs k0 (-1000000001 : Int32) h2) (fun r3 h4 =>
    (some (r3, h4))))
  else
    (bnd (F_X7_moveAll N k0 (k0 + 1) 262 (k0 + 4) 262 h2) (fun _ h6 =>
    (F_X7_text_30 N k0 x1 (fun (h9 : Mem) =>
      (gin (4 : Int32) 262
      (gin ((6 : Int32) + x1) 262 (seqh (upm h9 (k0 + 1) (ix ((6 : Int32) + x1)) (h9 (k0 + 1) (ix (4 : Int32)))) (fun h10 =>
      (bnd (F_X7_walks N k0 x1 (1 : Int32) (1 : Int32) (1 : Int32) h10) (fun r11 h12 =>
      (jn (fun (s14 : Int32) (h15 : Mem) =>
        (seqi (h15 k0 8) (fun v16 =>
        (jn (fun (h18 : Mem) =>
          (gin (4 : Int32) 262 (seqh (upm h18 (k0 + 1) (ix (4 : Int32)) (0 : Int32)) (fun h19 =>
          (if s14 = 0 then
            (some ((-10 : Int32) - v16, h19))
          else
            (some ((1 : Int32), h19))))))) (fun j17 =>
          (if s14 = 0 then
            (bnd (F_X7_moveAll N k0 (k0 + 4) 262 (k0 + 1) 262 h15) (fun _ h21 =>
            (j17 h21)))
          else
            (j17 h15))))))) (fun j13 =>
        (if (h12 k0 14) = 0 then
          (j13 (0 : Int32) h12)
        else
          (if r11 = r11 then
            (j13 (1 : Int32) h12)
          else
            (j13 (0 : Int32) h12)))))))))))) N (0 : Int32) h6))))))
set_option maxRecDepth 10000 in
set_option maxHeartbeats 1000000 in
theorem ok_X7_text (l : Launch) (ω : WX) (N : Nat) {k0 : Nat} (hk0 : lay k0 = 7) (x1 : Int32) (h : Mem) : MC rvI l ω yX7_text cX7_text 5 (some .int) 52 [.ref (ω.1 + k0), .int x1] h (F_X7_text N k0 x1 h) := by
  refine MC.of (by decide +kernel) [(0, .ref (ω.1 + k0)), (1, .int x1)] rfl (Nat.le_of_ble_eq_true rfl) (fun χ K => ?_)
  have K : Kok ω χ "SaltCloudsModel" cX7_text 5 (some .int) 52 := K
  unfold F_X7_text
  refine J_iload_n (pc := 0) K dX7_text_0 1 rfl 1 rfl ?_
  refine J_iconst (pc := 1) K (0) dX7_text_1 (by decide) ?_
  refine J_iconst (pc := 2) K (1) dX7_text_2 (by decide) ?_
  refine J_callTI (As := [.int x1, .int (0 : Int32), .int (1 : Int32)]) (rest := []) (pc := 3) K cs_SaltCloudsModel_41 (ok_X7_in l ω x1 (0 : Int32) (1 : Int32) h) (by decide) rfl rfl (Nat.le_of_ble_eq_true rfl) dX7_text_3 (fun r1 h2 => ?_)
  refine J_if_ne (pc := 6) K 16 dX7_text_6 (by decide) ?_ ?_
  · refine J_aload_n (pc := 9) K dX7_text_9 0 rfl 0 rfl ?_
    refine J_ldc (pc := 10) K kc_SaltCloudsModel_53 dX7_text_10 ?_
    refine J_callVI (As := [.int (-1000000001 : Int32)]) (rest := []) (pc := 12) K cs_SaltCloudsModel_54 (ok_X7_errs l ω hk0 (-1000000001 : Int32) h2) hk0 (by decide) rfl rfl (Nat.le_of_ble_eq_true rfl) dX7_text_12 (fun r3 h4 => ?_)
    exact J_iret (pc := 15) K dX7_text_15
  · refine J_aload_n (pc := 16) K dX7_text_16 0 rfl 0 rfl ?_
    refine J_aload_n (pc := 17) K dX7_text_17 0 rfl 0 rfl ?_
    refine J_getR (pc := 18) K gf_SaltCloudsModel_7 hk0 1 rfl dX7_text_18 ?_
    refine J_aload_n (pc := 21) K dX7_text_21 0 rfl 0 rfl ?_
    refine J_getR (pc := 22) K gf_SaltCloudsModel_19 hk0 4 rfl dX7_text_22 ?_
    refine J_callVU (As := [.ref (ω.1 + (k0 + 1)), .ref (ω.1 + (k0 + 4))]) (rest := []) (pc := 25) K cs_SaltCloudsModel_168 (ok_X7_moveAll l ω N hk0 (n1 := 262) (ty_7_1 hk0) (n2 := 262) (ty_7_4 hk0) h2) hk0 (by decide) rfl rfl (Nat.le_of_ble_eq_true rfl) dX7_text_25 (fun _ h6 => ?_)
    refine J_iconst (pc := 28) K (0) dX7_text_28 (by decide) ?_
    refine J_istore_n (pc := 29) K dX7_text_29 2 rfl (by decide) [(2, .int (0 : Int32)), (0, .ref (ω.1 + k0)), (1, .int x1)] rfl ?_
    refine J_lv [1, 2, 0] [(0, .ref (ω.1 + k0)), (1, .int x1), (2, .int (0 : Int32))] rfl ?_
    refine okL_X7_text_30 K  (by decide) N hk0 (fun h9 => ?_) _ _ _
    refine J_aload_n (pc := 66) K dX7_text_66 0 rfl 0 rfl ?_
    refine J_getR (pc := 67) K gf_SaltCloudsModel_7 hk0 1 rfl dX7_text_67 ?_
    refine J_bipush (pc := 70) K (6) dX7_text_70 (by decide) ?_
    refine J_iload_n (pc := 72) K dX7_text_72 1 rfl 1 rfl ?_
    refine J_iadd (pc := 73) K dX7_text_73 ?_
    refine J_aload_n (pc := 74) K dX7_text_74 0 rfl 0 rfl ?_
    refine J_getR (pc := 75) K gf_SaltCloudsModel_7 hk0 1 rfl dX7_text_75 ?_
    refine J_iconst (pc := 78) K (4) dX7_text_78 (by decide) ?_
    refine J_iald (pc := 79) K (a := k0 + 1) (n := 262) (ty_7_1 hk0) dX7_text_79 ?_
    refine J_iast (pc := 80) K (a := k0 + 1) (n := 262) (ty_7_1 hk0) dX7_text_80 (fun h10 => ?_)
    refine J_aload_n (pc := 81) K dX7_text_81 0 rfl 0 rfl ?_
    refine J_iload_n (pc := 82) K dX7_text_82 1 rfl 1 rfl ?_
    refine J_iconst (pc := 83) K (1) dX7_text_83 (by decide) ?_
    refine J_iconst (pc := 84) K (1) dX7_text_84 (by decide) ?_
    refine J_iconst (pc := 85) K (1) dX7_text_85 (by decide) ?_
    refine J_callVI (As := [.int x1, .int (1 : Int32), .int (1 : Int32), .int (1 : Int32)]) (rest := []) (pc := 86) K cs_SaltCloudsModel_163 (ok_X7_walks l ω N hk0 x1 (1 : Int32) (1 : Int32) (1 : Int32) h10) hk0 (by decide) rfl rfl (Nat.le_of_ble_eq_true rfl) dX7_text_86 (fun r11 h12 => ?_)
    refine J_istore_n (pc := 89) K dX7_text_89 2 rfl (by decide) [(2, .int r11), (0, .ref (ω.1 + k0)), (1, .int x1)] rfl ?_
    refine J_aload_n (pc := 90) K dX7_text_90 0 rfl 1 rfl ?_
    refine J_getI (pc := 91) K gf_SaltCloudsModel_111 hk0 rfl dX7_text_91 ?_
    refine J_jn (fun j13 => ∀ (s14 : Int32) (h15 : Mem), J (ZM rvI ω χ) l ω χ 107 5 [(0, .ref (ω.1 + k0))] [.int s14] h15 (j13 s14 h15)) ?_ ?_
    · intro s14 h15
      refine J_istore_n (pc := 107) K dX7_text_107 3 rfl (by decide) [(3, .int s14), (0, .ref (ω.1 + k0))] rfl ?_
      refine J_aload_n (pc := 108) K dX7_text_108 0 rfl 1 rfl ?_
      refine J_getI (pc := 109) K gf_SaltCloudsModel_115 hk0 rfl dX7_text_109 ?_
      refine J_topi (fun v16 => ?_)
      refine J_istore (pc := 112) K dX7_text_112 (by decide) [(4, .int v16), (3, .int s14), (0, .ref (ω.1 + k0))] rfl ?_
      refine J_iload_n (pc := 114) K dX7_text_114 3 rfl 1 rfl ?_
      refine J_jn (fun j17 => ∀ (h18 : Mem), J (ZM rvI ω χ) l ω χ 130 5 [(0, .ref (ω.1 + k0)), (3, .int s14), (4, .int v16)] [] h18 (j17 h18)) ?_ ?_
      · intro h18
        refine J_aload_n (pc := 130) K dX7_text_130 0 rfl 0 rfl ?_
        refine J_getR (pc := 131) K gf_SaltCloudsModel_7 hk0 1 rfl dX7_text_131 ?_
        refine J_iconst (pc := 134) K (4) dX7_text_134 (by decide) ?_
        refine J_iconst (pc := 135) K (0) dX7_text_135 (by decide) ?_
        refine J_iast (pc := 136) K (a := k0 + 1) (n := 262) (ty_7_1 hk0) dX7_text_136 (fun h19 => ?_)
        refine J_iload_n (pc := 137) K dX7_text_137 3 rfl 1 rfl ?_
        refine J_if_eq (pc := 138) K 145 dX7_text_138 (by decide) ?_ ?_
        · refine J_bipush (pc := 145) K (-10) dX7_text_145 (by decide) ?_
          refine J_iload (pc := 147) K dX7_text_147 2 rfl ?_
          refine J_isub (pc := 149) K dX7_text_149 ?_
          exact J_iret (pc := 150) K dX7_text_150
        · refine J_iconst (pc := 141) K (1) dX7_text_141 (by decide) ?_
          refine J_goto (pc := 142) K 150 dX7_text_142 (by decide) ?_
          exact J_iret (pc := 150) K dX7_text_150
      · intro j17 hj17
        refine J_if_ne (pc := 115) K 130 dX7_text_115 (by decide) ?_ ?_
        · refine J_aload_n (pc := 118) K dX7_text_118 0 rfl 2 rfl ?_
          refine J_aload_n (pc := 119) K dX7_text_119 0 rfl 2 rfl ?_
          refine J_getR (pc := 120) K gf_SaltCloudsModel_19 hk0 4 rfl dX7_text_120 ?_
          refine J_aload_n (pc := 123) K dX7_text_123 0 rfl 2 rfl ?_
          refine J_getR (pc := 124) K gf_SaltCloudsModel_7 hk0 1 rfl dX7_text_124 ?_
          refine J_callVU (As := [.ref (ω.1 + (k0 + 4)), .ref (ω.1 + (k0 + 1))]) (rest := []) (pc := 127) K cs_SaltCloudsModel_168 (ok_X7_moveAll l ω N hk0 (n1 := 262) (ty_7_4 hk0) (n2 := 262) (ty_7_1 hk0) h15) hk0 (by decide) rfl rfl (Nat.le_of_ble_eq_true rfl) dX7_text_127 (fun _ h21 => ?_)
          refine J_lv [2, 1, 0] [(0, .ref (ω.1 + k0)), (3, .int s14), (4, .int v16)] rfl ?_
          exact hj17 h21
        · refine J_lv [2, 1, 0] [(0, .ref (ω.1 + k0)), (3, .int s14), (4, .int v16)] rfl ?_
          exact hj17 h15
    · intro j13 hj13
      refine J_if_eq (pc := 94) K 106 dX7_text_94 (by decide) ?_ ?_
      · refine J_iconst (pc := 106) K (0) dX7_text_106 (by decide) ?_
        refine J_lv [1] [(0, .ref (ω.1 + k0))] rfl ?_
        exact hj13 (0 : Int32) h12
      · refine J_iload_n (pc := 97) K dX7_text_97 2 rfl 0 rfl ?_
        refine J_iload_n (pc := 98) K dX7_text_98 2 rfl 0 rfl ?_
        refine J_icmp_ne (pc := 99) K 106 dX7_text_99 (by decide) ?_ ?_
        · refine J_iconst (pc := 102) K (1) dX7_text_102 (by decide) ?_
          refine J_goto (pc := 103) K 107 dX7_text_103 (by decide) ?_
          refine J_lv [1] [(0, .ref (ω.1 + k0))] rfl ?_
          exact hj13 (1 : Int32) h12
        · refine J_iconst (pc := 106) K (0) dX7_text_106 (by decide) ?_
          refine J_lv [1] [(0, .ref (ω.1 + k0))] rfl ?_
          exact hj13 (0 : Int32) h12
def F_X7_rain_44 (N : Nat) (k0 : Nat) (w1 : Int32) (w3 : Int32) (kt : Mem → Option (Unit × Mem)) : Nat → Int32 → Mem → Option (Unit × Mem)
  | 0, _, _ => none
  | n + 1, u4, h =>
    (if (3 : Int32) ≤ u4 then
      (kt h)
    else
      (if w3 ≤ 0 then
        (kt h)
      else
        (bnd (F_X7_its k0 w1 ((4 : Int32) + u4) h) (fun r10 h11 =>
        (bnd (F_X7_keeps k0 w1 u4 h11) (fun r12 h13 =>
        (if r12 = 0 then
          (gnz (10 : Int32)
          (bnd (F_X7_puts k0 w1 ((4 : Int32) + u4) (r10 - (r10 / (10 : Int32))) h13) (fun _ h15 =>
          (F_X7_rain_44 N k0 w1 w3 kt n (u4 + 1) h15))))
        else
          (bnd (F_X7_puts k0 w1 ((4 : Int32) + u4) r10 h13) (fun _ h17 =>
          (F_X7_rain_44 N k0 w1 w3 kt n (u4 + 1) h17))))))))))
set_option maxRecDepth 10000 in
set_option maxHeartbeats 1000000 in
theorem okL_X7_rain_44 {l : Launch} {ω : WX} {χ : KT} {d : Nat} (K : Kok ω χ "SaltCloudsModel" cX7_rain 6 none d) (hd : 2 ≤ d) (N : Nat) {k0 : Nat} (hk0 : lay k0 = 7) {w1 : Int32} {w3 : Int32} {kt : Mem → Option (Unit × Mem)} (hK : ∀ (h : Mem), J (ZM rvV ω χ) l ω χ 103 6 [] [] h (kt h)) : ∀ (n : Nat) (u4 : Int32) (h : Mem), J (ZM rvV ω χ) l ω χ 44 6 [(0, .ref (ω.1 + k0)), (1, .int w1), (3, .int w3), (4, .int u4)] [] h (F_X7_rain_44 N k0 w1 w3 kt n u4 h) := by
  intro n
  induction n with
  | zero =>
    intro u4 h
    exact J_none rfl
  | succ n ih =>
    intro u4 h
    rw [F_X7_rain_44]
    refine J_iload (pc := 44) K dX7_rain_44 3 rfl ?_
    refine J_iconst (pc := 46) K (3) dX7_rain_46 (by decide) ?_
    refine J_icmp_ge (pc := 47) K 103 dX7_rain_47 (by decide) ?_ ?_
    · refine J_lv [] [] rfl ?_
      exact hK h
    · refine J_iload_n (pc := 50) K dX7_rain_50 3 rfl 2 rfl ?_
      refine J_if_le (pc := 51) K 103 dX7_rain_51 (by decide) ?_ ?_
      · refine J_lv [] [] rfl ?_
        exact hK h
      · refine J_aload_n (pc := 54) K dX7_rain_54 0 rfl 0 rfl ?_
        refine J_iload_n (pc := 55) K dX7_rain_55 1 rfl 1 rfl ?_
        refine J_iconst (pc := 56) K (4) dX7_rain_56 (by decide) ?_
        refine J_iload (pc := 57) K dX7_rain_57 3 rfl ?_
        refine J_iadd (pc := 59) K dX7_rain_59 ?_
        refine J_callVI (As := [.int w1, .int ((4 : Int32) + u4)]) (rest := []) (pc := 60) K cs_SaltCloudsModel_45 (ok_X7_its l ω hk0 w1 ((4 : Int32) + u4) h) hk0 (by omega) rfl rfl (Nat.le_of_ble_eq_true rfl) dX7_rain_60 (fun r10 h11 => ?_)
        refine J_istore (pc := 63) K dX7_rain_63 (by decide) [(5, .int r10), (0, .ref (ω.1 + k0)), (1, .int w1), (3, .int w3), (4, .int u4)] rfl ?_
        refine J_aload_n (pc := 65) K dX7_rain_65 0 rfl 1 rfl ?_
        refine J_iload_n (pc := 66) K dX7_rain_66 1 rfl 2 rfl ?_
        refine J_iconst (pc := 67) K (4) dX7_rain_67 (by decide) ?_
        refine J_iload (pc := 68) K dX7_rain_68 4 rfl ?_
        refine J_iadd (pc := 70) K dX7_rain_70 ?_
        refine J_aload_n (pc := 71) K dX7_rain_71 0 rfl 1 rfl ?_
        refine J_iload_n (pc := 72) K dX7_rain_72 1 rfl 2 rfl ?_
        refine J_iload (pc := 73) K dX7_rain_73 4 rfl ?_
        refine J_callVI (As := [.int w1, .int u4]) (rest := [.int ((4 : Int32) + u4), .int w1, .ref (ω.1 + k0)]) (pc := 75) K cs_SaltCloudsModel_173 (ok_X7_keeps l ω hk0 w1 u4 h11) hk0 (by omega) rfl rfl (Nat.le_of_ble_eq_true rfl) dX7_rain_75 (fun r12 h13 => ?_)
        refine J_if_eq (pc := 78) K 86 dX7_rain_78 (by decide) ?_ ?_
        · refine J_iload (pc := 86) K dX7_rain_86 0 rfl ?_
          refine J_iload (pc := 88) K dX7_rain_88 0 rfl ?_
          refine J_bipush (pc := 90) K (10) dX7_rain_90 (by decide) ?_
          refine J_idiv (pc := 92) K dX7_rain_92 ?_
          refine J_isub (pc := 93) K dX7_rain_93 ?_
          refine J_callVU (As := [.int w1, .int ((4 : Int32) + u4), .int (r10 - (r10 / (10 : Int32)))]) (rest := []) (pc := 94) K cs_SaltCloudsModel_59 (ok_X7_puts l ω hk0 w1 ((4 : Int32) + u4) (r10 - (r10 / (10 : Int32))) h13) hk0 (by omega) rfl rfl (Nat.le_of_ble_eq_true rfl) dX7_rain_94 (fun _ h15 => ?_)
          refine J_iinc (pc := 97) K (1) dX7_rain_97 4 rfl (by decide) (by decide) [(4, .int (u4 + 1)), (5, .int r10), (0, .ref (ω.1 + k0)), (1, .int w1), (3, .int w3)] rfl ?_
          refine J_goto (pc := 100) K 44 dX7_rain_100 (by decide) ?_
          refine J_lv [2, 3, 4, 0] [(0, .ref (ω.1 + k0)), (1, .int w1), (3, .int w3), (4, .int (u4 + 1))] rfl ?_
          exact ih (u4 + 1) h15
        · refine J_iload (pc := 81) K dX7_rain_81 0 rfl ?_
          refine J_goto (pc := 83) K 94 dX7_rain_83 (by decide) ?_
          refine J_callVU (As := [.int w1, .int ((4 : Int32) + u4), .int r10]) (rest := []) (pc := 94) K cs_SaltCloudsModel_59 (ok_X7_puts l ω hk0 w1 ((4 : Int32) + u4) r10 h13) hk0 (by omega) rfl rfl (Nat.le_of_ble_eq_true rfl) dX7_rain_94 (fun _ h17 => ?_)
          refine J_iinc (pc := 97) K (1) dX7_rain_97 4 rfl (by decide) (by decide) [(4, .int (u4 + 1)), (5, .int r10), (0, .ref (ω.1 + k0)), (1, .int w1), (3, .int w3)] rfl ?_
          refine J_goto (pc := 100) K 44 dX7_rain_100 (by decide) ?_
          refine J_lv [2, 3, 4, 0] [(0, .ref (ω.1 + k0)), (1, .int w1), (3, .int w3), (4, .int (u4 + 1))] rfl ?_
          exact ih (u4 + 1) h17
def F_X7_rain (N : Nat) (k0 : Nat) (x1 : Int32) (x2 : Int32) (h : Mem) : Option (Unit × Mem) :=
  (bnd (F_X7_rainsAt k0 x1 x2 h) (fun r1 h2 =>
  (bnd (F_X7_its k0 x1 (3 : Int32) h2) (fun r3 h4 =>
  (bnd (F_X7_puts k0 x1 (3 : Int32) (r3 - r1) h4) (fun _ h6 =>
  (gin (2 : Int32) 262
  (bnd (F_X7_held ((h6 (k0 + 1) (ix (2 : Int32))) + r1) (0 : Int32) (999999 : Int32) h6) (fun r7 h8 =>
  (gin (2 : Int32) 262 (seqh (upm h8 (k0 + 1) (ix (2 : Int32)) r7) (fun h9 =>
  (F_X7_rain_44 N k0 x1 r1 (fun (h18 : Mem) =>
    (some ((), h18))) N (0 : Int32) h9)))))))))))))
set_option maxRecDepth 10000 in
set_option maxHeartbeats 1000000 in
theorem ok_X7_rain (l : Launch) (ω : WX) (N : Nat) {k0 : Nat} (hk0 : lay k0 = 7) (x1 : Int32) (x2 : Int32) (h : Mem) : MC rvV l ω yX7_rain cX7_rain 6 none 2 [.ref (ω.1 + k0), .int x1, .int x2] h (F_X7_rain N k0 x1 x2 h) := by
  refine MC.of (by decide +kernel) [(0, .ref (ω.1 + k0)), (1, .int x1), (2, .int x2)] rfl (Nat.le_of_ble_eq_true rfl) (fun χ K => ?_)
  have K : Kok ω χ "SaltCloudsModel" cX7_rain 6 none 2 := K
  unfold F_X7_rain
  refine J_aload_n (pc := 0) K dX7_rain_0 0 rfl 0 rfl ?_
  refine J_iload_n (pc := 1) K dX7_rain_1 1 rfl 1 rfl ?_
  refine J_iload_n (pc := 2) K dX7_rain_2 2 rfl 2 rfl ?_
  refine J_callVI (As := [.int x1, .int x2]) (rest := []) (pc := 3) K cs_SaltCloudsModel_96 (ok_X7_rainsAt l ω hk0 x1 x2 h) hk0 (by decide) rfl rfl (Nat.le_of_ble_eq_true rfl) dX7_rain_3 (fun r1 h2 => ?_)
  refine J_istore_n (pc := 6) K dX7_rain_6 3 rfl (by decide) [(3, .int r1), (0, .ref (ω.1 + k0)), (1, .int x1), (2, .int x2)] rfl ?_
  refine J_aload_n (pc := 7) K dX7_rain_7 0 rfl 1 rfl ?_
  refine J_iload_n (pc := 8) K dX7_rain_8 1 rfl 2 rfl ?_
  refine J_iconst (pc := 9) K (3) dX7_rain_9 (by decide) ?_
  refine J_aload_n (pc := 10) K dX7_rain_10 0 rfl 1 rfl ?_
  refine J_iload_n (pc := 11) K dX7_rain_11 1 rfl 2 rfl ?_
  refine J_iconst (pc := 12) K (3) dX7_rain_12 (by decide) ?_
  refine J_callVI (As := [.int x1, .int (3 : Int32)]) (rest := [.int (3 : Int32), .int x1, .ref (ω.1 + k0)]) (pc := 13) K cs_SaltCloudsModel_45 (ok_X7_its l ω hk0 x1 (3 : Int32) h2) hk0 (by decide) rfl rfl (Nat.le_of_ble_eq_true rfl) dX7_rain_13 (fun r3 h4 => ?_)
  refine J_iload_n (pc := 16) K dX7_rain_16 3 rfl 0 rfl ?_
  refine J_isub (pc := 17) K dX7_rain_17 ?_
  refine J_callVU (As := [.int x1, .int (3 : Int32), .int (r3 - r1)]) (rest := []) (pc := 18) K cs_SaltCloudsModel_59 (ok_X7_puts l ω hk0 x1 (3 : Int32) (r3 - r1) h4) hk0 (by decide) rfl rfl (Nat.le_of_ble_eq_true rfl) dX7_rain_18 (fun _ h6 => ?_)
  refine J_aload_n (pc := 21) K dX7_rain_21 0 rfl 1 rfl ?_
  refine J_getR (pc := 22) K gf_SaltCloudsModel_7 hk0 1 rfl dX7_rain_22 ?_
  refine J_iconst (pc := 25) K (2) dX7_rain_25 (by decide) ?_
  refine J_aload_n (pc := 26) K dX7_rain_26 0 rfl 1 rfl ?_
  refine J_getR (pc := 27) K gf_SaltCloudsModel_7 hk0 1 rfl dX7_rain_27 ?_
  refine J_iconst (pc := 30) K (2) dX7_rain_30 (by decide) ?_
  refine J_iald (pc := 31) K (a := k0 + 1) (n := 262) (ty_7_1 hk0) dX7_rain_31 ?_
  refine J_iload_n (pc := 32) K dX7_rain_32 3 rfl 0 rfl ?_
  refine J_iadd (pc := 33) K dX7_rain_33 ?_
  refine J_iconst (pc := 34) K (0) dX7_rain_34 (by decide) ?_
  refine J_ldc (pc := 35) K kc_SaltCloudsModel_172 dX7_rain_35 ?_
  refine J_callTI (As := [.int ((h6 (k0 + 1) (ix (2 : Int32))) + r1), .int (0 : Int32), .int (999999 : Int32)]) (rest := [.int (2 : Int32), .ref (ω.1 + (k0 + 1))]) (pc := 37) K cs_SaltCloudsModel_63 (ok_X7_held l ω ((h6 (k0 + 1) (ix (2 : Int32))) + r1) (0 : Int32) (999999 : Int32) h6) (by decide) rfl rfl (Nat.le_of_ble_eq_true rfl) dX7_rain_37 (fun r7 h8 => ?_)
  refine J_iast (pc := 40) K (a := k0 + 1) (n := 262) (ty_7_1 hk0) dX7_rain_40 (fun h9 => ?_)
  refine J_iconst (pc := 41) K (0) dX7_rain_41 (by decide) ?_
  refine J_istore (pc := 42) K dX7_rain_42 (by decide) [(4, .int (0 : Int32)), (3, .int r1), (0, .ref (ω.1 + k0)), (1, .int x1), (2, .int x2)] rfl ?_
  refine J_lv [2, 3, 1, 0] [(0, .ref (ω.1 + k0)), (1, .int x1), (3, .int r1), (4, .int (0 : Int32))] rfl ?_
  refine okL_X7_rain_44 K  (by decide) N hk0 (fun h18 => ?_) _ _ _
  exact J_vret (pc := 103) K dX7_rain_103
