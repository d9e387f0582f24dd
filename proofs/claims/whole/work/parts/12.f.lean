/-! methods, by program: X4_read, X2_textOf, X3_takeFrom, X6_text, X2_debtBy, X6_law, X6_errorOfHours, X0_placeBy, X0_keeps, X0_rainOverHill, X0_drinkFromSea, X2_moveOne, X2_passHour, X2_passHours, X2_isNobody, X2_nobodies, X6_hours, X2_drawWind, X6_loose, X0_takeFrom, X2_takeFrom, X6_then, X2_payOne, X2_payRound, X6_pay, X6_nobodyBy, X2_leastNobodyThere -/
def F_X4_read (N : Nat) (k0 : Nat) (k1 n1 : Nat) (x2 : Int32) (x3 : Int32) (h : Mem) : Option (Int32 × Mem) :=
  (seqh (upm h k0 1 (nI k1)) (fun h1 =>
  (bnd (F_J9_min_7cf53 x2 (nI n1) h1) (fun r2 h3 =>
  (seqh (upm h3 k0 2 r2) (fun h4 =>
  (if x3 = 0 then
    (seqh (upm h4 k0 3 (-(nI (1 + 1)))) (fun h5 =>
    (seqh (upm h5 k0 4 (0 : Int32)) (fun h6 =>
    (seqh (upm h6 k0 5 (-1 : Int32)) (fun h7 =>
    (bnd (F_X3_empty (k0 + 1) h7) (fun _ h9 =>
    (bnd (F_X4_readT (F_X4_readQ N 7) N k0 (0 : Int32) h9) (fun _ h11 =>
    (jn (fun (h13 : Mem) =>
      (if 0 ≤ (h13 k0 5) then
        (seqh (upm h13 (k0 + 1) 0 (0 : Int32)) (fun h14 =>
        (some (h14 k0 5, h14))))
      else
        (seqh (upm h13 (k0 + 1) 0 (1 : Int32)) (fun h15 =>
        (some (h15 k0 5, h15)))))) (fun j12 =>
      (if (h11 k0 2) ≤ (h11 k0 4) then
        (j12 h11)
      else
        (bnd (F_X4_stop k0 h11) (fun _ h17 =>
        (j12 h17))))))))))))))))
  else
    (seqh (upm h4 k0 3 (-(nI (2 + 1)))) (fun h18 =>
    (seqh (upm h18 k0 4 (0 : Int32)) (fun h19 =>
    (seqh (upm h19 k0 5 (-1 : Int32)) (fun h20 =>
    (bnd (F_X3_empty (k0 + 1) h20) (fun _ h22 =>
    (bnd (F_X4_readT (F_X4_readQ N 7) N k0 (0 : Int32) h22) (fun _ h24 =>
    (jn (fun (h26 : Mem) =>
      (if 0 ≤ (h26 k0 5) then
        (seqh (upm h26 (k0 + 1) 0 (0 : Int32)) (fun h27 =>
        (some (h27 k0 5, h27))))
      else
        (seqh (upm h26 (k0 + 1) 0 (1 : Int32)) (fun h28 =>
        (some (h28 k0 5, h28)))))) (fun j25 =>
      (if (h24 k0 2) ≤ (h24 k0 4) then
        (j25 h24)
      else
        (bnd (F_X4_stop k0 h24) (fun _ h30 =>
        (j25 h30)))))))))))))))))))))))
set_option maxRecDepth 10000 in
set_option maxHeartbeats 1000000 in
theorem ok_X4_read (l : Launch) (ω : WX) (N : Nat) {k0 : Nat} (hk0 : lay k0 = 4) {k1 n1 : Nat} (hk1 : lay k1 = 1000 + n1) (x2 : Int32) (x3 : Int32) (h : Mem) : MC rvI l ω yX4_read cX4_read 4 (some .int) 85 [.ref (ω.1 + k0), .ref (ω.1 + k1), .int x2, .int x3] h (F_X4_read N k0 k1 n1 x2 x3 h) := by
  refine MC.of (by decide +kernel) [(0, .ref (ω.1 + k0)), (1, .ref (ω.1 + k1)), (2, .int x2), (3, .int x3)] rfl (Nat.le_of_ble_eq_true rfl) (fun χ K => ?_)
  have K : Kok ω χ "SaltClouds$TextReader" cX4_read 4 (some .int) 85 := K
  unfold F_X4_read
  refine J_aload_n (pc := 0) K dX4_read_0 0 rfl 0 rfl ?_
  refine J_aload_n (pc := 1) K dX4_read_1 1 rfl 1 rfl ?_
  refine J_putA (pc := 2) K (x := 0) gf_SaltClouds_TextReader_18 hk0 (by decide) rfl (lay_lt hk1 (by omega)) dX4_read_2 (fun h1 => ?_)
  refine J_aload_n (pc := 5) K dX4_read_5 0 rfl 0 rfl ?_
  refine J_iload_n (pc := 6) K dX4_read_6 2 rfl 2 rfl ?_
  refine J_aload_n (pc := 7) K dX4_read_7 1 rfl 1 rfl ?_
  refine J_alen (pc := 8) K (a := k1) (n := n1) hk1 dX4_read_8 ?_
  refine J_callTI (As := [.int x2, .int (nI n1)]) (rest := [.ref (ω.1 + k0)]) (pc := 9) K cs_SaltClouds_TextReader_38 (ok_J9_min_7cf53 l ω x2 (nI n1) h1) (by decide) rfl rfl (Nat.le_of_ble_eq_true rfl) dX4_read_9 (fun r2 h3 => ?_)
  refine J_putI (pc := 12) K gf_SaltClouds_TextReader_22 hk0 (by decide) rfl dX4_read_12 (fun h4 => ?_)
  refine J_aload_n (pc := 15) K dX4_read_15 0 rfl 0 rfl ?_
  refine J_iload_n (pc := 16) K dX4_read_16 3 rfl 3 rfl ?_
  refine J_if_ne (pc := 17) K 25 dX4_read_17 (by decide) ?_ ?_
  · refine J_ldcS (pc := 20) K 1 (by decide) "tws" rfl dX4_read_20 ?_
    refine J_goto (pc := 22) K 27 dX4_read_22 (by decide) ?_
    refine J_putS (pc := 27) K (x := 0) gf_SaltClouds_TextReader_28 hk0 (by decide) rfl (by decide) dX4_read_27 (fun h5 => ?_)
    refine J_aload_n (pc := 30) K dX4_read_30 0 rfl 0 rfl ?_
    refine J_iconst (pc := 31) K (0) dX4_read_31 (by decide) ?_
    refine J_putI (pc := 32) K gf_SaltClouds_TextReader_32 hk0 (by decide) rfl dX4_read_32 (fun h6 => ?_)
    refine J_aload_n (pc := 35) K dX4_read_35 0 rfl 0 rfl ?_
    refine J_iconst (pc := 36) K (-1) dX4_read_36 (by decide) ?_
    refine J_putI (pc := 37) K gf_SaltClouds_TextReader_35 hk0 (by decide) rfl dX4_read_37 (fun h7 => ?_)
    refine J_aload_n (pc := 40) K dX4_read_40 0 rfl 0 rfl ?_
    refine J_getR (pc := 41) K gf_SaltClouds_TextReader_12 hk0 1 rfl dX4_read_41 ?_
    refine J_callVU (As := []) (rest := []) (pc := 44) K cs_SaltClouds_TextReader_48 (ok_X3_empty l ω (ty_4_1 hk0) h7) (ty_4_1 hk0) (by decide) rfl rfl (Nat.le_of_ble_eq_true rfl) dX4_read_44 (fun _ h9 => ?_)
    refine J_aload_n (pc := 47) K dX4_read_47 0 rfl 0 rfl ?_
    refine J_iconst (pc := 48) K (0) dX4_read_48 (by decide) ?_
    refine J_callVU (As := [.int (0 : Int32)]) (rest := []) (pc := 49) K cs_SaltClouds_TextReader_51 (ok_X4_readT l ω (ok_X4_readQ l ω N 7) N hk0 (0 : Int32) h9) hk0 (by decide) rfl rfl (Nat.le_of_ble_eq_true rfl) dX4_read_49 (fun _ h11 => ?_)
    refine J_aload_n (pc := 52) K dX4_read_52 0 rfl 0 rfl ?_
    refine J_getI (pc := 53) K gf_SaltClouds_TextReader_32 hk0 rfl dX4_read_53 ?_
    refine J_aload_n (pc := 56) K dX4_read_56 0 rfl 0 rfl ?_
    refine J_getI (pc := 57) K gf_SaltClouds_TextReader_22 hk0 rfl dX4_read_57 ?_
    refine J_jn (fun j12 => ∀ (h13 : Mem), J (ZM rvI ω χ) l ω χ 67 4 [(0, .ref (ω.1 + k0))] [] h13 (j12 h13)) ?_ ?_
    · intro h13
      refine J_aload_n (pc := 67) K dX4_read_67 0 rfl 0 rfl ?_
      refine J_getR (pc := 68) K gf_SaltClouds_TextReader_12 hk0 1 rfl dX4_read_68 ?_
      refine J_aload_n (pc := 71) K dX4_read_71 0 rfl 0 rfl ?_
      refine J_getI (pc := 72) K gf_SaltClouds_TextReader_35 hk0 rfl dX4_read_72 ?_
      refine J_if_ge (pc := 75) K 82 dX4_read_75 (by decide) ?_ ?_
      · refine J_iconst (pc := 82) K (0) dX4_read_82 (by decide) ?_
        refine J_putZc (pc := 83) K (Or.inl rfl) gf_SaltClouds_TextReader_58 (ty_4_1 hk0) (by decide) rfl dX4_read_83 (fun h14 => ?_)
        refine J_aload_n (pc := 86) K dX4_read_86 0 rfl 0 rfl ?_
        refine J_getI (pc := 87) K gf_SaltClouds_TextReader_35 hk0 rfl dX4_read_87 ?_
        exact J_iret (pc := 90) K dX4_read_90
      · refine J_iconst (pc := 78) K (1) dX4_read_78 (by decide) ?_
        refine J_goto (pc := 79) K 83 dX4_read_79 (by decide) ?_
        refine J_putZc (pc := 83) K (Or.inr rfl) gf_SaltClouds_TextReader_58 (ty_4_1 hk0) (by decide) rfl dX4_read_83 (fun h15 => ?_)
        refine J_aload_n (pc := 86) K dX4_read_86 0 rfl 0 rfl ?_
        refine J_getI (pc := 87) K gf_SaltClouds_TextReader_35 hk0 rfl dX4_read_87 ?_
        exact J_iret (pc := 90) K dX4_read_90
    · intro j12 hj12
      refine J_icmp_ge (pc := 60) K 67 dX4_read_60 (by decide) ?_ ?_
      · refine J_lv [0] [(0, .ref (ω.1 + k0))] rfl ?_
        exact hj12 h11
      · refine J_aload_n (pc := 63) K dX4_read_63 0 rfl 0 rfl ?_
        refine J_callVU (As := []) (rest := []) (pc := 64) K cs_SaltClouds_TextReader_55 (ok_X4_stop l ω hk0 h11) hk0 (by decide) rfl rfl (Nat.le_of_ble_eq_true rfl) dX4_read_64 (fun _ h17 => ?_)
        refine J_lv [0] [(0, .ref (ω.1 + k0))] rfl ?_
        exact hj12 h17
  · refine J_ldcS (pc := 25) K 2 (by decide) "abh" rfl dX4_read_25 ?_
    refine J_putS (pc := 27) K (x := 0) gf_SaltClouds_TextReader_28 hk0 (by decide) rfl (by decide) dX4_read_27 (fun h18 => ?_)
    refine J_aload_n (pc := 30) K dX4_read_30 0 rfl 0 rfl ?_
    refine J_iconst (pc := 31) K (0) dX4_read_31 (by decide) ?_
    refine J_putI (pc := 32) K gf_SaltClouds_TextReader_32 hk0 (by decide) rfl dX4_read_32 (fun h19 => ?_)
    refine J_aload_n (pc := 35) K dX4_read_35 0 rfl 0 rfl ?_
    refine J_iconst (pc := 36) K (-1) dX4_read_36 (by decide) ?_
    refine J_putI (pc := 37) K gf_SaltClouds_TextReader_35 hk0 (by decide) rfl dX4_read_37 (fun h20 => ?_)
    refine J_aload_n (pc := 40) K dX4_read_40 0 rfl 0 rfl ?_
    refine J_getR (pc := 41) K gf_SaltClouds_TextReader_12 hk0 1 rfl dX4_read_41 ?_
    refine J_callVU (As := []) (rest := []) (pc := 44) K cs_SaltClouds_TextReader_48 (ok_X3_empty l ω (ty_4_1 hk0) h20) (ty_4_1 hk0) (by decide) rfl rfl (Nat.le_of_ble_eq_true rfl) dX4_read_44 (fun _ h22 => ?_)
    refine J_aload_n (pc := 47) K dX4_read_47 0 rfl 0 rfl ?_
    refine J_iconst (pc := 48) K (0) dX4_read_48 (by decide) ?_
    refine J_callVU (As := [.int (0 : Int32)]) (rest := []) (pc := 49) K cs_SaltClouds_TextReader_51 (ok_X4_readT l ω (ok_X4_readQ l ω N 7) N hk0 (0 : Int32) h22) hk0 (by decide) rfl rfl (Nat.le_of_ble_eq_true rfl) dX4_read_49 (fun _ h24 => ?_)
    refine J_aload_n (pc := 52) K dX4_read_52 0 rfl 0 rfl ?_
    refine J_getI (pc := 53) K gf_SaltClouds_TextReader_32 hk0 rfl dX4_read_53 ?_
    refine J_aload_n (pc := 56) K dX4_read_56 0 rfl 0 rfl ?_
    refine J_getI (pc := 57) K gf_SaltClouds_TextReader_22 hk0 rfl dX4_read_57 ?_
    refine J_jn (fun j25 => ∀ (h26 : Mem), J (ZM rvI ω χ) l ω χ 67 4 [(0, .ref (ω.1 + k0))] [] h26 (j25 h26)) ?_ ?_
    · intro h26
      refine J_aload_n (pc := 67) K dX4_read_67 0 rfl 0 rfl ?_
      refine J_getR (pc := 68) K gf_SaltClouds_TextReader_12 hk0 1 rfl dX4_read_68 ?_
      refine J_aload_n (pc := 71) K dX4_read_71 0 rfl 0 rfl ?_
      refine J_getI (pc := 72) K gf_SaltClouds_TextReader_35 hk0 rfl dX4_read_72 ?_
      refine J_if_ge (pc := 75) K 82 dX4_read_75 (by decide) ?_ ?_
      · refine J_iconst (pc := 82) K (0) dX4_read_82 (by decide) ?_
        refine J_putZc (pc := 83) K (Or.inl rfl) gf_SaltClouds_TextReader_58 (ty_4_1 hk0) (by decide) rfl dX4_read_83 (fun h27 => ?_)
        refine J_aload_n (pc := 86) K dX4_read_86 0 rfl 0 rfl ?_
        refine J_getI (pc := 87) K gf_SaltClouds_TextReader_35 hk0 rfl dX4_read_87 ?_
        exact J_iret (pc := 90) K dX4_read_90
      · refine J_iconst (pc := 78) K (1) dX4_read_78 (by decide) ?_
        refine J_goto (pc := 79) K 83 dX4_read_79 (by decide) ?_
        refine J_putZc (pc := 83) K (Or.inr rfl) gf_SaltClouds_TextReader_58 (ty_4_1 hk0) (by decide) rfl dX4_read_83 (fun h28 => ?_)
        refine J_aload_n (pc := 86) K dX4_read_86 0 rfl 0 rfl ?_
        refine J_getI (pc := 87) K gf_SaltClouds_TextReader_35 hk0 rfl dX4_read_87 ?_
        exact J_iret (pc := 90) K dX4_read_90
    · intro j25 hj25
      refine J_icmp_ge (pc := 60) K 67 dX4_read_60 (by decide) ?_ ?_
      · refine J_lv [0] [(0, .ref (ω.1 + k0))] rfl ?_
        exact hj25 h24
      · refine J_aload_n (pc := 63) K dX4_read_63 0 rfl 0 rfl ?_
        refine J_callVU (As := []) (rest := []) (pc := 64) K cs_SaltClouds_TextReader_55 (ok_X4_stop l ω hk0 h24) hk0 (by decide) rfl rfl (Nat.le_of_ble_eq_true rfl) dX4_read_64 (fun _ h30 => ?_)
        refine J_lv [0] [(0, .ref (ω.1 + k0))] rfl ?_
        exact hj25 h30
def F_X2_textOf (k0 : Nat) (x1 : Int32) (h : Mem) : Option (Nat × Mem) :=
  (if x1 = 0 then
    (some (k0 + 5, h))
  else
    (some (k0 + 8, h)))
set_option maxRecDepth 10000 in
set_option maxHeartbeats 1000000 in
theorem ok_X2_textOf (l : Launch) (ω : WX) {k0 : Nat} (hk0 : lay k0 = 2) (x1 : Int32) (h : Mem) : MC (rvR ω) l ω yX2_textOf cX2_textOf 2 (some (.object "SaltClouds$Text")) 0 [.ref (ω.1 + k0), .int x1] h (F_X2_textOf k0 x1 h) := by
  refine MC.of (by decide +kernel) [(0, .ref (ω.1 + k0)), (1, .int x1)] rfl (Nat.le_of_ble_eq_true rfl) (fun χ K => ?_)
  have K : Kok ω χ "SaltClouds$Sky" cX2_textOf 2 (some (.object "SaltClouds$Text")) 0 := K
  unfold F_X2_textOf
  refine J_iload_n (pc := 0) K dX2_textOf_0 1 rfl 1 rfl ?_
  refine J_if_ne (pc := 1) K 11 dX2_textOf_1 (by decide) ?_ ?_
  · refine J_aload_n (pc := 4) K dX2_textOf_4 0 rfl 0 rfl ?_
    refine J_getR (pc := 5) K gf_SaltClouds_Sky_46 hk0 5 rfl dX2_textOf_5 ?_
    refine J_goto (pc := 8) K 15 dX2_textOf_8 (by decide) ?_
    exact J_aret (pc := 15) K (Or.inl ⟨_, rfl⟩) dX2_textOf_15
  · refine J_aload_n (pc := 11) K dX2_textOf_11 0 rfl 0 rfl ?_
    refine J_getR (pc := 12) K gf_SaltClouds_Sky_50 hk0 8 rfl dX2_textOf_12 ?_
    exact J_aret (pc := 15) K (Or.inl ⟨_, rfl⟩) dX2_textOf_15
def F_X3_takeFrom (k0 : Nat) (k1 : Nat) (h : Mem) : Option (Unit × Mem) :=
  (gbo (h k1 0) (seqh (upm h k0 0 (h k1 0)) (fun h1 =>
  (seqh (upm h1 k0 2 (h1 k1 2)) (fun h2 =>
  (gcp (0 : Int32) (0 : Int32) (50 : Int32) 50 50 (seqh (rwm h2 (k0 + 1) (va_cpy (h2 (k1 + 1)) (h2 (k0 + 1)) (ix (0 : Int32)) (ix (0 : Int32)) (ix (50 : Int32)))) (fun h3 =>
  (some ((), h3))))))))))
set_option maxRecDepth 10000 in
set_option maxHeartbeats 1000000 in
theorem ok_X3_takeFrom (l : Launch) (ω : WX) {k0 : Nat} (hk0 : lay k0 = 3) {k1 : Nat} (hk1 : lay k1 = 3) (h : Mem) : MC rvV l ω yX3_takeFrom cX3_takeFrom 2 none 1 [.ref (ω.1 + k0), .ref (ω.1 + k1)] h (F_X3_takeFrom k0 k1 h) := by
  refine MC.of (by decide +kernel) [(0, .ref (ω.1 + k0)), (1, .ref (ω.1 + k1))] rfl (Nat.le_of_ble_eq_true rfl) (fun χ K => ?_)
  have K : Kok ω χ "SaltClouds$Text" cX3_takeFrom 2 none 1 := K
  unfold F_X3_takeFrom
  refine J_aload_n (pc := 0) K dX3_takeFrom_0 0 rfl 0 rfl ?_
  refine J_aload_n (pc := 1) K dX3_takeFrom_1 1 rfl 1 rfl ?_
  refine J_getI (pc := 2) K gf_SaltClouds_Text_9 hk1 rfl dX3_takeFrom_2 ?_
  refine J_putZ (pc := 5) K gf_SaltClouds_Text_9 hk0 (by decide) rfl dX3_takeFrom_5 (fun h1 => ?_)
  refine J_aload_n (pc := 8) K dX3_takeFrom_8 0 rfl 0 rfl ?_
  refine J_aload_n (pc := 9) K dX3_takeFrom_9 1 rfl 1 rfl ?_
  refine J_getI (pc := 10) K gf_SaltClouds_Text_19 hk1 rfl dX3_takeFrom_10 ?_
  refine J_putI (pc := 13) K gf_SaltClouds_Text_19 hk0 (by decide) rfl dX3_takeFrom_13 (fun h2 => ?_)
  refine J_aload_n (pc := 16) K dX3_takeFrom_16 1 rfl 1 rfl ?_
  refine J_getR (pc := 17) K gf_SaltClouds_Text_15 hk1 1 rfl dX3_takeFrom_17 ?_
  refine J_iconst (pc := 20) K (0) dX3_takeFrom_20 (by decide) ?_
  refine J_aload_n (pc := 21) K dX3_takeFrom_21 0 rfl 0 rfl ?_
  refine J_getR (pc := 22) K gf_SaltClouds_Text_15 hk0 1 rfl dX3_takeFrom_22 ?_
  refine J_iconst (pc := 25) K (0) dX3_takeFrom_25 (by decide) ?_
  refine J_bipush (pc := 26) K (50) dX3_takeFrom_26 (by decide) ?_
  refine J_copy (pc := 28) K cp_SaltClouds_Text_26 (n0 := 50) (n1 := 50) (ty_3_1 hk1) (ty_3_1 hk0) (by decide) (Nat.le_of_ble_eq_true rfl) dX3_takeFrom_28 (fun h3 => ?_)
  exact J_vret (pc := 31) K dX3_takeFrom_31
def F_X6_text (N : Nat) (k0 : Nat) (x1 : Int32) (h : Mem) : Option (Int32 × Mem) :=
  (bnd (F_X6_within x1 (0 : Int32) (1 : Int32) h) (fun r1 h2 =>
  (if r1 = 0 then
    (bnd (F_X6_refuse k0 (-1000000001 : Int32) h2) (fun r3 h4 =>
    (some (r3, h4))))
  else
    (bnd (F_X4_read N (k0 + 86) ((k0 + 1) + 4) 50 (h2 (k0 + 1) 8) x1 h2) (fun r5 h6 =>
    (seqh (upm h6 (k0 + 1) 8 (0 : Int32)) (fun h7 =>
    (if r5 < 0 then
      (bnd (F_X2_textOf (k0 + 1) x1 h7) (fun r8 h9 => (gly r8 3
      (bnd (F_X3_takeFrom r8 ((k0 + 86) + 1) h9) (fun _ h11 =>
      (some ((1 : Int32), h11)))))))
    else
      (some ((-10 : Int32) - r5, h7))))))))))
set_option maxRecDepth 10000 in
set_option maxHeartbeats 1000000 in
theorem ok_X6_text (l : Launch) (ω : WX) (N : Nat) {k0 : Nat} (hk0 : lay k0 = 6) (x1 : Int32) (h : Mem) : MC rvI l ω yX6_text cX6_text 3 (some .int) 86 [.ref (ω.1 + k0), .int x1] h (F_X6_text N k0 x1 h) := by
  refine MC.of (by decide +kernel) [(0, .ref (ω.1 + k0)), (1, .int x1)] rfl (Nat.le_of_ble_eq_true rfl) (fun χ K => ?_)
  have K : Kok ω χ "SaltClouds" cX6_text 3 (some .int) 86 := K
  unfold F_X6_text
  refine J_iload_n (pc := 0) K dX6_text_0 1 rfl 1 rfl ?_
  refine J_iconst (pc := 1) K (0) dX6_text_1 (by decide) ?_
  refine J_iconst (pc := 2) K (1) dX6_text_2 (by decide) ?_
  refine J_callTI (As := [.int x1, .int (0 : Int32), .int (1 : Int32)]) (rest := []) (pc := 3) K cs_SaltClouds_51 (ok_X6_within l ω x1 (0 : Int32) (1 : Int32) h) (by decide) rfl rfl (Nat.le_of_ble_eq_true rfl) dX6_text_3 (fun r1 h2 => ?_)
  refine J_if_ne (pc := 6) K 16 dX6_text_6 (by decide) ?_ ?_
  · refine J_aload_n (pc := 9) K dX6_text_9 0 rfl 0 rfl ?_
    refine J_ldc (pc := 10) K kc_SaltClouds_59 dX6_text_10 ?_
    refine J_callVI (As := [.int (-1000000001 : Int32)]) (rest := []) (pc := 12) K cs_SaltClouds_60 (ok_X6_refuse l ω hk0 (-1000000001 : Int32) h2) hk0 (by decide) rfl rfl (Nat.le_of_ble_eq_true rfl) dX6_text_12 (fun r3 h4 => ?_)
    exact J_iret (pc := 15) K dX6_text_15
  · refine J_aload_n (pc := 16) K dX6_text_16 0 rfl 0 rfl ?_
    refine J_getR (pc := 17) K gf_SaltClouds_35 hk0 86 rfl dX6_text_17 ?_
    refine J_aload_n (pc := 20) K dX6_text_20 0 rfl 0 rfl ?_
    refine J_getR (pc := 21) K gf_SaltClouds_12 hk0 1 rfl dX6_text_21 ?_
    refine J_getR (pc := 24) K gf_SaltClouds_136 (ty_6_1 hk0) 4 rfl dX6_text_24 ?_
    refine J_aload_n (pc := 27) K dX6_text_27 0 rfl 0 rfl ?_
    refine J_getR (pc := 28) K gf_SaltClouds_12 hk0 1 rfl dX6_text_28 ?_
    refine J_getI (pc := 31) K gf_SaltClouds_133 (ty_6_1 hk0) rfl dX6_text_31 ?_
    refine J_iload_n (pc := 34) K dX6_text_34 1 rfl 1 rfl ?_
    refine J_callVI (As := [.ref (ω.1 + ((k0 + 1) + 4)), .int (h2 (k0 + 1) 8), .int x1]) (rest := []) (pc := 35) K cs_SaltClouds_139 (ok_X4_read l ω N (ty_6_86 hk0) (n1 := 50) (ty_2_4 (ty_6_1 hk0)) (h2 (k0 + 1) 8) x1 h2) (ty_6_86 hk0) (by decide) rfl rfl (Nat.le_of_ble_eq_true rfl) dX6_text_35 (fun r5 h6 => ?_)
    refine J_istore_n (pc := 38) K dX6_text_38 2 rfl (by decide) [(2, .int r5), (0, .ref (ω.1 + k0)), (1, .int x1)] rfl ?_
    refine J_aload_n (pc := 39) K dX6_text_39 0 rfl 1 rfl ?_
    refine J_getR (pc := 40) K gf_SaltClouds_12 hk0 1 rfl dX6_text_40 ?_
    refine J_iconst (pc := 43) K (0) dX6_text_43 (by decide) ?_
    refine J_putI (pc := 44) K gf_SaltClouds_133 (ty_6_1 hk0) (by decide) rfl dX6_text_44 (fun h7 => ?_)
    refine J_iload_n (pc := 47) K dX6_text_47 2 rfl 0 rfl ?_
    refine J_if_lt (pc := 48) K 56 dX6_text_48 (by decide) ?_ ?_
    · refine J_aload_n (pc := 56) K dX6_text_56 0 rfl 1 rfl ?_
      refine J_getR (pc := 57) K gf_SaltClouds_12 hk0 1 rfl dX6_text_57 ?_
      refine J_iload_n (pc := 60) K dX6_text_60 1 rfl 2 rfl ?_
      refine J_callVR (As := [.int x1]) (rest := []) (pc := 61) K cs_SaltClouds_143 (ok_X2_textOf l ω (ty_6_1 hk0) x1 h7) (ty_6_1 hk0) (by decide) rfl rfl (Nat.le_of_ble_eq_true rfl) dX6_text_61 (fun r8 h9 => ?_)
      refine J_gly (fun gr8 => ?_)
      refine J_aload_n (pc := 64) K dX6_text_64 0 rfl 1 rfl ?_
      refine J_getR (pc := 65) K gf_SaltClouds_35 hk0 86 rfl dX6_text_65 ?_
      refine J_getR (pc := 68) K gf_SaltClouds_147 (ty_6_86 hk0) 1 rfl dX6_text_68 ?_
      refine J_callVU (As := [.ref (ω.1 + ((k0 + 86) + 1))]) (rest := []) (pc := 71) K cs_SaltClouds_151 (ok_X3_takeFrom l ω gr8 (ty_4_1 (ty_6_86 hk0)) h9) gr8 (by decide) rfl rfl (Nat.le_of_ble_eq_true rfl) dX6_text_71 (fun _ h11 => ?_)
      refine J_iconst (pc := 74) K (1) dX6_text_74 (by decide) ?_
      exact J_iret (pc := 75) K dX6_text_75
    · refine J_bipush (pc := 51) K (-10) dX6_text_51 (by decide) ?_
      refine J_iload_n (pc := 53) K dX6_text_53 2 rfl 0 rfl ?_
      refine J_isub (pc := 54) K dX6_text_54 ?_
      exact J_iret (pc := 55) K dX6_text_55
def F_X2_debtBy (N : Nat) (k0 : Nat) (x1 : Int32) (x2 : Int32) (x3 : Int32) (h : Mem) : Option (Int32 × Mem) :=
  (jn (fun (s2 : Int32) (h3 : Mem) =>
    (jn (fun (v5 : Int32) (h6 : Mem) =>
      (bnd (F_J9_min_7cf53 (99 : Int32) v5 h6) (fun r7 h8 =>
      (bnd (F_J9_max_7cf53 (0 : Int32) r7 h8) (fun r9 h10 =>
      (some (r9, h10))))))) (fun j4 =>
      (if (h3 (k0 + 8) 0) = 0 then
        (j4 s2 h3)
      else
        (bnd (F_X3_workOut N (k0 + 8) x1 x2 x3 h3) (fun r11 h12 =>
        (j4 r11 h12))))))) (fun j1 =>
    (if x1 ≤ x2 then
      (j1 (0 : Int32) h)
    else
      (gnz (9 : Int32)
      (j1 (irm (x1 - x2) (9 : Int32)) h)))))
set_option maxRecDepth 10000 in
set_option maxHeartbeats 1000000 in
theorem ok_X2_debtBy (l : Launch) (ω : WX) (N : Nat) {k0 : Nat} (hk0 : lay k0 = 2) (x1 : Int32) (x2 : Int32) (x3 : Int32) (h : Mem) : MC rvI l ω yX2_debtBy cX2_debtBy 5 (some .int) 2 [.ref (ω.1 + k0), .int x1, .int x2, .int x3] h (F_X2_debtBy N k0 x1 x2 x3 h) := by
  refine MC.of (by decide +kernel) [(0, .ref (ω.1 + k0)), (1, .int x1), (2, .int x2), (3, .int x3)] rfl (Nat.le_of_ble_eq_true rfl) (fun χ K => ?_)
  have K : Kok ω χ "SaltClouds$Sky" cX2_debtBy 5 (some .int) 2 := K
  unfold F_X2_debtBy
  refine J_iload_n (pc := 0) K dX2_debtBy_0 1 rfl 1 rfl ?_
  refine J_iload_n (pc := 1) K dX2_debtBy_1 2 rfl 2 rfl ?_
  refine J_jn (fun j1 => ∀ (s2 : Int32) (h3 : Mem), J (ZM rvI ω χ) l ω χ 15 5 [(0, .ref (ω.1 + k0)), (1, .int x1), (2, .int x2), (3, .int x3)] [.int s2] h3 (j1 s2 h3)) ?_ ?_
  · intro s2 h3
    refine J_istore (pc := 15) K dX2_debtBy_15 (by decide) [(4, .int s2), (0, .ref (ω.1 + k0)), (1, .int x1), (2, .int x2), (3, .int x3)] rfl ?_
    refine J_aload_n (pc := 17) K dX2_debtBy_17 0 rfl 1 rfl ?_
    refine J_getR (pc := 18) K gf_SaltClouds_Sky_50 hk0 8 rfl dX2_debtBy_18 ?_
    refine J_getI (pc := 21) K gf_SaltClouds_Sky_149 (ty_2_8 hk0) rfl dX2_debtBy_21 ?_
    refine J_jn (fun j4 => ∀ (v5 : Int32) (h6 : Mem), J (ZM rvI ω χ) l ω χ 39 5 [(4, .int v5)] [] h6 (j4 v5 h6)) ?_ ?_
    · intro v5 h6
      refine J_iconst (pc := 39) K (0) dX2_debtBy_39 (by decide) ?_
      refine J_bipush (pc := 40) K (99) dX2_debtBy_40 (by decide) ?_
      refine J_iload (pc := 42) K dX2_debtBy_42 0 rfl ?_
      refine J_callTI (As := [.int (99 : Int32), .int v5]) (rest := [.int (0 : Int32)]) (pc := 44) K cs_SaltClouds_Sky_143 (ok_J9_min_7cf53 l ω (99 : Int32) v5 h6) (by decide) rfl rfl (Nat.le_of_ble_eq_true rfl) dX2_debtBy_44 (fun r7 h8 => ?_)
      refine J_callTI (As := [.int (0 : Int32), .int r7]) (rest := []) (pc := 47) K cs_SaltClouds_Sky_156 (ok_J9_max_7cf53 l ω (0 : Int32) r7 h8) (by decide) rfl rfl (Nat.le_of_ble_eq_true rfl) dX2_debtBy_47 (fun r9 h10 => ?_)
      exact J_iret (pc := 50) K dX2_debtBy_50
    · intro j4 hj4
      refine J_if_eq (pc := 24) K 39 dX2_debtBy_24 (by decide) ?_ ?_
      · refine J_lv [0] [(4, .int s2)] rfl ?_
        exact hj4 s2 h3
      · refine J_aload_n (pc := 27) K dX2_debtBy_27 0 rfl 1 rfl ?_
        refine J_getR (pc := 28) K gf_SaltClouds_Sky_50 hk0 8 rfl dX2_debtBy_28 ?_
        refine J_iload_n (pc := 31) K dX2_debtBy_31 1 rfl 2 rfl ?_
        refine J_iload_n (pc := 32) K dX2_debtBy_32 2 rfl 3 rfl ?_
        refine J_iload_n (pc := 33) K dX2_debtBy_33 3 rfl 4 rfl ?_
        refine J_callVI (As := [.int x1, .int x2, .int x3]) (rest := []) (pc := 34) K cs_SaltClouds_Sky_152 (ok_X3_workOut l ω N (ty_2_8 hk0) x1 x2 x3 h3) (ty_2_8 hk0) (by decide) rfl rfl (Nat.le_of_ble_eq_true rfl) dX2_debtBy_34 (fun r11 h12 => ?_)
        refine J_istore (pc := 37) K dX2_debtBy_37 (by decide) [(4, .int r11), (0, .ref (ω.1 + k0)), (1, .int x1), (2, .int x2), (3, .int x3)] rfl ?_
        refine J_lv [0] [(4, .int r11)] rfl ?_
        exact hj4 r11 h12
  · intro j1 hj1
    refine J_icmp_le (pc := 2) K 14 dX2_debtBy_2 (by decide) ?_ ?_
    · refine J_iconst (pc := 14) K (0) dX2_debtBy_14 (by decide) ?_
      exact hj1 (0 : Int32) h
    · refine J_iload_n (pc := 5) K dX2_debtBy_5 1 rfl 1 rfl ?_
      refine J_iload_n (pc := 6) K dX2_debtBy_6 2 rfl 2 rfl ?_
      refine J_isub (pc := 7) K dX2_debtBy_7 ?_
      refine J_bipush (pc := 8) K (9) dX2_debtBy_8 (by decide) ?_
      refine J_irem (pc := 10) K dX2_debtBy_10 ?_
      refine J_goto (pc := 11) K 15 dX2_debtBy_11 (by decide) ?_
      exact hj1 (irm (x1 - x2) (9 : Int32)) h
def F_X6_law (N : Nat) (k0 : Nat) (x1 : Int32) (x2 : Int32) (x3 : Int32) (x4 : Int32) (h : Mem) : Option (Int32 × Mem) :=
  (bnd (F_X6_within x1 (0 : Int32) (1 : Int32) h) (fun r1 h2 =>
  (if r1 = 0 then
    (bnd (F_X6_refuse k0 (-1000000001 : Int32) h2) (fun r3 h4 =>
    (some (r3, h4))))
  else
    (if x1 = 0 then
      (bnd (F_X2_nameBy N (k0 + 1) x2 x3 x4 h2) (fun r5 h6 =>
      (some (r5, h6))))
    else
      (bnd (F_X2_debtBy N (k0 + 1) x2 x3 x4 h2) (fun r7 h8 =>
      (some (r7, h8))))))))
set_option maxRecDepth 10000 in
set_option maxHeartbeats 1000000 in
theorem ok_X6_law (l : Launch) (ω : WX) (N : Nat) {k0 : Nat} (hk0 : lay k0 = 6) (x1 : Int32) (x2 : Int32) (x3 : Int32) (x4 : Int32) (h : Mem) : MC rvI l ω yX6_law cX6_law 5 (some .int) 3 [.ref (ω.1 + k0), .int x1, .int x2, .int x3, .int x4] h (F_X6_law N k0 x1 x2 x3 x4 h) := by
  refine MC.of (by decide +kernel) [(0, .ref (ω.1 + k0)), (1, .int x1), (2, .int x2), (3, .int x3), (4, .int x4)] rfl (Nat.le_of_ble_eq_true rfl) (fun χ K => ?_)
  have K : Kok ω χ "SaltClouds" cX6_law 5 (some .int) 3 := K
  unfold F_X6_law
  refine J_iload_n (pc := 0) K dX6_law_0 1 rfl 1 rfl ?_
  refine J_iconst (pc := 1) K (0) dX6_law_1 (by decide) ?_
  refine J_iconst (pc := 2) K (1) dX6_law_2 (by decide) ?_
  refine J_callTI (As := [.int x1, .int (0 : Int32), .int (1 : Int32)]) (rest := []) (pc := 3) K cs_SaltClouds_51 (ok_X6_within l ω x1 (0 : Int32) (1 : Int32) h) (by decide) rfl rfl (Nat.le_of_ble_eq_true rfl) dX6_law_3 (fun r1 h2 => ?_)
  refine J_if_ne (pc := 6) K 16 dX6_law_6 (by decide) ?_ ?_
  · refine J_aload_n (pc := 9) K dX6_law_9 0 rfl 0 rfl ?_
    refine J_ldc (pc := 10) K kc_SaltClouds_59 dX6_law_10 ?_
    refine J_callVI (As := [.int (-1000000001 : Int32)]) (rest := []) (pc := 12) K cs_SaltClouds_60 (ok_X6_refuse l ω hk0 (-1000000001 : Int32) h2) hk0 (by decide) rfl rfl (Nat.le_of_ble_eq_true rfl) dX6_law_12 (fun r3 h4 => ?_)
    exact J_iret (pc := 15) K dX6_law_15
  · refine J_iload_n (pc := 16) K dX6_law_16 1 rfl 1 rfl ?_
    refine J_if_ne (pc := 17) K 34 dX6_law_17 (by decide) ?_ ?_
    · refine J_aload_n (pc := 20) K dX6_law_20 0 rfl 0 rfl ?_
      refine J_getR (pc := 21) K gf_SaltClouds_12 hk0 1 rfl dX6_law_21 ?_
      refine J_iload_n (pc := 24) K dX6_law_24 2 rfl 2 rfl ?_
      refine J_iload_n (pc := 25) K dX6_law_25 3 rfl 3 rfl ?_
      refine J_iload (pc := 26) K dX6_law_26 4 rfl ?_
      refine J_callVI (As := [.int x2, .int x3, .int x4]) (rest := []) (pc := 28) K cs_SaltClouds_157 (ok_X2_nameBy l ω N (ty_6_1 hk0) x2 x3 x4 h2) (ty_6_1 hk0) (by decide) rfl rfl (Nat.le_of_ble_eq_true rfl) dX6_law_28 (fun r5 h6 => ?_)
      refine J_goto (pc := 31) K 45 dX6_law_31 (by decide) ?_
      exact J_iret (pc := 45) K dX6_law_45
    · refine J_aload_n (pc := 34) K dX6_law_34 0 rfl 0 rfl ?_
      refine J_getR (pc := 35) K gf_SaltClouds_12 hk0 1 rfl dX6_law_35 ?_
      refine J_iload_n (pc := 38) K dX6_law_38 2 rfl 2 rfl ?_
      refine J_iload_n (pc := 39) K dX6_law_39 3 rfl 3 rfl ?_
      refine J_iload (pc := 40) K dX6_law_40 4 rfl ?_
      refine J_callVI (As := [.int x2, .int x3, .int x4]) (rest := []) (pc := 42) K cs_SaltClouds_160 (ok_X2_debtBy l ω N (ty_6_1 hk0) x2 x3 x4 h2) (ty_6_1 hk0) (by decide) rfl rfl (Nat.le_of_ble_eq_true rfl) dX6_law_42 (fun r7 h8 => ?_)
      exact J_iret (pc := 45) K dX6_law_45
def F_X6_errorOfHours (k0 : Nat) (x1 : Int32) (h : Mem) : Option (Int32 × Mem) :=
  (bnd (F_X6_within x1 (1 : Int32) (200 : Int32) h) (fun r1 h2 =>
  (if r1 = 0 then
    (some ((-1000000001 : Int32), h2))
  else
    (if ((h2 (k0 + 1) 4) + x1) ≤ (9999 : Int32) then
      (some ((0 : Int32), h2))
    else
      (some ((-1000000003 : Int32), h2))))))
set_option maxRecDepth 10000 in
set_option maxHeartbeats 1000000 in
theorem ok_X6_errorOfHours (l : Launch) (ω : WX) {k0 : Nat} (hk0 : lay k0 = 6) (x1 : Int32) (h : Mem) : MC rvI l ω yX6_errorOfHours cX6_errorOfHours 2 (some .int) 1 [.ref (ω.1 + k0), .int x1] h (F_X6_errorOfHours k0 x1 h) := by
  refine MC.of (by decide +kernel) [(0, .ref (ω.1 + k0)), (1, .int x1)] rfl (Nat.le_of_ble_eq_true rfl) (fun χ K => ?_)
  have K : Kok ω χ "SaltClouds" cX6_errorOfHours 2 (some .int) 1 := K
  unfold F_X6_errorOfHours
  refine J_iload_n (pc := 0) K dX6_errorOfHours_0 1 rfl 1 rfl ?_
  refine J_iconst (pc := 1) K (1) dX6_errorOfHours_1 (by decide) ?_
  refine J_sipush (pc := 2) K (200) dX6_errorOfHours_2 (by decide) ?_
  refine J_callTI (As := [.int x1, .int (1 : Int32), .int (200 : Int32)]) (rest := []) (pc := 5) K cs_SaltClouds_51 (ok_X6_within l ω x1 (1 : Int32) (200 : Int32) h) (by decide) rfl rfl (Nat.le_of_ble_eq_true rfl) dX6_errorOfHours_5 (fun r1 h2 => ?_)
  refine J_if_ne (pc := 8) K 14 dX6_errorOfHours_8 (by decide) ?_ ?_
  · refine J_ldc (pc := 11) K kc_SaltClouds_59 dX6_errorOfHours_11 ?_
    exact J_iret (pc := 13) K dX6_errorOfHours_13
  · refine J_aload_n (pc := 14) K dX6_errorOfHours_14 0 rfl 0 rfl ?_
    refine J_getR (pc := 15) K gf_SaltClouds_12 hk0 1 rfl dX6_errorOfHours_15 ?_
    refine J_getI (pc := 18) K gf_SaltClouds_272 (ty_6_1 hk0) rfl dX6_errorOfHours_18 ?_
    refine J_iload_n (pc := 21) K dX6_errorOfHours_21 1 rfl 1 rfl ?_
    refine J_iadd (pc := 22) K dX6_errorOfHours_22 ?_
    refine J_sipush (pc := 23) K (9999) dX6_errorOfHours_23 (by decide) ?_
    refine J_icmp_le (pc := 26) K 34 dX6_errorOfHours_26 (by decide) ?_ ?_
    · refine J_iconst (pc := 34) K (0) dX6_errorOfHours_34 (by decide) ?_
      exact J_iret (pc := 35) K dX6_errorOfHours_35
    · refine J_ldc (pc := 29) K kc_SaltClouds_107 dX6_errorOfHours_29 ?_
      refine J_goto (pc := 31) K 35 dX6_errorOfHours_31 (by decide) ?_
      exact J_iret (pc := 35) K dX6_errorOfHours_35
def F_X0_placeBy (k0 : Nat) (x1 : Int32) (x2 : Int32) (h : Mem) : Option (Int32 × Mem) :=
  (bnd (F_X0_driftBy k0 x2 h) (fun r1 h2 =>
  (bnd (F_J9_floorMod_7cf53 (x1 + r1) (12 : Int32) h2) (fun r3 h4 =>
  (some (r3, h4))))))
set_option maxRecDepth 10000 in
set_option maxHeartbeats 1000000 in
theorem ok_X0_placeBy (l : Launch) (ω : WX) {k0 : Nat} (hk0 : lay k0 = 0) (x1 : Int32) (x2 : Int32) (h : Mem) : MC rvI l ω yX0_placeBy cX0_placeBy 3 (some .int) 1 [.ref (ω.1 + k0), .int x1, .int x2] h (F_X0_placeBy k0 x1 x2 h) := by
  refine MC.of (by decide +kernel) [(0, .ref (ω.1 + k0)), (1, .int x1), (2, .int x2)] rfl (Nat.le_of_ble_eq_true rfl) (fun χ K => ?_)
  have K : Kok ω χ "SaltClouds$Cloud" cX0_placeBy 3 (some .int) 1 := K
  unfold F_X0_placeBy
  refine J_iload_n (pc := 0) K dX0_placeBy_0 1 rfl 1 rfl ?_
  refine J_aload_n (pc := 1) K dX0_placeBy_1 0 rfl 0 rfl ?_
  refine J_iload_n (pc := 2) K dX0_placeBy_2 2 rfl 2 rfl ?_
  refine J_callVI (As := [.int x2]) (rest := [.int x1]) (pc := 3) K cs_SaltClouds_Cloud_55 (ok_X0_driftBy l ω hk0 x2 h) hk0 (by decide) rfl rfl (Nat.le_of_ble_eq_true rfl) dX0_placeBy_3 (fun r1 h2 => ?_)
  refine J_iadd (pc := 6) K dX0_placeBy_6 ?_
  refine J_bipush (pc := 7) K (12) dX0_placeBy_7 (by decide) ?_
  refine J_callTI (As := [.int (x1 + r1), .int (12 : Int32)]) (rest := []) (pc := 9) K cs_SaltClouds_Cloud_59 (ok_J9_floorMod_7cf53 l ω (x1 + r1) (12 : Int32) h2) (by decide) rfl rfl (Nat.le_of_ble_eq_true rfl) dX0_placeBy_9 (fun r3 h4 => ?_)
  exact J_iret (pc := 12) K dX0_placeBy_12
def F_X0_keeps (k0 : Nat) (x1 : Int32) (h : Mem) : Option (Int32 × Mem) :=
  (seqi (h k0 0) (fun v1 =>
  (if v1 = (2 : Int32) then
    (if x1 = (2 : Int32) then
      (some ((0 : Int32), h))
    else
      (some ((1 : Int32), h)))
  else
    (if v1 = (3 : Int32) then
      (if x1 = 0 then
        (some ((0 : Int32), h))
      else
        (some ((1 : Int32), h)))
    else
      (if v1 = (4 : Int32) then
        (some ((1 : Int32), h))
      else
        (if v1 = (5 : Int32) then
          (if x1 = 0 then
            (some ((1 : Int32), h))
          else
            (some ((0 : Int32), h)))
        else
          (if v1 = (6 : Int32) then
            (if x1 = 0 then
              (some ((0 : Int32), h))
            else
              (some ((1 : Int32), h)))
          else
            (some ((1 : Int32), h)))))))))
set_option maxRecDepth 10000 in
set_option maxHeartbeats 1000000 in
theorem ok_X0_keeps (l : Launch) (ω : WX) {k0 : Nat} (hk0 : lay k0 = 0) (x1 : Int32) (h : Mem) : MC rvI l ω yX0_keeps cX0_keeps 2 (some .boolean) 0 [.ref (ω.1 + k0), .int x1] h (F_X0_keeps k0 x1 h) := by
  refine MC.of (by decide +kernel) [(0, .ref (ω.1 + k0)), (1, .int x1)] rfl (Nat.le_of_ble_eq_true rfl) (fun χ K => ?_)
  have K : Kok ω χ "SaltClouds$Cloud" cX0_keeps 2 (some .boolean) 0 := K
  unfold F_X0_keeps
  refine J_aload_n (pc := 0) K dX0_keeps_0 0 rfl 0 rfl ?_
  refine J_getI (pc := 1) K gf_SaltClouds_Cloud_9 hk0 rfl dX0_keeps_1 ?_
  refine J_topi (fun v1 => ?_)
  refine J_ite (fun e4_0 => ?_) (fun e4_0 => ?_)
  · refine J_tableIn (pc := 4) K (v := 2) 40 e4_0 dX0_keeps_4 (by decide) (by decide) rfl (by decide) ?_
    refine J_iload_n (pc := 40) K dX0_keeps_40 1 rfl 1 rfl ?_
    refine J_iconst (pc := 41) K (2) dX0_keeps_41 (by decide) ?_
    refine J_icmp_eq (pc := 42) K 49 dX0_keeps_42 (by decide) ?_ ?_
    · refine J_iconst (pc := 49) K (0) dX0_keeps_49 (by decide) ?_
      exact J_nret (pc := 50) K rfl dX0_keeps_50
    · refine J_iconst (pc := 45) K (1) dX0_keeps_45 (by decide) ?_
      refine J_goto (pc := 46) K 50 dX0_keeps_46 (by decide) ?_
      exact J_nret (pc := 50) K rfl dX0_keeps_50
  · refine J_ite (fun e4_1 => ?_) (fun e4_1 => ?_)
    · refine J_tableIn (pc := 4) K (v := 3) 61 e4_1 dX0_keeps_4 (by decide) (by decide) rfl (by decide) ?_
      refine J_iload_n (pc := 61) K dX0_keeps_61 1 rfl 1 rfl ?_
      refine J_if_eq (pc := 62) K 69 dX0_keeps_62 (by decide) ?_ ?_
      · refine J_iconst (pc := 69) K (0) dX0_keeps_69 (by decide) ?_
        exact J_nret (pc := 70) K rfl dX0_keeps_70
      · refine J_iconst (pc := 65) K (1) dX0_keeps_65 (by decide) ?_
        refine J_goto (pc := 66) K 70 dX0_keeps_66 (by decide) ?_
        exact J_nret (pc := 70) K rfl dX0_keeps_70
    · refine J_ite (fun e4_2 => ?_) (fun e4_2 => ?_)
      · refine J_tableIn (pc := 4) K (v := 4) 71 e4_2 dX0_keeps_4 (by decide) (by decide) rfl (by decide) ?_
        refine J_iconst (pc := 71) K (1) dX0_keeps_71 (by decide) ?_
        exact J_nret (pc := 72) K rfl dX0_keeps_72
      · refine J_ite (fun e4_3 => ?_) (fun e4_3 => ?_)
        · refine J_tableIn (pc := 4) K (v := 5) 51 e4_3 dX0_keeps_4 (by decide) (by decide) rfl (by decide) ?_
          refine J_iload_n (pc := 51) K dX0_keeps_51 1 rfl 1 rfl ?_
          refine J_if_ne (pc := 52) K 59 dX0_keeps_52 (by decide) ?_ ?_
          · refine J_iconst (pc := 55) K (1) dX0_keeps_55 (by decide) ?_
            refine J_goto (pc := 56) K 60 dX0_keeps_56 (by decide) ?_
            exact J_nret (pc := 60) K rfl dX0_keeps_60
          · refine J_iconst (pc := 59) K (0) dX0_keeps_59 (by decide) ?_
            exact J_nret (pc := 60) K rfl dX0_keeps_60
        · refine J_ite (fun e4_4 => ?_) (fun e4_4 => ?_)
          · refine J_tableIn (pc := 4) K (v := 6) 61 e4_4 dX0_keeps_4 (by decide) (by decide) rfl (by decide) ?_
            refine J_iload_n (pc := 61) K dX0_keeps_61 1 rfl 1 rfl ?_
            refine J_if_eq (pc := 62) K 69 dX0_keeps_62 (by decide) ?_ ?_
            · refine J_iconst (pc := 69) K (0) dX0_keeps_69 (by decide) ?_
              exact J_nret (pc := 70) K rfl dX0_keeps_70
            · refine J_iconst (pc := 65) K (1) dX0_keeps_65 (by decide) ?_
              refine J_goto (pc := 66) K 70 dX0_keeps_66 (by decide) ?_
              exact J_nret (pc := 70) K rfl dX0_keeps_70
          · refine J_tableOut (pc := 4) K 71 dX0_keeps_4 (by have q0 := lv_neT e4_0 (a := 2) (by decide); have q1 := lv_neT e4_1 (a := 3) (by decide); have q2 := lv_neT e4_2 (a := 4) (by decide); have q3 := lv_neT e4_3 (a := 5) (by decide); have q4 := lv_neT e4_4 (a := 6) (by decide); omega) (by decide) ?_
            refine J_iconst (pc := 71) K (1) dX0_keeps_71 (by decide) ?_
            exact J_nret (pc := 72) K rfl dX0_keeps_72
def F_X0_rainOverHill_18 (N : Nat) (k0 : Nat) (w2 : Int32) (kt : Mem → Option (Int32 × Mem)) : Nat → Int32 → Mem → Option (Int32 × Mem)
  | 0, _, _ => none
  | n + 1, u3, h =>
    (if (3 : Int32) ≤ u3 then
      (kt h)
    else
      (if w2 ≤ 0 then
        (kt h)
      else
        (bnd (F_X0_keeps k0 u3 h) (fun r4 h5 =>
        (if r4 = 0 then
          (gin u3 3
          (gin u3 3
          (gnz (10 : Int32)
          (gin u3 3 (seqh (upm h5 (k0 + 1) (ix u3) ((h5 (k0 + 1) (ix u3)) - ((h5 (k0 + 1) (ix u3)) / (10 : Int32)))) (fun h6 =>
          (F_X0_rainOverHill_18 N k0 w2 kt n (u3 + 1) h6)))))))
        else
          (F_X0_rainOverHill_18 N k0 w2 kt n (u3 + 1) h5))))))
set_option maxRecDepth 10000 in
set_option maxHeartbeats 1000000 in
theorem okL_X0_rainOverHill_18 {l : Launch} {ω : WX} {χ : KT} {d : Nat} (K : Kok ω χ "SaltClouds$Cloud" cX0_rainOverHill 4 (some .int) d) (hd : 1 ≤ d) (N : Nat) {k0 : Nat} (hk0 : lay k0 = 0) {w2 : Int32} {kt : Mem → Option (Int32 × Mem)} (hK : ∀ (h : Mem), J (ZM rvI ω χ) l ω χ 59 4 [(2, .int w2)] [] h (kt h)) : ∀ (n : Nat) (u3 : Int32) (h : Mem), J (ZM rvI ω χ) l ω χ 18 4 [(0, .ref (ω.1 + k0)), (2, .int w2), (3, .int u3)] [] h (F_X0_rainOverHill_18 N k0 w2 kt n u3 h) := by
  intro n
  induction n with
  | zero =>
    intro u3 h
    exact J_none rfl
  | succ n ih =>
    intro u3 h
    rw [F_X0_rainOverHill_18]
    refine J_iload_n (pc := 18) K dX0_rainOverHill_18 3 rfl 2 rfl ?_
    refine J_iconst (pc := 19) K (3) dX0_rainOverHill_19 (by decide) ?_
    refine J_icmp_ge (pc := 20) K 59 dX0_rainOverHill_20 (by decide) ?_ ?_
    · refine J_lv [1] [(2, .int w2)] rfl ?_
      exact hK h
    · refine J_iload_n (pc := 23) K dX0_rainOverHill_23 2 rfl 1 rfl ?_
      refine J_if_le (pc := 24) K 59 dX0_rainOverHill_24 (by decide) ?_ ?_
      · refine J_lv [1] [(2, .int w2)] rfl ?_
        exact hK h
      · refine J_aload_n (pc := 27) K dX0_rainOverHill_27 0 rfl 0 rfl ?_
        refine J_iload_n (pc := 28) K dX0_rainOverHill_28 3 rfl 2 rfl ?_
        refine J_callVI (As := [.int u3]) (rest := []) (pc := 29) K cs_SaltClouds_Cloud_74 (ok_X0_keeps l ω hk0 u3 h) hk0 (by omega) rfl rfl (Nat.le_of_ble_eq_true rfl) dX0_rainOverHill_29 (fun r4 h5 => ?_)
        refine J_if_ne (pc := 32) K 53 dX0_rainOverHill_32 (by decide) ?_ ?_
        · refine J_aload_n (pc := 35) K dX0_rainOverHill_35 0 rfl 0 rfl ?_
          refine J_getR (pc := 36) K gf_SaltClouds_Cloud_28 hk0 1 rfl dX0_rainOverHill_36 ?_
          refine J_iload_n (pc := 39) K dX0_rainOverHill_39 3 rfl 2 rfl ?_
          refine J_dup2 (pc := 40) K dX0_rainOverHill_40 rfl rfl ?_
          refine J_iald (pc := 41) K (a := k0 + 1) (n := 3) (ty_0_1 hk0) dX0_rainOverHill_41 ?_
          refine J_aload_n (pc := 42) K dX0_rainOverHill_42 0 rfl 0 rfl ?_
          refine J_getR (pc := 43) K gf_SaltClouds_Cloud_28 hk0 1 rfl dX0_rainOverHill_43 ?_
          refine J_iload_n (pc := 46) K dX0_rainOverHill_46 3 rfl 2 rfl ?_
          refine J_iald (pc := 47) K (a := k0 + 1) (n := 3) (ty_0_1 hk0) dX0_rainOverHill_47 ?_
          refine J_bipush (pc := 48) K (10) dX0_rainOverHill_48 (by decide) ?_
          refine J_idiv (pc := 50) K dX0_rainOverHill_50 ?_
          refine J_isub (pc := 51) K dX0_rainOverHill_51 ?_
          refine J_iast (pc := 52) K (a := k0 + 1) (n := 3) (ty_0_1 hk0) dX0_rainOverHill_52 (fun h6 => ?_)
          refine J_iinc (pc := 53) K (1) dX0_rainOverHill_53 2 rfl (by decide) (by decide) [(3, .int (u3 + 1)), (0, .ref (ω.1 + k0)), (2, .int w2)] rfl ?_
          refine J_goto (pc := 56) K 18 dX0_rainOverHill_56 (by decide) ?_
          refine J_lv [1, 2, 0] [(0, .ref (ω.1 + k0)), (2, .int w2), (3, .int (u3 + 1))] rfl ?_
          exact ih (u3 + 1) h6
        · refine J_iinc (pc := 53) K (1) dX0_rainOverHill_53 2 rfl (by decide) (by decide) [(3, .int (u3 + 1)), (0, .ref (ω.1 + k0)), (2, .int w2)] rfl ?_
          refine J_goto (pc := 56) K 18 dX0_rainOverHill_56 (by decide) ?_
          refine J_lv [1, 2, 0] [(0, .ref (ω.1 + k0)), (2, .int w2), (3, .int (u3 + 1))] rfl ?_
          exact ih (u3 + 1) h5
def F_X0_rainOverHill (N : Nat) (k0 : Nat) (x1 : Int32) (h : Mem) : Option (Int32 × Mem) :=
  (bnd (F_X0_rainAt k0 x1 h) (fun r1 h2 =>
  (seqh (upm h2 k0 3 ((h2 k0 3) - r1)) (fun h3 =>
  (F_X0_rainOverHill_18 N k0 r1 (fun (h7 : Mem) =>
    (some (r1, h7))) N (0 : Int32) h3)))))
set_option maxRecDepth 10000 in
set_option maxHeartbeats 1000000 in
theorem ok_X0_rainOverHill (l : Launch) (ω : WX) (N : Nat) {k0 : Nat} (hk0 : lay k0 = 0) (x1 : Int32) (h : Mem) : MC rvI l ω yX0_rainOverHill cX0_rainOverHill 4 (some .int) 3 [.ref (ω.1 + k0), .int x1] h (F_X0_rainOverHill N k0 x1 h) := by
  refine MC.of (by decide +kernel) [(0, .ref (ω.1 + k0)), (1, .int x1)] rfl (Nat.le_of_ble_eq_true rfl) (fun χ K => ?_)
  have K : Kok ω χ "SaltClouds$Cloud" cX0_rainOverHill 4 (some .int) 3 := K
  unfold F_X0_rainOverHill
  refine J_aload_n (pc := 0) K dX0_rainOverHill_0 0 rfl 0 rfl ?_
  refine J_iload_n (pc := 1) K dX0_rainOverHill_1 1 rfl 1 rfl ?_
  refine J_callVI (As := [.int x1]) (rest := []) (pc := 2) K cs_SaltClouds_Cloud_71 (ok_X0_rainAt l ω hk0 x1 h) hk0 (by decide) rfl rfl (Nat.le_of_ble_eq_true rfl) dX0_rainOverHill_2 (fun r1 h2 => ?_)
  refine J_istore_n (pc := 5) K dX0_rainOverHill_5 2 rfl (by decide) [(2, .int r1), (0, .ref (ω.1 + k0)), (1, .int x1)] rfl ?_
  refine J_aload_n (pc := 6) K dX0_rainOverHill_6 0 rfl 1 rfl ?_
  refine J_dup (pc := 7) K dX0_rainOverHill_7 rfl ?_
  refine J_getI (pc := 8) K gf_SaltClouds_Cloud_21 hk0 rfl dX0_rainOverHill_8 ?_
  refine J_iload_n (pc := 11) K dX0_rainOverHill_11 2 rfl 0 rfl ?_
  refine J_isub (pc := 12) K dX0_rainOverHill_12 ?_
  refine J_putI (pc := 13) K gf_SaltClouds_Cloud_21 hk0 (by decide) rfl dX0_rainOverHill_13 (fun h3 => ?_)
  refine J_iconst (pc := 16) K (0) dX0_rainOverHill_16 (by decide) ?_
  refine J_istore_n (pc := 17) K dX0_rainOverHill_17 3 rfl (by decide) [(3, .int (0 : Int32)), (2, .int r1), (0, .ref (ω.1 + k0)), (1, .int x1)] rfl ?_
  refine J_lv [2, 1, 0] [(0, .ref (ω.1 + k0)), (2, .int r1), (3, .int (0 : Int32))] rfl ?_
  refine okL_X0_rainOverHill_18 K  (by decide) N hk0 (fun h7 => ?_) _ _ _
  refine J_iload_n (pc := 59) K dX0_rainOverHill_59 2 rfl 0 rfl ?_
  exact J_iret (pc := 60) K dX0_rainOverHill_60
def F_X0_drinkFromSea (k0 : Nat) (h : Mem) : Option (Unit × Mem) :=
  (gnz (2 : Int32)
  (if (irm (h k0 1) (2 : Int32)) = 0 then
    (bnd (F_J9_min_7cf53 (999 : Int32) ((h k0 3) + (1 : Int32)) h) (fun r1 h2 =>
    (seqh (upm h2 k0 3 r1) (fun h3 =>
    (some ((), h3))))))
  else
    (some ((), h))))
set_option maxRecDepth 10000 in
set_option maxHeartbeats 1000000 in
theorem ok_X0_drinkFromSea (l : Launch) (ω : WX) {k0 : Nat} (hk0 : lay k0 = 0) (h : Mem) : MC rvV l ω yX0_drinkFromSea cX0_drinkFromSea 1 none 1 [.ref (ω.1 + k0)] h (F_X0_drinkFromSea k0 h) := by
  refine MC.of (by decide +kernel) [(0, .ref (ω.1 + k0))] rfl (Nat.le_of_ble_eq_true rfl) (fun χ K => ?_)
  have K : Kok ω χ "SaltClouds$Cloud" cX0_drinkFromSea 1 none 1 := K
  unfold F_X0_drinkFromSea
  refine J_aload_n (pc := 0) K dX0_drinkFromSea_0 0 rfl 0 rfl ?_
  refine J_getI (pc := 1) K gf_SaltClouds_Cloud_15 hk0 rfl dX0_drinkFromSea_1 ?_
  refine J_iconst (pc := 4) K (2) dX0_drinkFromSea_4 (by decide) ?_
  refine J_irem (pc := 5) K dX0_drinkFromSea_5 ?_
  refine J_if_ne (pc := 6) K 25 dX0_drinkFromSea_6 (by decide) ?_ ?_
  · refine J_aload_n (pc := 9) K dX0_drinkFromSea_9 0 rfl 0 rfl ?_
    refine J_sipush (pc := 10) K (999) dX0_drinkFromSea_10 (by decide) ?_
    refine J_aload_n (pc := 13) K dX0_drinkFromSea_13 0 rfl 0 rfl ?_
    refine J_getI (pc := 14) K gf_SaltClouds_Cloud_21 hk0 rfl dX0_drinkFromSea_14 ?_
    refine J_iconst (pc := 17) K (1) dX0_drinkFromSea_17 (by decide) ?_
    refine J_iadd (pc := 18) K dX0_drinkFromSea_18 ?_
    refine J_callTI (As := [.int (999 : Int32), .int ((h k0 3) + (1 : Int32))]) (rest := [.ref (ω.1 + k0)]) (pc := 19) K cs_SaltClouds_Cloud_50 (ok_J9_min_7cf53 l ω (999 : Int32) ((h k0 3) + (1 : Int32)) h) (by decide) rfl rfl (Nat.le_of_ble_eq_true rfl) dX0_drinkFromSea_19 (fun r1 h2 => ?_)
    refine J_putI (pc := 22) K gf_SaltClouds_Cloud_21 hk0 (by decide) rfl dX0_drinkFromSea_22 (fun h3 => ?_)
    exact J_vret (pc := 25) K dX0_drinkFromSea_25
  · exact J_vret (pc := 25) K dX0_drinkFromSea_25
def F_X2_moveOne (N : Nat) (k0 : Nat) (k1 : Nat) (x2 : Int32) (h : Mem) : Option (Unit × Mem) :=
  (bnd (F_X0_placeBy k1 (h k1 2) x2 h) (fun r1 h2 =>
  (seqh (upm h2 k1 2 r1) (fun h3 =>
  (bnd (F_X2_heightUnder k0 k1 h3) (fun r4 h5 =>
  (if r4 ≤ 0 then
    (bnd (F_X0_drinkFromSea k1 h5) (fun _ h7 =>
    (some ((), h7))))
  else
    (bnd (F_X0_rainOverHill N k1 r4 h5) (fun r8 h9 =>
    (bnd (F_J9_min_7cf53 (999999 : Int32) ((h5 k0 5) + r8) h9) (fun r10 h11 =>
    (seqh (upm h11 k0 5 r10) (fun h12 =>
    (some ((), h12)))))))))))))))
set_option maxRecDepth 10000 in
set_option maxHeartbeats 1000000 in
theorem ok_X2_moveOne (l : Launch) (ω : WX) (N : Nat) {k0 : Nat} (hk0 : lay k0 = 2) {k1 : Nat} (hk1 : lay k1 = 0) (x2 : Int32) (h : Mem) : MC rvV l ω yX2_moveOne cX2_moveOne 4 none 4 [.ref (ω.1 + k0), .ref (ω.1 + k1), .int x2] h (F_X2_moveOne N k0 k1 x2 h) := by
  refine MC.of (by decide +kernel) [(0, .ref (ω.1 + k0)), (1, .ref (ω.1 + k1)), (2, .int x2)] rfl (Nat.le_of_ble_eq_true rfl) (fun χ K => ?_)
  have K : Kok ω χ "SaltClouds$Sky" cX2_moveOne 4 none 4 := K
  unfold F_X2_moveOne
  refine J_aload_n (pc := 0) K dX2_moveOne_0 1 rfl 1 rfl ?_
  refine J_aload_n (pc := 1) K dX2_moveOne_1 1 rfl 1 rfl ?_
  refine J_aload_n (pc := 2) K dX2_moveOne_2 1 rfl 1 rfl ?_
  refine J_getI (pc := 3) K gf_SaltClouds_Sky_83 hk1 rfl dX2_moveOne_3 ?_
  refine J_iload_n (pc := 6) K dX2_moveOne_6 2 rfl 2 rfl ?_
  refine J_callVI (As := [.int (h k1 2), .int x2]) (rest := [.ref (ω.1 + k1)]) (pc := 7) K cs_SaltClouds_Sky_136 (ok_X0_placeBy l ω hk1 (h k1 2) x2 h) hk1 (by decide) rfl rfl (Nat.le_of_ble_eq_true rfl) dX2_moveOne_7 (fun r1 h2 => ?_)
  refine J_putI (pc := 10) K gf_SaltClouds_Sky_83 hk1 (by decide) rfl dX2_moveOne_10 (fun h3 => ?_)
  refine J_aload_n (pc := 13) K dX2_moveOne_13 0 rfl 0 rfl ?_
  refine J_aload_n (pc := 14) K dX2_moveOne_14 1 rfl 1 rfl ?_
  refine J_callVI (As := [.ref (ω.1 + k1)]) (rest := []) (pc := 15) K cs_SaltClouds_Sky_111 (ok_X2_heightUnder l ω hk0 hk1 h3) hk0 (by decide) rfl rfl (Nat.le_of_ble_eq_true rfl) dX2_moveOne_15 (fun r4 h5 => ?_)
  refine J_istore_n (pc := 18) K dX2_moveOne_18 3 rfl (by decide) [(3, .int r4), (0, .ref (ω.1 + k0)), (1, .ref (ω.1 + k1)), (2, .int x2)] rfl ?_
  refine J_iload_n (pc := 19) K dX2_moveOne_19 3 rfl 0 rfl ?_
  refine J_if_le (pc := 20) K 45 dX2_moveOne_20 (by decide) ?_ ?_
  · refine J_aload_n (pc := 45) K dX2_moveOne_45 1 rfl 2 rfl ?_
    refine J_callVU (As := []) (rest := []) (pc := 46) K cs_SaltClouds_Sky_146 (ok_X0_drinkFromSea l ω hk1 h5) hk1 (by decide) rfl rfl (Nat.le_of_ble_eq_true rfl) dX2_moveOne_46 (fun _ h7 => ?_)
    exact J_vret (pc := 49) K dX2_moveOne_49
  · refine J_aload_n (pc := 23) K dX2_moveOne_23 0 rfl 1 rfl ?_
    refine J_ldc (pc := 24) K kc_SaltClouds_Sky_139 dX2_moveOne_24 ?_
    refine J_aload_n (pc := 26) K dX2_moveOne_26 0 rfl 1 rfl ?_
    refine J_getI (pc := 27) K gf_SaltClouds_Sky_31 hk0 rfl dX2_moveOne_27 ?_
    refine J_aload_n (pc := 30) K dX2_moveOne_30 1 rfl 2 rfl ?_
    refine J_iload_n (pc := 31) K dX2_moveOne_31 3 rfl 0 rfl ?_
    refine J_callVI (As := [.int r4]) (rest := [.int (h5 k0 5), .int (999999 : Int32), .ref (ω.1 + k0)]) (pc := 32) K cs_SaltClouds_Sky_140 (ok_X0_rainOverHill l ω N hk1 r4 h5) hk1 (by decide) rfl rfl (Nat.le_of_ble_eq_true rfl) dX2_moveOne_32 (fun r8 h9 => ?_)
    refine J_iadd (pc := 35) K dX2_moveOne_35 ?_
    refine J_callTI (As := [.int (999999 : Int32), .int ((h5 k0 5) + r8)]) (rest := [.ref (ω.1 + k0)]) (pc := 36) K cs_SaltClouds_Sky_143 (ok_J9_min_7cf53 l ω (999999 : Int32) ((h5 k0 5) + r8) h9) (by decide) rfl rfl (Nat.le_of_ble_eq_true rfl) dX2_moveOne_36 (fun r10 h11 => ?_)
    refine J_putI (pc := 39) K gf_SaltClouds_Sky_31 hk0 (by decide) rfl dX2_moveOne_39 (fun h12 => ?_)
    refine J_goto (pc := 42) K 49 dX2_moveOne_42 (by decide) ?_
    exact J_vret (pc := 49) K dX2_moveOne_49
def F_X2_passHour_2 (N : Nat) (k0 : Nat) (w1 : Int32) (kt : Mem → Option (Unit × Mem)) : Nat → Int32 → Mem → Option (Unit × Mem)
  | 0, _, _ => none
  | n + 1, u2, h =>
    (if (h k0 1) ≤ u2 then
      (kt h)
    else
      (gin u2 8
      (if (h ((k0 + 1) + 11 + 2 * ix u2) 4) = 0 then
        (F_X2_passHour_2 N k0 w1 kt n (u2 + 1) h)
      else
        (gin u2 8
        (bnd (F_X2_moveOne N k0 ((k0 + 1) + 11 + 2 * ix u2) w1 h) (fun _ h4 =>
        (F_X2_passHour_2 N k0 w1 kt n (u2 + 1) h4)))))))
set_option maxRecDepth 10000 in
set_option maxHeartbeats 1000000 in
theorem okL_X2_passHour_2 {l : Launch} {ω : WX} {χ : KT} {d : Nat} (K : Kok ω χ "SaltClouds$Sky" cX2_passHour 3 none d) (hd : 5 ≤ d) (N : Nat) {k0 : Nat} (hk0 : lay k0 = 2) {w1 : Int32} {kt : Mem → Option (Unit × Mem)} (hK : ∀ (h : Mem), J (ZM rvV ω χ) l ω χ 39 3 [(0, .ref (ω.1 + k0))] [] h (kt h)) : ∀ (n : Nat) (u2 : Int32) (h : Mem), J (ZM rvV ω χ) l ω χ 2 3 [(0, .ref (ω.1 + k0)), (1, .int w1), (2, .int u2)] [] h (F_X2_passHour_2 N k0 w1 kt n u2 h) := by
  intro n
  induction n with
  | zero =>
    intro u2 h
    exact J_none rfl
  | succ n ih =>
    intro u2 h
    rw [F_X2_passHour_2]
    refine J_iload_n (pc := 2) K dX2_passHour_2 2 rfl 2 rfl ?_
    refine J_aload_n (pc := 3) K dX2_passHour_3 0 rfl 0 rfl ?_
    refine J_getI (pc := 4) K gf_SaltClouds_Sky_17 hk0 rfl dX2_passHour_4 ?_
    refine J_icmp_ge (pc := 7) K 39 dX2_passHour_7 (by decide) ?_ ?_
    · refine J_lv [0] [(0, .ref (ω.1 + k0))] rfl ?_
      exact hK h
    · refine J_aload_n (pc := 10) K dX2_passHour_10 0 rfl 0 rfl ?_
      refine J_getR (pc := 11) K gf_SaltClouds_Sky_11 hk0 1 rfl dX2_passHour_11 ?_
      refine J_iload_n (pc := 14) K dX2_passHour_14 2 rfl 2 rfl ?_
      refine J_aldC (pc := 15) K (a := k0 + 1) (ty_2_1 hk0) dX2_passHour_15 (fun b1 => ?_)
      refine J_getI (pc := 16) K gf_SaltClouds_Sky_93 (ty_8e (ty_2_1 hk0) b1) rfl dX2_passHour_16 ?_
      refine J_if_eq (pc := 19) K 33 dX2_passHour_19 (by decide) ?_ ?_
      · refine J_iinc (pc := 33) K (1) dX2_passHour_33 2 rfl (by decide) (by decide) [(2, .int (u2 + 1)), (0, .ref (ω.1 + k0)), (1, .int w1)] rfl ?_
        refine J_goto (pc := 36) K 2 dX2_passHour_36 (by decide) ?_
        refine J_lv [1, 2, 0] [(0, .ref (ω.1 + k0)), (1, .int w1), (2, .int (u2 + 1))] rfl ?_
        exact ih (u2 + 1) h
      · refine J_aload_n (pc := 22) K dX2_passHour_22 0 rfl 0 rfl ?_
        refine J_aload_n (pc := 23) K dX2_passHour_23 0 rfl 0 rfl ?_
        refine J_getR (pc := 24) K gf_SaltClouds_Sky_11 hk0 1 rfl dX2_passHour_24 ?_
        refine J_iload_n (pc := 27) K dX2_passHour_27 2 rfl 2 rfl ?_
        refine J_aldC (pc := 28) K (a := k0 + 1) (ty_2_1 hk0) dX2_passHour_28 (fun b2 => ?_)
        refine J_iload_n (pc := 29) K dX2_passHour_29 1 rfl 1 rfl ?_
        refine J_callVU (As := [.ref (ω.1 + ((k0 + 1) + 11 + 2 * ix u2)), .int w1]) (rest := []) (pc := 30) K cs_SaltClouds_Sky_132 (ok_X2_moveOne l ω N hk0 (ty_8e (ty_2_1 hk0) b2) w1 h) hk0 (by omega) rfl rfl (Nat.le_of_ble_eq_true rfl) dX2_passHour_30 (fun _ h4 => ?_)
        refine J_iinc (pc := 33) K (1) dX2_passHour_33 2 rfl (by decide) (by decide) [(2, .int (u2 + 1)), (0, .ref (ω.1 + k0)), (1, .int w1)] rfl ?_
        refine J_goto (pc := 36) K 2 dX2_passHour_36 (by decide) ?_
        refine J_lv [1, 2, 0] [(0, .ref (ω.1 + k0)), (1, .int w1), (2, .int (u2 + 1))] rfl ?_
        exact ih (u2 + 1) h4
def F_X2_passHour (N : Nat) (k0 : Nat) (x1 : Int32) (h : Mem) : Option (Unit × Mem) :=
  (F_X2_passHour_2 N k0 x1 (fun (h5 : Mem) =>
    (seqh (upm h5 k0 4 ((h5 k0 4) + (1 : Int32))) (fun h6 =>
    (some ((), h6))))) N (0 : Int32) h)
set_option maxRecDepth 10000 in
set_option maxHeartbeats 1000000 in
theorem ok_X2_passHour (l : Launch) (ω : WX) (N : Nat) {k0 : Nat} (hk0 : lay k0 = 2) (x1 : Int32) (h : Mem) : MC rvV l ω yX2_passHour cX2_passHour 3 none 5 [.ref (ω.1 + k0), .int x1] h (F_X2_passHour N k0 x1 h) := by
  refine MC.of (by decide +kernel) [(0, .ref (ω.1 + k0)), (1, .int x1)] rfl (Nat.le_of_ble_eq_true rfl) (fun χ K => ?_)
  have K : Kok ω χ "SaltClouds$Sky" cX2_passHour 3 none 5 := K
  unfold F_X2_passHour
  refine J_iconst (pc := 0) K (0) dX2_passHour_0 (by decide) ?_
  refine J_istore_n (pc := 1) K dX2_passHour_1 2 rfl (by decide) [(2, .int (0 : Int32)), (0, .ref (ω.1 + k0)), (1, .int x1)] rfl ?_
  refine J_lv [1, 2, 0] [(0, .ref (ω.1 + k0)), (1, .int x1), (2, .int (0 : Int32))] rfl ?_
  refine okL_X2_passHour_2 K  (by decide) N hk0 (fun h5 => ?_) _ _ _
  refine J_aload_n (pc := 39) K dX2_passHour_39 0 rfl 0 rfl ?_
  refine J_dup (pc := 40) K dX2_passHour_40 rfl ?_
  refine J_getI (pc := 41) K gf_SaltClouds_Sky_28 hk0 rfl dX2_passHour_41 ?_
  refine J_iconst (pc := 44) K (1) dX2_passHour_44 (by decide) ?_
  refine J_iadd (pc := 45) K dX2_passHour_45 ?_
  refine J_putI (pc := 46) K gf_SaltClouds_Sky_28 hk0 (by decide) rfl dX2_passHour_46 (fun h6 => ?_)
  exact J_vret (pc := 49) K dX2_passHour_49
def F_X2_passHours_2 (N : Nat) (k0 : Nat) (w1 : Int32) (kt : Mem → Option (Unit × Mem)) : Nat → Int32 → Mem → Option (Unit × Mem)
  | 0, _, _ => none
  | n + 1, u2, h =>
    (if w1 ≤ u2 then
      (kt h)
    else
      (bnd (F_X2_windNow k0 h) (fun r1 h2 =>
      (bnd (F_X2_passHour N k0 r1 h2) (fun _ h4 =>
      (F_X2_passHours_2 N k0 w1 kt n (u2 + 1) h4))))))
set_option maxRecDepth 10000 in
set_option maxHeartbeats 1000000 in
theorem okL_X2_passHours_2 {l : Launch} {ω : WX} {χ : KT} {d : Nat} (K : Kok ω χ "SaltClouds$Sky" cX2_passHours 3 none d) (hd : 6 ≤ d) (N : Nat) {k0 : Nat} (hk0 : lay k0 = 2) {w1 : Int32} {kt : Mem → Option (Unit × Mem)} (hK : ∀ (h : Mem), J (ZM rvV ω χ) l ω χ 21 3 [] [] h (kt h)) : ∀ (n : Nat) (u2 : Int32) (h : Mem), J (ZM rvV ω χ) l ω χ 2 3 [(0, .ref (ω.1 + k0)), (1, .int w1), (2, .int u2)] [] h (F_X2_passHours_2 N k0 w1 kt n u2 h) := by
  intro n
  induction n with
  | zero =>
    intro u2 h
    exact J_none rfl
  | succ n ih =>
    intro u2 h
    rw [F_X2_passHours_2]
    refine J_iload_n (pc := 2) K dX2_passHours_2 2 rfl 2 rfl ?_
    refine J_iload_n (pc := 3) K dX2_passHours_3 1 rfl 1 rfl ?_
    refine J_icmp_ge (pc := 4) K 21 dX2_passHours_4 (by decide) ?_ ?_
    · refine J_lv [] [] rfl ?_
      exact hK h
    · refine J_aload_n (pc := 7) K dX2_passHours_7 0 rfl 0 rfl ?_
      refine J_aload_n (pc := 8) K dX2_passHours_8 0 rfl 0 rfl ?_
      refine J_callVI (As := []) (rest := [.ref (ω.1 + k0)]) (pc := 9) K cs_SaltClouds_Sky_105 (ok_X2_windNow l ω hk0 h) hk0 (by omega) rfl rfl (Nat.le_of_ble_eq_true rfl) dX2_passHours_9 (fun r1 h2 => ?_)
      refine J_callVU (As := [.int r1]) (rest := []) (pc := 12) K cs_SaltClouds_Sky_128 (ok_X2_passHour l ω N hk0 r1 h2) hk0 (by omega) rfl rfl (Nat.le_of_ble_eq_true rfl) dX2_passHours_12 (fun _ h4 => ?_)
      refine J_iinc (pc := 15) K (1) dX2_passHours_15 2 rfl (by decide) (by decide) [(2, .int (u2 + 1)), (0, .ref (ω.1 + k0)), (1, .int w1)] rfl ?_
      refine J_goto (pc := 18) K 2 dX2_passHours_18 (by decide) ?_
      refine J_lv [1, 2, 0] [(0, .ref (ω.1 + k0)), (1, .int w1), (2, .int (u2 + 1))] rfl ?_
      exact ih (u2 + 1) h4
def F_X2_passHours (N : Nat) (k0 : Nat) (x1 : Int32) (h : Mem) : Option (Unit × Mem) :=
  (F_X2_passHours_2 N k0 x1 (fun (h5 : Mem) =>
    (some ((), h5))) N (0 : Int32) h)
set_option maxRecDepth 10000 in
set_option maxHeartbeats 1000000 in
theorem ok_X2_passHours (l : Launch) (ω : WX) (N : Nat) {k0 : Nat} (hk0 : lay k0 = 2) (x1 : Int32) (h : Mem) : MC rvV l ω yX2_passHours cX2_passHours 3 none 6 [.ref (ω.1 + k0), .int x1] h (F_X2_passHours N k0 x1 h) := by
  refine MC.of (by decide +kernel) [(0, .ref (ω.1 + k0)), (1, .int x1)] rfl (Nat.le_of_ble_eq_true rfl) (fun χ K => ?_)
  have K : Kok ω χ "SaltClouds$Sky" cX2_passHours 3 none 6 := K
  unfold F_X2_passHours
  refine J_iconst (pc := 0) K (0) dX2_passHours_0 (by decide) ?_
  refine J_istore_n (pc := 1) K dX2_passHours_1 2 rfl (by decide) [(2, .int (0 : Int32)), (0, .ref (ω.1 + k0)), (1, .int x1)] rfl ?_
  refine J_lv [1, 2, 0] [(0, .ref (ω.1 + k0)), (1, .int x1), (2, .int (0 : Int32))] rfl ?_
  refine okL_X2_passHours_2 K  (by decide) N hk0 (fun h5 => ?_) _ _ _
  exact J_vret (pc := 21) K dX2_passHours_21
def F_X2_isNobody (N : Nat) (k0 : Nat) (x1 : Int32) (h : Mem) : Option (Int32 × Mem) :=
  (gin x1 8
  (if (h ((k0 + 1) + 11 + 2 * ix x1) 4) = 0 then
    (some ((1 : Int32), h))
  else
    (gin x1 8
    (bnd (F_X2_nameOf N k0 ((k0 + 1) + 11 + 2 * ix x1) h) (fun r3 h4 =>
    (if r3 = 0 then
      (some ((1 : Int32), h4))
    else
      (some ((0 : Int32), h4))))))))
set_option maxRecDepth 10000 in
set_option maxHeartbeats 1000000 in
theorem ok_X2_isNobody (l : Launch) (ω : WX) (N : Nat) {k0 : Nat} (hk0 : lay k0 = 2) (x1 : Int32) (h : Mem) : MC rvI l ω yX2_isNobody cX2_isNobody 2 (some .boolean) 4 [.ref (ω.1 + k0), .int x1] h (F_X2_isNobody N k0 x1 h) := by
  refine MC.of (by decide +kernel) [(0, .ref (ω.1 + k0)), (1, .int x1)] rfl (Nat.le_of_ble_eq_true rfl) (fun χ K => ?_)
  have K : Kok ω χ "SaltClouds$Sky" cX2_isNobody 2 (some .boolean) 4 := K
  unfold F_X2_isNobody
  refine J_aload_n (pc := 0) K dX2_isNobody_0 0 rfl 0 rfl ?_
  refine J_getR (pc := 1) K gf_SaltClouds_Sky_11 hk0 1 rfl dX2_isNobody_1 ?_
  refine J_iload_n (pc := 4) K dX2_isNobody_4 1 rfl 1 rfl ?_
  refine J_aldC (pc := 5) K (a := k0 + 1) (ty_2_1 hk0) dX2_isNobody_5 (fun b1 => ?_)
  refine J_getI (pc := 6) K gf_SaltClouds_Sky_93 (ty_8e (ty_2_1 hk0) b1) rfl dX2_isNobody_6 ?_
  refine J_if_eq (pc := 9) K 25 dX2_isNobody_9 (by decide) ?_ ?_
  · refine J_iconst (pc := 25) K (1) dX2_isNobody_25 (by decide) ?_
    refine J_goto (pc := 26) K 30 dX2_isNobody_26 (by decide) ?_
    exact J_nret (pc := 30) K rfl dX2_isNobody_30
  · refine J_aload_n (pc := 12) K dX2_isNobody_12 0 rfl 0 rfl ?_
    refine J_aload_n (pc := 13) K dX2_isNobody_13 0 rfl 0 rfl ?_
    refine J_getR (pc := 14) K gf_SaltClouds_Sky_11 hk0 1 rfl dX2_isNobody_14 ?_
    refine J_iload_n (pc := 17) K dX2_isNobody_17 1 rfl 1 rfl ?_
    refine J_aldC (pc := 18) K (a := k0 + 1) (ty_2_1 hk0) dX2_isNobody_18 (fun b2 => ?_)
    refine J_callVI (As := [.ref (ω.1 + ((k0 + 1) + 11 + 2 * ix x1))]) (rest := []) (pc := 19) K cs_SaltClouds_Sky_101 (ok_X2_nameOf l ω N hk0 (ty_8e (ty_2_1 hk0) b2) h) hk0 (by decide) rfl rfl (Nat.le_of_ble_eq_true rfl) dX2_isNobody_19 (fun r3 h4 => ?_)
    refine J_if_ne (pc := 22) K 29 dX2_isNobody_22 (by decide) ?_ ?_
    · refine J_iconst (pc := 25) K (1) dX2_isNobody_25 (by decide) ?_
      refine J_goto (pc := 26) K 30 dX2_isNobody_26 (by decide) ?_
      exact J_nret (pc := 30) K rfl dX2_isNobody_30
    · refine J_iconst (pc := 29) K (0) dX2_isNobody_29 (by decide) ?_
      exact J_nret (pc := 30) K rfl dX2_isNobody_30
def F_X2_nobodies_4 (N : Nat) (k0 : Nat) (kt : Int32 → Mem → Option (Int32 × Mem)) : Nat → Int32 → Int32 → Mem → Option (Int32 × Mem)
  | 0, _, _, _ => none
  | n + 1, u1, u2, h =>
    (if (h k0 1) ≤ u2 then
      (kt u1 h)
    else
      (bnd (F_X2_isNobody N k0 u2 h) (fun r1 h2 =>
      (if r1 = 0 then
        (F_X2_nobodies_4 N k0 kt n u1 (u2 + 1) h2)
      else
        (F_X2_nobodies_4 N k0 kt n (u1 + 1) (u2 + 1) h2)))))
set_option maxRecDepth 10000 in
set_option maxHeartbeats 1000000 in
theorem okL_X2_nobodies_4 {l : Launch} {ω : WX} {χ : KT} {d : Nat} (K : Kok ω χ "SaltClouds$Sky" cX2_nobodies 3 (some .int) d) (hd : 5 ≤ d) (N : Nat) {k0 : Nat} (hk0 : lay k0 = 2) {kt : Int32 → Mem → Option (Int32 × Mem)} (hK : ∀ (u1 : Int32) (h : Mem), J (ZM rvI ω χ) l ω χ 29 3 [(1, .int u1)] [] h (kt u1 h)) : ∀ (n : Nat) (u1 : Int32) (u2 : Int32) (h : Mem), J (ZM rvI ω χ) l ω χ 4 3 [(0, .ref (ω.1 + k0)), (1, .int u1), (2, .int u2)] [] h (F_X2_nobodies_4 N k0 kt n u1 u2 h) := by
  intro n
  induction n with
  | zero =>
    intro u1 u2 h
    exact J_none rfl
  | succ n ih =>
    intro u1 u2 h
    rw [F_X2_nobodies_4]
    refine J_iload_n (pc := 4) K dX2_nobodies_4 2 rfl 2 rfl ?_
    refine J_aload_n (pc := 5) K dX2_nobodies_5 0 rfl 0 rfl ?_
    refine J_getI (pc := 6) K gf_SaltClouds_Sky_17 hk0 rfl dX2_nobodies_6 ?_
    refine J_icmp_ge (pc := 9) K 29 dX2_nobodies_9 (by decide) ?_ ?_
    · refine J_lv [1] [(1, .int u1)] rfl ?_
      exact hK u1 h
    · refine J_aload_n (pc := 12) K dX2_nobodies_12 0 rfl 0 rfl ?_
      refine J_iload_n (pc := 13) K dX2_nobodies_13 2 rfl 2 rfl ?_
      refine J_callVI (As := [.int u2]) (rest := []) (pc := 14) K cs_SaltClouds_Sky_162 (ok_X2_isNobody l ω N hk0 u2 h) hk0 (by omega) rfl rfl (Nat.le_of_ble_eq_true rfl) dX2_nobodies_14 (fun r1 h2 => ?_)
      refine J_if_eq (pc := 17) K 23 dX2_nobodies_17 (by decide) ?_ ?_
      · refine J_iinc (pc := 23) K (1) dX2_nobodies_23 2 rfl (by decide) (by decide) [(2, .int (u2 + 1)), (0, .ref (ω.1 + k0)), (1, .int u1)] rfl ?_
        refine J_goto (pc := 26) K 4 dX2_nobodies_26 (by decide) ?_
        refine J_lv [1, 2, 0] [(0, .ref (ω.1 + k0)), (1, .int u1), (2, .int (u2 + 1))] rfl ?_
        exact ih u1 (u2 + 1) h2
      · refine J_iinc (pc := 20) K (1) dX2_nobodies_20 1 rfl (by decide) (by decide) [(1, .int (u1 + 1)), (0, .ref (ω.1 + k0)), (2, .int u2)] rfl ?_
        refine J_iinc (pc := 23) K (1) dX2_nobodies_23 2 rfl (by decide) (by decide) [(2, .int (u2 + 1)), (1, .int (u1 + 1)), (0, .ref (ω.1 + k0))] rfl ?_
        refine J_goto (pc := 26) K 4 dX2_nobodies_26 (by decide) ?_
        refine J_lv [2, 1, 0] [(0, .ref (ω.1 + k0)), (1, .int (u1 + 1)), (2, .int (u2 + 1))] rfl ?_
        exact ih (u1 + 1) (u2 + 1) h2
def F_X2_nobodies (N : Nat) (k0 : Nat) (h : Mem) : Option (Int32 × Mem) :=
  (F_X2_nobodies_4 N k0 (fun (v3 : Int32) (h4 : Mem) =>
    (some (v3, h4))) N (0 : Int32) (0 : Int32) h)
set_option maxRecDepth 10000 in
set_option maxHeartbeats 1000000 in
theorem ok_X2_nobodies (l : Launch) (ω : WX) (N : Nat) {k0 : Nat} (hk0 : lay k0 = 2) (h : Mem) : MC rvI l ω yX2_nobodies cX2_nobodies 3 (some .int) 5 [.ref (ω.1 + k0)] h (F_X2_nobodies N k0 h) := by
  refine MC.of (by decide +kernel) [(0, .ref (ω.1 + k0))] rfl (Nat.le_of_ble_eq_true rfl) (fun χ K => ?_)
  have K : Kok ω χ "SaltClouds$Sky" cX2_nobodies 3 (some .int) 5 := K
  unfold F_X2_nobodies
  refine J_iconst (pc := 0) K (0) dX2_nobodies_0 (by decide) ?_
  refine J_istore_n (pc := 1) K dX2_nobodies_1 1 rfl (by decide) [(1, .int (0 : Int32)), (0, .ref (ω.1 + k0))] rfl ?_
  refine J_iconst (pc := 2) K (0) dX2_nobodies_2 (by decide) ?_
  refine J_istore_n (pc := 3) K dX2_nobodies_3 2 rfl (by decide) [(2, .int (0 : Int32)), (1, .int (0 : Int32)), (0, .ref (ω.1 + k0))] rfl ?_
  refine J_lv [2, 1, 0] [(0, .ref (ω.1 + k0)), (1, .int (0 : Int32)), (2, .int (0 : Int32))] rfl ?_
  refine okL_X2_nobodies_4 K  (by decide) N hk0 (fun v3 h4 => ?_) _ _ _ _
  refine J_iload_n (pc := 29) K dX2_nobodies_29 1 rfl 0 rfl ?_
  exact J_iret (pc := 30) K dX2_nobodies_30
def F_X6_hours (N : Nat) (k0 : Nat) (x1 : Int32) (h : Mem) : Option (Int32 × Mem) :=
  (bnd (F_X6_errorOfHours k0 x1 h) (fun r1 h2 =>
  (if r1 = 0 then
    (bnd (F_X2_passHours N (k0 + 1) x1 h2) (fun _ h4 =>
    (bnd (F_X2_nobodies N (k0 + 1) h4) (fun r5 h6 =>
    (some (r5, h6))))))
  else
    (bnd (F_X6_refuse k0 r1 h2) (fun r7 h8 =>
    (some (r7, h8)))))))
set_option maxRecDepth 10000 in
set_option maxHeartbeats 1000000 in
theorem ok_X6_hours (l : Launch) (ω : WX) (N : Nat) {k0 : Nat} (hk0 : lay k0 = 6) (x1 : Int32) (h : Mem) : MC rvI l ω yX6_hours cX6_hours 3 (some .int) 7 [.ref (ω.1 + k0), .int x1] h (F_X6_hours N k0 x1 h) := by
  refine MC.of (by decide +kernel) [(0, .ref (ω.1 + k0)), (1, .int x1)] rfl (Nat.le_of_ble_eq_true rfl) (fun χ K => ?_)
  have K : Kok ω χ "SaltClouds" cX6_hours 3 (some .int) 7 := K
  unfold F_X6_hours
  refine J_aload_n (pc := 0) K dX6_hours_0 0 rfl 0 rfl ?_
  refine J_iload_n (pc := 1) K dX6_hours_1 1 rfl 1 rfl ?_
  refine J_callVI (As := [.int x1]) (rest := []) (pc := 2) K cs_SaltClouds_163 (ok_X6_errorOfHours l ω hk0 x1 h) hk0 (by decide) rfl rfl (Nat.le_of_ble_eq_true rfl) dX6_hours_2 (fun r1 h2 => ?_)
  refine J_istore_n (pc := 5) K dX6_hours_5 2 rfl (by decide) [(2, .int r1), (0, .ref (ω.1 + k0)), (1, .int x1)] rfl ?_
  refine J_iload_n (pc := 6) K dX6_hours_6 2 rfl 0 rfl ?_
  refine J_if_eq (pc := 7) K 16 dX6_hours_7 (by decide) ?_ ?_
  · refine J_aload_n (pc := 16) K dX6_hours_16 0 rfl 1 rfl ?_
    refine J_getR (pc := 17) K gf_SaltClouds_12 hk0 1 rfl dX6_hours_17 ?_
    refine J_iload_n (pc := 20) K dX6_hours_20 1 rfl 2 rfl ?_
    refine J_callVU (As := [.int x1]) (rest := []) (pc := 21) K cs_SaltClouds_166 (ok_X2_passHours l ω N (ty_6_1 hk0) x1 h2) (ty_6_1 hk0) (by decide) rfl rfl (Nat.le_of_ble_eq_true rfl) dX6_hours_21 (fun _ h4 => ?_)
    refine J_aload_n (pc := 24) K dX6_hours_24 0 rfl 1 rfl ?_
    refine J_getR (pc := 25) K gf_SaltClouds_12 hk0 1 rfl dX6_hours_25 ?_
    refine J_callVI (As := []) (rest := []) (pc := 28) K cs_SaltClouds_169 (ok_X2_nobodies l ω N (ty_6_1 hk0) h4) (ty_6_1 hk0) (by decide) rfl rfl (Nat.le_of_ble_eq_true rfl) dX6_hours_28 (fun r5 h6 => ?_)
    exact J_iret (pc := 31) K dX6_hours_31
  · refine J_aload_n (pc := 10) K dX6_hours_10 0 rfl 1 rfl ?_
    refine J_iload_n (pc := 11) K dX6_hours_11 2 rfl 0 rfl ?_
    refine J_callVI (As := [.int r1]) (rest := []) (pc := 12) K cs_SaltClouds_60 (ok_X6_refuse l ω hk0 r1 h2) hk0 (by decide) rfl rfl (Nat.le_of_ble_eq_true rfl) dX6_hours_12 (fun r7 h8 => ?_)
    exact J_iret (pc := 15) K dX6_hours_15
def F_X2_drawWind (k0 : Nat) (h : Mem) : Option (Int32 × Mem) :=
  (seqh (upm h k0 6 (((h k0 6) * (1103515245 : Int32)) + (12345 : Int32))) (fun h1 =>
  (gnz (7 : Int32)
  (some ((irm (iush (h1 k0 6) (8 : Int32)) (7 : Int32)) - (3 : Int32), h1)))))
set_option maxRecDepth 10000 in
set_option maxHeartbeats 1000000 in
theorem ok_X2_drawWind (l : Launch) (ω : WX) {k0 : Nat} (hk0 : lay k0 = 2) (h : Mem) : MC rvI l ω yX2_drawWind cX2_drawWind 1 (some .int) 0 [.ref (ω.1 + k0)] h (F_X2_drawWind k0 h) := by
  refine MC.of (by decide +kernel) [(0, .ref (ω.1 + k0))] rfl (Nat.le_of_ble_eq_true rfl) (fun χ K => ?_)
  have K : Kok ω χ "SaltClouds$Sky" cX2_drawWind 1 (some .int) 0 := K
  unfold F_X2_drawWind
  refine J_aload_n (pc := 0) K dX2_drawWind_0 0 rfl 0 rfl ?_
  refine J_aload_n (pc := 1) K dX2_drawWind_1 0 rfl 0 rfl ?_
  refine J_getI (pc := 2) K gf_SaltClouds_Sky_34 hk0 rfl dX2_drawWind_2 ?_
  refine J_ldc (pc := 5) K kc_SaltClouds_Sky_127 dX2_drawWind_5 ?_
  refine J_imul (pc := 7) K dX2_drawWind_7 ?_
  refine J_sipush (pc := 8) K (12345) dX2_drawWind_8 (by decide) ?_
  refine J_iadd (pc := 11) K dX2_drawWind_11 ?_
  refine J_putI (pc := 12) K gf_SaltClouds_Sky_34 hk0 (by decide) rfl dX2_drawWind_12 (fun h1 => ?_)
  refine J_aload_n (pc := 15) K dX2_drawWind_15 0 rfl 0 rfl ?_
  refine J_getI (pc := 16) K gf_SaltClouds_Sky_34 hk0 rfl dX2_drawWind_16 ?_
  refine J_bipush (pc := 19) K (8) dX2_drawWind_19 (by decide) ?_
  refine J_iushr (pc := 21) K dX2_drawWind_21 ?_
  refine J_bipush (pc := 22) K (7) dX2_drawWind_22 (by decide) ?_
  refine J_irem (pc := 24) K dX2_drawWind_24 ?_
  refine J_iconst (pc := 25) K (3) dX2_drawWind_25 (by decide) ?_
  refine J_isub (pc := 26) K dX2_drawWind_26 ?_
  exact J_iret (pc := 27) K dX2_drawWind_27
def F_X6_loose_18 (N : Nat) (k0 : Nat) (w1 : Int32) (kt : Mem → Option (Int32 × Mem)) : Nat → Int32 → Mem → Option (Int32 × Mem)
  | 0, _, _ => none
  | n + 1, u3, h =>
    (if w1 ≤ u3 then
      (kt h)
    else
      (bnd (F_X2_drawWind (k0 + 1) h) (fun r3 h4 =>
      (bnd (F_X2_passHour N (k0 + 1) r3 h4) (fun _ h6 =>
      (F_X6_loose_18 N k0 w1 kt n (u3 + 1) h6))))))
set_option maxRecDepth 10000 in
set_option maxHeartbeats 1000000 in
theorem okL_X6_loose_18 {l : Launch} {ω : WX} {χ : KT} {d : Nat} (K : Kok ω χ "SaltClouds" cX6_loose 4 (some .int) d) (hd : 6 ≤ d) (N : Nat) {k0 : Nat} (hk0 : lay k0 = 6) {w1 : Int32} {kt : Mem → Option (Int32 × Mem)} (hK : ∀ (h : Mem), J (ZM rvI ω χ) l ω χ 43 4 [(0, .ref (ω.1 + k0))] [] h (kt h)) : ∀ (n : Nat) (u3 : Int32) (h : Mem), J (ZM rvI ω χ) l ω χ 18 4 [(0, .ref (ω.1 + k0)), (1, .int w1), (3, .int u3)] [] h (F_X6_loose_18 N k0 w1 kt n u3 h) := by
  intro n
  induction n with
  | zero =>
    intro u3 h
    exact J_none rfl
  | succ n ih =>
    intro u3 h
    rw [F_X6_loose_18]
    refine J_iload_n (pc := 18) K dX6_loose_18 3 rfl 2 rfl ?_
    refine J_iload_n (pc := 19) K dX6_loose_19 1 rfl 1 rfl ?_
    refine J_icmp_ge (pc := 20) K 43 dX6_loose_20 (by decide) ?_ ?_
    · refine J_lv [0] [(0, .ref (ω.1 + k0))] rfl ?_
      exact hK h
    · refine J_aload_n (pc := 23) K dX6_loose_23 0 rfl 0 rfl ?_
      refine J_getR (pc := 24) K gf_SaltClouds_12 hk0 1 rfl dX6_loose_24 ?_
      refine J_aload_n (pc := 27) K dX6_loose_27 0 rfl 0 rfl ?_
      refine J_getR (pc := 28) K gf_SaltClouds_12 hk0 1 rfl dX6_loose_28 ?_
      refine J_callVI (As := []) (rest := [.ref (ω.1 + (k0 + 1))]) (pc := 31) K cs_SaltClouds_173 (ok_X2_drawWind l ω (ty_6_1 hk0) h) (ty_6_1 hk0) (by omega) rfl rfl (Nat.le_of_ble_eq_true rfl) dX6_loose_31 (fun r3 h4 => ?_)
      refine J_callVU (As := [.int r3]) (rest := []) (pc := 34) K cs_SaltClouds_176 (ok_X2_passHour l ω N (ty_6_1 hk0) r3 h4) (ty_6_1 hk0) (by omega) rfl rfl (Nat.le_of_ble_eq_true rfl) dX6_loose_34 (fun _ h6 => ?_)
      refine J_iinc (pc := 37) K (1) dX6_loose_37 2 rfl (by decide) (by decide) [(3, .int (u3 + 1)), (0, .ref (ω.1 + k0)), (1, .int w1)] rfl ?_
      refine J_goto (pc := 40) K 18 dX6_loose_40 (by decide) ?_
      refine J_lv [1, 2, 0] [(0, .ref (ω.1 + k0)), (1, .int w1), (3, .int (u3 + 1))] rfl ?_
      exact ih (u3 + 1) h6
def F_X6_loose (N : Nat) (k0 : Nat) (x1 : Int32) (h : Mem) : Option (Int32 × Mem) :=
  (bnd (F_X6_errorOfHours k0 x1 h) (fun r1 h2 =>
  (if r1 = 0 then
    (F_X6_loose_18 N k0 x1 (fun (h7 : Mem) =>
      (bnd (F_X2_nobodies N (k0 + 1) h7) (fun r8 h9 =>
      (some (r8, h9))))) N (0 : Int32) h2)
  else
    (bnd (F_X6_refuse k0 r1 h2) (fun r10 h11 =>
    (some (r10, h11)))))))
set_option maxRecDepth 10000 in
set_option maxHeartbeats 1000000 in
theorem ok_X6_loose (l : Launch) (ω : WX) (N : Nat) {k0 : Nat} (hk0 : lay k0 = 6) (x1 : Int32) (h : Mem) : MC rvI l ω yX6_loose cX6_loose 4 (some .int) 6 [.ref (ω.1 + k0), .int x1] h (F_X6_loose N k0 x1 h) := by
  refine MC.of (by decide +kernel) [(0, .ref (ω.1 + k0)), (1, .int x1)] rfl (Nat.le_of_ble_eq_true rfl) (fun χ K => ?_)
  have K : Kok ω χ "SaltClouds" cX6_loose 4 (some .int) 6 := K
  unfold F_X6_loose
  refine J_aload_n (pc := 0) K dX6_loose_0 0 rfl 0 rfl ?_
  refine J_iload_n (pc := 1) K dX6_loose_1 1 rfl 1 rfl ?_
  refine J_callVI (As := [.int x1]) (rest := []) (pc := 2) K cs_SaltClouds_163 (ok_X6_errorOfHours l ω hk0 x1 h) hk0 (by decide) rfl rfl (Nat.le_of_ble_eq_true rfl) dX6_loose_2 (fun r1 h2 => ?_)
  refine J_istore_n (pc := 5) K dX6_loose_5 2 rfl (by decide) [(2, .int r1), (0, .ref (ω.1 + k0)), (1, .int x1)] rfl ?_
  refine J_iload_n (pc := 6) K dX6_loose_6 2 rfl 0 rfl ?_
  refine J_if_eq (pc := 7) K 16 dX6_loose_7 (by decide) ?_ ?_
  · refine J_iconst (pc := 16) K (0) dX6_loose_16 (by decide) ?_
    refine J_istore_n (pc := 17) K dX6_loose_17 3 rfl (by decide) [(3, .int (0 : Int32)), (2, .int r1), (0, .ref (ω.1 + k0)), (1, .int x1)] rfl ?_
    refine J_lv [2, 3, 0] [(0, .ref (ω.1 + k0)), (1, .int x1), (3, .int (0 : Int32))] rfl ?_
    refine okL_X6_loose_18 K  (by decide) N hk0 (fun h7 => ?_) _ _ _
    refine J_aload_n (pc := 43) K dX6_loose_43 0 rfl 0 rfl ?_
    refine J_getR (pc := 44) K gf_SaltClouds_12 hk0 1 rfl dX6_loose_44 ?_
    refine J_callVI (As := []) (rest := []) (pc := 47) K cs_SaltClouds_169 (ok_X2_nobodies l ω N (ty_6_1 hk0) h7) (ty_6_1 hk0) (by decide) rfl rfl (Nat.le_of_ble_eq_true rfl) dX6_loose_47 (fun r8 h9 => ?_)
    exact J_iret (pc := 50) K dX6_loose_50
  · refine J_aload_n (pc := 10) K dX6_loose_10 0 rfl 1 rfl ?_
    refine J_iload_n (pc := 11) K dX6_loose_11 2 rfl 0 rfl ?_
    refine J_callVI (As := [.int r1]) (rest := []) (pc := 12) K cs_SaltClouds_60 (ok_X6_refuse l ω hk0 r1 h2) hk0 (by decide) rfl rfl (Nat.le_of_ble_eq_true rfl) dX6_loose_12 (fun r10 h11 => ?_)
    exact J_iret (pc := 15) K dX6_loose_15
def F_X0_takeFrom (k0 : Nat) (k1 : Nat) (h : Mem) : Option (Unit × Mem) :=
  (seqh (upm h k0 0 (h k1 0)) (fun h1 =>
  (seqh (upm h1 k0 1 (h1 k1 1)) (fun h2 =>
  (seqh (upm h2 k0 2 (h2 k1 2)) (fun h3 =>
  (seqh (upm h3 k0 3 (h3 k1 3)) (fun h4 =>
  (gbo (h4 k1 4) (seqh (upm h4 k0 4 (h4 k1 4)) (fun h5 =>
  (gcp (0 : Int32) (0 : Int32) (3 : Int32) 3 3 (seqh (rwm h5 (k0 + 1) (va_cpy (h5 (k1 + 1)) (h5 (k0 + 1)) (ix (0 : Int32)) (ix (0 : Int32)) (ix (3 : Int32)))) (fun h6 =>
  (some ((), h6))))))))))))))))
set_option maxRecDepth 10000 in
set_option maxHeartbeats 1000000 in
theorem ok_X0_takeFrom (l : Launch) (ω : WX) {k0 : Nat} (hk0 : lay k0 = 0) {k1 : Nat} (hk1 : lay k1 = 0) (h : Mem) : MC rvV l ω yX0_takeFrom cX0_takeFrom 2 none 1 [.ref (ω.1 + k0), .ref (ω.1 + k1)] h (F_X0_takeFrom k0 k1 h) := by
  refine MC.of (by decide +kernel) [(0, .ref (ω.1 + k0)), (1, .ref (ω.1 + k1))] rfl (Nat.le_of_ble_eq_true rfl) (fun χ K => ?_)
  have K : Kok ω χ "SaltClouds$Cloud" cX0_takeFrom 2 none 1 := K
  unfold F_X0_takeFrom
  refine J_aload_n (pc := 0) K dX0_takeFrom_0 0 rfl 0 rfl ?_
  refine J_aload_n (pc := 1) K dX0_takeFrom_1 1 rfl 1 rfl ?_
  refine J_getI (pc := 2) K gf_SaltClouds_Cloud_9 hk1 rfl dX0_takeFrom_2 ?_
  refine J_putI (pc := 5) K gf_SaltClouds_Cloud_9 hk0 (by decide) rfl dX0_takeFrom_5 (fun h1 => ?_)
  refine J_aload_n (pc := 8) K dX0_takeFrom_8 0 rfl 0 rfl ?_
  refine J_aload_n (pc := 9) K dX0_takeFrom_9 1 rfl 1 rfl ?_
  refine J_getI (pc := 10) K gf_SaltClouds_Cloud_15 hk1 rfl dX0_takeFrom_10 ?_
  refine J_putI (pc := 13) K gf_SaltClouds_Cloud_15 hk0 (by decide) rfl dX0_takeFrom_13 (fun h2 => ?_)
  refine J_aload_n (pc := 16) K dX0_takeFrom_16 0 rfl 0 rfl ?_
  refine J_aload_n (pc := 17) K dX0_takeFrom_17 1 rfl 1 rfl ?_
  refine J_getI (pc := 18) K gf_SaltClouds_Cloud_18 hk1 rfl dX0_takeFrom_18 ?_
  refine J_putI (pc := 21) K gf_SaltClouds_Cloud_18 hk0 (by decide) rfl dX0_takeFrom_21 (fun h3 => ?_)
  refine J_aload_n (pc := 24) K dX0_takeFrom_24 0 rfl 0 rfl ?_
  refine J_aload_n (pc := 25) K dX0_takeFrom_25 1 rfl 1 rfl ?_
  refine J_getI (pc := 26) K gf_SaltClouds_Cloud_21 hk1 rfl dX0_takeFrom_26 ?_
  refine J_putI (pc := 29) K gf_SaltClouds_Cloud_21 hk0 (by decide) rfl dX0_takeFrom_29 (fun h4 => ?_)
  refine J_aload_n (pc := 32) K dX0_takeFrom_32 0 rfl 0 rfl ?_
  refine J_aload_n (pc := 33) K dX0_takeFrom_33 1 rfl 1 rfl ?_
  refine J_getI (pc := 34) K gf_SaltClouds_Cloud_24 hk1 rfl dX0_takeFrom_34 ?_
  refine J_putZ (pc := 37) K gf_SaltClouds_Cloud_24 hk0 (by decide) rfl dX0_takeFrom_37 (fun h5 => ?_)
  refine J_aload_n (pc := 40) K dX0_takeFrom_40 1 rfl 1 rfl ?_
  refine J_getR (pc := 41) K gf_SaltClouds_Cloud_28 hk1 1 rfl dX0_takeFrom_41 ?_
  refine J_iconst (pc := 44) K (0) dX0_takeFrom_44 (by decide) ?_
  refine J_aload_n (pc := 45) K dX0_takeFrom_45 0 rfl 0 rfl ?_
  refine J_getR (pc := 46) K gf_SaltClouds_Cloud_28 hk0 1 rfl dX0_takeFrom_46 ?_
  refine J_iconst (pc := 49) K (0) dX0_takeFrom_49 (by decide) ?_
  refine J_iconst (pc := 50) K (3) dX0_takeFrom_50 (by decide) ?_
  refine J_copy (pc := 51) K cp_SaltClouds_Cloud_32 (n0 := 3) (n1 := 3) (ty_0_1 hk1) (ty_0_1 hk0) (by decide) (Nat.le_of_ble_eq_true rfl) dX0_takeFrom_51 (fun h6 => ?_)
  exact J_vret (pc := 54) K dX0_takeFrom_54
def F_X2_takeFrom_2 (N : Nat) (k0 : Nat) (k1 : Nat) (kt : Mem → Option (Unit × Mem)) : Nat → Int32 → Mem → Option (Unit × Mem)
  | 0, _, _ => none
  | n + 1, u2, h =>
    (if (8 : Int32) ≤ u2 then
      (kt h)
    else
      (gin u2 8
      (gin u2 8
      (bnd (F_X0_takeFrom ((k0 + 1) + 11 + 2 * ix u2) ((k1 + 1) + 11 + 2 * ix u2) h) (fun _ h4 =>
      (F_X2_takeFrom_2 N k0 k1 kt n (u2 + 1) h4))))))
set_option maxRecDepth 10000 in
set_option maxHeartbeats 1000000 in
theorem okL_X2_takeFrom_2 {l : Launch} {ω : WX} {χ : KT} {d : Nat} (K : Kok ω χ "SaltClouds$Sky" cX2_takeFrom 3 none d) (hd : 2 ≤ d) (N : Nat) {k0 : Nat} (hk0 : lay k0 = 2) {k1 : Nat} (hk1 : lay k1 = 2) {kt : Mem → Option (Unit × Mem)} (hK : ∀ (h : Mem), J (ZM rvV ω χ) l ω χ 29 3 [(0, .ref (ω.1 + k0)), (1, .ref (ω.1 + k1))] [] h (kt h)) : ∀ (n : Nat) (u2 : Int32) (h : Mem), J (ZM rvV ω χ) l ω χ 2 3 [(0, .ref (ω.1 + k0)), (1, .ref (ω.1 + k1)), (2, .int u2)] [] h (F_X2_takeFrom_2 N k0 k1 kt n u2 h) := by
  intro n
  induction n with
  | zero =>
    intro u2 h
    exact J_none rfl
  | succ n ih =>
    intro u2 h
    rw [F_X2_takeFrom_2]
    refine J_iload_n (pc := 2) K dX2_takeFrom_2 2 rfl 2 rfl ?_
    refine J_bipush (pc := 3) K (8) dX2_takeFrom_3 (by decide) ?_
    refine J_icmp_ge (pc := 5) K 29 dX2_takeFrom_5 (by decide) ?_ ?_
    · refine J_lv [0, 1] [(0, .ref (ω.1 + k0)), (1, .ref (ω.1 + k1))] rfl ?_
      exact hK h
    · refine J_aload_n (pc := 8) K dX2_takeFrom_8 0 rfl 0 rfl ?_
      refine J_getR (pc := 9) K gf_SaltClouds_Sky_11 hk0 1 rfl dX2_takeFrom_9 ?_
      refine J_iload_n (pc := 12) K dX2_takeFrom_12 2 rfl 2 rfl ?_
      refine J_aldC (pc := 13) K (a := k0 + 1) (ty_2_1 hk0) dX2_takeFrom_13 (fun b1 => ?_)
      refine J_aload_n (pc := 14) K dX2_takeFrom_14 1 rfl 1 rfl ?_
      refine J_getR (pc := 15) K gf_SaltClouds_Sky_11 hk1 1 rfl dX2_takeFrom_15 ?_
      refine J_iload_n (pc := 18) K dX2_takeFrom_18 2 rfl 2 rfl ?_
      refine J_aldC (pc := 19) K (a := k1 + 1) (ty_2_1 hk1) dX2_takeFrom_19 (fun b2 => ?_)
      refine J_callVU (As := [.ref (ω.1 + ((k1 + 1) + 11 + 2 * ix u2))]) (rest := []) (pc := 20) K cs_SaltClouds_Sky_60 (ok_X0_takeFrom l ω (ty_8e (ty_2_1 hk0) b1) (ty_8e (ty_2_1 hk1) b2) h) (ty_8e (ty_2_1 hk0) b1) (by omega) rfl rfl (Nat.le_of_ble_eq_true rfl) dX2_takeFrom_20 (fun _ h4 => ?_)
      refine J_iinc (pc := 23) K (1) dX2_takeFrom_23 2 rfl (by decide) (by decide) [(2, .int (u2 + 1)), (0, .ref (ω.1 + k0)), (1, .ref (ω.1 + k1))] rfl ?_
      refine J_goto (pc := 26) K 2 dX2_takeFrom_26 (by decide) ?_
      refine J_lv [1, 2, 0] [(0, .ref (ω.1 + k0)), (1, .ref (ω.1 + k1)), (2, .int (u2 + 1))] rfl ?_
      exact ih (u2 + 1) h4
def F_X2_takeFrom (N : Nat) (k0 : Nat) (k1 : Nat) (h : Mem) : Option (Unit × Mem) :=
  (F_X2_takeFrom_2 N k0 k1 (fun (h5 : Mem) =>
    (seqh (upm h5 k0 1 (h5 k1 1)) (fun h6 =>
    (gcp (0 : Int32) (0 : Int32) (12 : Int32) 12 12 (seqh (rwm h6 (k0 + 2) (va_cpy (h6 (k1 + 2)) (h6 (k0 + 2)) (ix (0 : Int32)) (ix (0 : Int32)) (ix (12 : Int32)))) (fun h7 =>
    (gcp (0 : Int32) (0 : Int32) (8 : Int32) 8 8 (seqh (rwm h7 (k0 + 3) (va_cpy (h7 (k1 + 3)) (h7 (k0 + 3)) (ix (0 : Int32)) (ix (0 : Int32)) (ix (8 : Int32)))) (fun h8 =>
    (seqh (upm h8 k0 4 (h8 k1 4)) (fun h9 =>
    (seqh (upm h9 k0 5 (h9 k1 5)) (fun h10 =>
    (seqh (upm h10 k0 6 (h10 k1 6)) (fun h11 =>
    (gcp (0 : Int32) (0 : Int32) (50 : Int32) 50 50 (seqh (rwm h11 (k0 + 4) (va_cpy (h11 (k1 + 4)) (h11 (k0 + 4)) (ix (0 : Int32)) (ix (0 : Int32)) (ix (50 : Int32)))) (fun h12 =>
    (seqh (upm h12 k0 8 (h12 k1 8)) (fun h13 =>
    (bnd (F_X3_takeFrom (k0 + 5) (k1 + 5) h13) (fun _ h15 =>
    (bnd (F_X3_takeFrom (k0 + 8) (k1 + 8) h15) (fun _ h17 =>
    (gcp (0 : Int32) (0 : Int32) (20 : Int32) 20 20 (seqh (rwm h17 (k0 + 11) (va_cpy (h17 (k1 + 11)) (h17 (k0 + 11)) (ix (0 : Int32)) (ix (0 : Int32)) (ix (20 : Int32)))) (fun h18 =>
    (seqh (upm h18 k0 12 (h18 k1 12)) (fun h19 =>
    (some ((), h19))))))))))))))))))))))))))))))) N (0 : Int32) h)
set_option maxRecDepth 10000 in
set_option maxHeartbeats 1000000 in
theorem ok_X2_takeFrom (l : Launch) (ω : WX) (N : Nat) {k0 : Nat} (hk0 : lay k0 = 2) {k1 : Nat} (hk1 : lay k1 = 2) (h : Mem) : MC rvV l ω yX2_takeFrom cX2_takeFrom 3 none 2 [.ref (ω.1 + k0), .ref (ω.1 + k1)] h (F_X2_takeFrom N k0 k1 h) := by
  refine MC.of (by decide +kernel) [(0, .ref (ω.1 + k0)), (1, .ref (ω.1 + k1))] rfl (Nat.le_of_ble_eq_true rfl) (fun χ K => ?_)
  have K : Kok ω χ "SaltClouds$Sky" cX2_takeFrom 3 none 2 := K
  unfold F_X2_takeFrom
  refine J_iconst (pc := 0) K (0) dX2_takeFrom_0 (by decide) ?_
  refine J_istore_n (pc := 1) K dX2_takeFrom_1 2 rfl (by decide) [(2, .int (0 : Int32)), (0, .ref (ω.1 + k0)), (1, .ref (ω.1 + k1))] rfl ?_
  refine J_lv [1, 2, 0] [(0, .ref (ω.1 + k0)), (1, .ref (ω.1 + k1)), (2, .int (0 : Int32))] rfl ?_
  refine okL_X2_takeFrom_2 K  (by decide) N hk0 hk1 (fun h5 => ?_) _ _ _
  refine J_aload_n (pc := 29) K dX2_takeFrom_29 0 rfl 0 rfl ?_
  refine J_aload_n (pc := 30) K dX2_takeFrom_30 1 rfl 1 rfl ?_
  refine J_getI (pc := 31) K gf_SaltClouds_Sky_17 hk1 rfl dX2_takeFrom_31 ?_
  refine J_putI (pc := 34) K gf_SaltClouds_Sky_17 hk0 (by decide) rfl dX2_takeFrom_34 (fun h6 => ?_)
  refine J_aload_n (pc := 37) K dX2_takeFrom_37 1 rfl 1 rfl ?_
  refine J_getR (pc := 38) K gf_SaltClouds_Sky_21 hk1 2 rfl dX2_takeFrom_38 ?_
  refine J_iconst (pc := 41) K (0) dX2_takeFrom_41 (by decide) ?_
  refine J_aload_n (pc := 42) K dX2_takeFrom_42 0 rfl 0 rfl ?_
  refine J_getR (pc := 43) K gf_SaltClouds_Sky_21 hk0 2 rfl dX2_takeFrom_43 ?_
  refine J_iconst (pc := 46) K (0) dX2_takeFrom_46 (by decide) ?_
  refine J_bipush (pc := 47) K (12) dX2_takeFrom_47 (by decide) ?_
  refine J_copy (pc := 49) K cp_SaltClouds_Sky_64 (n0 := 12) (n1 := 12) (ty_2_2 hk1) (ty_2_2 hk0) (by decide) (Nat.le_of_ble_eq_true rfl) dX2_takeFrom_49 (fun h7 => ?_)
  refine J_aload_n (pc := 52) K dX2_takeFrom_52 1 rfl 1 rfl ?_
  refine J_getR (pc := 53) K gf_SaltClouds_Sky_25 hk1 3 rfl dX2_takeFrom_53 ?_
  refine J_iconst (pc := 56) K (0) dX2_takeFrom_56 (by decide) ?_
  refine J_aload_n (pc := 57) K dX2_takeFrom_57 0 rfl 0 rfl ?_
  refine J_getR (pc := 58) K gf_SaltClouds_Sky_25 hk0 3 rfl dX2_takeFrom_58 ?_
  refine J_iconst (pc := 61) K (0) dX2_takeFrom_61 (by decide) ?_
  refine J_bipush (pc := 62) K (8) dX2_takeFrom_62 (by decide) ?_
  refine J_copy (pc := 64) K cp_SaltClouds_Sky_64 (n0 := 8) (n1 := 8) (ty_2_3 hk1) (ty_2_3 hk0) (by decide) (Nat.le_of_ble_eq_true rfl) dX2_takeFrom_64 (fun h8 => ?_)
  refine J_aload_n (pc := 67) K dX2_takeFrom_67 0 rfl 0 rfl ?_
  refine J_aload_n (pc := 68) K dX2_takeFrom_68 1 rfl 1 rfl ?_
  refine J_getI (pc := 69) K gf_SaltClouds_Sky_28 hk1 rfl dX2_takeFrom_69 ?_
  refine J_putI (pc := 72) K gf_SaltClouds_Sky_28 hk0 (by decide) rfl dX2_takeFrom_72 (fun h9 => ?_)
  refine J_aload_n (pc := 75) K dX2_takeFrom_75 0 rfl 0 rfl ?_
  refine J_aload_n (pc := 76) K dX2_takeFrom_76 1 rfl 1 rfl ?_
  refine J_getI (pc := 77) K gf_SaltClouds_Sky_31 hk1 rfl dX2_takeFrom_77 ?_
  refine J_putI (pc := 80) K gf_SaltClouds_Sky_31 hk0 (by decide) rfl dX2_takeFrom_80 (fun h10 => ?_)
  refine J_aload_n (pc := 83) K dX2_takeFrom_83 0 rfl 0 rfl ?_
  refine J_aload_n (pc := 84) K dX2_takeFrom_84 1 rfl 1 rfl ?_
  refine J_getI (pc := 85) K gf_SaltClouds_Sky_34 hk1 rfl dX2_takeFrom_85 ?_
  refine J_putI (pc := 88) K gf_SaltClouds_Sky_34 hk0 (by decide) rfl dX2_takeFrom_88 (fun h11 => ?_)
  refine J_aload_n (pc := 91) K dX2_takeFrom_91 1 rfl 1 rfl ?_
  refine J_getR (pc := 92) K gf_SaltClouds_Sky_37 hk1 4 rfl dX2_takeFrom_92 ?_
  refine J_iconst (pc := 95) K (0) dX2_takeFrom_95 (by decide) ?_
  refine J_aload_n (pc := 96) K dX2_takeFrom_96 0 rfl 0 rfl ?_
  refine J_getR (pc := 97) K gf_SaltClouds_Sky_37 hk0 4 rfl dX2_takeFrom_97 ?_
  refine J_iconst (pc := 100) K (0) dX2_takeFrom_100 (by decide) ?_
  refine J_bipush (pc := 101) K (50) dX2_takeFrom_101 (by decide) ?_
  refine J_copy (pc := 103) K cp_SaltClouds_Sky_64 (n0 := 50) (n1 := 50) (ty_2_4 hk1) (ty_2_4 hk0) (by decide) (Nat.le_of_ble_eq_true rfl) dX2_takeFrom_103 (fun h12 => ?_)
  refine J_aload_n (pc := 106) K dX2_takeFrom_106 0 rfl 0 rfl ?_
  refine J_aload_n (pc := 107) K dX2_takeFrom_107 1 rfl 1 rfl ?_
  refine J_getI (pc := 108) K gf_SaltClouds_Sky_40 hk1 rfl dX2_takeFrom_108 ?_
  refine J_putI (pc := 111) K gf_SaltClouds_Sky_40 hk0 (by decide) rfl dX2_takeFrom_111 (fun h13 => ?_)
  refine J_aload_n (pc := 114) K dX2_takeFrom_114 0 rfl 0 rfl ?_
  refine J_getR (pc := 115) K gf_SaltClouds_Sky_46 hk0 5 rfl dX2_takeFrom_115 ?_
  refine J_aload_n (pc := 118) K dX2_takeFrom_118 1 rfl 1 rfl ?_
  refine J_getR (pc := 119) K gf_SaltClouds_Sky_46 hk1 5 rfl dX2_takeFrom_119 ?_
  refine J_callVU (As := [.ref (ω.1 + (k1 + 5))]) (rest := []) (pc := 122) K cs_SaltClouds_Sky_70 (ok_X3_takeFrom l ω (ty_2_5 hk0) (ty_2_5 hk1) h13) (ty_2_5 hk0) (by decide) rfl rfl (Nat.le_of_ble_eq_true rfl) dX2_takeFrom_122 (fun _ h15 => ?_)
  refine J_aload_n (pc := 125) K dX2_takeFrom_125 0 rfl 0 rfl ?_
  refine J_getR (pc := 126) K gf_SaltClouds_Sky_50 hk0 8 rfl dX2_takeFrom_126 ?_
  refine J_aload_n (pc := 129) K dX2_takeFrom_129 1 rfl 1 rfl ?_
  refine J_getR (pc := 130) K gf_SaltClouds_Sky_50 hk1 8 rfl dX2_takeFrom_130 ?_
  refine J_callVU (As := [.ref (ω.1 + (k1 + 8))]) (rest := []) (pc := 133) K cs_SaltClouds_Sky_70 (ok_X3_takeFrom l ω (ty_2_8 hk0) (ty_2_8 hk1) h15) (ty_2_8 hk0) (by decide) rfl rfl (Nat.le_of_ble_eq_true rfl) dX2_takeFrom_133 (fun _ h17 => ?_)
  refine J_aload_n (pc := 136) K dX2_takeFrom_136 1 rfl 1 rfl ?_
  refine J_getR (pc := 137) K gf_SaltClouds_Sky_53 hk1 11 rfl dX2_takeFrom_137 ?_
  refine J_iconst (pc := 140) K (0) dX2_takeFrom_140 (by decide) ?_
  refine J_aload_n (pc := 141) K dX2_takeFrom_141 0 rfl 0 rfl ?_
  refine J_getR (pc := 142) K gf_SaltClouds_Sky_53 hk0 11 rfl dX2_takeFrom_142 ?_
  refine J_iconst (pc := 145) K (0) dX2_takeFrom_145 (by decide) ?_
  refine J_bipush (pc := 146) K (20) dX2_takeFrom_146 (by decide) ?_
  refine J_copy (pc := 148) K cp_SaltClouds_Sky_64 (n0 := 20) (n1 := 20) (ty_2_11 hk1) (ty_2_11 hk0) (by decide) (Nat.le_of_ble_eq_true rfl) dX2_takeFrom_148 (fun h18 => ?_)
  refine J_aload_n (pc := 151) K dX2_takeFrom_151 0 rfl 0 rfl ?_
  refine J_aload_n (pc := 152) K dX2_takeFrom_152 1 rfl 1 rfl ?_
  refine J_getI (pc := 153) K gf_SaltClouds_Sky_56 hk1 rfl dX2_takeFrom_153 ?_
  refine J_putI (pc := 156) K gf_SaltClouds_Sky_56 hk0 (by decide) rfl dX2_takeFrom_156 (fun h19 => ?_)
  exact J_vret (pc := 159) K dX2_takeFrom_159
def F_X6_then (N : Nat) (k0 : Nat) (x1 : Int32) (x2 : Int32) (x3 : Int32) (h : Mem) : Option (Int32 × Mem) :=
  (bnd (F_X6_within x3 (2 : Int32) (6 : Int32) h) (fun r1 h2 =>
  (jn (fun (s4 : Int32) (h5 : Mem) =>
    (bnd (F_X6_within x1 (0 : Int32) (200 : Int32) h5) (fun r6 h7 =>
    (if r6 = 0 then
      (bnd (F_X6_refuse k0 (-1000000001 : Int32) h7) (fun r8 h9 =>
      (some (r8, h9))))
    else
      (bnd (F_X6_hasCloud k0 x2 h7) (fun r10 h11 =>
      (if r10 = 0 then
        (bnd (F_X6_refuse k0 (-1000000001 : Int32) h11) (fun r12 h13 =>
        (some (r12, h13))))
      else
        (if s4 = 0 then
          (bnd (F_X6_refuse k0 (-1000000001 : Int32) h11) (fun r14 h15 =>
          (some (r14, h15))))
        else
          (bnd (F_X2_takeFrom N (k0 + 57) (k0 + 1) h11) (fun _ h17 =>
          (bnd (F_X2_passHours N (k0 + 57) x1 h17) (fun _ h19 =>
          (bnd (F_X2_factOf N (k0 + 57) x2 x3 h19) (fun r20 h21 =>
          (some (r20, h21)))))))))))))))) (fun j3 =>
    (if r1 = 0 then
      (if x3 = (8 : Int32) then
        (j3 (1 : Int32) h2)
      else
        (j3 (0 : Int32) h2))
    else
      (j3 (1 : Int32) h2))))))
set_option maxRecDepth 10000 in
set_option maxHeartbeats 1000000 in
theorem ok_X6_then (l : Launch) (ω : WX) (N : Nat) {k0 : Nat} (hk0 : lay k0 = 6) (x1 : Int32) (x2 : Int32) (x3 : Int32) (h : Mem) : MC rvI l ω yX6_then cX6_then 5 (some .int) 7 [.ref (ω.1 + k0), .int x1, .int x2, .int x3] h (F_X6_then N k0 x1 x2 x3 h) := by
  refine MC.of (by decide +kernel) [(0, .ref (ω.1 + k0)), (1, .int x1), (2, .int x2), (3, .int x3)] rfl (Nat.le_of_ble_eq_true rfl) (fun χ K => ?_)
  have K : Kok ω χ "SaltClouds" cX6_then 5 (some .int) 7 := K
  unfold F_X6_then
  refine J_iload_n (pc := 0) K dX6_then_0 3 rfl 3 rfl ?_
  refine J_iconst (pc := 1) K (2) dX6_then_1 (by decide) ?_
  refine J_bipush (pc := 2) K (6) dX6_then_2 (by decide) ?_
  refine J_callTI (As := [.int x3, .int (2 : Int32), .int (6 : Int32)]) (rest := []) (pc := 4) K cs_SaltClouds_51 (ok_X6_within l ω x3 (2 : Int32) (6 : Int32) h) (by decide) rfl rfl (Nat.le_of_ble_eq_true rfl) dX6_then_4 (fun r1 h2 => ?_)
  refine J_jn (fun j3 => ∀ (s4 : Int32) (h5 : Mem), J (ZM rvI ω χ) l ω χ 21 5 [(0, .ref (ω.1 + k0)), (1, .int x1), (2, .int x2), (3, .int x3)] [.int s4] h5 (j3 s4 h5)) ?_ ?_
  · intro s4 h5
    refine J_istore (pc := 21) K dX6_then_21 (by decide) [(4, .int s4), (0, .ref (ω.1 + k0)), (1, .int x1), (2, .int x2), (3, .int x3)] rfl ?_
    refine J_iload_n (pc := 23) K dX6_then_23 1 rfl 2 rfl ?_
    refine J_iconst (pc := 24) K (0) dX6_then_24 (by decide) ?_
    refine J_sipush (pc := 25) K (200) dX6_then_25 (by decide) ?_
    refine J_callTI (As := [.int x1, .int (0 : Int32), .int (200 : Int32)]) (rest := []) (pc := 28) K cs_SaltClouds_51 (ok_X6_within l ω x1 (0 : Int32) (200 : Int32) h5) (by decide) rfl rfl (Nat.le_of_ble_eq_true rfl) dX6_then_28 (fun r6 h7 => ?_)
    refine J_if_eq (pc := 31) K 47 dX6_then_31 (by decide) ?_ ?_
    · refine J_aload_n (pc := 47) K dX6_then_47 0 rfl 1 rfl ?_
      refine J_ldc (pc := 48) K kc_SaltClouds_59 dX6_then_48 ?_
      refine J_callVI (As := [.int (-1000000001 : Int32)]) (rest := []) (pc := 50) K cs_SaltClouds_60 (ok_X6_refuse l ω hk0 (-1000000001 : Int32) h7) hk0 (by decide) rfl rfl (Nat.le_of_ble_eq_true rfl) dX6_then_50 (fun r8 h9 => ?_)
      exact J_iret (pc := 53) K dX6_then_53
    · refine J_aload_n (pc := 34) K dX6_then_34 0 rfl 1 rfl ?_
      refine J_iload_n (pc := 35) K dX6_then_35 2 rfl 3 rfl ?_
      refine J_callVI (As := [.int x2]) (rest := []) (pc := 36) K cs_SaltClouds_72 (ok_X6_hasCloud l ω hk0 x2 h7) hk0 (by decide) rfl rfl (Nat.le_of_ble_eq_true rfl) dX6_then_36 (fun r10 h11 => ?_)
      refine J_if_eq (pc := 39) K 47 dX6_then_39 (by decide) ?_ ?_
      · refine J_aload_n (pc := 47) K dX6_then_47 0 rfl 1 rfl ?_
        refine J_ldc (pc := 48) K kc_SaltClouds_59 dX6_then_48 ?_
        refine J_callVI (As := [.int (-1000000001 : Int32)]) (rest := []) (pc := 50) K cs_SaltClouds_60 (ok_X6_refuse l ω hk0 (-1000000001 : Int32) h11) hk0 (by decide) rfl rfl (Nat.le_of_ble_eq_true rfl) dX6_then_50 (fun r12 h13 => ?_)
        exact J_iret (pc := 53) K dX6_then_53
      · refine J_iload (pc := 42) K dX6_then_42 0 rfl ?_
        refine J_if_ne (pc := 44) K 54 dX6_then_44 (by decide) ?_ ?_
        · refine J_aload_n (pc := 47) K dX6_then_47 0 rfl 1 rfl ?_
          refine J_ldc (pc := 48) K kc_SaltClouds_59 dX6_then_48 ?_
          refine J_callVI (As := [.int (-1000000001 : Int32)]) (rest := []) (pc := 50) K cs_SaltClouds_60 (ok_X6_refuse l ω hk0 (-1000000001 : Int32) h11) hk0 (by decide) rfl rfl (Nat.le_of_ble_eq_true rfl) dX6_then_50 (fun r14 h15 => ?_)
          exact J_iret (pc := 53) K dX6_then_53
        · refine J_aload_n (pc := 54) K dX6_then_54 0 rfl 1 rfl ?_
          refine J_getR (pc := 55) K gf_SaltClouds_19 hk0 57 rfl dX6_then_55 ?_
          refine J_aload_n (pc := 58) K dX6_then_58 0 rfl 1 rfl ?_
          refine J_getR (pc := 59) K gf_SaltClouds_12 hk0 1 rfl dX6_then_59 ?_
          refine J_callVU (As := [.ref (ω.1 + (k0 + 1))]) (rest := []) (pc := 62) K cs_SaltClouds_179 (ok_X2_takeFrom l ω N (ty_6_57 hk0) (ty_6_1 hk0) h11) (ty_6_57 hk0) (by decide) rfl rfl (Nat.le_of_ble_eq_true rfl) dX6_then_62 (fun _ h17 => ?_)
          refine J_aload_n (pc := 65) K dX6_then_65 0 rfl 1 rfl ?_
          refine J_getR (pc := 66) K gf_SaltClouds_19 hk0 57 rfl dX6_then_66 ?_
          refine J_iload_n (pc := 69) K dX6_then_69 1 rfl 2 rfl ?_
          refine J_callVU (As := [.int x1]) (rest := []) (pc := 70) K cs_SaltClouds_166 (ok_X2_passHours l ω N (ty_6_57 hk0) x1 h17) (ty_6_57 hk0) (by decide) rfl rfl (Nat.le_of_ble_eq_true rfl) dX6_then_70 (fun _ h19 => ?_)
          refine J_aload_n (pc := 73) K dX6_then_73 0 rfl 1 rfl ?_
          refine J_getR (pc := 74) K gf_SaltClouds_19 hk0 57 rfl dX6_then_74 ?_
          refine J_iload_n (pc := 77) K dX6_then_77 2 rfl 3 rfl ?_
          refine J_iload_n (pc := 78) K dX6_then_78 3 rfl 4 rfl ?_
          refine J_callVI (As := [.int x2, .int x3]) (rest := []) (pc := 79) K cs_SaltClouds_75 (ok_X2_factOf l ω N (ty_6_57 hk0) x2 x3 h19) (ty_6_57 hk0) (by decide) rfl rfl (Nat.le_of_ble_eq_true rfl) dX6_then_79 (fun r20 h21 => ?_)
          exact J_iret (pc := 82) K dX6_then_82
  · intro j3 hj3
    refine J_if_ne (pc := 7) K 16 dX6_then_7 (by decide) ?_ ?_
    · refine J_iload_n (pc := 10) K dX6_then_10 3 rfl 3 rfl ?_
      refine J_bipush (pc := 11) K (8) dX6_then_11 (by decide) ?_
      refine J_icmp_ne (pc := 13) K 20 dX6_then_13 (by decide) ?_ ?_
      · refine J_iconst (pc := 16) K (1) dX6_then_16 (by decide) ?_
        refine J_goto (pc := 17) K 21 dX6_then_17 (by decide) ?_
        exact hj3 (1 : Int32) h2
      · refine J_iconst (pc := 20) K (0) dX6_then_20 (by decide) ?_
        exact hj3 (0 : Int32) h2
    · refine J_iconst (pc := 16) K (1) dX6_then_16 (by decide) ?_
      refine J_goto (pc := 17) K 21 dX6_then_17 (by decide) ?_
      exact hj3 (1 : Int32) h2
def F_X2_payOne (N : Nat) (k0 : Nat) (k1 : Nat) (k2 : Nat) (h : Mem) : Option (Int32 × Mem) :=
  (bnd (F_X2_nameOf N k0 k1 h) (fun r1 h2 =>
  (bnd (F_X2_nameOf N k0 k2 h2) (fun r3 h4 =>
  (bnd (F_X2_heightUnder k0 k1 h4) (fun r5 h6 =>
  (bnd (F_X2_debtBy N k0 r1 r3 r5 h6) (fun r7 h8 =>
  (bnd (F_J9_min_7cf53 (h8 k1 3) r7 h8) (fun r9 h10 =>
  (seqh (upm h10 k1 3 ((h10 k1 3) - r9)) (fun h11 =>
  (bnd (F_J9_min_7cf53 (999 : Int32) ((h11 k2 3) + r9) h11) (fun r12 h13 =>
  (seqh (upm h13 k2 3 r12) (fun h14 =>
  (some (r9, h14))))))))))))))))))
set_option maxRecDepth 10000 in
set_option maxHeartbeats 1000000 in
theorem ok_X2_payOne (l : Launch) (ω : WX) (N : Nat) {k0 : Nat} (hk0 : lay k0 = 2) {k1 : Nat} (hk1 : lay k1 = 0) {k2 : Nat} (hk2 : lay k2 = 0) (h : Mem) : MC rvI l ω yX2_payOne cX2_payOne 5 (some .int) 4 [.ref (ω.1 + k0), .ref (ω.1 + k1), .ref (ω.1 + k2)] h (F_X2_payOne N k0 k1 k2 h) := by
  refine MC.of (by decide +kernel) [(0, .ref (ω.1 + k0)), (1, .ref (ω.1 + k1)), (2, .ref (ω.1 + k2))] rfl (Nat.le_of_ble_eq_true rfl) (fun χ K => ?_)
  have K : Kok ω χ "SaltClouds$Sky" cX2_payOne 5 (some .int) 4 := K
  unfold F_X2_payOne
  refine J_aload_n (pc := 0) K dX2_payOne_0 0 rfl 0 rfl ?_
  refine J_aload_n (pc := 1) K dX2_payOne_1 0 rfl 0 rfl ?_
  refine J_aload_n (pc := 2) K dX2_payOne_2 1 rfl 1 rfl ?_
  refine J_callVI (As := [.ref (ω.1 + k1)]) (rest := [.ref (ω.1 + k0)]) (pc := 3) K cs_SaltClouds_Sky_101 (ok_X2_nameOf l ω N hk0 hk1 h) hk0 (by decide) rfl rfl (Nat.le_of_ble_eq_true rfl) dX2_payOne_3 (fun r1 h2 => ?_)
  refine J_aload_n (pc := 6) K dX2_payOne_6 0 rfl 0 rfl ?_
  refine J_aload_n (pc := 7) K dX2_payOne_7 2 rfl 2 rfl ?_
  refine J_callVI (As := [.ref (ω.1 + k2)]) (rest := [.int r1, .ref (ω.1 + k0)]) (pc := 8) K cs_SaltClouds_Sky_101 (ok_X2_nameOf l ω N hk0 hk2 h2) hk0 (by decide) rfl rfl (Nat.le_of_ble_eq_true rfl) dX2_payOne_8 (fun r3 h4 => ?_)
  refine J_aload_n (pc := 11) K dX2_payOne_11 0 rfl 0 rfl ?_
  refine J_aload_n (pc := 12) K dX2_payOne_12 1 rfl 1 rfl ?_
  refine J_callVI (As := [.ref (ω.1 + k1)]) (rest := [.int r3, .int r1, .ref (ω.1 + k0)]) (pc := 13) K cs_SaltClouds_Sky_111 (ok_X2_heightUnder l ω hk0 hk1 h4) hk0 (by decide) rfl rfl (Nat.le_of_ble_eq_true rfl) dX2_payOne_13 (fun r5 h6 => ?_)
  refine J_callVI (As := [.int r1, .int r3, .int r5]) (rest := []) (pc := 16) K cs_SaltClouds_Sky_173 (ok_X2_debtBy l ω N hk0 r1 r3 r5 h6) hk0 (by decide) rfl rfl (Nat.le_of_ble_eq_true rfl) dX2_payOne_16 (fun r7 h8 => ?_)
  refine J_istore_n (pc := 19) K dX2_payOne_19 3 rfl (by decide) [(3, .int r7), (0, .ref (ω.1 + k0)), (1, .ref (ω.1 + k1)), (2, .ref (ω.1 + k2))] rfl ?_
  refine J_aload_n (pc := 20) K dX2_payOne_20 1 rfl 2 rfl ?_
  refine J_getI (pc := 21) K gf_SaltClouds_Sky_86 hk1 rfl dX2_payOne_21 ?_
  refine J_iload_n (pc := 24) K dX2_payOne_24 3 rfl 0 rfl ?_
  refine J_callTI (As := [.int (h8 k1 3), .int r7]) (rest := []) (pc := 25) K cs_SaltClouds_Sky_143 (ok_J9_min_7cf53 l ω (h8 k1 3) r7 h8) (by decide) rfl rfl (Nat.le_of_ble_eq_true rfl) dX2_payOne_25 (fun r9 h10 => ?_)
  refine J_istore (pc := 28) K dX2_payOne_28 (by decide) [(4, .int r9), (3, .int r7), (0, .ref (ω.1 + k0)), (1, .ref (ω.1 + k1)), (2, .ref (ω.1 + k2))] rfl ?_
  refine J_aload_n (pc := 30) K dX2_payOne_30 1 rfl 3 rfl ?_
  refine J_dup (pc := 31) K dX2_payOne_31 rfl ?_
  refine J_getI (pc := 32) K gf_SaltClouds_Sky_86 hk1 rfl dX2_payOne_32 ?_
  refine J_iload (pc := 35) K dX2_payOne_35 0 rfl ?_
  refine J_isub (pc := 37) K dX2_payOne_37 ?_
  refine J_putI (pc := 38) K gf_SaltClouds_Sky_86 hk1 (by decide) rfl dX2_payOne_38 (fun h11 => ?_)
  refine J_aload_n (pc := 41) K dX2_payOne_41 2 rfl 4 rfl ?_
  refine J_sipush (pc := 42) K (999) dX2_payOne_42 (by decide) ?_
  refine J_aload_n (pc := 45) K dX2_payOne_45 2 rfl 4 rfl ?_
  refine J_getI (pc := 46) K gf_SaltClouds_Sky_86 hk2 rfl dX2_payOne_46 ?_
  refine J_iload (pc := 49) K dX2_payOne_49 0 rfl ?_
  refine J_iadd (pc := 51) K dX2_payOne_51 ?_
  refine J_callTI (As := [.int (999 : Int32), .int ((h11 k2 3) + r9)]) (rest := [.ref (ω.1 + k2)]) (pc := 52) K cs_SaltClouds_Sky_143 (ok_J9_min_7cf53 l ω (999 : Int32) ((h11 k2 3) + r9) h11) (by decide) rfl rfl (Nat.le_of_ble_eq_true rfl) dX2_payOne_52 (fun r12 h13 => ?_)
  refine J_putI (pc := 55) K gf_SaltClouds_Sky_86 hk2 (by decide) rfl dX2_payOne_55 (fun h14 => ?_)
  refine J_iload (pc := 58) K dX2_payOne_58 0 rfl ?_
  exact J_iret (pc := 60) K dX2_payOne_60
def F_X2_payRound_14 (N : Nat) (k0 : Nat) (w2 : Int32) (kt : Int32 → Mem → Option (Int32 × Mem)) : Nat → Int32 → Int32 → Mem → Option (Int32 × Mem)
  | 0, _, _, _ => none
  | n + 1, u1, u3, h =>
    (if (h k0 1) ≤ u3 then
      (kt u1 h)
    else
      (if w2 = u3 then
        (F_X2_payRound_14 N k0 w2 kt n u1 (u3 + 1) h)
      else
        (bnd (F_X2_areTogether k0 w2 u3 h) (fun r1 h2 =>
        (if r1 = 0 then
          (F_X2_payRound_14 N k0 w2 kt n u1 (u3 + 1) h2)
        else
          (gin w2 8
          (gin u3 8
          (bnd (F_X2_payOne N k0 ((k0 + 1) + 11 + 2 * ix w2) ((k0 + 1) + 11 + 2 * ix u3) h2) (fun r5 h6 =>
          (seqi (u1 + r5) (fun v7 =>
          (F_X2_payRound_14 N k0 w2 kt n v7 (u3 + 1) h6))))))))))))
set_option maxRecDepth 10000 in
set_option maxHeartbeats 1000000 in
theorem okL_X2_payRound_14 {l : Launch} {ω : WX} {χ : KT} {d : Nat} (K : Kok ω χ "SaltClouds$Sky" cX2_payRound 4 (some .int) d) (hd : 5 ≤ d) (N : Nat) {k0 : Nat} (hk0 : lay k0 = 2) {w2 : Int32} {kt : Int32 → Mem → Option (Int32 × Mem)} (hK : ∀ (u1 : Int32) (h : Mem), J (ZM rvI ω χ) l ω χ 61 4 [(0, .ref (ω.1 + k0)), (1, .int u1), (2, .int w2)] [] h (kt u1 h)) : ∀ (n : Nat) (u1 : Int32) (u3 : Int32) (h : Mem), J (ZM rvI ω χ) l ω χ 14 4 [(0, .ref (ω.1 + k0)), (1, .int u1), (2, .int w2), (3, .int u3)] [] h (F_X2_payRound_14 N k0 w2 kt n u1 u3 h) := by
  intro n
  induction n with
  | zero =>
    intro u1 u3 h
    exact J_none rfl
  | succ n ih =>
    intro u1 u3 h
    rw [F_X2_payRound_14]
    refine J_iload_n (pc := 14) K dX2_payRound_14 3 rfl 3 rfl ?_
    refine J_aload_n (pc := 15) K dX2_payRound_15 0 rfl 0 rfl ?_
    refine J_getI (pc := 16) K gf_SaltClouds_Sky_17 hk0 rfl dX2_payRound_16 ?_
    refine J_icmp_ge (pc := 19) K 61 dX2_payRound_19 (by decide) ?_ ?_
    · refine J_lv [0, 1, 2] [(0, .ref (ω.1 + k0)), (1, .int u1), (2, .int w2)] rfl ?_
      exact hK u1 h
    · refine J_iload_n (pc := 22) K dX2_payRound_22 2 rfl 2 rfl ?_
      refine J_iload_n (pc := 23) K dX2_payRound_23 3 rfl 3 rfl ?_
      refine J_icmp_eq (pc := 24) K 55 dX2_payRound_24 (by decide) ?_ ?_
      · refine J_iinc (pc := 55) K (1) dX2_payRound_55 3 rfl (by decide) (by decide) [(3, .int (u3 + 1)), (0, .ref (ω.1 + k0)), (1, .int u1), (2, .int w2)] rfl ?_
        refine J_goto (pc := 58) K 14 dX2_payRound_58 (by decide) ?_
        refine J_lv [1, 2, 3, 0] [(0, .ref (ω.1 + k0)), (1, .int u1), (2, .int w2), (3, .int (u3 + 1))] rfl ?_
        exact ih u1 (u3 + 1) h
      · refine J_aload_n (pc := 27) K dX2_payRound_27 0 rfl 0 rfl ?_
        refine J_iload_n (pc := 28) K dX2_payRound_28 2 rfl 2 rfl ?_
        refine J_iload_n (pc := 29) K dX2_payRound_29 3 rfl 3 rfl ?_
        refine J_callVI (As := [.int w2, .int u3]) (rest := []) (pc := 30) K cs_SaltClouds_Sky_165 (ok_X2_areTogether l ω hk0 w2 u3 h) hk0 (by omega) rfl rfl (Nat.le_of_ble_eq_true rfl) dX2_payRound_30 (fun r1 h2 => ?_)
        refine J_if_eq (pc := 33) K 55 dX2_payRound_33 (by decide) ?_ ?_
        · refine J_iinc (pc := 55) K (1) dX2_payRound_55 3 rfl (by decide) (by decide) [(3, .int (u3 + 1)), (0, .ref (ω.1 + k0)), (1, .int u1), (2, .int w2)] rfl ?_
          refine J_goto (pc := 58) K 14 dX2_payRound_58 (by decide) ?_
          refine J_lv [1, 2, 3, 0] [(0, .ref (ω.1 + k0)), (1, .int u1), (2, .int w2), (3, .int (u3 + 1))] rfl ?_
          exact ih u1 (u3 + 1) h2
        · refine J_iload_n (pc := 36) K dX2_payRound_36 1 rfl 1 rfl ?_
          refine J_aload_n (pc := 37) K dX2_payRound_37 0 rfl 0 rfl ?_
          refine J_aload_n (pc := 38) K dX2_payRound_38 0 rfl 0 rfl ?_
          refine J_getR (pc := 39) K gf_SaltClouds_Sky_11 hk0 1 rfl dX2_payRound_39 ?_
          refine J_iload_n (pc := 42) K dX2_payRound_42 2 rfl 2 rfl ?_
          refine J_aldC (pc := 43) K (a := k0 + 1) (ty_2_1 hk0) dX2_payRound_43 (fun b3 => ?_)
          refine J_aload_n (pc := 44) K dX2_payRound_44 0 rfl 0 rfl ?_
          refine J_getR (pc := 45) K gf_SaltClouds_Sky_11 hk0 1 rfl dX2_payRound_45 ?_
          refine J_iload_n (pc := 48) K dX2_payRound_48 3 rfl 3 rfl ?_
          refine J_aldC (pc := 49) K (a := k0 + 1) (ty_2_1 hk0) dX2_payRound_49 (fun b4 => ?_)
          refine J_callVI (As := [.ref (ω.1 + ((k0 + 1) + 11 + 2 * ix w2)), .ref (ω.1 + ((k0 + 1) + 11 + 2 * ix u3))]) (rest := [.int u1]) (pc := 50) K cs_SaltClouds_Sky_169 (ok_X2_payOne l ω N hk0 (ty_8e (ty_2_1 hk0) b3) (ty_8e (ty_2_1 hk0) b4) h2) hk0 (by omega) rfl rfl (Nat.le_of_ble_eq_true rfl) dX2_payRound_50 (fun r5 h6 => ?_)
          refine J_iadd (pc := 53) K dX2_payRound_53 ?_
          refine J_topi (fun v7 => ?_)
          refine J_istore_n (pc := 54) K dX2_payRound_54 1 rfl (by decide) [(1, .int v7), (0, .ref (ω.1 + k0)), (2, .int w2), (3, .int u3)] rfl ?_
          refine J_iinc (pc := 55) K (1) dX2_payRound_55 3 rfl (by decide) (by decide) [(3, .int (u3 + 1)), (1, .int v7), (0, .ref (ω.1 + k0)), (2, .int w2)] rfl ?_
          refine J_goto (pc := 58) K 14 dX2_payRound_58 (by decide) ?_
          refine J_lv [2, 1, 3, 0] [(0, .ref (ω.1 + k0)), (1, .int v7), (2, .int w2), (3, .int (u3 + 1))] rfl ?_
          exact ih v7 (u3 + 1) h6
def F_X2_payRound_4 (N : Nat) (k0 : Nat) (kt : Int32 → Mem → Option (Int32 × Mem)) : Nat → Int32 → Int32 → Mem → Option (Int32 × Mem)
  | 0, _, _, _ => none
  | n + 1, u1, u2, h =>
    (if (h k0 1) ≤ u2 then
      (kt u1 h)
    else
      (F_X2_payRound_14 N k0 u2 (fun (v8 : Int32) (h9 : Mem) =>
        (F_X2_payRound_4 N k0 kt n v8 (u2 + 1) h9)) N u1 (0 : Int32) h))
set_option maxRecDepth 10000 in
set_option maxHeartbeats 1000000 in
theorem okL_X2_payRound_4 {l : Launch} {ω : WX} {χ : KT} {d : Nat} (K : Kok ω χ "SaltClouds$Sky" cX2_payRound 4 (some .int) d) (hd : 5 ≤ d) (N : Nat) {k0 : Nat} (hk0 : lay k0 = 2) {kt : Int32 → Mem → Option (Int32 × Mem)} (hK : ∀ (u1 : Int32) (h : Mem), J (ZM rvI ω χ) l ω χ 67 4 [(1, .int u1)] [] h (kt u1 h)) : ∀ (n : Nat) (u1 : Int32) (u2 : Int32) (h : Mem), J (ZM rvI ω χ) l ω χ 4 4 [(0, .ref (ω.1 + k0)), (1, .int u1), (2, .int u2)] [] h (F_X2_payRound_4 N k0 kt n u1 u2 h) := by
  intro n
  induction n with
  | zero =>
    intro u1 u2 h
    exact J_none rfl
  | succ n ih =>
    intro u1 u2 h
    rw [F_X2_payRound_4]
    refine J_iload_n (pc := 4) K dX2_payRound_4 2 rfl 2 rfl ?_
    refine J_aload_n (pc := 5) K dX2_payRound_5 0 rfl 0 rfl ?_
    refine J_getI (pc := 6) K gf_SaltClouds_Sky_17 hk0 rfl dX2_payRound_6 ?_
    refine J_icmp_ge (pc := 9) K 67 dX2_payRound_9 (by decide) ?_ ?_
    · refine J_lv [1] [(1, .int u1)] rfl ?_
      exact hK u1 h
    · refine J_iconst (pc := 12) K (0) dX2_payRound_12 (by decide) ?_
      refine J_istore_n (pc := 13) K dX2_payRound_13 3 rfl (by decide) [(3, .int (0 : Int32)), (0, .ref (ω.1 + k0)), (1, .int u1), (2, .int u2)] rfl ?_
      refine J_lv [1, 2, 3, 0] [(0, .ref (ω.1 + k0)), (1, .int u1), (2, .int u2), (3, .int (0 : Int32))] rfl ?_
      refine okL_X2_payRound_14 K  (by omega) N hk0 (fun v8 h9 => ?_) _ _ _ _
      refine J_iinc (pc := 61) K (1) dX2_payRound_61 2 rfl (by decide) (by decide) [(2, .int (u2 + 1)), (0, .ref (ω.1 + k0)), (1, .int v8)] rfl ?_
      refine J_goto (pc := 64) K 4 dX2_payRound_64 (by decide) ?_
      refine J_lv [1, 2, 0] [(0, .ref (ω.1 + k0)), (1, .int v8), (2, .int (u2 + 1))] rfl ?_
      exact ih v8 (u2 + 1) h9
def F_X2_payRound (N : Nat) (k0 : Nat) (h : Mem) : Option (Int32 × Mem) :=
  (F_X2_payRound_4 N k0 (fun (v10 : Int32) (h11 : Mem) =>
    (some (v10, h11))) N (0 : Int32) (0 : Int32) h)
set_option maxRecDepth 10000 in
set_option maxHeartbeats 1000000 in
theorem ok_X2_payRound (l : Launch) (ω : WX) (N : Nat) {k0 : Nat} (hk0 : lay k0 = 2) (h : Mem) : MC rvI l ω yX2_payRound cX2_payRound 4 (some .int) 5 [.ref (ω.1 + k0)] h (F_X2_payRound N k0 h) := by
  refine MC.of (by decide +kernel) [(0, .ref (ω.1 + k0))] rfl (Nat.le_of_ble_eq_true rfl) (fun χ K => ?_)
  have K : Kok ω χ "SaltClouds$Sky" cX2_payRound 4 (some .int) 5 := K
  unfold F_X2_payRound
  refine J_iconst (pc := 0) K (0) dX2_payRound_0 (by decide) ?_
  refine J_istore_n (pc := 1) K dX2_payRound_1 1 rfl (by decide) [(1, .int (0 : Int32)), (0, .ref (ω.1 + k0))] rfl ?_
  refine J_iconst (pc := 2) K (0) dX2_payRound_2 (by decide) ?_
  refine J_istore_n (pc := 3) K dX2_payRound_3 2 rfl (by decide) [(2, .int (0 : Int32)), (1, .int (0 : Int32)), (0, .ref (ω.1 + k0))] rfl ?_
  refine J_lv [2, 1, 0] [(0, .ref (ω.1 + k0)), (1, .int (0 : Int32)), (2, .int (0 : Int32))] rfl ?_
  refine okL_X2_payRound_4 K  (by decide) N hk0 (fun v10 h11 => ?_) _ _ _ _
  refine J_iload_n (pc := 67) K dX2_payRound_67 1 rfl 0 rfl ?_
  exact J_iret (pc := 68) K dX2_payRound_68
def F_X6_pay (N : Nat) (k0 : Nat) (h : Mem) : Option (Int32 × Mem) :=
  (bnd (F_X2_payRound N (k0 + 1) h) (fun r1 h2 =>
  (some (r1, h2))))
set_option maxRecDepth 10000 in
set_option maxHeartbeats 1000000 in
theorem ok_X6_pay (l : Launch) (ω : WX) (N : Nat) {k0 : Nat} (hk0 : lay k0 = 6) (h : Mem) : MC rvI l ω yX6_pay cX6_pay 1 (some .int) 6 [.ref (ω.1 + k0)] h (F_X6_pay N k0 h) := by
  refine MC.of (by decide +kernel) [(0, .ref (ω.1 + k0))] rfl (Nat.le_of_ble_eq_true rfl) (fun χ K => ?_)
  have K : Kok ω χ "SaltClouds" cX6_pay 1 (some .int) 6 := K
  unfold F_X6_pay
  refine J_aload_n (pc := 0) K dX6_pay_0 0 rfl 0 rfl ?_
  refine J_getR (pc := 1) K gf_SaltClouds_12 hk0 1 rfl dX6_pay_1 ?_
  refine J_callVI (As := []) (rest := []) (pc := 4) K cs_SaltClouds_182 (ok_X2_payRound l ω N (ty_6_1 hk0) h) (ty_6_1 hk0) (by decide) rfl rfl (Nat.le_of_ble_eq_true rfl) dX6_pay_4 (fun r1 h2 => ?_)
  exact J_iret (pc := 7) K dX6_pay_7
def F_X6_nobodyBy_28 (N : Nat) (k0 : Nat) (w1 : Int32) (kt : Mem → Option (Int32 × Mem)) : Nat → Int32 → Mem → Option (Int32 × Mem)
  | 0, _, _ => none
  | n + 1, u2, h =>
    (if (200 : Int32) < u2 then
      (kt h)
    else
      (bnd (F_X2_isNobody N (k0 + 57) w1 h) (fun r7 h8 =>
      (if r7 = 0 then
        (bnd (F_X2_passHours N (k0 + 57) (1 : Int32) h8) (fun _ h10 =>
        (F_X6_nobodyBy_28 N k0 w1 kt n (u2 + 1) h10)))
      else
        (some (u2, h8))))))
set_option maxRecDepth 10000 in
set_option maxHeartbeats 1000000 in
theorem okL_X6_nobodyBy_28 {l : Launch} {ω : WX} {χ : KT} {d : Nat} (K : Kok ω χ "SaltClouds" cX6_nobodyBy 3 (some .int) d) (hd : 7 ≤ d) (N : Nat) {k0 : Nat} (hk0 : lay k0 = 6) {w1 : Int32} {kt : Mem → Option (Int32 × Mem)} (hK : ∀ (h : Mem), J (ZM rvI ω χ) l ω χ 62 3 [(0, .ref (ω.1 + k0))] [] h (kt h)) : ∀ (n : Nat) (u2 : Int32) (h : Mem), J (ZM rvI ω χ) l ω χ 28 3 [(0, .ref (ω.1 + k0)), (1, .int w1), (2, .int u2)] [] h (F_X6_nobodyBy_28 N k0 w1 kt n u2 h) := by
  intro n
  induction n with
  | zero =>
    intro u2 h
    exact J_none rfl
  | succ n ih =>
    intro u2 h
    rw [F_X6_nobodyBy_28]
    refine J_iload_n (pc := 28) K dX6_nobodyBy_28 2 rfl 2 rfl ?_
    refine J_sipush (pc := 29) K (200) dX6_nobodyBy_29 (by decide) ?_
    refine J_icmp_gt (pc := 32) K 62 dX6_nobodyBy_32 (by decide) ?_ ?_
    · refine J_lv [0] [(0, .ref (ω.1 + k0))] rfl ?_
      exact hK h
    · refine J_aload_n (pc := 35) K dX6_nobodyBy_35 0 rfl 0 rfl ?_
      refine J_getR (pc := 36) K gf_SaltClouds_19 hk0 57 rfl dX6_nobodyBy_36 ?_
      refine J_iload_n (pc := 39) K dX6_nobodyBy_39 1 rfl 1 rfl ?_
      refine J_callVI (As := [.int w1]) (rest := []) (pc := 40) K cs_SaltClouds_185 (ok_X2_isNobody l ω N (ty_6_57 hk0) w1 h) (ty_6_57 hk0) (by omega) rfl rfl (Nat.le_of_ble_eq_true rfl) dX6_nobodyBy_40 (fun r7 h8 => ?_)
      refine J_if_eq (pc := 43) K 48 dX6_nobodyBy_43 (by decide) ?_ ?_
      · refine J_aload_n (pc := 48) K dX6_nobodyBy_48 0 rfl 0 rfl ?_
        refine J_getR (pc := 49) K gf_SaltClouds_19 hk0 57 rfl dX6_nobodyBy_49 ?_
        refine J_iconst (pc := 52) K (1) dX6_nobodyBy_52 (by decide) ?_
        refine J_callVU (As := [.int (1 : Int32)]) (rest := []) (pc := 53) K cs_SaltClouds_166 (ok_X2_passHours l ω N (ty_6_57 hk0) (1 : Int32) h8) (ty_6_57 hk0) (by omega) rfl rfl (Nat.le_of_ble_eq_true rfl) dX6_nobodyBy_53 (fun _ h10 => ?_)
        refine J_iinc (pc := 56) K (1) dX6_nobodyBy_56 2 rfl (by decide) (by decide) [(2, .int (u2 + 1)), (0, .ref (ω.1 + k0)), (1, .int w1)] rfl ?_
        refine J_goto (pc := 59) K 28 dX6_nobodyBy_59 (by decide) ?_
        refine J_lv [1, 2, 0] [(0, .ref (ω.1 + k0)), (1, .int w1), (2, .int (u2 + 1))] rfl ?_
        exact ih (u2 + 1) h10
      · refine J_iload_n (pc := 46) K dX6_nobodyBy_46 2 rfl 2 rfl ?_
        exact J_iret (pc := 47) K dX6_nobodyBy_47
def F_X6_nobodyBy (N : Nat) (k0 : Nat) (x1 : Int32) (h : Mem) : Option (Int32 × Mem) :=
  (bnd (F_X6_hasCloud k0 x1 h) (fun r1 h2 =>
  (if r1 = 0 then
    (bnd (F_X6_refuse k0 (-1000000001 : Int32) h2) (fun r3 h4 =>
    (some (r3, h4))))
  else
    (bnd (F_X2_takeFrom N (k0 + 57) (k0 + 1) h2) (fun _ h6 =>
    (F_X6_nobodyBy_28 N k0 x1 (fun (h11 : Mem) =>
      (bnd (F_X6_refuse k0 (-1000000002 : Int32) h11) (fun r12 h13 =>
      (some (r12, h13))))) N (0 : Int32) h6))))))
set_option maxRecDepth 10000 in
set_option maxHeartbeats 1000000 in
theorem ok_X6_nobodyBy (l : Launch) (ω : WX) (N : Nat) {k0 : Nat} (hk0 : lay k0 = 6) (x1 : Int32) (h : Mem) : MC rvI l ω yX6_nobodyBy cX6_nobodyBy 3 (some .int) 7 [.ref (ω.1 + k0), .int x1] h (F_X6_nobodyBy N k0 x1 h) := by
  refine MC.of (by decide +kernel) [(0, .ref (ω.1 + k0)), (1, .int x1)] rfl (Nat.le_of_ble_eq_true rfl) (fun χ K => ?_)
  have K : Kok ω χ "SaltClouds" cX6_nobodyBy 3 (some .int) 7 := K
  unfold F_X6_nobodyBy
  refine J_aload_n (pc := 0) K dX6_nobodyBy_0 0 rfl 0 rfl ?_
  refine J_iload_n (pc := 1) K dX6_nobodyBy_1 1 rfl 1 rfl ?_
  refine J_callVI (As := [.int x1]) (rest := []) (pc := 2) K cs_SaltClouds_72 (ok_X6_hasCloud l ω hk0 x1 h) hk0 (by decide) rfl rfl (Nat.le_of_ble_eq_true rfl) dX6_nobodyBy_2 (fun r1 h2 => ?_)
  refine J_if_ne (pc := 5) K 15 dX6_nobodyBy_5 (by decide) ?_ ?_
  · refine J_aload_n (pc := 8) K dX6_nobodyBy_8 0 rfl 0 rfl ?_
    refine J_ldc (pc := 9) K kc_SaltClouds_59 dX6_nobodyBy_9 ?_
    refine J_callVI (As := [.int (-1000000001 : Int32)]) (rest := []) (pc := 11) K cs_SaltClouds_60 (ok_X6_refuse l ω hk0 (-1000000001 : Int32) h2) hk0 (by decide) rfl rfl (Nat.le_of_ble_eq_true rfl) dX6_nobodyBy_11 (fun r3 h4 => ?_)
    exact J_iret (pc := 14) K dX6_nobodyBy_14
  · refine J_aload_n (pc := 15) K dX6_nobodyBy_15 0 rfl 0 rfl ?_
    refine J_getR (pc := 16) K gf_SaltClouds_19 hk0 57 rfl dX6_nobodyBy_16 ?_
    refine J_aload_n (pc := 19) K dX6_nobodyBy_19 0 rfl 0 rfl ?_
    refine J_getR (pc := 20) K gf_SaltClouds_12 hk0 1 rfl dX6_nobodyBy_20 ?_
    refine J_callVU (As := [.ref (ω.1 + (k0 + 1))]) (rest := []) (pc := 23) K cs_SaltClouds_179 (ok_X2_takeFrom l ω N (ty_6_57 hk0) (ty_6_1 hk0) h2) (ty_6_57 hk0) (by decide) rfl rfl (Nat.le_of_ble_eq_true rfl) dX6_nobodyBy_23 (fun _ h6 => ?_)
    refine J_iconst (pc := 26) K (0) dX6_nobodyBy_26 (by decide) ?_
    refine J_istore_n (pc := 27) K dX6_nobodyBy_27 2 rfl (by decide) [(2, .int (0 : Int32)), (0, .ref (ω.1 + k0)), (1, .int x1)] rfl ?_
    refine J_lv [1, 2, 0] [(0, .ref (ω.1 + k0)), (1, .int x1), (2, .int (0 : Int32))] rfl ?_
    refine okL_X6_nobodyBy_28 K  (by decide) N hk0 (fun h11 => ?_) _ _ _
    refine J_aload_n (pc := 62) K dX6_nobodyBy_62 0 rfl 0 rfl ?_
    refine J_ldc (pc := 63) K kc_SaltClouds_188 dX6_nobodyBy_63 ?_
    refine J_callVI (As := [.int (-1000000002 : Int32)]) (rest := []) (pc := 65) K cs_SaltClouds_60 (ok_X6_refuse l ω hk0 (-1000000002 : Int32) h11) hk0 (by decide) rfl rfl (Nat.le_of_ble_eq_true rfl) dX6_nobodyBy_65 (fun r12 h13 => ?_)
    exact J_iret (pc := 68) K dX6_nobodyBy_68
def F_X2_leastNobodyThere_2 (N : Nat) (k0 : Nat) (kt : Mem → Option (Int32 × Mem)) : Nat → Int32 → Mem → Option (Int32 × Mem)
  | 0, _, _ => none
  | n + 1, u1, h =>
    (if (h k0 1) ≤ u1 then
      (kt h)
    else
      (gin u1 8
      (if (h ((k0 + 1) + 11 + 2 * ix u1) 4) = 0 then
        (F_X2_leastNobodyThere_2 N k0 kt n (u1 + 1) h)
      else
        (bnd (F_X2_isNobody N k0 u1 h) (fun r2 h3 =>
        (if r2 = 0 then
          (F_X2_leastNobodyThere_2 N k0 kt n (u1 + 1) h3)
        else
          (some (u1, h3))))))))
set_option maxRecDepth 10000 in
set_option maxHeartbeats 1000000 in
theorem okL_X2_leastNobodyThere_2 {l : Launch} {ω : WX} {χ : KT} {d : Nat} (K : Kok ω χ "SaltClouds$Sky" cX2_leastNobodyThere 2 (some .int) d) (hd : 5 ≤ d) (N : Nat) {k0 : Nat} (hk0 : lay k0 = 2) {kt : Mem → Option (Int32 × Mem)} (hK : ∀ (h : Mem), J (ZM rvI ω χ) l ω χ 38 2 [] [] h (kt h)) : ∀ (n : Nat) (u1 : Int32) (h : Mem), J (ZM rvI ω χ) l ω χ 2 2 [(0, .ref (ω.1 + k0)), (1, .int u1)] [] h (F_X2_leastNobodyThere_2 N k0 kt n u1 h) := by
  intro n
  induction n with
  | zero =>
    intro u1 h
    exact J_none rfl
  | succ n ih =>
    intro u1 h
    rw [F_X2_leastNobodyThere_2]
    refine J_iload_n (pc := 2) K dX2_leastNobodyThere_2 1 rfl 1 rfl ?_
    refine J_aload_n (pc := 3) K dX2_leastNobodyThere_3 0 rfl 0 rfl ?_
    refine J_getI (pc := 4) K gf_SaltClouds_Sky_17 hk0 rfl dX2_leastNobodyThere_4 ?_
    refine J_icmp_ge (pc := 7) K 38 dX2_leastNobodyThere_7 (by decide) ?_ ?_
    · refine J_lv [] [] rfl ?_
      exact hK h
    · refine J_aload_n (pc := 10) K dX2_leastNobodyThere_10 0 rfl 0 rfl ?_
      refine J_getR (pc := 11) K gf_SaltClouds_Sky_11 hk0 1 rfl dX2_leastNobodyThere_11 ?_
      refine J_iload_n (pc := 14) K dX2_leastNobodyThere_14 1 rfl 1 rfl ?_
      refine J_aldC (pc := 15) K (a := k0 + 1) (ty_2_1 hk0) dX2_leastNobodyThere_15 (fun b1 => ?_)
      refine J_getI (pc := 16) K gf_SaltClouds_Sky_93 (ty_8e (ty_2_1 hk0) b1) rfl dX2_leastNobodyThere_16 ?_
      refine J_if_eq (pc := 19) K 32 dX2_leastNobodyThere_19 (by decide) ?_ ?_
      · refine J_iinc (pc := 32) K (1) dX2_leastNobodyThere_32 1 rfl (by decide) (by decide) [(1, .int (u1 + 1)), (0, .ref (ω.1 + k0))] rfl ?_
        refine J_goto (pc := 35) K 2 dX2_leastNobodyThere_35 (by decide) ?_
        refine J_lv [1, 0] [(0, .ref (ω.1 + k0)), (1, .int (u1 + 1))] rfl ?_
        exact ih (u1 + 1) h
      · refine J_aload_n (pc := 22) K dX2_leastNobodyThere_22 0 rfl 0 rfl ?_
        refine J_iload_n (pc := 23) K dX2_leastNobodyThere_23 1 rfl 1 rfl ?_
        refine J_callVI (As := [.int u1]) (rest := []) (pc := 24) K cs_SaltClouds_Sky_162 (ok_X2_isNobody l ω N hk0 u1 h) hk0 (by omega) rfl rfl (Nat.le_of_ble_eq_true rfl) dX2_leastNobodyThere_24 (fun r2 h3 => ?_)
        refine J_if_eq (pc := 27) K 32 dX2_leastNobodyThere_27 (by decide) ?_ ?_
        · refine J_iinc (pc := 32) K (1) dX2_leastNobodyThere_32 1 rfl (by decide) (by decide) [(1, .int (u1 + 1)), (0, .ref (ω.1 + k0))] rfl ?_
          refine J_goto (pc := 35) K 2 dX2_leastNobodyThere_35 (by decide) ?_
          refine J_lv [1, 0] [(0, .ref (ω.1 + k0)), (1, .int (u1 + 1))] rfl ?_
          exact ih (u1 + 1) h3
        · refine J_iload_n (pc := 30) K dX2_leastNobodyThere_30 1 rfl 1 rfl ?_
          exact J_iret (pc := 31) K dX2_leastNobodyThere_31
def F_X2_leastNobodyThere (N : Nat) (k0 : Nat) (h : Mem) : Option (Int32 × Mem) :=
  (F_X2_leastNobodyThere_2 N k0 (fun (h4 : Mem) =>
    (some ((-1 : Int32), h4))) N (0 : Int32) h)
set_option maxRecDepth 10000 in
set_option maxHeartbeats 1000000 in
theorem ok_X2_leastNobodyThere (l : Launch) (ω : WX) (N : Nat) {k0 : Nat} (hk0 : lay k0 = 2) (h : Mem) : MC rvI l ω yX2_leastNobodyThere cX2_leastNobodyThere 2 (some .int) 5 [.ref (ω.1 + k0)] h (F_X2_leastNobodyThere N k0 h) := by
  refine MC.of (by decide +kernel) [(0, .ref (ω.1 + k0))] rfl (Nat.le_of_ble_eq_true rfl) (fun χ K => ?_)
  have K : Kok ω χ "SaltClouds$Sky" cX2_leastNobodyThere 2 (some .int) 5 := K
  unfold F_X2_leastNobodyThere
  refine J_iconst (pc := 0) K (0) dX2_leastNobodyThere_0 (by decide) ?_
  refine J_istore_n (pc := 1) K dX2_leastNobodyThere_1 1 rfl (by decide) [(1, .int (0 : Int32)), (0, .ref (ω.1 + k0))] rfl ?_
  refine J_lv [1, 0] [(0, .ref (ω.1 + k0)), (1, .int (0 : Int32))] rfl ?_
  refine okL_X2_leastNobodyThere_2 K  (by decide) N hk0 (fun h4 => ?_) _ _ _
  refine J_iconst (pc := 38) K (-1) dX2_leastNobodyThere_38 (by decide) ?_
  exact J_iret (pc := 39) K dX2_leastNobodyThere_39
