/-! methods, by program: X6_first, X2_setOfAll, J6_bitCount_0f7a4, X2_totalOf, X2_tasteOf, X2_fewestOfTaste, X6_comes, X6_stays, X6_meets, X6_isSheet, X1_isMissing, X2_hasTotals, X2_setsOfTotals, X6_storm, X6_paid, X0_minutesToBelow, X0_firstSaltBelow, X6_sun, X0_leastWind, X6_winds, X6_seed, X5_bodyOf -/
def F_X6_first_13 (N : Nat) (k0 : Nat) (kt : Mem → Option (Int32 × Mem)) : Nat → Int32 → Mem → Option (Int32 × Mem)
  | 0, _, _ => none
  | n + 1, u1, h =>
    (if (200 : Int32) < u1 then
      (kt h)
    else
      (bnd (F_X2_leastNobodyThere N (k0 + 57) h) (fun r3 h4 =>
      (if r3 < 0 then
        (bnd (F_X2_passHours N (k0 + 57) (1 : Int32) h4) (fun _ h6 =>
        (F_X6_first_13 N k0 kt n (u1 + 1) h6)))
      else
        (some (r3, h4))))))
set_option maxRecDepth 10000 in
set_option maxHeartbeats 1000000 in
theorem okL_X6_first_13 {l : Launch} {ω : WX} {χ : KT} {d : Nat} (K : Kok ω χ "SaltClouds" cX6_first 3 (some .int) d) (hd : 7 ≤ d) (N : Nat) {k0 : Nat} (hk0 : lay k0 = 6) {kt : Mem → Option (Int32 × Mem)} (hK : ∀ (h : Mem), J (ZM rvI ω χ) l ω χ 48 3 [(0, .ref (ω.1 + k0))] [] h (kt h)) : ∀ (n : Nat) (u1 : Int32) (h : Mem), J (ZM rvI ω χ) l ω χ 13 3 [(0, .ref (ω.1 + k0)), (1, .int u1)] [] h (F_X6_first_13 N k0 kt n u1 h) := by
  intro n
  induction n with
  | zero =>
    intro u1 h
    exact J_none rfl
  | succ n ih =>
    intro u1 h
    rw [F_X6_first_13]
    refine J_iload_n (pc := 13) K dX6_first_13 1 rfl 1 rfl ?_
    refine J_sipush (pc := 14) K (200) dX6_first_14 (by decide) ?_
    refine J_icmp_gt (pc := 17) K 48 dX6_first_17 (by decide) ?_ ?_
    · refine J_lv [0] [(0, .ref (ω.1 + k0))] rfl ?_
      exact hK h
    · refine J_aload_n (pc := 20) K dX6_first_20 0 rfl 0 rfl ?_
      refine J_getR (pc := 21) K gf_SaltClouds_19 hk0 57 rfl dX6_first_21 ?_
      refine J_callVI (As := []) (rest := []) (pc := 24) K cs_SaltClouds_189 (ok_X2_leastNobodyThere l ω N (ty_6_57 hk0) h) (ty_6_57 hk0) (by omega) rfl rfl (Nat.le_of_ble_eq_true rfl) dX6_first_24 (fun r3 h4 => ?_)
      refine J_istore_n (pc := 27) K dX6_first_27 2 rfl (by decide) [(2, .int r3), (0, .ref (ω.1 + k0)), (1, .int u1)] rfl ?_
      refine J_iload_n (pc := 28) K dX6_first_28 2 rfl 0 rfl ?_
      refine J_if_lt (pc := 29) K 34 dX6_first_29 (by decide) ?_ ?_
      · refine J_aload_n (pc := 34) K dX6_first_34 0 rfl 1 rfl ?_
        refine J_getR (pc := 35) K gf_SaltClouds_19 hk0 57 rfl dX6_first_35 ?_
        refine J_iconst (pc := 38) K (1) dX6_first_38 (by decide) ?_
        refine J_callVU (As := [.int (1 : Int32)]) (rest := []) (pc := 39) K cs_SaltClouds_166 (ok_X2_passHours l ω N (ty_6_57 hk0) (1 : Int32) h4) (ty_6_57 hk0) (by omega) rfl rfl (Nat.le_of_ble_eq_true rfl) dX6_first_39 (fun _ h6 => ?_)
        refine J_iinc (pc := 42) K (1) dX6_first_42 2 rfl (by decide) (by decide) [(1, .int (u1 + 1)), (2, .int r3), (0, .ref (ω.1 + k0))] rfl ?_
        refine J_goto (pc := 45) K 13 dX6_first_45 (by decide) ?_
        refine J_lv [2, 0] [(0, .ref (ω.1 + k0)), (1, .int (u1 + 1))] rfl ?_
        exact ih (u1 + 1) h6
      · refine J_iload_n (pc := 32) K dX6_first_32 2 rfl 0 rfl ?_
        exact J_iret (pc := 33) K dX6_first_33
def F_X6_first (N : Nat) (k0 : Nat) (h : Mem) : Option (Int32 × Mem) :=
  (bnd (F_X2_takeFrom N (k0 + 57) (k0 + 1) h) (fun _ h2 =>
  (F_X6_first_13 N k0 (fun (h7 : Mem) =>
    (bnd (F_X6_refuse k0 (-1000000002 : Int32) h7) (fun r8 h9 =>
    (some (r8, h9))))) N (0 : Int32) h2)))
set_option maxRecDepth 10000 in
set_option maxHeartbeats 1000000 in
theorem ok_X6_first (l : Launch) (ω : WX) (N : Nat) {k0 : Nat} (hk0 : lay k0 = 6) (h : Mem) : MC rvI l ω yX6_first cX6_first 3 (some .int) 7 [.ref (ω.1 + k0)] h (F_X6_first N k0 h) := by
  refine MC.of (by decide +kernel) [(0, .ref (ω.1 + k0))] rfl (Nat.le_of_ble_eq_true rfl) (fun χ K => ?_)
  have K : Kok ω χ "SaltClouds" cX6_first 3 (some .int) 7 := K
  unfold F_X6_first
  refine J_aload_n (pc := 0) K dX6_first_0 0 rfl 0 rfl ?_
  refine J_getR (pc := 1) K gf_SaltClouds_19 hk0 57 rfl dX6_first_1 ?_
  refine J_aload_n (pc := 4) K dX6_first_4 0 rfl 0 rfl ?_
  refine J_getR (pc := 5) K gf_SaltClouds_12 hk0 1 rfl dX6_first_5 ?_
  refine J_callVU (As := [.ref (ω.1 + (k0 + 1))]) (rest := []) (pc := 8) K cs_SaltClouds_179 (ok_X2_takeFrom l ω N (ty_6_57 hk0) (ty_6_1 hk0) h) (ty_6_57 hk0) (by decide) rfl rfl (Nat.le_of_ble_eq_true rfl) dX6_first_8 (fun _ h2 => ?_)
  refine J_iconst (pc := 11) K (0) dX6_first_11 (by decide) ?_
  refine J_istore_n (pc := 12) K dX6_first_12 1 rfl (by decide) [(1, .int (0 : Int32)), (0, .ref (ω.1 + k0))] rfl ?_
  refine J_lv [1, 0] [(0, .ref (ω.1 + k0)), (1, .int (0 : Int32))] rfl ?_
  refine okL_X6_first_13 K  (by decide) N hk0 (fun h7 => ?_) _ _ _
  refine J_aload_n (pc := 48) K dX6_first_48 0 rfl 0 rfl ?_
  refine J_ldc (pc := 49) K kc_SaltClouds_188 dX6_first_49 ?_
  refine J_callVI (As := [.int (-1000000002 : Int32)]) (rest := []) (pc := 51) K cs_SaltClouds_60 (ok_X6_refuse l ω hk0 (-1000000002 : Int32) h7) hk0 (by decide) rfl rfl (Nat.le_of_ble_eq_true rfl) dX6_first_51 (fun r8 h9 => ?_)
  exact J_iret (pc := 54) K dX6_first_54
def F_X2_setOfAll_4 (N : Nat) (k0 : Nat) (kt : Int32 → Mem → Option (Int32 × Mem)) : Nat → Int32 → Int32 → Mem → Option (Int32 × Mem)
  | 0, _, _, _ => none
  | n + 1, u1, u2, h =>
    (if (h k0 1) ≤ u2 then
      (kt u1 h)
    else
      (gin u2 8
      (if (h ((k0 + 1) + 11 + 2 * ix u2) 4) = 0 then
        (F_X2_setOfAll_4 N k0 kt n u1 (u2 + 1) h)
      else
        (seqi (u1 ||| ((1 : Int32) <<< (u2 &&& 31))) (fun v2 =>
        (F_X2_setOfAll_4 N k0 kt n v2 (u2 + 1) h))))))
set_option maxRecDepth 10000 in
set_option maxHeartbeats 1000000 in
theorem okL_X2_setOfAll_4 {l : Launch} {ω : WX} {χ : KT} {d : Nat} (K : Kok ω χ "SaltClouds$Sky" cX2_setOfAll 3 (some .int) d) (hd : 0 ≤ d) (N : Nat) {k0 : Nat} (hk0 : lay k0 = 2) {kt : Int32 → Mem → Option (Int32 × Mem)} (hK : ∀ (u1 : Int32) (h : Mem), J (ZM rvI ω χ) l ω χ 36 3 [(1, .int u1)] [] h (kt u1 h)) : ∀ (n : Nat) (u1 : Int32) (u2 : Int32) (h : Mem), J (ZM rvI ω χ) l ω χ 4 3 [(0, .ref (ω.1 + k0)), (1, .int u1), (2, .int u2)] [] h (F_X2_setOfAll_4 N k0 kt n u1 u2 h) := by
  intro n
  induction n with
  | zero =>
    intro u1 u2 h
    exact J_none rfl
  | succ n ih =>
    intro u1 u2 h
    rw [F_X2_setOfAll_4]
    refine J_iload_n (pc := 4) K dX2_setOfAll_4 2 rfl 2 rfl ?_
    refine J_aload_n (pc := 5) K dX2_setOfAll_5 0 rfl 0 rfl ?_
    refine J_getI (pc := 6) K gf_SaltClouds_Sky_17 hk0 rfl dX2_setOfAll_6 ?_
    refine J_icmp_ge (pc := 9) K 36 dX2_setOfAll_9 (by decide) ?_ ?_
    · refine J_lv [1] [(1, .int u1)] rfl ?_
      exact hK u1 h
    · refine J_aload_n (pc := 12) K dX2_setOfAll_12 0 rfl 0 rfl ?_
      refine J_getR (pc := 13) K gf_SaltClouds_Sky_11 hk0 1 rfl dX2_setOfAll_13 ?_
      refine J_iload_n (pc := 16) K dX2_setOfAll_16 2 rfl 2 rfl ?_
      refine J_aldC (pc := 17) K (a := k0 + 1) (ty_2_1 hk0) dX2_setOfAll_17 (fun b1 => ?_)
      refine J_getI (pc := 18) K gf_SaltClouds_Sky_93 (ty_8e (ty_2_1 hk0) b1) rfl dX2_setOfAll_18 ?_
      refine J_if_eq (pc := 21) K 30 dX2_setOfAll_21 (by decide) ?_ ?_
      · refine J_iinc (pc := 30) K (1) dX2_setOfAll_30 2 rfl (by decide) (by decide) [(2, .int (u2 + 1)), (0, .ref (ω.1 + k0)), (1, .int u1)] rfl ?_
        refine J_goto (pc := 33) K 4 dX2_setOfAll_33 (by decide) ?_
        refine J_lv [1, 2, 0] [(0, .ref (ω.1 + k0)), (1, .int u1), (2, .int (u2 + 1))] rfl ?_
        exact ih u1 (u2 + 1) h
      · refine J_iload_n (pc := 24) K dX2_setOfAll_24 1 rfl 1 rfl ?_
        refine J_iconst (pc := 25) K (1) dX2_setOfAll_25 (by decide) ?_
        refine J_iload_n (pc := 26) K dX2_setOfAll_26 2 rfl 2 rfl ?_
        refine J_ishl (pc := 27) K dX2_setOfAll_27 ?_
        refine J_ior (pc := 28) K dX2_setOfAll_28 ?_
        refine J_topi (fun v2 => ?_)
        refine J_istore_n (pc := 29) K dX2_setOfAll_29 1 rfl (by decide) [(1, .int v2), (0, .ref (ω.1 + k0)), (2, .int u2)] rfl ?_
        refine J_iinc (pc := 30) K (1) dX2_setOfAll_30 2 rfl (by decide) (by decide) [(2, .int (u2 + 1)), (1, .int v2), (0, .ref (ω.1 + k0))] rfl ?_
        refine J_goto (pc := 33) K 4 dX2_setOfAll_33 (by decide) ?_
        refine J_lv [2, 1, 0] [(0, .ref (ω.1 + k0)), (1, .int v2), (2, .int (u2 + 1))] rfl ?_
        exact ih v2 (u2 + 1) h
def F_X2_setOfAll (N : Nat) (k0 : Nat) (h : Mem) : Option (Int32 × Mem) :=
  (F_X2_setOfAll_4 N k0 (fun (v3 : Int32) (h4 : Mem) =>
    (some (v3, h4))) N (0 : Int32) (0 : Int32) h)
set_option maxRecDepth 10000 in
set_option maxHeartbeats 1000000 in
theorem ok_X2_setOfAll (l : Launch) (ω : WX) (N : Nat) {k0 : Nat} (hk0 : lay k0 = 2) (h : Mem) : MC rvI l ω yX2_setOfAll cX2_setOfAll 3 (some .int) 0 [.ref (ω.1 + k0)] h (F_X2_setOfAll N k0 h) := by
  refine MC.of (by decide +kernel) [(0, .ref (ω.1 + k0))] rfl (Nat.le_of_ble_eq_true rfl) (fun χ K => ?_)
  have K : Kok ω χ "SaltClouds$Sky" cX2_setOfAll 3 (some .int) 0 := K
  unfold F_X2_setOfAll
  refine J_iconst (pc := 0) K (0) dX2_setOfAll_0 (by decide) ?_
  refine J_istore_n (pc := 1) K dX2_setOfAll_1 1 rfl (by decide) [(1, .int (0 : Int32)), (0, .ref (ω.1 + k0))] rfl ?_
  refine J_iconst (pc := 2) K (0) dX2_setOfAll_2 (by decide) ?_
  refine J_istore_n (pc := 3) K dX2_setOfAll_3 2 rfl (by decide) [(2, .int (0 : Int32)), (1, .int (0 : Int32)), (0, .ref (ω.1 + k0))] rfl ?_
  refine J_lv [2, 1, 0] [(0, .ref (ω.1 + k0)), (1, .int (0 : Int32)), (2, .int (0 : Int32))] rfl ?_
  refine okL_X2_setOfAll_4 K  (by decide) N hk0 (fun v3 h4 => ?_) _ _ _ _
  refine J_iload_n (pc := 36) K dX2_setOfAll_36 1 rfl 0 rfl ?_
  exact J_iret (pc := 37) K dX2_setOfAll_37
def F_J6_bitCount_0f7a4 (x0 : Int32) (h : Mem) : Option (Int32 × Mem) :=
  (seqi (x0 - ((iush x0 (1 : Int32)) &&& (1431655765 : Int32))) (fun v1 =>
  (seqi ((v1 &&& (858993459 : Int32)) + ((iush v1 (2 : Int32)) &&& (858993459 : Int32))) (fun v2 =>
  (seqi ((v2 + (iush v2 (4 : Int32))) &&& (252645135 : Int32)) (fun v3 =>
  (seqi (v3 + (iush v3 (8 : Int32))) (fun v4 =>
  (seqi (v4 + (iush v4 (16 : Int32))) (fun v5 =>
  (some (v5 &&& (63 : Int32), h))))))))))))
set_option maxRecDepth 10000 in
set_option maxHeartbeats 1000000 in
theorem ok_J6_bitCount_0f7a4 (l : Launch) (ω : WX) (x0 : Int32) (h : Mem) : MC rvI l ω yJ6_bitCount_0f7a4 cJ6_bitCount_0f7a4 1 (some .int) 0 [.int x0] h (F_J6_bitCount_0f7a4 x0 h) := by
  refine MC.of (by decide +kernel) [(0, .int x0)] rfl (Nat.le_of_ble_eq_true rfl) (fun χ K => ?_)
  have K : Kok ω χ "java/lang/Integer" cJ6_bitCount_0f7a4 1 (some .int) 0 := K
  unfold F_J6_bitCount_0f7a4
  refine J_iload_n (pc := 0) K dJ6_bitCount_0f7a4_0 0 rfl 0 rfl ?_
  refine J_iload_n (pc := 1) K dJ6_bitCount_0f7a4_1 0 rfl 0 rfl ?_
  refine J_iconst (pc := 2) K (1) dJ6_bitCount_0f7a4_2 (by decide) ?_
  refine J_iushr (pc := 3) K dJ6_bitCount_0f7a4_3 ?_
  refine J_ldcw (pc := 4) K kc_java_lang_Integer_265 dJ6_bitCount_0f7a4_4 ?_
  refine J_iand (pc := 7) K dJ6_bitCount_0f7a4_7 ?_
  refine J_isub (pc := 8) K dJ6_bitCount_0f7a4_8 ?_
  refine J_topi (fun v1 => ?_)
  refine J_istore_n (pc := 9) K dJ6_bitCount_0f7a4_9 0 rfl (by decide) [(0, .int v1)] rfl ?_
  refine J_iload_n (pc := 10) K dJ6_bitCount_0f7a4_10 0 rfl 0 rfl ?_
  refine J_ldcw (pc := 11) K kc_java_lang_Integer_266 dJ6_bitCount_0f7a4_11 ?_
  refine J_iand (pc := 14) K dJ6_bitCount_0f7a4_14 ?_
  refine J_iload_n (pc := 15) K dJ6_bitCount_0f7a4_15 0 rfl 0 rfl ?_
  refine J_iconst (pc := 16) K (2) dJ6_bitCount_0f7a4_16 (by decide) ?_
  refine J_iushr (pc := 17) K dJ6_bitCount_0f7a4_17 ?_
  refine J_ldcw (pc := 18) K kc_java_lang_Integer_266 dJ6_bitCount_0f7a4_18 ?_
  refine J_iand (pc := 21) K dJ6_bitCount_0f7a4_21 ?_
  refine J_iadd (pc := 22) K dJ6_bitCount_0f7a4_22 ?_
  refine J_topi (fun v2 => ?_)
  refine J_istore_n (pc := 23) K dJ6_bitCount_0f7a4_23 0 rfl (by decide) [(0, .int v2)] rfl ?_
  refine J_iload_n (pc := 24) K dJ6_bitCount_0f7a4_24 0 rfl 0 rfl ?_
  refine J_iload_n (pc := 25) K dJ6_bitCount_0f7a4_25 0 rfl 0 rfl ?_
  refine J_iconst (pc := 26) K (4) dJ6_bitCount_0f7a4_26 (by decide) ?_
  refine J_iushr (pc := 27) K dJ6_bitCount_0f7a4_27 ?_
  refine J_iadd (pc := 28) K dJ6_bitCount_0f7a4_28 ?_
  refine J_ldcw (pc := 29) K kc_java_lang_Integer_267 dJ6_bitCount_0f7a4_29 ?_
  refine J_iand (pc := 32) K dJ6_bitCount_0f7a4_32 ?_
  refine J_topi (fun v3 => ?_)
  refine J_istore_n (pc := 33) K dJ6_bitCount_0f7a4_33 0 rfl (by decide) [(0, .int v3)] rfl ?_
  refine J_iload_n (pc := 34) K dJ6_bitCount_0f7a4_34 0 rfl 0 rfl ?_
  refine J_iload_n (pc := 35) K dJ6_bitCount_0f7a4_35 0 rfl 0 rfl ?_
  refine J_bipush (pc := 36) K (8) dJ6_bitCount_0f7a4_36 (by decide) ?_
  refine J_iushr (pc := 38) K dJ6_bitCount_0f7a4_38 ?_
  refine J_iadd (pc := 39) K dJ6_bitCount_0f7a4_39 ?_
  refine J_topi (fun v4 => ?_)
  refine J_istore_n (pc := 40) K dJ6_bitCount_0f7a4_40 0 rfl (by decide) [(0, .int v4)] rfl ?_
  refine J_iload_n (pc := 41) K dJ6_bitCount_0f7a4_41 0 rfl 0 rfl ?_
  refine J_iload_n (pc := 42) K dJ6_bitCount_0f7a4_42 0 rfl 0 rfl ?_
  refine J_bipush (pc := 43) K (16) dJ6_bitCount_0f7a4_43 (by decide) ?_
  refine J_iushr (pc := 45) K dJ6_bitCount_0f7a4_45 ?_
  refine J_iadd (pc := 46) K dJ6_bitCount_0f7a4_46 ?_
  refine J_topi (fun v5 => ?_)
  refine J_istore_n (pc := 47) K dJ6_bitCount_0f7a4_47 0 rfl (by decide) [(0, .int v5)] rfl ?_
  refine J_iload_n (pc := 48) K dJ6_bitCount_0f7a4_48 0 rfl 0 rfl ?_
  refine J_bipush (pc := 49) K (63) dJ6_bitCount_0f7a4_49 (by decide) ?_
  refine J_iand (pc := 51) K dJ6_bitCount_0f7a4_51 ?_
  exact J_iret (pc := 52) K dJ6_bitCount_0f7a4_52
def F_X2_totalOf_5 (N : Nat) (k0 : Nat) (w1 : Int32) (w2 : Int32) (kt : Int32 → Mem → Option (Int32 × Mem)) : Nat → Int32 → Int32 → Mem → Option (Int32 × Mem)
  | 0, _, _, _ => none
  | n + 1, u3, u4, h =>
    (if (h k0 1) ≤ u4 then
      (kt u3 h)
    else
      (if ((w1 >>> (u4 &&& 31)) &&& (1 : Int32)) = (1 : Int32) then
        (if w2 = 0 then
          (gin u4 8
          (seqi (u3 + (h ((k0 + 1) + 11 + 2 * ix u4) 3)) (fun v2 =>
          (F_X2_totalOf_5 N k0 w1 w2 kt n v2 (u4 + 1) h))))
        else
          (gin u4 8
          (bnd (F_X0_saltAt ((k0 + 1) + 11 + 2 * ix u4) (w2 - (1 : Int32)) h) (fun r4 h5 =>
          (seqi (u3 + r4) (fun v6 =>
          (F_X2_totalOf_5 N k0 w1 w2 kt n v6 (u4 + 1) h5)))))))
      else
        (F_X2_totalOf_5 N k0 w1 w2 kt n u3 (u4 + 1) h)))
set_option maxRecDepth 10000 in
set_option maxHeartbeats 1000000 in
theorem okL_X2_totalOf_5 {l : Launch} {ω : WX} {χ : KT} {d : Nat} (K : Kok ω χ "SaltClouds$Sky" cX2_totalOf 5 (some .int) d) (hd : 1 ≤ d) (N : Nat) {k0 : Nat} (hk0 : lay k0 = 2) {w1 : Int32} {w2 : Int32} {kt : Int32 → Mem → Option (Int32 × Mem)} (hK : ∀ (u3 : Int32) (h : Mem), J (ZM rvI ω χ) l ω χ 63 5 [(3, .int u3)] [] h (kt u3 h)) : ∀ (n : Nat) (u3 : Int32) (u4 : Int32) (h : Mem), J (ZM rvI ω χ) l ω χ 5 5 [(0, .ref (ω.1 + k0)), (1, .int w1), (2, .int w2), (3, .int u3), (4, .int u4)] [] h (F_X2_totalOf_5 N k0 w1 w2 kt n u3 u4 h) := by
  intro n
  induction n with
  | zero =>
    intro u3 u4 h
    exact J_none rfl
  | succ n ih =>
    intro u3 u4 h
    rw [F_X2_totalOf_5]
    refine J_iload (pc := 5) K dX2_totalOf_5 4 rfl ?_
    refine J_aload_n (pc := 7) K dX2_totalOf_7 0 rfl 0 rfl ?_
    refine J_getI (pc := 8) K gf_SaltClouds_Sky_17 hk0 rfl dX2_totalOf_8 ?_
    refine J_icmp_ge (pc := 11) K 63 dX2_totalOf_11 (by decide) ?_ ?_
    · refine J_lv [3] [(3, .int u3)] rfl ?_
      exact hK u3 h
    · refine J_iload_n (pc := 14) K dX2_totalOf_14 1 rfl 1 rfl ?_
      refine J_iload (pc := 15) K dX2_totalOf_15 4 rfl ?_
      refine J_ishr (pc := 17) K dX2_totalOf_17 ?_
      refine J_iconst (pc := 18) K (1) dX2_totalOf_18 (by decide) ?_
      refine J_iand (pc := 19) K dX2_totalOf_19 ?_
      refine J_iconst (pc := 20) K (1) dX2_totalOf_20 (by decide) ?_
      refine J_icmp_ne (pc := 21) K 57 dX2_totalOf_21 (by decide) ?_ ?_
      · refine J_iload_n (pc := 24) K dX2_totalOf_24 3 rfl 3 rfl ?_
        refine J_iload_n (pc := 25) K dX2_totalOf_25 2 rfl 2 rfl ?_
        refine J_if_ne (pc := 26) K 42 dX2_totalOf_26 (by decide) ?_ ?_
        · refine J_aload_n (pc := 29) K dX2_totalOf_29 0 rfl 0 rfl ?_
          refine J_getR (pc := 30) K gf_SaltClouds_Sky_11 hk0 1 rfl dX2_totalOf_30 ?_
          refine J_iload (pc := 33) K dX2_totalOf_33 4 rfl ?_
          refine J_aldC (pc := 35) K (a := k0 + 1) (ty_2_1 hk0) dX2_totalOf_35 (fun b1 => ?_)
          refine J_getI (pc := 36) K gf_SaltClouds_Sky_86 (ty_8e (ty_2_1 hk0) b1) rfl dX2_totalOf_36 ?_
          refine J_goto (pc := 39) K 55 dX2_totalOf_39 (by decide) ?_
          refine J_iadd (pc := 55) K dX2_totalOf_55 ?_
          refine J_topi (fun v2 => ?_)
          refine J_istore_n (pc := 56) K dX2_totalOf_56 3 rfl (by decide) [(3, .int v2), (0, .ref (ω.1 + k0)), (1, .int w1), (2, .int w2), (4, .int u4)] rfl ?_
          refine J_iinc (pc := 57) K (1) dX2_totalOf_57 4 rfl (by decide) (by decide) [(4, .int (u4 + 1)), (3, .int v2), (0, .ref (ω.1 + k0)), (1, .int w1), (2, .int w2)] rfl ?_
          refine J_goto (pc := 60) K 5 dX2_totalOf_60 (by decide) ?_
          refine J_lv [2, 3, 4, 1, 0] [(0, .ref (ω.1 + k0)), (1, .int w1), (2, .int w2), (3, .int v2), (4, .int (u4 + 1))] rfl ?_
          exact ih v2 (u4 + 1) h
        · refine J_aload_n (pc := 42) K dX2_totalOf_42 0 rfl 0 rfl ?_
          refine J_getR (pc := 43) K gf_SaltClouds_Sky_11 hk0 1 rfl dX2_totalOf_43 ?_
          refine J_iload (pc := 46) K dX2_totalOf_46 4 rfl ?_
          refine J_aldC (pc := 48) K (a := k0 + 1) (ty_2_1 hk0) dX2_totalOf_48 (fun b3 => ?_)
          refine J_iload_n (pc := 49) K dX2_totalOf_49 2 rfl 2 rfl ?_
          refine J_iconst (pc := 50) K (1) dX2_totalOf_50 (by decide) ?_
          refine J_isub (pc := 51) K dX2_totalOf_51 ?_
          refine J_callVI (As := [.int (w2 - (1 : Int32))]) (rest := [.int u3]) (pc := 52) K cs_SaltClouds_Sky_89 (ok_X0_saltAt l ω (ty_8e (ty_2_1 hk0) b3) (w2 - (1 : Int32)) h) (ty_8e (ty_2_1 hk0) b3) (by omega) rfl rfl (Nat.le_of_ble_eq_true rfl) dX2_totalOf_52 (fun r4 h5 => ?_)
          refine J_iadd (pc := 55) K dX2_totalOf_55 ?_
          refine J_topi (fun v6 => ?_)
          refine J_istore_n (pc := 56) K dX2_totalOf_56 3 rfl (by decide) [(3, .int v6), (0, .ref (ω.1 + k0)), (1, .int w1), (2, .int w2), (4, .int u4)] rfl ?_
          refine J_iinc (pc := 57) K (1) dX2_totalOf_57 4 rfl (by decide) (by decide) [(4, .int (u4 + 1)), (3, .int v6), (0, .ref (ω.1 + k0)), (1, .int w1), (2, .int w2)] rfl ?_
          refine J_goto (pc := 60) K 5 dX2_totalOf_60 (by decide) ?_
          refine J_lv [2, 3, 4, 1, 0] [(0, .ref (ω.1 + k0)), (1, .int w1), (2, .int w2), (3, .int v6), (4, .int (u4 + 1))] rfl ?_
          exact ih v6 (u4 + 1) h5
      · refine J_iinc (pc := 57) K (1) dX2_totalOf_57 4 rfl (by decide) (by decide) [(4, .int (u4 + 1)), (0, .ref (ω.1 + k0)), (1, .int w1), (2, .int w2), (3, .int u3)] rfl ?_
        refine J_goto (pc := 60) K 5 dX2_totalOf_60 (by decide) ?_
        refine J_lv [1, 2, 3, 4, 0] [(0, .ref (ω.1 + k0)), (1, .int w1), (2, .int w2), (3, .int u3), (4, .int (u4 + 1))] rfl ?_
        exact ih u3 (u4 + 1) h
def F_X2_totalOf (N : Nat) (k0 : Nat) (x1 : Int32) (x2 : Int32) (h : Mem) : Option (Int32 × Mem) :=
  (F_X2_totalOf_5 N k0 x1 x2 (fun (v7 : Int32) (h8 : Mem) =>
    (some (v7, h8))) N (0 : Int32) (0 : Int32) h)
set_option maxRecDepth 10000 in
set_option maxHeartbeats 1000000 in
theorem ok_X2_totalOf (l : Launch) (ω : WX) (N : Nat) {k0 : Nat} (hk0 : lay k0 = 2) (x1 : Int32) (x2 : Int32) (h : Mem) : MC rvI l ω yX2_totalOf cX2_totalOf 5 (some .int) 1 [.ref (ω.1 + k0), .int x1, .int x2] h (F_X2_totalOf N k0 x1 x2 h) := by
  refine MC.of (by decide +kernel) [(0, .ref (ω.1 + k0)), (1, .int x1), (2, .int x2)] rfl (Nat.le_of_ble_eq_true rfl) (fun χ K => ?_)
  have K : Kok ω χ "SaltClouds$Sky" cX2_totalOf 5 (some .int) 1 := K
  unfold F_X2_totalOf
  refine J_iconst (pc := 0) K (0) dX2_totalOf_0 (by decide) ?_
  refine J_istore_n (pc := 1) K dX2_totalOf_1 3 rfl (by decide) [(3, .int (0 : Int32)), (0, .ref (ω.1 + k0)), (1, .int x1), (2, .int x2)] rfl ?_
  refine J_iconst (pc := 2) K (0) dX2_totalOf_2 (by decide) ?_
  refine J_istore (pc := 3) K dX2_totalOf_3 (by decide) [(4, .int (0 : Int32)), (3, .int (0 : Int32)), (0, .ref (ω.1 + k0)), (1, .int x1), (2, .int x2)] rfl ?_
  refine J_lv [2, 3, 4, 1, 0] [(0, .ref (ω.1 + k0)), (1, .int x1), (2, .int x2), (3, .int (0 : Int32)), (4, .int (0 : Int32))] rfl ?_
  refine okL_X2_totalOf_5 K  (by decide) N hk0 (fun v7 h8 => ?_) _ _ _ _
  refine J_iload_n (pc := 63) K dX2_totalOf_63 3 rfl 0 rfl ?_
  exact J_iret (pc := 64) K dX2_totalOf_64
def F_X2_tasteOf (N : Nat) (k0 : Nat) (x1 : Int32) (h : Mem) : Option (Int32 × Mem) :=
  (bnd (F_X2_totalOf N k0 x1 (1 : Int32) h) (fun r1 h2 =>
  (bnd (F_X2_totalOf N k0 x1 (2 : Int32) h2) (fun r3 h4 =>
  (bnd (F_X2_totalOf N k0 x1 (3 : Int32) h4) (fun r5 h6 =>
  (seqi ((r1 + r3) + r5) (fun v7 =>
  (bnd (F_X2_totalOf N k0 x1 (0 : Int32) h6) (fun r8 h9 =>
  (bnd (F_X6_tasteBy v7 r8 h9) (fun r10 h11 =>
  (some (r10, h11))))))))))))))
set_option maxRecDepth 10000 in
set_option maxHeartbeats 1000000 in
theorem ok_X2_tasteOf (l : Launch) (ω : WX) (N : Nat) {k0 : Nat} (hk0 : lay k0 = 2) (x1 : Int32) (h : Mem) : MC rvI l ω yX2_tasteOf cX2_tasteOf 3 (some .int) 2 [.ref (ω.1 + k0), .int x1] h (F_X2_tasteOf N k0 x1 h) := by
  refine MC.of (by decide +kernel) [(0, .ref (ω.1 + k0)), (1, .int x1)] rfl (Nat.le_of_ble_eq_true rfl) (fun χ K => ?_)
  have K : Kok ω χ "SaltClouds$Sky" cX2_tasteOf 3 (some .int) 2 := K
  unfold F_X2_tasteOf
  refine J_aload_n (pc := 0) K dX2_tasteOf_0 0 rfl 0 rfl ?_
  refine J_iload_n (pc := 1) K dX2_tasteOf_1 1 rfl 1 rfl ?_
  refine J_iconst (pc := 2) K (1) dX2_tasteOf_2 (by decide) ?_
  refine J_callVI (As := [.int x1, .int (1 : Int32)]) (rest := []) (pc := 3) K cs_SaltClouds_Sky_176 (ok_X2_totalOf l ω N hk0 x1 (1 : Int32) h) hk0 (by decide) rfl rfl (Nat.le_of_ble_eq_true rfl) dX2_tasteOf_3 (fun r1 h2 => ?_)
  refine J_aload_n (pc := 6) K dX2_tasteOf_6 0 rfl 0 rfl ?_
  refine J_iload_n (pc := 7) K dX2_tasteOf_7 1 rfl 1 rfl ?_
  refine J_iconst (pc := 8) K (2) dX2_tasteOf_8 (by decide) ?_
  refine J_callVI (As := [.int x1, .int (2 : Int32)]) (rest := [.int r1]) (pc := 9) K cs_SaltClouds_Sky_176 (ok_X2_totalOf l ω N hk0 x1 (2 : Int32) h2) hk0 (by decide) rfl rfl (Nat.le_of_ble_eq_true rfl) dX2_tasteOf_9 (fun r3 h4 => ?_)
  refine J_iadd (pc := 12) K dX2_tasteOf_12 ?_
  refine J_aload_n (pc := 13) K dX2_tasteOf_13 0 rfl 0 rfl ?_
  refine J_iload_n (pc := 14) K dX2_tasteOf_14 1 rfl 1 rfl ?_
  refine J_iconst (pc := 15) K (3) dX2_tasteOf_15 (by decide) ?_
  refine J_callVI (As := [.int x1, .int (3 : Int32)]) (rest := [.int (r1 + r3)]) (pc := 16) K cs_SaltClouds_Sky_176 (ok_X2_totalOf l ω N hk0 x1 (3 : Int32) h4) hk0 (by decide) rfl rfl (Nat.le_of_ble_eq_true rfl) dX2_tasteOf_16 (fun r5 h6 => ?_)
  refine J_iadd (pc := 19) K dX2_tasteOf_19 ?_
  refine J_topi (fun v7 => ?_)
  refine J_istore_n (pc := 20) K dX2_tasteOf_20 2 rfl (by decide) [(2, .int v7), (0, .ref (ω.1 + k0)), (1, .int x1)] rfl ?_
  refine J_iload_n (pc := 21) K dX2_tasteOf_21 2 rfl 0 rfl ?_
  refine J_aload_n (pc := 22) K dX2_tasteOf_22 0 rfl 1 rfl ?_
  refine J_iload_n (pc := 23) K dX2_tasteOf_23 1 rfl 2 rfl ?_
  refine J_iconst (pc := 24) K (0) dX2_tasteOf_24 (by decide) ?_
  refine J_callVI (As := [.int x1, .int (0 : Int32)]) (rest := [.int v7]) (pc := 25) K cs_SaltClouds_Sky_176 (ok_X2_totalOf l ω N hk0 x1 (0 : Int32) h6) hk0 (by decide) rfl rfl (Nat.le_of_ble_eq_true rfl) dX2_tasteOf_25 (fun r8 h9 => ?_)
  refine J_callNI (As := [.int v7, .int r8]) (rest := []) (pc := 28) K cs_SaltClouds_Sky_179 (ok_X6_tasteBy l ω v7 r8 h9) (by decide) rfl rfl (Nat.le_of_ble_eq_true rfl) dX2_tasteOf_28 (fun r10 h11 => ?_)
  exact J_iret (pc := 31) K dX2_tasteOf_31
def F_X2_fewestOfTaste_10 (N : Nat) (k0 : Nat) (w1 : Int32) (w2 : Int32) (kt : Int32 → Mem → Option (Int32 × Mem)) : Nat → Int32 → Int32 → Mem → Option (Int32 × Mem)
  | 0, _, _, _ => none
  | n + 1, u3, u4, h =>
    (if w2 < u4 then
      (kt u3 h)
    else
      (jn (fun (v4 v5 s6 : Int32) (h7 : Mem) =>
        (if (v5 &&& (w2 ^^^ (-1 : Int32))) = 0 then
          (if s6 = 0 then
            (F_X2_fewestOfTaste_10 N k0 w1 w2 kt n v4 (v5 + 1) h7)
          else
            (bnd (F_X2_tasteOf N k0 v5 h7) (fun r8 h9 =>
            (if r8 = w1 then
              (F_X2_fewestOfTaste_10 N k0 w1 w2 kt n v5 (v5 + 1) h9)
            else
              (F_X2_fewestOfTaste_10 N k0 w1 w2 kt n v4 (v5 + 1) h9)))))
        else
          (F_X2_fewestOfTaste_10 N k0 w1 w2 kt n v4 (v5 + 1) h7))) (fun j3 =>
        (if u3 = 0 then
          (j3 u3 u4 (1 : Int32) h)
        else
          (bnd (F_J6_bitCount_0f7a4 u4 h) (fun r10 h11 =>
          (bnd (F_J6_bitCount_0f7a4 u3 h11) (fun r12 h13 =>
          (if r12 ≤ r10 then
            (j3 u3 u4 (0 : Int32) h13)
          else
            (j3 u3 u4 (1 : Int32) h13))))))))))
set_option maxRecDepth 10000 in
set_option maxHeartbeats 1000000 in
theorem okL_X2_fewestOfTaste_10 {l : Launch} {ω : WX} {χ : KT} {d : Nat} (K : Kok ω χ "SaltClouds$Sky" cX2_fewestOfTaste 6 (some .int) d) (hd : 3 ≤ d) (N : Nat) {k0 : Nat} (hk0 : lay k0 = 2) {w1 : Int32} {w2 : Int32} {kt : Int32 → Mem → Option (Int32 × Mem)} (hK : ∀ (u3 : Int32) (h : Mem), J (ZM rvI ω χ) l ω χ 72 6 [(3, .int u3)] [] h (kt u3 h)) : ∀ (n : Nat) (u3 : Int32) (u4 : Int32) (h : Mem), J (ZM rvI ω χ) l ω χ 10 6 [(0, .ref (ω.1 + k0)), (1, .int w1), (2, .int w2), (3, .int u3), (4, .int u4)] [] h (F_X2_fewestOfTaste_10 N k0 w1 w2 kt n u3 u4 h) := by
  intro n
  induction n with
  | zero =>
    intro u3 u4 h
    exact J_none rfl
  | succ n ih =>
    intro u3 u4 h
    rw [F_X2_fewestOfTaste_10]
    refine J_iload (pc := 10) K dX2_fewestOfTaste_10 4 rfl ?_
    refine J_iload_n (pc := 12) K dX2_fewestOfTaste_12 2 rfl 2 rfl ?_
    refine J_icmp_gt (pc := 13) K 72 dX2_fewestOfTaste_13 (by decide) ?_ ?_
    · refine J_lv [3] [(3, .int u3)] rfl ?_
      exact hK u3 h
    · refine J_iload_n (pc := 16) K dX2_fewestOfTaste_16 3 rfl 3 rfl ?_
      refine J_jn (fun j3 => ∀ (v4 v5 s6 : Int32) (h7 : Mem), J (ZM rvI ω χ) l ω χ 37 6 [(0, .ref (ω.1 + k0)), (1, .int w1), (2, .int w2), (3, .int v4), (4, .int v5)] [.int s6] h7 (j3 v4 v5 s6 h7)) ?_ ?_
      · intro v4 v5 s6 h7
        refine J_istore (pc := 37) K dX2_fewestOfTaste_37 (by decide) [(5, .int s6), (0, .ref (ω.1 + k0)), (1, .int w1), (2, .int w2), (3, .int v4), (4, .int v5)] rfl ?_
        refine J_iload (pc := 39) K dX2_fewestOfTaste_39 5 rfl ?_
        refine J_iload_n (pc := 41) K dX2_fewestOfTaste_41 2 rfl 3 rfl ?_
        refine J_iconst (pc := 42) K (-1) dX2_fewestOfTaste_42 (by decide) ?_
        refine J_ixor (pc := 43) K dX2_fewestOfTaste_43 ?_
        refine J_iand (pc := 44) K dX2_fewestOfTaste_44 ?_
        refine J_if_ne (pc := 45) K 66 dX2_fewestOfTaste_45 (by decide) ?_ ?_
        · refine J_iload (pc := 48) K dX2_fewestOfTaste_48 0 rfl ?_
          refine J_if_eq (pc := 50) K 66 dX2_fewestOfTaste_50 (by decide) ?_ ?_
          · refine J_iinc (pc := 66) K (1) dX2_fewestOfTaste_66 5 rfl (by decide) (by decide) [(4, .int (v5 + 1)), (5, .int s6), (0, .ref (ω.1 + k0)), (1, .int w1), (2, .int w2), (3, .int v4)] rfl ?_
            refine J_goto (pc := 69) K 10 dX2_fewestOfTaste_69 (by decide) ?_
            refine J_lv [2, 3, 4, 5, 0] [(0, .ref (ω.1 + k0)), (1, .int w1), (2, .int w2), (3, .int v4), (4, .int (v5 + 1))] rfl ?_
            exact ih v4 (v5 + 1) h7
          · refine J_aload_n (pc := 53) K dX2_fewestOfTaste_53 0 rfl 1 rfl ?_
            refine J_iload (pc := 54) K dX2_fewestOfTaste_54 5 rfl ?_
            refine J_callVI (As := [.int v5]) (rest := []) (pc := 56) K cs_SaltClouds_Sky_190 (ok_X2_tasteOf l ω N hk0 v5 h7) hk0 (by omega) rfl rfl (Nat.le_of_ble_eq_true rfl) dX2_fewestOfTaste_56 (fun r8 h9 => ?_)
            refine J_iload_n (pc := 59) K dX2_fewestOfTaste_59 1 rfl 2 rfl ?_
            refine J_icmp_ne (pc := 60) K 66 dX2_fewestOfTaste_60 (by decide) ?_ ?_
            · refine J_iload (pc := 63) K dX2_fewestOfTaste_63 5 rfl ?_
              refine J_istore_n (pc := 65) K dX2_fewestOfTaste_65 3 rfl (by decide) [(3, .int v5), (5, .int s6), (0, .ref (ω.1 + k0)), (1, .int w1), (2, .int w2), (4, .int v5)] rfl ?_
              refine J_iinc (pc := 66) K (1) dX2_fewestOfTaste_66 5 rfl (by decide) (by decide) [(4, .int (v5 + 1)), (3, .int v5), (5, .int s6), (0, .ref (ω.1 + k0)), (1, .int w1), (2, .int w2)] rfl ?_
              refine J_goto (pc := 69) K 10 dX2_fewestOfTaste_69 (by decide) ?_
              refine J_lv [3, 4, 5, 1, 0] [(0, .ref (ω.1 + k0)), (1, .int w1), (2, .int w2), (3, .int v5), (4, .int (v5 + 1))] rfl ?_
              exact ih v5 (v5 + 1) h9
            · refine J_iinc (pc := 66) K (1) dX2_fewestOfTaste_66 5 rfl (by decide) (by decide) [(4, .int (v5 + 1)), (5, .int s6), (0, .ref (ω.1 + k0)), (1, .int w1), (2, .int w2), (3, .int v4)] rfl ?_
              refine J_goto (pc := 69) K 10 dX2_fewestOfTaste_69 (by decide) ?_
              refine J_lv [2, 3, 4, 5, 0] [(0, .ref (ω.1 + k0)), (1, .int w1), (2, .int w2), (3, .int v4), (4, .int (v5 + 1))] rfl ?_
              exact ih v4 (v5 + 1) h9
        · refine J_iinc (pc := 66) K (1) dX2_fewestOfTaste_66 5 rfl (by decide) (by decide) [(4, .int (v5 + 1)), (5, .int s6), (0, .ref (ω.1 + k0)), (1, .int w1), (2, .int w2), (3, .int v4)] rfl ?_
          refine J_goto (pc := 69) K 10 dX2_fewestOfTaste_69 (by decide) ?_
          refine J_lv [2, 3, 4, 5, 0] [(0, .ref (ω.1 + k0)), (1, .int w1), (2, .int w2), (3, .int v4), (4, .int (v5 + 1))] rfl ?_
          exact ih v4 (v5 + 1) h7
      · intro j3 hj3
        refine J_if_eq (pc := 17) K 32 dX2_fewestOfTaste_17 (by decide) ?_ ?_
        · refine J_iconst (pc := 32) K (1) dX2_fewestOfTaste_32 (by decide) ?_
          refine J_goto (pc := 33) K 37 dX2_fewestOfTaste_33 (by decide) ?_
          exact hj3 u3 u4 (1 : Int32) h
        · refine J_iload (pc := 20) K dX2_fewestOfTaste_20 4 rfl ?_
          refine J_callTI (As := [.int u4]) (rest := []) (pc := 22) K cs_SaltClouds_Sky_185 (ok_J6_bitCount_0f7a4 l ω u4 h) (by omega) rfl rfl (Nat.le_of_ble_eq_true rfl) dX2_fewestOfTaste_22 (fun r10 h11 => ?_)
          refine J_iload_n (pc := 25) K dX2_fewestOfTaste_25 3 rfl 3 rfl ?_
          refine J_callTI (As := [.int u3]) (rest := [.int r10]) (pc := 26) K cs_SaltClouds_Sky_185 (ok_J6_bitCount_0f7a4 l ω u3 h11) (by omega) rfl rfl (Nat.le_of_ble_eq_true rfl) dX2_fewestOfTaste_26 (fun r12 h13 => ?_)
          refine J_icmp_ge (pc := 29) K 36 dX2_fewestOfTaste_29 (by decide) ?_ ?_
          · refine J_iconst (pc := 36) K (0) dX2_fewestOfTaste_36 (by decide) ?_
            exact hj3 u3 u4 (0 : Int32) h13
          · refine J_iconst (pc := 32) K (1) dX2_fewestOfTaste_32 (by decide) ?_
            refine J_goto (pc := 33) K 37 dX2_fewestOfTaste_33 (by decide) ?_
            exact hj3 u3 u4 (1 : Int32) h13
def F_X2_fewestOfTaste (N : Nat) (k0 : Nat) (x1 : Int32) (h : Mem) : Option (Int32 × Mem) :=
  (bnd (F_X2_setOfAll N k0 h) (fun r1 h2 =>
  (F_X2_fewestOfTaste_10 N k0 x1 r1 (fun (v14 : Int32) (h15 : Mem) =>
    (some (v14, h15))) N (0 : Int32) (1 : Int32) h2)))
set_option maxRecDepth 10000 in
set_option maxHeartbeats 1000000 in
theorem ok_X2_fewestOfTaste (l : Launch) (ω : WX) (N : Nat) {k0 : Nat} (hk0 : lay k0 = 2) (x1 : Int32) (h : Mem) : MC rvI l ω yX2_fewestOfTaste cX2_fewestOfTaste 6 (some .int) 3 [.ref (ω.1 + k0), .int x1] h (F_X2_fewestOfTaste N k0 x1 h) := by
  refine MC.of (by decide +kernel) [(0, .ref (ω.1 + k0)), (1, .int x1)] rfl (Nat.le_of_ble_eq_true rfl) (fun χ K => ?_)
  have K : Kok ω χ "SaltClouds$Sky" cX2_fewestOfTaste 6 (some .int) 3 := K
  unfold F_X2_fewestOfTaste
  refine J_aload_n (pc := 0) K dX2_fewestOfTaste_0 0 rfl 0 rfl ?_
  refine J_callVI (As := []) (rest := []) (pc := 1) K cs_SaltClouds_Sky_182 (ok_X2_setOfAll l ω N hk0 h) hk0 (by decide) rfl rfl (Nat.le_of_ble_eq_true rfl) dX2_fewestOfTaste_1 (fun r1 h2 => ?_)
  refine J_istore_n (pc := 4) K dX2_fewestOfTaste_4 2 rfl (by decide) [(2, .int r1), (0, .ref (ω.1 + k0)), (1, .int x1)] rfl ?_
  refine J_iconst (pc := 5) K (0) dX2_fewestOfTaste_5 (by decide) ?_
  refine J_istore_n (pc := 6) K dX2_fewestOfTaste_6 3 rfl (by decide) [(3, .int (0 : Int32)), (2, .int r1), (0, .ref (ω.1 + k0)), (1, .int x1)] rfl ?_
  refine J_iconst (pc := 7) K (1) dX2_fewestOfTaste_7 (by decide) ?_
  refine J_istore (pc := 8) K dX2_fewestOfTaste_8 (by decide) [(4, .int (1 : Int32)), (3, .int (0 : Int32)), (2, .int r1), (0, .ref (ω.1 + k0)), (1, .int x1)] rfl ?_
  refine J_lv [3, 4, 2, 1, 0] [(0, .ref (ω.1 + k0)), (1, .int x1), (2, .int r1), (3, .int (0 : Int32)), (4, .int (1 : Int32))] rfl ?_
  refine okL_X2_fewestOfTaste_10 K  (by decide) N hk0 (fun v14 h15 => ?_) _ _ _ _
  refine J_iload_n (pc := 72) K dX2_fewestOfTaste_72 3 rfl 0 rfl ?_
  exact J_iret (pc := 73) K dX2_fewestOfTaste_73
def F_X6_comes (N : Nat) (k0 : Nat) (x1 : Int32) (x2 : Int32) (h : Mem) : Option (Int32 × Mem) :=
  (bnd (F_X6_within x1 (0 : Int32) (9999 : Int32) h) (fun r1 h2 =>
  (if r1 = 0 then
    (bnd (F_X6_refuse k0 (-1000000001 : Int32) h2) (fun r3 h4 =>
    (some (r3, h4))))
  else
    (bnd (F_X6_within x2 (0 : Int32) (1 : Int32) h2) (fun r5 h6 =>
    (if r5 = 0 then
      (bnd (F_X6_refuse k0 (-1000000001 : Int32) h6) (fun r7 h8 =>
      (some (r7, h8))))
    else
      (bnd (F_X2_fewestOfTaste N (k0 + 1) x1 h6) (fun r9 h10 =>
      (if r9 = 0 then
        (bnd (F_X6_refuse k0 (-1000000002 : Int32) h10) (fun r11 h12 =>
        (some (r11, h12))))
      else
        (if x2 = 0 then
          (some (r9, h10))
        else
          (bnd (F_J6_bitCount_0f7a4 r9 h10) (fun r13 h14 =>
          (some (r13, h14))))))))))))))
set_option maxRecDepth 10000 in
set_option maxHeartbeats 1000000 in
theorem ok_X6_comes (l : Launch) (ω : WX) (N : Nat) {k0 : Nat} (hk0 : lay k0 = 6) (x1 : Int32) (x2 : Int32) (h : Mem) : MC rvI l ω yX6_comes cX6_comes 4 (some .int) 4 [.ref (ω.1 + k0), .int x1, .int x2] h (F_X6_comes N k0 x1 x2 h) := by
  refine MC.of (by decide +kernel) [(0, .ref (ω.1 + k0)), (1, .int x1), (2, .int x2)] rfl (Nat.le_of_ble_eq_true rfl) (fun χ K => ?_)
  have K : Kok ω χ "SaltClouds" cX6_comes 4 (some .int) 4 := K
  unfold F_X6_comes
  refine J_iload_n (pc := 0) K dX6_comes_0 1 rfl 1 rfl ?_
  refine J_iconst (pc := 1) K (0) dX6_comes_1 (by decide) ?_
  refine J_sipush (pc := 2) K (9999) dX6_comes_2 (by decide) ?_
  refine J_callTI (As := [.int x1, .int (0 : Int32), .int (9999 : Int32)]) (rest := []) (pc := 5) K cs_SaltClouds_51 (ok_X6_within l ω x1 (0 : Int32) (9999 : Int32) h) (by decide) rfl rfl (Nat.le_of_ble_eq_true rfl) dX6_comes_5 (fun r1 h2 => ?_)
  refine J_if_eq (pc := 8) K 20 dX6_comes_8 (by decide) ?_ ?_
  · refine J_aload_n (pc := 20) K dX6_comes_20 0 rfl 0 rfl ?_
    refine J_ldc (pc := 21) K kc_SaltClouds_59 dX6_comes_21 ?_
    refine J_callVI (As := [.int (-1000000001 : Int32)]) (rest := []) (pc := 23) K cs_SaltClouds_60 (ok_X6_refuse l ω hk0 (-1000000001 : Int32) h2) hk0 (by decide) rfl rfl (Nat.le_of_ble_eq_true rfl) dX6_comes_23 (fun r3 h4 => ?_)
    exact J_iret (pc := 26) K dX6_comes_26
  · refine J_iload_n (pc := 11) K dX6_comes_11 2 rfl 2 rfl ?_
    refine J_iconst (pc := 12) K (0) dX6_comes_12 (by decide) ?_
    refine J_iconst (pc := 13) K (1) dX6_comes_13 (by decide) ?_
    refine J_callTI (As := [.int x2, .int (0 : Int32), .int (1 : Int32)]) (rest := []) (pc := 14) K cs_SaltClouds_51 (ok_X6_within l ω x2 (0 : Int32) (1 : Int32) h2) (by decide) rfl rfl (Nat.le_of_ble_eq_true rfl) dX6_comes_14 (fun r5 h6 => ?_)
    refine J_if_ne (pc := 17) K 27 dX6_comes_17 (by decide) ?_ ?_
    · refine J_aload_n (pc := 20) K dX6_comes_20 0 rfl 0 rfl ?_
      refine J_ldc (pc := 21) K kc_SaltClouds_59 dX6_comes_21 ?_
      refine J_callVI (As := [.int (-1000000001 : Int32)]) (rest := []) (pc := 23) K cs_SaltClouds_60 (ok_X6_refuse l ω hk0 (-1000000001 : Int32) h6) hk0 (by decide) rfl rfl (Nat.le_of_ble_eq_true rfl) dX6_comes_23 (fun r7 h8 => ?_)
      exact J_iret (pc := 26) K dX6_comes_26
    · refine J_aload_n (pc := 27) K dX6_comes_27 0 rfl 0 rfl ?_
      refine J_getR (pc := 28) K gf_SaltClouds_12 hk0 1 rfl dX6_comes_28 ?_
      refine J_iload_n (pc := 31) K dX6_comes_31 1 rfl 1 rfl ?_
      refine J_callVI (As := [.int x1]) (rest := []) (pc := 32) K cs_SaltClouds_192 (ok_X2_fewestOfTaste l ω N (ty_6_1 hk0) x1 h6) (ty_6_1 hk0) (by decide) rfl rfl (Nat.le_of_ble_eq_true rfl) dX6_comes_32 (fun r9 h10 => ?_)
      refine J_istore_n (pc := 35) K dX6_comes_35 3 rfl (by decide) [(3, .int r9), (0, .ref (ω.1 + k0)), (1, .int x1), (2, .int x2)] rfl ?_
      refine J_iload_n (pc := 36) K dX6_comes_36 3 rfl 0 rfl ?_
      refine J_if_ne (pc := 37) K 47 dX6_comes_37 (by decide) ?_ ?_
      · refine J_aload_n (pc := 40) K dX6_comes_40 0 rfl 1 rfl ?_
        refine J_ldc (pc := 41) K kc_SaltClouds_188 dX6_comes_41 ?_
        refine J_callVI (As := [.int (-1000000002 : Int32)]) (rest := []) (pc := 43) K cs_SaltClouds_60 (ok_X6_refuse l ω hk0 (-1000000002 : Int32) h10) hk0 (by decide) rfl rfl (Nat.le_of_ble_eq_true rfl) dX6_comes_43 (fun r11 h12 => ?_)
        exact J_iret (pc := 46) K dX6_comes_46
      · refine J_iload_n (pc := 47) K dX6_comes_47 2 rfl 3 rfl ?_
        refine J_if_ne (pc := 48) K 55 dX6_comes_48 (by decide) ?_ ?_
        · refine J_iload_n (pc := 51) K dX6_comes_51 3 rfl 0 rfl ?_
          refine J_goto (pc := 52) K 59 dX6_comes_52 (by decide) ?_
          exact J_iret (pc := 59) K dX6_comes_59
        · refine J_iload_n (pc := 55) K dX6_comes_55 3 rfl 0 rfl ?_
          refine J_callTI (As := [.int r9]) (rest := []) (pc := 56) K cs_SaltClouds_195 (ok_J6_bitCount_0f7a4 l ω r9 h10) (by decide) rfl rfl (Nat.le_of_ble_eq_true rfl) dX6_comes_56 (fun r13 h14 => ?_)
          exact J_iret (pc := 59) K dX6_comes_59
def F_X6_stays (N : Nat) (k0 : Nat) (x1 : Int32) (h : Mem) : Option (Int32 × Mem) :=
  (bnd (F_X6_within x1 (0 : Int32) (3 : Int32) h) (fun r1 h2 =>
  (if r1 = 0 then
    (bnd (F_X6_refuse k0 (-1000000001 : Int32) h2) (fun r3 h4 =>
    (some (r3, h4))))
  else
    (bnd (F_X2_setOfAll N (k0 + 1) h2) (fun r5 h6 =>
    (bnd (F_X2_totalOf N (k0 + 1) r5 x1 h6) (fun r7 h8 =>
    (some (r7, h8)))))))))
set_option maxRecDepth 10000 in
set_option maxHeartbeats 1000000 in
theorem ok_X6_stays (l : Launch) (ω : WX) (N : Nat) {k0 : Nat} (hk0 : lay k0 = 6) (x1 : Int32) (h : Mem) : MC rvI l ω yX6_stays cX6_stays 2 (some .int) 2 [.ref (ω.1 + k0), .int x1] h (F_X6_stays N k0 x1 h) := by
  refine MC.of (by decide +kernel) [(0, .ref (ω.1 + k0)), (1, .int x1)] rfl (Nat.le_of_ble_eq_true rfl) (fun χ K => ?_)
  have K : Kok ω χ "SaltClouds" cX6_stays 2 (some .int) 2 := K
  unfold F_X6_stays
  refine J_iload_n (pc := 0) K dX6_stays_0 1 rfl 1 rfl ?_
  refine J_iconst (pc := 1) K (0) dX6_stays_1 (by decide) ?_
  refine J_iconst (pc := 2) K (3) dX6_stays_2 (by decide) ?_
  refine J_callTI (As := [.int x1, .int (0 : Int32), .int (3 : Int32)]) (rest := []) (pc := 3) K cs_SaltClouds_51 (ok_X6_within l ω x1 (0 : Int32) (3 : Int32) h) (by decide) rfl rfl (Nat.le_of_ble_eq_true rfl) dX6_stays_3 (fun r1 h2 => ?_)
  refine J_if_ne (pc := 6) K 16 dX6_stays_6 (by decide) ?_ ?_
  · refine J_aload_n (pc := 9) K dX6_stays_9 0 rfl 0 rfl ?_
    refine J_ldc (pc := 10) K kc_SaltClouds_59 dX6_stays_10 ?_
    refine J_callVI (As := [.int (-1000000001 : Int32)]) (rest := []) (pc := 12) K cs_SaltClouds_60 (ok_X6_refuse l ω hk0 (-1000000001 : Int32) h2) hk0 (by decide) rfl rfl (Nat.le_of_ble_eq_true rfl) dX6_stays_12 (fun r3 h4 => ?_)
    exact J_iret (pc := 15) K dX6_stays_15
  · refine J_aload_n (pc := 16) K dX6_stays_16 0 rfl 0 rfl ?_
    refine J_getR (pc := 17) K gf_SaltClouds_12 hk0 1 rfl dX6_stays_17 ?_
    refine J_aload_n (pc := 20) K dX6_stays_20 0 rfl 0 rfl ?_
    refine J_getR (pc := 21) K gf_SaltClouds_12 hk0 1 rfl dX6_stays_21 ?_
    refine J_callVI (As := []) (rest := [.ref (ω.1 + (k0 + 1))]) (pc := 24) K cs_SaltClouds_200 (ok_X2_setOfAll l ω N (ty_6_1 hk0) h2) (ty_6_1 hk0) (by decide) rfl rfl (Nat.le_of_ble_eq_true rfl) dX6_stays_24 (fun r5 h6 => ?_)
    refine J_iload_n (pc := 27) K dX6_stays_27 1 rfl 1 rfl ?_
    refine J_callVI (As := [.int r5, .int x1]) (rest := []) (pc := 28) K cs_SaltClouds_203 (ok_X2_totalOf l ω N (ty_6_1 hk0) r5 x1 h6) (ty_6_1 hk0) (by decide) rfl rfl (Nat.le_of_ble_eq_true rfl) dX6_stays_28 (fun r7 h8 => ?_)
    exact J_iret (pc := 31) K dX6_stays_31
def F_X6_meets_66 (N : Nat) (k0 : Nat) (w1 : Int32) (w2 : Int32) (kt : Mem → Option (Int32 × Mem)) : Nat → Int32 → Mem → Option (Int32 × Mem)
  | 0, _, _ => none
  | n + 1, u3, h =>
    (if (200 : Int32) < u3 then
      (kt h)
    else
      (bnd (F_X2_areTogether (k0 + 57) w1 w2 h) (fun r13 h14 =>
      (if r13 = 0 then
        (bnd (F_X2_passHours N (k0 + 57) (1 : Int32) h14) (fun _ h16 =>
        (F_X6_meets_66 N k0 w1 w2 kt n (u3 + 1) h16)))
      else
        (some (u3, h14))))))
set_option maxRecDepth 10000 in
set_option maxHeartbeats 1000000 in
theorem okL_X6_meets_66 {l : Launch} {ω : WX} {χ : KT} {d : Nat} (K : Kok ω χ "SaltClouds" cX6_meets 4 (some .int) d) (hd : 7 ≤ d) (N : Nat) {k0 : Nat} (hk0 : lay k0 = 6) {w1 : Int32} {w2 : Int32} {kt : Mem → Option (Int32 × Mem)} (hK : ∀ (h : Mem), J (ZM rvI ω χ) l ω χ 101 4 [(0, .ref (ω.1 + k0))] [] h (kt h)) : ∀ (n : Nat) (u3 : Int32) (h : Mem), J (ZM rvI ω χ) l ω χ 66 4 [(0, .ref (ω.1 + k0)), (1, .int w1), (2, .int w2), (3, .int u3)] [] h (F_X6_meets_66 N k0 w1 w2 kt n u3 h) := by
  intro n
  induction n with
  | zero =>
    intro u3 h
    exact J_none rfl
  | succ n ih =>
    intro u3 h
    rw [F_X6_meets_66]
    refine J_iload_n (pc := 66) K dX6_meets_66 3 rfl 3 rfl ?_
    refine J_sipush (pc := 67) K (200) dX6_meets_67 (by decide) ?_
    refine J_icmp_gt (pc := 70) K 101 dX6_meets_70 (by decide) ?_ ?_
    · refine J_lv [0] [(0, .ref (ω.1 + k0))] rfl ?_
      exact hK h
    · refine J_aload_n (pc := 73) K dX6_meets_73 0 rfl 0 rfl ?_
      refine J_getR (pc := 74) K gf_SaltClouds_19 hk0 57 rfl dX6_meets_74 ?_
      refine J_iload_n (pc := 77) K dX6_meets_77 1 rfl 1 rfl ?_
      refine J_iload_n (pc := 78) K dX6_meets_78 2 rfl 2 rfl ?_
      refine J_callVI (As := [.int w1, .int w2]) (rest := []) (pc := 79) K cs_SaltClouds_120 (ok_X2_areTogether l ω (ty_6_57 hk0) w1 w2 h) (ty_6_57 hk0) (by omega) rfl rfl (Nat.le_of_ble_eq_true rfl) dX6_meets_79 (fun r13 h14 => ?_)
      refine J_if_eq (pc := 82) K 87 dX6_meets_82 (by decide) ?_ ?_
      · refine J_aload_n (pc := 87) K dX6_meets_87 0 rfl 0 rfl ?_
        refine J_getR (pc := 88) K gf_SaltClouds_19 hk0 57 rfl dX6_meets_88 ?_
        refine J_iconst (pc := 91) K (1) dX6_meets_91 (by decide) ?_
        refine J_callVU (As := [.int (1 : Int32)]) (rest := []) (pc := 92) K cs_SaltClouds_166 (ok_X2_passHours l ω N (ty_6_57 hk0) (1 : Int32) h14) (ty_6_57 hk0) (by omega) rfl rfl (Nat.le_of_ble_eq_true rfl) dX6_meets_92 (fun _ h16 => ?_)
        refine J_iinc (pc := 95) K (1) dX6_meets_95 3 rfl (by decide) (by decide) [(3, .int (u3 + 1)), (0, .ref (ω.1 + k0)), (1, .int w1), (2, .int w2)] rfl ?_
        refine J_goto (pc := 98) K 66 dX6_meets_98 (by decide) ?_
        refine J_lv [1, 2, 3, 0] [(0, .ref (ω.1 + k0)), (1, .int w1), (2, .int w2), (3, .int (u3 + 1))] rfl ?_
        exact ih (u3 + 1) h16
      · refine J_iload_n (pc := 85) K dX6_meets_85 3 rfl 3 rfl ?_
        exact J_iret (pc := 86) K dX6_meets_86
def F_X6_meets (N : Nat) (k0 : Nat) (x1 : Int32) (x2 : Int32) (h : Mem) : Option (Int32 × Mem) :=
  (bnd (F_X6_areTwo k0 x1 x2 h) (fun r1 h2 =>
  (if r1 = 0 then
    (bnd (F_X6_refuse k0 (-1000000001 : Int32) h2) (fun r3 h4 =>
    (some (r3, h4))))
  else
    (gin x1 8
    (if (h2 (((k0 + 1) + 1) + 11 + 2 * ix x1) 4) = 0 then
      (bnd (F_X6_refuse k0 (-1000000003 : Int32) h2) (fun r6 h7 =>
      (some (r6, h7))))
    else
      (gin x2 8
      (if (h2 (((k0 + 1) + 1) + 11 + 2 * ix x2) 4) = 0 then
        (bnd (F_X6_refuse k0 (-1000000003 : Int32) h2) (fun r9 h10 =>
        (some (r9, h10))))
      else
        (bnd (F_X2_takeFrom N (k0 + 57) (k0 + 1) h2) (fun _ h12 =>
        (F_X6_meets_66 N k0 x1 x2 (fun (h17 : Mem) =>
          (bnd (F_X6_refuse k0 (-1000000002 : Int32) h17) (fun r18 h19 =>
          (some (r18, h19))))) N (0 : Int32) h12))))))))))
set_option maxRecDepth 10000 in
set_option maxHeartbeats 1000000 in
theorem ok_X6_meets (l : Launch) (ω : WX) (N : Nat) {k0 : Nat} (hk0 : lay k0 = 6) (x1 : Int32) (x2 : Int32) (h : Mem) : MC rvI l ω yX6_meets cX6_meets 4 (some .int) 7 [.ref (ω.1 + k0), .int x1, .int x2] h (F_X6_meets N k0 x1 x2 h) := by
  refine MC.of (by decide +kernel) [(0, .ref (ω.1 + k0)), (1, .int x1), (2, .int x2)] rfl (Nat.le_of_ble_eq_true rfl) (fun χ K => ?_)
  have K : Kok ω χ "SaltClouds" cX6_meets 4 (some .int) 7 := K
  unfold F_X6_meets
  refine J_aload_n (pc := 0) K dX6_meets_0 0 rfl 0 rfl ?_
  refine J_iload_n (pc := 1) K dX6_meets_1 1 rfl 1 rfl ?_
  refine J_iload_n (pc := 2) K dX6_meets_2 2 rfl 2 rfl ?_
  refine J_callVI (As := [.int x1, .int x2]) (rest := []) (pc := 3) K cs_SaltClouds_117 (ok_X6_areTwo l ω hk0 x1 x2 h) hk0 (by decide) rfl rfl (Nat.le_of_ble_eq_true rfl) dX6_meets_3 (fun r1 h2 => ?_)
  refine J_if_ne (pc := 6) K 16 dX6_meets_6 (by decide) ?_ ?_
  · refine J_aload_n (pc := 9) K dX6_meets_9 0 rfl 0 rfl ?_
    refine J_ldc (pc := 10) K kc_SaltClouds_59 dX6_meets_10 ?_
    refine J_callVI (As := [.int (-1000000001 : Int32)]) (rest := []) (pc := 12) K cs_SaltClouds_60 (ok_X6_refuse l ω hk0 (-1000000001 : Int32) h2) hk0 (by decide) rfl rfl (Nat.le_of_ble_eq_true rfl) dX6_meets_12 (fun r3 h4 => ?_)
    exact J_iret (pc := 15) K dX6_meets_15
  · refine J_aload_n (pc := 16) K dX6_meets_16 0 rfl 0 rfl ?_
    refine J_getR (pc := 17) K gf_SaltClouds_12 hk0 1 rfl dX6_meets_17 ?_
    refine J_getR (pc := 20) K gf_SaltClouds_79 (ty_6_1 hk0) 1 rfl dX6_meets_20 ?_
    refine J_iload_n (pc := 23) K dX6_meets_23 1 rfl 1 rfl ?_
    refine J_aldC (pc := 24) K (a := (k0 + 1) + 1) (ty_2_1 (ty_6_1 hk0)) dX6_meets_24 (fun b5 => ?_)
    refine J_getI (pc := 25) K gf_SaltClouds_103 (ty_8e (ty_2_1 (ty_6_1 hk0)) b5) rfl dX6_meets_25 ?_
    refine J_if_eq (pc := 28) K 46 dX6_meets_28 (by decide) ?_ ?_
    · refine J_aload_n (pc := 46) K dX6_meets_46 0 rfl 0 rfl ?_
      refine J_ldc (pc := 47) K kc_SaltClouds_107 dX6_meets_47 ?_
      refine J_callVI (As := [.int (-1000000003 : Int32)]) (rest := []) (pc := 49) K cs_SaltClouds_60 (ok_X6_refuse l ω hk0 (-1000000003 : Int32) h2) hk0 (by decide) rfl rfl (Nat.le_of_ble_eq_true rfl) dX6_meets_49 (fun r6 h7 => ?_)
      exact J_iret (pc := 52) K dX6_meets_52
    · refine J_aload_n (pc := 31) K dX6_meets_31 0 rfl 0 rfl ?_
      refine J_getR (pc := 32) K gf_SaltClouds_12 hk0 1 rfl dX6_meets_32 ?_
      refine J_getR (pc := 35) K gf_SaltClouds_79 (ty_6_1 hk0) 1 rfl dX6_meets_35 ?_
      refine J_iload_n (pc := 38) K dX6_meets_38 2 rfl 2 rfl ?_
      refine J_aldC (pc := 39) K (a := (k0 + 1) + 1) (ty_2_1 (ty_6_1 hk0)) dX6_meets_39 (fun b8 => ?_)
      refine J_getI (pc := 40) K gf_SaltClouds_103 (ty_8e (ty_2_1 (ty_6_1 hk0)) b8) rfl dX6_meets_40 ?_
      refine J_if_ne (pc := 43) K 53 dX6_meets_43 (by decide) ?_ ?_
      · refine J_aload_n (pc := 46) K dX6_meets_46 0 rfl 0 rfl ?_
        refine J_ldc (pc := 47) K kc_SaltClouds_107 dX6_meets_47 ?_
        refine J_callVI (As := [.int (-1000000003 : Int32)]) (rest := []) (pc := 49) K cs_SaltClouds_60 (ok_X6_refuse l ω hk0 (-1000000003 : Int32) h2) hk0 (by decide) rfl rfl (Nat.le_of_ble_eq_true rfl) dX6_meets_49 (fun r9 h10 => ?_)
        exact J_iret (pc := 52) K dX6_meets_52
      · refine J_aload_n (pc := 53) K dX6_meets_53 0 rfl 0 rfl ?_
        refine J_getR (pc := 54) K gf_SaltClouds_19 hk0 57 rfl dX6_meets_54 ?_
        refine J_aload_n (pc := 57) K dX6_meets_57 0 rfl 0 rfl ?_
        refine J_getR (pc := 58) K gf_SaltClouds_12 hk0 1 rfl dX6_meets_58 ?_
        refine J_callVU (As := [.ref (ω.1 + (k0 + 1))]) (rest := []) (pc := 61) K cs_SaltClouds_179 (ok_X2_takeFrom l ω N (ty_6_57 hk0) (ty_6_1 hk0) h2) (ty_6_57 hk0) (by decide) rfl rfl (Nat.le_of_ble_eq_true rfl) dX6_meets_61 (fun _ h12 => ?_)
        refine J_iconst (pc := 64) K (0) dX6_meets_64 (by decide) ?_
        refine J_istore_n (pc := 65) K dX6_meets_65 3 rfl (by decide) [(3, .int (0 : Int32)), (0, .ref (ω.1 + k0)), (1, .int x1), (2, .int x2)] rfl ?_
        refine J_lv [1, 2, 3, 0] [(0, .ref (ω.1 + k0)), (1, .int x1), (2, .int x2), (3, .int (0 : Int32))] rfl ?_
        refine okL_X6_meets_66 K  (by decide) N hk0 (fun h17 => ?_) _ _ _
        refine J_aload_n (pc := 101) K dX6_meets_101 0 rfl 0 rfl ?_
        refine J_ldc (pc := 102) K kc_SaltClouds_188 dX6_meets_102 ?_
        refine J_callVI (As := [.int (-1000000002 : Int32)]) (rest := []) (pc := 104) K cs_SaltClouds_60 (ok_X6_refuse l ω hk0 (-1000000002 : Int32) h17) hk0 (by decide) rfl rfl (Nat.le_of_ble_eq_true rfl) dX6_meets_104 (fun r18 h19 => ?_)
        exact J_iret (pc := 107) K dX6_meets_107
def F_X6_isSheet (x0 : Int32) (h : Mem) : Option (Int32 × Mem) :=
  (bnd (F_X6_within x0 (0 : Int32) (3 : Int32) h) (fun r1 h2 =>
  (gbo r1 (some (r1, h2)))))
set_option maxRecDepth 10000 in
set_option maxHeartbeats 1000000 in
theorem ok_X6_isSheet (l : Launch) (ω : WX) (x0 : Int32) (h : Mem) : MC rvI l ω yX6_isSheet cX6_isSheet 1 (some .boolean) 1 [.int x0] h (F_X6_isSheet x0 h) := by
  refine MC.of (by decide +kernel) [(0, .int x0)] rfl (Nat.le_of_ble_eq_true rfl) (fun χ K => ?_)
  have K : Kok ω χ "SaltClouds" cX6_isSheet 1 (some .boolean) 1 := K
  unfold F_X6_isSheet
  refine J_iload_n (pc := 0) K dX6_isSheet_0 0 rfl 0 rfl ?_
  refine J_iconst (pc := 1) K (0) dX6_isSheet_1 (by decide) ?_
  refine J_iconst (pc := 2) K (3) dX6_isSheet_2 (by decide) ?_
  refine J_callTI (As := [.int x0, .int (0 : Int32), .int (3 : Int32)]) (rest := []) (pc := 3) K cs_SaltClouds_51 (ok_X6_within l ω x0 (0 : Int32) (3 : Int32) h) (by decide) rfl rfl (Nat.le_of_ble_eq_true rfl) dX6_isSheet_3 (fun r1 h2 => ?_)
  exact J_zret (pc := 6) K dX6_isSheet_6
def F_X1_isMissing (k0 : Nat) (h : Mem) : Option (Int32 × Mem) :=
  (if (h k0 0) = 0 then
    (some ((1 : Int32), h))
  else
    (some ((0 : Int32), h)))
set_option maxRecDepth 10000 in
set_option maxHeartbeats 1000000 in
theorem ok_X1_isMissing (l : Launch) (ω : WX) {k0 : Nat} (hk0 : lay k0 = 1) (h : Mem) : MC rvI l ω yX1_isMissing cX1_isMissing 1 (some .boolean) 0 [.ref (ω.1 + k0)] h (F_X1_isMissing k0 h) := by
  refine MC.of (by decide +kernel) [(0, .ref (ω.1 + k0))] rfl (Nat.le_of_ble_eq_true rfl) (fun χ K => ?_)
  have K : Kok ω χ "SaltClouds$Sheet" cX1_isMissing 1 (some .boolean) 0 := K
  unfold F_X1_isMissing
  refine J_aload_n (pc := 0) K dX1_isMissing_0 0 rfl 0 rfl ?_
  refine J_getI (pc := 1) K gf_SaltClouds_Sheet_9 hk0 rfl dX1_isMissing_1 ?_
  refine J_if_ne (pc := 4) K 11 dX1_isMissing_4 (by decide) ?_ ?_
  · refine J_iconst (pc := 7) K (1) dX1_isMissing_7 (by decide) ?_
    refine J_goto (pc := 8) K 12 dX1_isMissing_8 (by decide) ?_
    exact J_nret (pc := 12) K rfl dX1_isMissing_12
  · refine J_iconst (pc := 11) K (0) dX1_isMissing_11 (by decide) ?_
    exact J_nret (pc := 12) K rfl dX1_isMissing_12
def F_X2_hasTotals_2 (N : Nat) (k0 : Nat) (w1 : Int32) (k2 n2 : Nat) (kt : Mem → Option (Int32 × Mem)) : Nat → Int32 → Mem → Option (Int32 × Mem)
  | 0, _, _ => none
  | n + 1, u3, h =>
    (if (4 : Int32) ≤ u3 then
      (kt h)
    else
      (if (nI n2) ≤ u3 then
        (kt h)
      else
        (bnd (F_X2_totalOf N k0 w1 u3 h) (fun r1 h2 =>
        (gin u3 n2
        (if r1 = (h2 k2 (ix u3)) then
          (F_X2_hasTotals_2 N k0 w1 k2 n2 kt n (u3 + 1) h2)
        else
          (some ((0 : Int32), h2))))))))
set_option maxRecDepth 10000 in
set_option maxHeartbeats 1000000 in
theorem okL_X2_hasTotals_2 {l : Launch} {ω : WX} {χ : KT} {d : Nat} (K : Kok ω χ "SaltClouds$Sky" cX2_hasTotals 4 (some .boolean) d) (hd : 2 ≤ d) (N : Nat) {k0 : Nat} (hk0 : lay k0 = 2) {w1 : Int32} {k2 n2 : Nat} (hk2 : lay k2 = 1000 + n2) {kt : Mem → Option (Int32 × Mem)} (hK : ∀ (h : Mem), J (ZM rvI ω χ) l ω χ 33 4 [] [] h (kt h)) : ∀ (n : Nat) (u3 : Int32) (h : Mem), J (ZM rvI ω χ) l ω χ 2 4 [(0, .ref (ω.1 + k0)), (1, .int w1), (2, .ref (ω.1 + k2)), (3, .int u3)] [] h (F_X2_hasTotals_2 N k0 w1 k2 n2 kt n u3 h) := by
  intro n
  induction n with
  | zero =>
    intro u3 h
    exact J_none rfl
  | succ n ih =>
    intro u3 h
    rw [F_X2_hasTotals_2]
    refine J_iload_n (pc := 2) K dX2_hasTotals_2 3 rfl 3 rfl ?_
    refine J_iconst (pc := 3) K (4) dX2_hasTotals_3 (by decide) ?_
    refine J_icmp_ge (pc := 4) K 33 dX2_hasTotals_4 (by decide) ?_ ?_
    · refine J_lv [] [] rfl ?_
      exact hK h
    · refine J_iload_n (pc := 7) K dX2_hasTotals_7 3 rfl 3 rfl ?_
      refine J_aload_n (pc := 8) K dX2_hasTotals_8 2 rfl 2 rfl ?_
      refine J_alen (pc := 9) K (a := k2) (n := n2) hk2 dX2_hasTotals_9 ?_
      refine J_icmp_ge (pc := 10) K 33 dX2_hasTotals_10 (by decide) ?_ ?_
      · refine J_lv [] [] rfl ?_
        exact hK h
      · refine J_aload_n (pc := 13) K dX2_hasTotals_13 0 rfl 0 rfl ?_
        refine J_iload_n (pc := 14) K dX2_hasTotals_14 1 rfl 1 rfl ?_
        refine J_iload_n (pc := 15) K dX2_hasTotals_15 3 rfl 3 rfl ?_
        refine J_callVI (As := [.int w1, .int u3]) (rest := []) (pc := 16) K cs_SaltClouds_Sky_176 (ok_X2_totalOf l ω N hk0 w1 u3 h) hk0 (by omega) rfl rfl (Nat.le_of_ble_eq_true rfl) dX2_hasTotals_16 (fun r1 h2 => ?_)
        refine J_aload_n (pc := 19) K dX2_hasTotals_19 2 rfl 2 rfl ?_
        refine J_iload_n (pc := 20) K dX2_hasTotals_20 3 rfl 3 rfl ?_
        refine J_iald (pc := 21) K (a := k2) (n := n2) hk2 dX2_hasTotals_21 ?_
        refine J_icmp_eq (pc := 22) K 27 dX2_hasTotals_22 (by decide) ?_ ?_
        · refine J_iinc (pc := 27) K (1) dX2_hasTotals_27 3 rfl (by decide) (by decide) [(3, .int (u3 + 1)), (0, .ref (ω.1 + k0)), (1, .int w1), (2, .ref (ω.1 + k2))] rfl ?_
          refine J_goto (pc := 30) K 2 dX2_hasTotals_30 (by decide) ?_
          refine J_lv [1, 2, 3, 0] [(0, .ref (ω.1 + k0)), (1, .int w1), (2, .ref (ω.1 + k2)), (3, .int (u3 + 1))] rfl ?_
          exact ih (u3 + 1) h2
        · refine J_iconst (pc := 25) K (0) dX2_hasTotals_25 (by decide) ?_
          exact J_nret (pc := 26) K rfl dX2_hasTotals_26
def F_X2_hasTotals (N : Nat) (k0 : Nat) (x1 : Int32) (k2 n2 : Nat) (h : Mem) : Option (Int32 × Mem) :=
  (F_X2_hasTotals_2 N k0 x1 k2 n2 (fun (h3 : Mem) =>
    (some ((1 : Int32), h3))) N (0 : Int32) h)
set_option maxRecDepth 10000 in
set_option maxHeartbeats 1000000 in
theorem ok_X2_hasTotals (l : Launch) (ω : WX) (N : Nat) {k0 : Nat} (hk0 : lay k0 = 2) (x1 : Int32) {k2 n2 : Nat} (hk2 : lay k2 = 1000 + n2) (h : Mem) : MC rvI l ω yX2_hasTotals cX2_hasTotals 4 (some .boolean) 2 [.ref (ω.1 + k0), .int x1, .ref (ω.1 + k2)] h (F_X2_hasTotals N k0 x1 k2 n2 h) := by
  refine MC.of (by decide +kernel) [(0, .ref (ω.1 + k0)), (1, .int x1), (2, .ref (ω.1 + k2))] rfl (Nat.le_of_ble_eq_true rfl) (fun χ K => ?_)
  have K : Kok ω χ "SaltClouds$Sky" cX2_hasTotals 4 (some .boolean) 2 := K
  unfold F_X2_hasTotals
  refine J_iconst (pc := 0) K (0) dX2_hasTotals_0 (by decide) ?_
  refine J_istore_n (pc := 1) K dX2_hasTotals_1 3 rfl (by decide) [(3, .int (0 : Int32)), (0, .ref (ω.1 + k0)), (1, .int x1), (2, .ref (ω.1 + k2))] rfl ?_
  refine J_lv [1, 2, 3, 0] [(0, .ref (ω.1 + k0)), (1, .int x1), (2, .ref (ω.1 + k2)), (3, .int (0 : Int32))] rfl ?_
  refine okL_X2_hasTotals_2 K  (by decide) N hk0 hk2 (fun h3 => ?_) _ _ _
  refine J_iconst (pc := 33) K (1) dX2_hasTotals_33 (by decide) ?_
  exact J_nret (pc := 34) K rfl dX2_hasTotals_34
def F_X2_setsOfTotals_11 (N : Nat) (k0 : Nat) (k1 n1 : Nat) (w2 : Int32) (w3 : Int32) (kt : Int32 → Mem → Option (Int32 × Mem)) : Nat → Int32 → Int32 → Mem → Option (Int32 × Mem)
  | 0, _, _, _ => none
  | n + 1, u4, u5, h =>
    (if w3 < u5 then
      (kt u4 h)
    else
      (if (u5 &&& (w3 ^^^ (-1 : Int32))) = 0 then
        (bnd (F_X2_hasTotals N k0 u5 k1 n1 h) (fun r3 h4 =>
        (if r3 = 0 then
          (F_X2_setsOfTotals_11 N k0 k1 n1 w2 w3 kt n u4 (u5 + 1) h4)
        else
          (if w2 = 0 then
            (F_X2_setsOfTotals_11 N k0 k1 n1 w2 w3 kt n (u4 + 1) (u5 + 1) h4)
          else
            (some (u5, h4))))))
      else
        (F_X2_setsOfTotals_11 N k0 k1 n1 w2 w3 kt n u4 (u5 + 1) h)))
set_option maxRecDepth 10000 in
set_option maxHeartbeats 1000000 in
theorem okL_X2_setsOfTotals_11 {l : Launch} {ω : WX} {χ : KT} {d : Nat} (K : Kok ω χ "SaltClouds$Sky" cX2_setsOfTotals 6 (some .int) d) (hd : 3 ≤ d) (N : Nat) {k0 : Nat} (hk0 : lay k0 = 2) {k1 n1 : Nat} (hk1 : lay k1 = 1000 + n1) {w2 : Int32} {w3 : Int32} {kt : Int32 → Mem → Option (Int32 × Mem)} (hK : ∀ (u4 : Int32) (h : Mem), J (ZM rvI ω χ) l ω χ 52 6 [(4, .int u4)] [] h (kt u4 h)) : ∀ (n : Nat) (u4 : Int32) (u5 : Int32) (h : Mem), J (ZM rvI ω χ) l ω χ 11 6 [(0, .ref (ω.1 + k0)), (1, .ref (ω.1 + k1)), (2, .int w2), (3, .int w3), (4, .int u4), (5, .int u5)] [] h (F_X2_setsOfTotals_11 N k0 k1 n1 w2 w3 kt n u4 u5 h) := by
  intro n
  induction n with
  | zero =>
    intro u4 u5 h
    exact J_none rfl
  | succ n ih =>
    intro u4 u5 h
    rw [F_X2_setsOfTotals_11]
    refine J_iload (pc := 11) K dX2_setsOfTotals_11 5 rfl ?_
    refine J_iload_n (pc := 13) K dX2_setsOfTotals_13 3 rfl 3 rfl ?_
    refine J_icmp_gt (pc := 14) K 52 dX2_setsOfTotals_14 (by decide) ?_ ?_
    · refine J_lv [4] [(4, .int u4)] rfl ?_
      exact hK u4 h
    · refine J_iload (pc := 17) K dX2_setsOfTotals_17 5 rfl ?_
      refine J_iload_n (pc := 19) K dX2_setsOfTotals_19 3 rfl 3 rfl ?_
      refine J_iconst (pc := 20) K (-1) dX2_setsOfTotals_20 (by decide) ?_
      refine J_ixor (pc := 21) K dX2_setsOfTotals_21 ?_
      refine J_iand (pc := 22) K dX2_setsOfTotals_22 ?_
      refine J_if_ne (pc := 23) K 46 dX2_setsOfTotals_23 (by decide) ?_ ?_
      · refine J_aload_n (pc := 26) K dX2_setsOfTotals_26 0 rfl 0 rfl ?_
        refine J_iload (pc := 27) K dX2_setsOfTotals_27 5 rfl ?_
        refine J_aload_n (pc := 29) K dX2_setsOfTotals_29 1 rfl 1 rfl ?_
        refine J_callVI (As := [.int u5, .ref (ω.1 + k1)]) (rest := []) (pc := 30) K cs_SaltClouds_Sky_193 (ok_X2_hasTotals l ω N hk0 u5 (n2 := n1) hk1 h) hk0 (by omega) rfl rfl (Nat.le_of_ble_eq_true rfl) dX2_setsOfTotals_30 (fun r3 h4 => ?_)
        refine J_if_eq (pc := 33) K 46 dX2_setsOfTotals_33 (by decide) ?_ ?_
        · refine J_iinc (pc := 46) K (1) dX2_setsOfTotals_46 5 rfl (by decide) (by decide) [(5, .int (u5 + 1)), (0, .ref (ω.1 + k0)), (1, .ref (ω.1 + k1)), (2, .int w2), (3, .int w3), (4, .int u4)] rfl ?_
          refine J_goto (pc := 49) K 11 dX2_setsOfTotals_49 (by decide) ?_
          refine J_lv [1, 2, 3, 4, 5, 0] [(0, .ref (ω.1 + k0)), (1, .ref (ω.1 + k1)), (2, .int w2), (3, .int w3), (4, .int u4), (5, .int (u5 + 1))] rfl ?_
          exact ih u4 (u5 + 1) h4
        · refine J_iload_n (pc := 36) K dX2_setsOfTotals_36 2 rfl 2 rfl ?_
          refine J_if_eq (pc := 37) K 43 dX2_setsOfTotals_37 (by decide) ?_ ?_
          · refine J_iinc (pc := 43) K (1) dX2_setsOfTotals_43 4 rfl (by decide) (by decide) [(4, .int (u4 + 1)), (0, .ref (ω.1 + k0)), (1, .ref (ω.1 + k1)), (2, .int w2), (3, .int w3), (5, .int u5)] rfl ?_
            refine J_iinc (pc := 46) K (1) dX2_setsOfTotals_46 5 rfl (by decide) (by decide) [(5, .int (u5 + 1)), (4, .int (u4 + 1)), (0, .ref (ω.1 + k0)), (1, .ref (ω.1 + k1)), (2, .int w2), (3, .int w3)] rfl ?_
            refine J_goto (pc := 49) K 11 dX2_setsOfTotals_49 (by decide) ?_
            refine J_lv [2, 3, 4, 5, 1, 0] [(0, .ref (ω.1 + k0)), (1, .ref (ω.1 + k1)), (2, .int w2), (3, .int w3), (4, .int (u4 + 1)), (5, .int (u5 + 1))] rfl ?_
            exact ih (u4 + 1) (u5 + 1) h4
          · refine J_iload (pc := 40) K dX2_setsOfTotals_40 5 rfl ?_
            exact J_iret (pc := 42) K dX2_setsOfTotals_42
      · refine J_iinc (pc := 46) K (1) dX2_setsOfTotals_46 5 rfl (by decide) (by decide) [(5, .int (u5 + 1)), (0, .ref (ω.1 + k0)), (1, .ref (ω.1 + k1)), (2, .int w2), (3, .int w3), (4, .int u4)] rfl ?_
        refine J_goto (pc := 49) K 11 dX2_setsOfTotals_49 (by decide) ?_
        refine J_lv [1, 2, 3, 4, 5, 0] [(0, .ref (ω.1 + k0)), (1, .ref (ω.1 + k1)), (2, .int w2), (3, .int w3), (4, .int u4), (5, .int (u5 + 1))] rfl ?_
        exact ih u4 (u5 + 1) h
def F_X2_setsOfTotals (N : Nat) (k0 : Nat) (k1 n1 : Nat) (x2 : Int32) (h : Mem) : Option (Int32 × Mem) :=
  (bnd (F_X2_setOfAll N k0 h) (fun r1 h2 =>
  (F_X2_setsOfTotals_11 N k0 k1 n1 x2 r1 (fun (v5 : Int32) (h6 : Mem) =>
    (some (v5, h6))) N (0 : Int32) (1 : Int32) h2)))
set_option maxRecDepth 10000 in
set_option maxHeartbeats 1000000 in
theorem ok_X2_setsOfTotals (l : Launch) (ω : WX) (N : Nat) {k0 : Nat} (hk0 : lay k0 = 2) {k1 n1 : Nat} (hk1 : lay k1 = 1000 + n1) (x2 : Int32) (h : Mem) : MC rvI l ω yX2_setsOfTotals cX2_setsOfTotals 6 (some .int) 3 [.ref (ω.1 + k0), .ref (ω.1 + k1), .int x2] h (F_X2_setsOfTotals N k0 k1 n1 x2 h) := by
  refine MC.of (by decide +kernel) [(0, .ref (ω.1 + k0)), (1, .ref (ω.1 + k1)), (2, .int x2)] rfl (Nat.le_of_ble_eq_true rfl) (fun χ K => ?_)
  have K : Kok ω χ "SaltClouds$Sky" cX2_setsOfTotals 6 (some .int) 3 := K
  unfold F_X2_setsOfTotals
  refine J_aload_n (pc := 0) K dX2_setsOfTotals_0 0 rfl 0 rfl ?_
  refine J_callVI (As := []) (rest := []) (pc := 1) K cs_SaltClouds_Sky_182 (ok_X2_setOfAll l ω N hk0 h) hk0 (by decide) rfl rfl (Nat.le_of_ble_eq_true rfl) dX2_setsOfTotals_1 (fun r1 h2 => ?_)
  refine J_istore_n (pc := 4) K dX2_setsOfTotals_4 3 rfl (by decide) [(3, .int r1), (0, .ref (ω.1 + k0)), (1, .ref (ω.1 + k1)), (2, .int x2)] rfl ?_
  refine J_iconst (pc := 5) K (0) dX2_setsOfTotals_5 (by decide) ?_
  refine J_istore (pc := 6) K dX2_setsOfTotals_6 (by decide) [(4, .int (0 : Int32)), (3, .int r1), (0, .ref (ω.1 + k0)), (1, .ref (ω.1 + k1)), (2, .int x2)] rfl ?_
  refine J_iconst (pc := 8) K (1) dX2_setsOfTotals_8 (by decide) ?_
  refine J_istore (pc := 9) K dX2_setsOfTotals_9 (by decide) [(5, .int (1 : Int32)), (4, .int (0 : Int32)), (3, .int r1), (0, .ref (ω.1 + k0)), (1, .ref (ω.1 + k1)), (2, .int x2)] rfl ?_
  refine J_lv [3, 4, 5, 2, 1, 0] [(0, .ref (ω.1 + k0)), (1, .ref (ω.1 + k1)), (2, .int x2), (3, .int r1), (4, .int (0 : Int32)), (5, .int (1 : Int32))] rfl ?_
  refine okL_X2_setsOfTotals_11 K  (by decide) N hk0 hk1 (fun v5 h6 => ?_) _ _ _ _
  refine J_iload (pc := 52) K dX2_setsOfTotals_52 0 rfl ?_
  exact J_iret (pc := 54) K dX2_setsOfTotals_54
def F_X6_storm (N : Nat) (k0 : Nat) (x1 : Int32) (x2 : Int32) (h : Mem) : Option (Int32 × Mem) :=
  (bnd (F_X6_isSheet x1 h) (fun r1 h2 =>
  (if r1 = 0 then
    (bnd (F_X6_refuse k0 (-1000000001 : Int32) h2) (fun r3 h4 =>
    (some (r3, h4))))
  else
    (bnd (F_X6_within x2 (0 : Int32) (1 : Int32) h2) (fun r5 h6 =>
    (if r5 = 0 then
      (bnd (F_X6_refuse k0 (-1000000001 : Int32) h6) (fun r7 h8 =>
      (some (r7, h8))))
    else
      (gin x1 4
      (bnd (F_X1_isMissing ((k0 + 85) + 9 + 2 * ix x1) h6) (fun r10 h11 =>
      (if r10 = 0 then
        (gin x1 4
        (if (h11 ((k0 + 85) + 9 + 2 * ix x1) 1) = (4 : Int32) then
          (gin x1 4
          (jn (fun (s15 : Int32) (h16 : Mem) =>
            (bnd (F_X2_setsOfTotals N (k0 + 1) (((k0 + 85) + 9 + 2 * ix x1) + 1) 40 s15 h16) (fun r17 h18 =>
            (if r17 = 0 then
              (bnd (F_X6_refuse k0 (-1000000002 : Int32) h18) (fun r19 h20 =>
              (some (r19, h20))))
            else
              (some (r17, h18)))))) (fun j14 =>
            (if x2 = 0 then
              (j14 (1 : Int32) h11)
            else
              (j14 (0 : Int32) h11)))))
        else
          (bnd (F_X6_refuse k0 (-1000000002 : Int32) h11) (fun r21 h22 =>
          (some (r21, h22))))))
      else
        (bnd (F_X6_refuse k0 (-1000000002 : Int32) h11) (fun r23 h24 =>
        (some (r23, h24))))))))))))))
set_option maxRecDepth 10000 in
set_option maxHeartbeats 1000000 in
theorem ok_X6_storm (l : Launch) (ω : WX) (N : Nat) {k0 : Nat} (hk0 : lay k0 = 6) (x1 : Int32) (x2 : Int32) (h : Mem) : MC rvI l ω yX6_storm cX6_storm 4 (some .int) 4 [.ref (ω.1 + k0), .int x1, .int x2] h (F_X6_storm N k0 x1 x2 h) := by
  refine MC.of (by decide +kernel) [(0, .ref (ω.1 + k0)), (1, .int x1), (2, .int x2)] rfl (Nat.le_of_ble_eq_true rfl) (fun χ K => ?_)
  have K : Kok ω χ "SaltClouds" cX6_storm 4 (some .int) 4 := K
  unfold F_X6_storm
  refine J_iload_n (pc := 0) K dX6_storm_0 1 rfl 1 rfl ?_
  refine J_callTI (As := [.int x1]) (rest := []) (pc := 1) K cs_SaltClouds_206 (ok_X6_isSheet l ω x1 h) (by decide) rfl rfl (Nat.le_of_ble_eq_true rfl) dX6_storm_1 (fun r1 h2 => ?_)
  refine J_if_eq (pc := 4) K 16 dX6_storm_4 (by decide) ?_ ?_
  · refine J_aload_n (pc := 16) K dX6_storm_16 0 rfl 0 rfl ?_
    refine J_ldc (pc := 17) K kc_SaltClouds_59 dX6_storm_17 ?_
    refine J_callVI (As := [.int (-1000000001 : Int32)]) (rest := []) (pc := 19) K cs_SaltClouds_60 (ok_X6_refuse l ω hk0 (-1000000001 : Int32) h2) hk0 (by decide) rfl rfl (Nat.le_of_ble_eq_true rfl) dX6_storm_19 (fun r3 h4 => ?_)
    exact J_iret (pc := 22) K dX6_storm_22
  · refine J_iload_n (pc := 7) K dX6_storm_7 2 rfl 2 rfl ?_
    refine J_iconst (pc := 8) K (0) dX6_storm_8 (by decide) ?_
    refine J_iconst (pc := 9) K (1) dX6_storm_9 (by decide) ?_
    refine J_callTI (As := [.int x2, .int (0 : Int32), .int (1 : Int32)]) (rest := []) (pc := 10) K cs_SaltClouds_51 (ok_X6_within l ω x2 (0 : Int32) (1 : Int32) h2) (by decide) rfl rfl (Nat.le_of_ble_eq_true rfl) dX6_storm_10 (fun r5 h6 => ?_)
    refine J_if_ne (pc := 13) K 23 dX6_storm_13 (by decide) ?_ ?_
    · refine J_aload_n (pc := 16) K dX6_storm_16 0 rfl 0 rfl ?_
      refine J_ldc (pc := 17) K kc_SaltClouds_59 dX6_storm_17 ?_
      refine J_callVI (As := [.int (-1000000001 : Int32)]) (rest := []) (pc := 19) K cs_SaltClouds_60 (ok_X6_refuse l ω hk0 (-1000000001 : Int32) h6) hk0 (by decide) rfl rfl (Nat.le_of_ble_eq_true rfl) dX6_storm_19 (fun r7 h8 => ?_)
      exact J_iret (pc := 22) K dX6_storm_22
    · refine J_aload_n (pc := 23) K dX6_storm_23 0 rfl 0 rfl ?_
      refine J_getR (pc := 24) K gf_SaltClouds_28 hk0 85 rfl dX6_storm_24 ?_
      refine J_iload_n (pc := 27) K dX6_storm_27 1 rfl 1 rfl ?_
      refine J_aldS (pc := 28) K (a := k0 + 85) (ty_6_85 hk0) dX6_storm_28 (fun b9 => ?_)
      refine J_callVI (As := []) (rest := []) (pc := 29) K cs_SaltClouds_209 (ok_X1_isMissing l ω (ty_9e (ty_6_85 hk0) b9) h6) (ty_9e (ty_6_85 hk0) b9) (by decide) rfl rfl (Nat.le_of_ble_eq_true rfl) dX6_storm_29 (fun r10 h11 => ?_)
      refine J_if_ne (pc := 32) K 48 dX6_storm_32 (by decide) ?_ ?_
      · refine J_aload_n (pc := 35) K dX6_storm_35 0 rfl 0 rfl ?_
        refine J_getR (pc := 36) K gf_SaltClouds_28 hk0 85 rfl dX6_storm_36 ?_
        refine J_iload_n (pc := 39) K dX6_storm_39 1 rfl 1 rfl ?_
        refine J_aldS (pc := 40) K (a := k0 + 85) (ty_6_85 hk0) dX6_storm_40 (fun b12 => ?_)
        refine J_getI (pc := 41) K gf_SaltClouds_213 (ty_9e (ty_6_85 hk0) b12) rfl dX6_storm_41 ?_
        refine J_iconst (pc := 44) K (4) dX6_storm_44 (by decide) ?_
        refine J_icmp_eq (pc := 45) K 55 dX6_storm_45 (by decide) ?_ ?_
        · refine J_aload_n (pc := 55) K dX6_storm_55 0 rfl 0 rfl ?_
          refine J_getR (pc := 56) K gf_SaltClouds_12 hk0 1 rfl dX6_storm_56 ?_
          refine J_aload_n (pc := 59) K dX6_storm_59 0 rfl 0 rfl ?_
          refine J_getR (pc := 60) K gf_SaltClouds_28 hk0 85 rfl dX6_storm_60 ?_
          refine J_iload_n (pc := 63) K dX6_storm_63 1 rfl 1 rfl ?_
          refine J_aldS (pc := 64) K (a := k0 + 85) (ty_6_85 hk0) dX6_storm_64 (fun b13 => ?_)
          refine J_getR (pc := 65) K gf_SaltClouds_216 (ty_9e (ty_6_85 hk0) b13) 1 rfl dX6_storm_65 ?_
          refine J_iload_n (pc := 68) K dX6_storm_68 2 rfl 2 rfl ?_
          refine J_jn (fun j14 => ∀ (s15 : Int32) (h16 : Mem), J (ZM rvI ω χ) l ω χ 77 4 [(0, .ref (ω.1 + k0))] [.int s15, .ref (ω.1 + (((k0 + 85) + 9 + 2 * ix x1) + 1)), .ref (ω.1 + (k0 + 1))] h16 (j14 s15 h16)) ?_ ?_
          · intro s15 h16
            refine J_callVI (As := [.ref (ω.1 + (((k0 + 85) + 9 + 2 * ix x1) + 1)), .int s15]) (rest := []) (pc := 77) K cs_SaltClouds_219 (ok_X2_setsOfTotals l ω N (ty_6_1 hk0) (n1 := 40) (ty_1_1 (ty_9e (ty_6_85 hk0) b13)) s15 h16) (ty_6_1 hk0) (by decide) rfl rfl (Nat.le_of_ble_eq_true rfl) dX6_storm_77 (fun r17 h18 => ?_)
            refine J_istore_n (pc := 80) K dX6_storm_80 3 rfl (by decide) [(3, .int r17), (0, .ref (ω.1 + k0))] rfl ?_
            refine J_iload_n (pc := 81) K dX6_storm_81 3 rfl 0 rfl ?_
            refine J_if_ne (pc := 82) K 94 dX6_storm_82 (by decide) ?_ ?_
            · refine J_aload_n (pc := 85) K dX6_storm_85 0 rfl 1 rfl ?_
              refine J_ldc (pc := 86) K kc_SaltClouds_188 dX6_storm_86 ?_
              refine J_callVI (As := [.int (-1000000002 : Int32)]) (rest := []) (pc := 88) K cs_SaltClouds_60 (ok_X6_refuse l ω hk0 (-1000000002 : Int32) h18) hk0 (by decide) rfl rfl (Nat.le_of_ble_eq_true rfl) dX6_storm_88 (fun r19 h20 => ?_)
              refine J_goto (pc := 91) K 95 dX6_storm_91 (by decide) ?_
              exact J_iret (pc := 95) K dX6_storm_95
            · refine J_iload_n (pc := 94) K dX6_storm_94 3 rfl 0 rfl ?_
              exact J_iret (pc := 95) K dX6_storm_95
          · intro j14 hj14
            refine J_if_ne (pc := 69) K 76 dX6_storm_69 (by decide) ?_ ?_
            · refine J_iconst (pc := 72) K (1) dX6_storm_72 (by decide) ?_
              refine J_goto (pc := 73) K 77 dX6_storm_73 (by decide) ?_
              refine J_lv [0] [(0, .ref (ω.1 + k0))] rfl ?_
              exact hj14 (1 : Int32) h11
            · refine J_iconst (pc := 76) K (0) dX6_storm_76 (by decide) ?_
              refine J_lv [0] [(0, .ref (ω.1 + k0))] rfl ?_
              exact hj14 (0 : Int32) h11
        · refine J_aload_n (pc := 48) K dX6_storm_48 0 rfl 0 rfl ?_
          refine J_ldc (pc := 49) K kc_SaltClouds_188 dX6_storm_49 ?_
          refine J_callVI (As := [.int (-1000000002 : Int32)]) (rest := []) (pc := 51) K cs_SaltClouds_60 (ok_X6_refuse l ω hk0 (-1000000002 : Int32) h11) hk0 (by decide) rfl rfl (Nat.le_of_ble_eq_true rfl) dX6_storm_51 (fun r21 h22 => ?_)
          exact J_iret (pc := 54) K dX6_storm_54
      · refine J_aload_n (pc := 48) K dX6_storm_48 0 rfl 0 rfl ?_
        refine J_ldc (pc := 49) K kc_SaltClouds_188 dX6_storm_49 ?_
        refine J_callVI (As := [.int (-1000000002 : Int32)]) (rest := []) (pc := 51) K cs_SaltClouds_60 (ok_X6_refuse l ω hk0 (-1000000002 : Int32) h11) hk0 (by decide) rfl rfl (Nat.le_of_ble_eq_true rfl) dX6_storm_51 (fun r23 h24 => ?_)
        exact J_iret (pc := 54) K dX6_storm_54
def F_X6_paid (N : Nat) (k0 : Nat) (h : Mem) : Option (Int32 × Mem) :=
  (bnd (F_X2_takeFrom N (k0 + 57) (k0 + 1) h) (fun _ h2 =>
  (bnd (F_X2_payRound N (k0 + 57) h2) (fun r3 h4 =>
  (some (r3, h4))))))
set_option maxRecDepth 10000 in
set_option maxHeartbeats 1000000 in
theorem ok_X6_paid (l : Launch) (ω : WX) (N : Nat) {k0 : Nat} (hk0 : lay k0 = 6) (h : Mem) : MC rvI l ω yX6_paid cX6_paid 1 (some .int) 6 [.ref (ω.1 + k0)] h (F_X6_paid N k0 h) := by
  refine MC.of (by decide +kernel) [(0, .ref (ω.1 + k0))] rfl (Nat.le_of_ble_eq_true rfl) (fun χ K => ?_)
  have K : Kok ω χ "SaltClouds" cX6_paid 1 (some .int) 6 := K
  unfold F_X6_paid
  refine J_aload_n (pc := 0) K dX6_paid_0 0 rfl 0 rfl ?_
  refine J_getR (pc := 1) K gf_SaltClouds_19 hk0 57 rfl dX6_paid_1 ?_
  refine J_aload_n (pc := 4) K dX6_paid_4 0 rfl 0 rfl ?_
  refine J_getR (pc := 5) K gf_SaltClouds_12 hk0 1 rfl dX6_paid_5 ?_
  refine J_callVU (As := [.ref (ω.1 + (k0 + 1))]) (rest := []) (pc := 8) K cs_SaltClouds_179 (ok_X2_takeFrom l ω N (ty_6_57 hk0) (ty_6_1 hk0) h) (ty_6_57 hk0) (by decide) rfl rfl (Nat.le_of_ble_eq_true rfl) dX6_paid_8 (fun _ h2 => ?_)
  refine J_aload_n (pc := 11) K dX6_paid_11 0 rfl 0 rfl ?_
  refine J_getR (pc := 12) K gf_SaltClouds_19 hk0 57 rfl dX6_paid_12 ?_
  refine J_callVI (As := []) (rest := []) (pc := 15) K cs_SaltClouds_182 (ok_X2_payRound l ω N (ty_6_57 hk0) h2) (ty_6_57 hk0) (by decide) rfl rfl (Nat.le_of_ble_eq_true rfl) dX6_paid_15 (fun r3 h4 => ?_)
  exact J_iret (pc := 18) K dX6_paid_18
def F_X0_minutesToBelow_9 (N : Nat) (w1 : Int32) (w2 : Int32) (kt : Int32 → Mem → Option (Int32 × Mem)) : Nat → Int32 → Int32 → Mem → Option (Int32 × Mem)
  | 0, _, _, _ => none
  | n + 1, u3, u4, h =>
    (if u3 < w2 then
      (kt u4 h)
    else
      (if (99 : Int32) < u4 then
        (kt u4 h)
      else
        (bnd (F_J9_max_7cf53 (0 : Int32) (u3 - (w1 + (1 : Int32))) h) (fun r3 h4 =>
        (F_X0_minutesToBelow_9 N w1 w2 kt n r3 (u4 + 1) h4)))))
set_option maxRecDepth 10000 in
set_option maxHeartbeats 1000000 in
theorem okL_X0_minutesToBelow_9 {l : Launch} {ω : WX} {χ : KT} {d : Nat} (K : Kok ω χ "SaltClouds$Cloud" cX0_minutesToBelow 5 (some .int) d) (hd : 1 ≤ d) (N : Nat) {w1 : Int32} {w2 : Int32} {kt : Int32 → Mem → Option (Int32 × Mem)} (hK : ∀ (u4 : Int32) (h : Mem), J (ZM rvI ω χ) l ω χ 37 5 [(4, .int u4)] [] h (kt u4 h)) : ∀ (n : Nat) (u3 : Int32) (u4 : Int32) (h : Mem), J (ZM rvI ω χ) l ω χ 9 5 [(1, .int w1), (2, .int w2), (3, .int u3), (4, .int u4)] [] h (F_X0_minutesToBelow_9 N w1 w2 kt n u3 u4 h) := by
  intro n
  induction n with
  | zero =>
    intro u3 u4 h
    exact J_none rfl
  | succ n ih =>
    intro u3 u4 h
    rw [F_X0_minutesToBelow_9]
    refine J_iload_n (pc := 9) K dX0_minutesToBelow_9 3 rfl 2 rfl ?_
    refine J_iload_n (pc := 10) K dX0_minutesToBelow_10 2 rfl 1 rfl ?_
    refine J_icmp_lt (pc := 11) K 37 dX0_minutesToBelow_11 (by decide) ?_ ?_
    · refine J_lv [3] [(4, .int u4)] rfl ?_
      exact hK u4 h
    · refine J_iload (pc := 14) K dX0_minutesToBelow_14 3 rfl ?_
      refine J_bipush (pc := 16) K (99) dX0_minutesToBelow_16 (by decide) ?_
      refine J_icmp_gt (pc := 18) K 37 dX0_minutesToBelow_18 (by decide) ?_ ?_
      · refine J_lv [3] [(4, .int u4)] rfl ?_
        exact hK u4 h
      · refine J_iconst (pc := 21) K (0) dX0_minutesToBelow_21 (by decide) ?_
        refine J_iload_n (pc := 22) K dX0_minutesToBelow_22 3 rfl 2 rfl ?_
        refine J_iload_n (pc := 23) K dX0_minutesToBelow_23 1 rfl 0 rfl ?_
        refine J_iconst (pc := 24) K (1) dX0_minutesToBelow_24 (by decide) ?_
        refine J_iadd (pc := 25) K dX0_minutesToBelow_25 ?_
        refine J_isub (pc := 26) K dX0_minutesToBelow_26 ?_
        refine J_callTI (As := [.int (0 : Int32), .int (u3 - (w1 + (1 : Int32)))]) (rest := []) (pc := 27) K cs_SaltClouds_Cloud_68 (ok_J9_max_7cf53 l ω (0 : Int32) (u3 - (w1 + (1 : Int32))) h) (by omega) rfl rfl (Nat.le_of_ble_eq_true rfl) dX0_minutesToBelow_27 (fun r3 h4 => ?_)
        refine J_istore_n (pc := 30) K dX0_minutesToBelow_30 3 rfl (by decide) [(3, .int r3), (1, .int w1), (2, .int w2), (4, .int u4)] rfl ?_
        refine J_iinc (pc := 31) K (1) dX0_minutesToBelow_31 3 rfl (by decide) (by decide) [(4, .int (u4 + 1)), (3, .int r3), (1, .int w1), (2, .int w2)] rfl ?_
        refine J_goto (pc := 34) K 9 dX0_minutesToBelow_34 (by decide) ?_
        refine J_lv [2, 3, 1, 0] [(1, .int w1), (2, .int w2), (3, .int r3), (4, .int (u4 + 1))] rfl ?_
        exact ih r3 (u4 + 1) h4
def F_X0_minutesToBelow (N : Nat) (k0 : Nat) (x1 : Int32) (x2 : Int32) (h : Mem) : Option (Int32 × Mem) :=
  (bnd (F_X0_saltAt k0 x1 h) (fun r1 h2 =>
  (F_X0_minutesToBelow_9 N x1 x2 (fun (v5 : Int32) (h6 : Mem) =>
    (some (v5, h6))) N r1 (0 : Int32) h2)))
set_option maxRecDepth 10000 in
set_option maxHeartbeats 1000000 in
theorem ok_X0_minutesToBelow (l : Launch) (ω : WX) (N : Nat) {k0 : Nat} (hk0 : lay k0 = 0) (x1 : Int32) (x2 : Int32) (h : Mem) : MC rvI l ω yX0_minutesToBelow cX0_minutesToBelow 5 (some .int) 1 [.ref (ω.1 + k0), .int x1, .int x2] h (F_X0_minutesToBelow N k0 x1 x2 h) := by
  refine MC.of (by decide +kernel) [(0, .ref (ω.1 + k0)), (1, .int x1), (2, .int x2)] rfl (Nat.le_of_ble_eq_true rfl) (fun χ K => ?_)
  have K : Kok ω χ "SaltClouds$Cloud" cX0_minutesToBelow 5 (some .int) 1 := K
  unfold F_X0_minutesToBelow
  refine J_aload_n (pc := 0) K dX0_minutesToBelow_0 0 rfl 0 rfl ?_
  refine J_iload_n (pc := 1) K dX0_minutesToBelow_1 1 rfl 1 rfl ?_
  refine J_callVI (As := [.int x1]) (rest := []) (pc := 2) K cs_SaltClouds_Cloud_81 (ok_X0_saltAt l ω hk0 x1 h) hk0 (by decide) rfl rfl (Nat.le_of_ble_eq_true rfl) dX0_minutesToBelow_2 (fun r1 h2 => ?_)
  refine J_istore_n (pc := 5) K dX0_minutesToBelow_5 3 rfl (by decide) [(3, .int r1), (0, .ref (ω.1 + k0)), (1, .int x1), (2, .int x2)] rfl ?_
  refine J_iconst (pc := 6) K (0) dX0_minutesToBelow_6 (by decide) ?_
  refine J_istore (pc := 7) K dX0_minutesToBelow_7 (by decide) [(4, .int (0 : Int32)), (3, .int r1), (0, .ref (ω.1 + k0)), (1, .int x1), (2, .int x2)] rfl ?_
  refine J_lv [3, 4, 1, 0] [(1, .int x1), (2, .int x2), (3, .int r1), (4, .int (0 : Int32))] rfl ?_
  refine okL_X0_minutesToBelow_9 K  (by decide) N  (fun v5 h6 => ?_) _ _ _ _
  refine J_iload (pc := 37) K dX0_minutesToBelow_37 0 rfl ?_
  exact J_iret (pc := 39) K dX0_minutesToBelow_39
def F_X0_firstSaltBelow_4 (N : Nat) (k0 : Nat) (w1 : Int32) (kt : Int32 → Mem → Option (Int32 × Mem)) : Nat → Int32 → Int32 → Mem → Option (Int32 × Mem)
  | 0, _, _, _ => none
  | n + 1, u2, u3, h =>
    (if (3 : Int32) ≤ u3 then
      (kt u2 h)
    else
      (bnd (F_X0_minutesToBelow N k0 u3 w1 h) (fun r1 h2 =>
      (bnd (F_X0_minutesToBelow N k0 u2 w1 h2) (fun r3 h4 =>
      (if r3 ≤ r1 then
        (F_X0_firstSaltBelow_4 N k0 w1 kt n u2 (u3 + 1) h4)
      else
        (F_X0_firstSaltBelow_4 N k0 w1 kt n u3 (u3 + 1) h4)))))))
set_option maxRecDepth 10000 in
set_option maxHeartbeats 1000000 in
theorem okL_X0_firstSaltBelow_4 {l : Launch} {ω : WX} {χ : KT} {d : Nat} (K : Kok ω χ "SaltClouds$Cloud" cX0_firstSaltBelow 4 (some .int) d) (hd : 2 ≤ d) (N : Nat) {k0 : Nat} (hk0 : lay k0 = 0) {w1 : Int32} {kt : Int32 → Mem → Option (Int32 × Mem)} (hK : ∀ (u2 : Int32) (h : Mem), J (ZM rvI ω χ) l ω χ 32 4 [(2, .int u2)] [] h (kt u2 h)) : ∀ (n : Nat) (u2 : Int32) (u3 : Int32) (h : Mem), J (ZM rvI ω χ) l ω χ 4 4 [(0, .ref (ω.1 + k0)), (1, .int w1), (2, .int u2), (3, .int u3)] [] h (F_X0_firstSaltBelow_4 N k0 w1 kt n u2 u3 h) := by
  intro n
  induction n with
  | zero =>
    intro u2 u3 h
    exact J_none rfl
  | succ n ih =>
    intro u2 u3 h
    rw [F_X0_firstSaltBelow_4]
    refine J_iload_n (pc := 4) K dX0_firstSaltBelow_4 3 rfl 3 rfl ?_
    refine J_iconst (pc := 5) K (3) dX0_firstSaltBelow_5 (by decide) ?_
    refine J_icmp_ge (pc := 6) K 32 dX0_firstSaltBelow_6 (by decide) ?_ ?_
    · refine J_lv [2] [(2, .int u2)] rfl ?_
      exact hK u2 h
    · refine J_aload_n (pc := 9) K dX0_firstSaltBelow_9 0 rfl 0 rfl ?_
      refine J_iload_n (pc := 10) K dX0_firstSaltBelow_10 3 rfl 3 rfl ?_
      refine J_iload_n (pc := 11) K dX0_firstSaltBelow_11 1 rfl 1 rfl ?_
      refine J_callVI (As := [.int u3, .int w1]) (rest := []) (pc := 12) K cs_SaltClouds_Cloud_78 (ok_X0_minutesToBelow l ω N hk0 u3 w1 h) hk0 (by omega) rfl rfl (Nat.le_of_ble_eq_true rfl) dX0_firstSaltBelow_12 (fun r1 h2 => ?_)
      refine J_aload_n (pc := 15) K dX0_firstSaltBelow_15 0 rfl 0 rfl ?_
      refine J_iload_n (pc := 16) K dX0_firstSaltBelow_16 2 rfl 2 rfl ?_
      refine J_iload_n (pc := 17) K dX0_firstSaltBelow_17 1 rfl 1 rfl ?_
      refine J_callVI (As := [.int u2, .int w1]) (rest := [.int r1]) (pc := 18) K cs_SaltClouds_Cloud_78 (ok_X0_minutesToBelow l ω N hk0 u2 w1 h2) hk0 (by omega) rfl rfl (Nat.le_of_ble_eq_true rfl) dX0_firstSaltBelow_18 (fun r3 h4 => ?_)
      refine J_icmp_ge (pc := 21) K 26 dX0_firstSaltBelow_21 (by decide) ?_ ?_
      · refine J_iinc (pc := 26) K (1) dX0_firstSaltBelow_26 3 rfl (by decide) (by decide) [(3, .int (u3 + 1)), (0, .ref (ω.1 + k0)), (1, .int w1), (2, .int u2)] rfl ?_
        refine J_goto (pc := 29) K 4 dX0_firstSaltBelow_29 (by decide) ?_
        refine J_lv [1, 2, 3, 0] [(0, .ref (ω.1 + k0)), (1, .int w1), (2, .int u2), (3, .int (u3 + 1))] rfl ?_
        exact ih u2 (u3 + 1) h4
      · refine J_iload_n (pc := 24) K dX0_firstSaltBelow_24 3 rfl 3 rfl ?_
        refine J_istore_n (pc := 25) K dX0_firstSaltBelow_25 2 rfl (by decide) [(2, .int u3), (0, .ref (ω.1 + k0)), (1, .int w1), (3, .int u3)] rfl ?_
        refine J_iinc (pc := 26) K (1) dX0_firstSaltBelow_26 3 rfl (by decide) (by decide) [(3, .int (u3 + 1)), (2, .int u3), (0, .ref (ω.1 + k0)), (1, .int w1)] rfl ?_
        refine J_goto (pc := 29) K 4 dX0_firstSaltBelow_29 (by decide) ?_
        refine J_lv [2, 3, 1, 0] [(0, .ref (ω.1 + k0)), (1, .int w1), (2, .int u3), (3, .int (u3 + 1))] rfl ?_
        exact ih u3 (u3 + 1) h4
def F_X0_firstSaltBelow (N : Nat) (k0 : Nat) (x1 : Int32) (h : Mem) : Option (Int32 × Mem) :=
  (F_X0_firstSaltBelow_4 N k0 x1 (fun (v5 : Int32) (h6 : Mem) =>
    (some (v5, h6))) N (0 : Int32) (1 : Int32) h)
set_option maxRecDepth 10000 in
set_option maxHeartbeats 1000000 in
theorem ok_X0_firstSaltBelow (l : Launch) (ω : WX) (N : Nat) {k0 : Nat} (hk0 : lay k0 = 0) (x1 : Int32) (h : Mem) : MC rvI l ω yX0_firstSaltBelow cX0_firstSaltBelow 4 (some .int) 2 [.ref (ω.1 + k0), .int x1] h (F_X0_firstSaltBelow N k0 x1 h) := by
  refine MC.of (by decide +kernel) [(0, .ref (ω.1 + k0)), (1, .int x1)] rfl (Nat.le_of_ble_eq_true rfl) (fun χ K => ?_)
  have K : Kok ω χ "SaltClouds$Cloud" cX0_firstSaltBelow 4 (some .int) 2 := K
  unfold F_X0_firstSaltBelow
  refine J_iconst (pc := 0) K (0) dX0_firstSaltBelow_0 (by decide) ?_
  refine J_istore_n (pc := 1) K dX0_firstSaltBelow_1 2 rfl (by decide) [(2, .int (0 : Int32)), (0, .ref (ω.1 + k0)), (1, .int x1)] rfl ?_
  refine J_iconst (pc := 2) K (1) dX0_firstSaltBelow_2 (by decide) ?_
  refine J_istore_n (pc := 3) K dX0_firstSaltBelow_3 3 rfl (by decide) [(3, .int (1 : Int32)), (2, .int (0 : Int32)), (0, .ref (ω.1 + k0)), (1, .int x1)] rfl ?_
  refine J_lv [2, 3, 1, 0] [(0, .ref (ω.1 + k0)), (1, .int x1), (2, .int (0 : Int32)), (3, .int (1 : Int32))] rfl ?_
  refine okL_X0_firstSaltBelow_4 K  (by decide) N hk0 (fun v5 h6 => ?_) _ _ _ _
  refine J_iload_n (pc := 32) K dX0_firstSaltBelow_32 2 rfl 0 rfl ?_
  exact J_iret (pc := 33) K dX0_firstSaltBelow_33
def F_X6_sun (N : Nat) (k0 : Nat) (x1 : Int32) (x2 : Int32) (x3 : Int32) (h : Mem) : Option (Int32 × Mem) :=
  (bnd (F_X6_hasCloud k0 x1 h) (fun r1 h2 =>
  (if r1 = 0 then
    (bnd (F_X6_refuse k0 (-1000000001 : Int32) h2) (fun r3 h4 =>
    (some (r3, h4))))
  else
    (bnd (F_X6_within x2 (1 : Int32) (99 : Int32) h2) (fun r5 h6 =>
    (if r5 = 0 then
      (bnd (F_X6_refuse k0 (-1000000001 : Int32) h6) (fun r7 h8 =>
      (some (r7, h8))))
    else
      (bnd (F_X6_within x3 (0 : Int32) (1 : Int32) h6) (fun r9 h10 =>
      (if r9 = 0 then
        (bnd (F_X6_refuse k0 (-1000000001 : Int32) h10) (fun r11 h12 =>
        (some (r11, h12))))
      else
        (gin x1 8
        (bnd (F_X0_firstSaltBelow N (((k0 + 1) + 1) + 11 + 2 * ix x1) x2 h10) (fun r14 h15 =>
        (if x3 = 0 then
          (some (r14, h15))
        else
          (gin x1 8
          (bnd (F_X0_minutesToBelow N (((k0 + 1) + 1) + 11 + 2 * ix x1) r14 x2 h15) (fun r17 h18 =>
          (some (r17, h18))))))))))))))))))
set_option maxRecDepth 10000 in
set_option maxHeartbeats 1000000 in
theorem ok_X6_sun (l : Launch) (ω : WX) (N : Nat) {k0 : Nat} (hk0 : lay k0 = 6) (x1 : Int32) (x2 : Int32) (x3 : Int32) (h : Mem) : MC rvI l ω yX6_sun cX6_sun 5 (some .int) 3 [.ref (ω.1 + k0), .int x1, .int x2, .int x3] h (F_X6_sun N k0 x1 x2 x3 h) := by
  refine MC.of (by decide +kernel) [(0, .ref (ω.1 + k0)), (1, .int x1), (2, .int x2), (3, .int x3)] rfl (Nat.le_of_ble_eq_true rfl) (fun χ K => ?_)
  have K : Kok ω χ "SaltClouds" cX6_sun 5 (some .int) 3 := K
  unfold F_X6_sun
  refine J_aload_n (pc := 0) K dX6_sun_0 0 rfl 0 rfl ?_
  refine J_iload_n (pc := 1) K dX6_sun_1 1 rfl 1 rfl ?_
  refine J_callVI (As := [.int x1]) (rest := []) (pc := 2) K cs_SaltClouds_72 (ok_X6_hasCloud l ω hk0 x1 h) hk0 (by decide) rfl rfl (Nat.le_of_ble_eq_true rfl) dX6_sun_2 (fun r1 h2 => ?_)
  refine J_if_eq (pc := 5) K 27 dX6_sun_5 (by decide) ?_ ?_
  · refine J_aload_n (pc := 27) K dX6_sun_27 0 rfl 0 rfl ?_
    refine J_ldc (pc := 28) K kc_SaltClouds_59 dX6_sun_28 ?_
    refine J_callVI (As := [.int (-1000000001 : Int32)]) (rest := []) (pc := 30) K cs_SaltClouds_60 (ok_X6_refuse l ω hk0 (-1000000001 : Int32) h2) hk0 (by decide) rfl rfl (Nat.le_of_ble_eq_true rfl) dX6_sun_30 (fun r3 h4 => ?_)
    exact J_iret (pc := 33) K dX6_sun_33
  · refine J_iload_n (pc := 8) K dX6_sun_8 2 rfl 2 rfl ?_
    refine J_iconst (pc := 9) K (1) dX6_sun_9 (by decide) ?_
    refine J_bipush (pc := 10) K (99) dX6_sun_10 (by decide) ?_
    refine J_callTI (As := [.int x2, .int (1 : Int32), .int (99 : Int32)]) (rest := []) (pc := 12) K cs_SaltClouds_51 (ok_X6_within l ω x2 (1 : Int32) (99 : Int32) h2) (by decide) rfl rfl (Nat.le_of_ble_eq_true rfl) dX6_sun_12 (fun r5 h6 => ?_)
    refine J_if_eq (pc := 15) K 27 dX6_sun_15 (by decide) ?_ ?_
    · refine J_aload_n (pc := 27) K dX6_sun_27 0 rfl 0 rfl ?_
      refine J_ldc (pc := 28) K kc_SaltClouds_59 dX6_sun_28 ?_
      refine J_callVI (As := [.int (-1000000001 : Int32)]) (rest := []) (pc := 30) K cs_SaltClouds_60 (ok_X6_refuse l ω hk0 (-1000000001 : Int32) h6) hk0 (by decide) rfl rfl (Nat.le_of_ble_eq_true rfl) dX6_sun_30 (fun r7 h8 => ?_)
      exact J_iret (pc := 33) K dX6_sun_33
    · refine J_iload_n (pc := 18) K dX6_sun_18 3 rfl 3 rfl ?_
      refine J_iconst (pc := 19) K (0) dX6_sun_19 (by decide) ?_
      refine J_iconst (pc := 20) K (1) dX6_sun_20 (by decide) ?_
      refine J_callTI (As := [.int x3, .int (0 : Int32), .int (1 : Int32)]) (rest := []) (pc := 21) K cs_SaltClouds_51 (ok_X6_within l ω x3 (0 : Int32) (1 : Int32) h6) (by decide) rfl rfl (Nat.le_of_ble_eq_true rfl) dX6_sun_21 (fun r9 h10 => ?_)
      refine J_if_ne (pc := 24) K 34 dX6_sun_24 (by decide) ?_ ?_
      · refine J_aload_n (pc := 27) K dX6_sun_27 0 rfl 0 rfl ?_
        refine J_ldc (pc := 28) K kc_SaltClouds_59 dX6_sun_28 ?_
        refine J_callVI (As := [.int (-1000000001 : Int32)]) (rest := []) (pc := 30) K cs_SaltClouds_60 (ok_X6_refuse l ω hk0 (-1000000001 : Int32) h10) hk0 (by decide) rfl rfl (Nat.le_of_ble_eq_true rfl) dX6_sun_30 (fun r11 h12 => ?_)
        exact J_iret (pc := 33) K dX6_sun_33
      · refine J_aload_n (pc := 34) K dX6_sun_34 0 rfl 0 rfl ?_
        refine J_getR (pc := 35) K gf_SaltClouds_12 hk0 1 rfl dX6_sun_35 ?_
        refine J_getR (pc := 38) K gf_SaltClouds_79 (ty_6_1 hk0) 1 rfl dX6_sun_38 ?_
        refine J_iload_n (pc := 41) K dX6_sun_41 1 rfl 1 rfl ?_
        refine J_aldC (pc := 42) K (a := (k0 + 1) + 1) (ty_2_1 (ty_6_1 hk0)) dX6_sun_42 (fun b13 => ?_)
        refine J_iload_n (pc := 43) K dX6_sun_43 2 rfl 2 rfl ?_
        refine J_callVI (As := [.int x2]) (rest := []) (pc := 44) K cs_SaltClouds_223 (ok_X0_firstSaltBelow l ω N (ty_8e (ty_2_1 (ty_6_1 hk0)) b13) x2 h10) (ty_8e (ty_2_1 (ty_6_1 hk0)) b13) (by decide) rfl rfl (Nat.le_of_ble_eq_true rfl) dX6_sun_44 (fun r14 h15 => ?_)
        refine J_istore (pc := 47) K dX6_sun_47 (by decide) [(4, .int r14), (0, .ref (ω.1 + k0)), (1, .int x1), (2, .int x2), (3, .int x3)] rfl ?_
        refine J_iload_n (pc := 49) K dX6_sun_49 3 rfl 4 rfl ?_
        refine J_if_ne (pc := 50) K 58 dX6_sun_50 (by decide) ?_ ?_
        · refine J_iload (pc := 53) K dX6_sun_53 0 rfl ?_
          refine J_goto (pc := 55) K 73 dX6_sun_55 (by decide) ?_
          exact J_iret (pc := 73) K dX6_sun_73
        · refine J_aload_n (pc := 58) K dX6_sun_58 0 rfl 1 rfl ?_
          refine J_getR (pc := 59) K gf_SaltClouds_12 hk0 1 rfl dX6_sun_59 ?_
          refine J_getR (pc := 62) K gf_SaltClouds_79 (ty_6_1 hk0) 1 rfl dX6_sun_62 ?_
          refine J_iload_n (pc := 65) K dX6_sun_65 1 rfl 2 rfl ?_
          refine J_aldC (pc := 66) K (a := (k0 + 1) + 1) (ty_2_1 (ty_6_1 hk0)) dX6_sun_66 (fun b16 => ?_)
          refine J_iload (pc := 67) K dX6_sun_67 0 rfl ?_
          refine J_iload_n (pc := 69) K dX6_sun_69 2 rfl 3 rfl ?_
          refine J_callVI (As := [.int r14, .int x2]) (rest := []) (pc := 70) K cs_SaltClouds_226 (ok_X0_minutesToBelow l ω N (ty_8e (ty_2_1 (ty_6_1 hk0)) b16) r14 x2 h15) (ty_8e (ty_2_1 (ty_6_1 hk0)) b16) (by decide) rfl rfl (Nat.le_of_ble_eq_true rfl) dX6_sun_70 (fun r17 h18 => ?_)
          exact J_iret (pc := 73) K dX6_sun_73
def F_X0_leastWind_3 (N : Nat) (k0 : Nat) (w1 : Int32) (w2 : Int32) (kt : Int32 → Mem → Option (Int32 × Mem)) : Nat → Int32 → Mem → Option (Int32 × Mem)
  | 0, _, _ => none
  | n + 1, u3, h =>
    (if (3 : Int32) < u3 then
      (kt u3 h)
    else
      (bnd (F_X0_placeBy k0 w1 u3 h) (fun r1 h2 =>
      (if r1 = w2 then
        (kt u3 h2)
      else
        (F_X0_leastWind_3 N k0 w1 w2 kt n (u3 + 1) h2)))))
set_option maxRecDepth 10000 in
set_option maxHeartbeats 1000000 in
theorem okL_X0_leastWind_3 {l : Launch} {ω : WX} {χ : KT} {d : Nat} (K : Kok ω χ "SaltClouds$Cloud" cX0_leastWind 4 (some .int) d) (hd : 2 ≤ d) (N : Nat) {k0 : Nat} (hk0 : lay k0 = 0) {w1 : Int32} {w2 : Int32} {kt : Int32 → Mem → Option (Int32 × Mem)} (hK : ∀ (u3 : Int32) (h : Mem), J (ZM rvI ω χ) l ω χ 24 4 [(3, .int u3)] [] h (kt u3 h)) : ∀ (n : Nat) (u3 : Int32) (h : Mem), J (ZM rvI ω χ) l ω χ 3 4 [(0, .ref (ω.1 + k0)), (1, .int w1), (2, .int w2), (3, .int u3)] [] h (F_X0_leastWind_3 N k0 w1 w2 kt n u3 h) := by
  intro n
  induction n with
  | zero =>
    intro u3 h
    exact J_none rfl
  | succ n ih =>
    intro u3 h
    rw [F_X0_leastWind_3]
    refine J_iload_n (pc := 3) K dX0_leastWind_3 3 rfl 3 rfl ?_
    refine J_iconst (pc := 4) K (3) dX0_leastWind_4 (by decide) ?_
    refine J_icmp_gt (pc := 5) K 24 dX0_leastWind_5 (by decide) ?_ ?_
    · refine J_lv [3] [(3, .int u3)] rfl ?_
      exact hK u3 h
    · refine J_aload_n (pc := 8) K dX0_leastWind_8 0 rfl 0 rfl ?_
      refine J_iload_n (pc := 9) K dX0_leastWind_9 1 rfl 1 rfl ?_
      refine J_iload_n (pc := 10) K dX0_leastWind_10 3 rfl 3 rfl ?_
      refine J_callVI (As := [.int w1, .int u3]) (rest := []) (pc := 11) K cs_SaltClouds_Cloud_62 (ok_X0_placeBy l ω hk0 w1 u3 h) hk0 (by omega) rfl rfl (Nat.le_of_ble_eq_true rfl) dX0_leastWind_11 (fun r1 h2 => ?_)
      refine J_iload_n (pc := 14) K dX0_leastWind_14 2 rfl 2 rfl ?_
      refine J_icmp_eq (pc := 15) K 24 dX0_leastWind_15 (by decide) ?_ ?_
      · refine J_lv [3] [(3, .int u3)] rfl ?_
        exact hK u3 h2
      · refine J_iinc (pc := 18) K (1) dX0_leastWind_18 3 rfl (by decide) (by decide) [(3, .int (u3 + 1)), (0, .ref (ω.1 + k0)), (1, .int w1), (2, .int w2)] rfl ?_
        refine J_goto (pc := 21) K 3 dX0_leastWind_21 (by decide) ?_
        refine J_lv [1, 2, 3, 0] [(0, .ref (ω.1 + k0)), (1, .int w1), (2, .int w2), (3, .int (u3 + 1))] rfl ?_
        exact ih (u3 + 1) h2
def F_X0_leastWind (N : Nat) (k0 : Nat) (x1 : Int32) (x2 : Int32) (h : Mem) : Option (Int32 × Mem) :=
  (F_X0_leastWind_3 N k0 x1 x2 (fun (v3 : Int32) (h4 : Mem) =>
    (some (v3, h4))) N (-3 : Int32) h)
set_option maxRecDepth 10000 in
set_option maxHeartbeats 1000000 in
theorem ok_X0_leastWind (l : Launch) (ω : WX) (N : Nat) {k0 : Nat} (hk0 : lay k0 = 0) (x1 : Int32) (x2 : Int32) (h : Mem) : MC rvI l ω yX0_leastWind cX0_leastWind 4 (some .int) 2 [.ref (ω.1 + k0), .int x1, .int x2] h (F_X0_leastWind N k0 x1 x2 h) := by
  refine MC.of (by decide +kernel) [(0, .ref (ω.1 + k0)), (1, .int x1), (2, .int x2)] rfl (Nat.le_of_ble_eq_true rfl) (fun χ K => ?_)
  have K : Kok ω χ "SaltClouds$Cloud" cX0_leastWind 4 (some .int) 2 := K
  unfold F_X0_leastWind
  refine J_bipush (pc := 0) K (-3) dX0_leastWind_0 (by decide) ?_
  refine J_istore_n (pc := 2) K dX0_leastWind_2 3 rfl (by decide) [(3, .int (-3 : Int32)), (0, .ref (ω.1 + k0)), (1, .int x1), (2, .int x2)] rfl ?_
  refine J_lv [1, 2, 3, 0] [(0, .ref (ω.1 + k0)), (1, .int x1), (2, .int x2), (3, .int (-3 : Int32))] rfl ?_
  refine okL_X0_leastWind_3 K  (by decide) N hk0 (fun v3 h4 => ?_) _ _ _
  refine J_iload_n (pc := 24) K dX0_leastWind_24 3 rfl 0 rfl ?_
  exact J_iret (pc := 25) K dX0_leastWind_25
def F_X6_winds_112 (N : Nat) (k0 : Nat) (w3 : Int32) (k4 : Nat) (k5 : Nat) (w6 : Int32) (kt : Int32 → Mem → Option (Int32 × Mem)) : Nat → Int32 → Int32 → Int32 → Mem → Option (Int32 × Mem)
  | 0, _, _, _, _ => none
  | n + 1, u7, u8, u9, h =>
    (if w6 ≤ u9 then
      (kt u8 h)
    else
      (gin u9 40
      (bnd (F_X0_leastWind N k4 u7 (h (k5 + 1) (ix u9)) h) (fun r22 h23 =>
      (if r22 ≤ (3 : Int32) then
        (if u9 = w3 then
          (gin u9 40
          (seqi (h23 (k5 + 1) (ix u9)) (fun v24 =>
          (F_X6_winds_112 N k0 w3 k4 k5 w6 kt n v24 r22 (u9 + 1) h23))))
        else
          (gin u9 40
          (seqi (h23 (k5 + 1) (ix u9)) (fun v25 =>
          (F_X6_winds_112 N k0 w3 k4 k5 w6 kt n v25 u8 (u9 + 1) h23)))))
      else
        (bnd (F_X6_refuse k0 (-1000000002 : Int32) h23) (fun r26 h27 =>
        (some (r26, h27)))))))))
set_option maxRecDepth 10000 in
set_option maxHeartbeats 1000000 in
theorem okL_X6_winds_112 {l : Launch} {ω : WX} {χ : KT} {d : Nat} (K : Kok ω χ "SaltClouds" cX6_winds 11 (some .int) d) (hd : 3 ≤ d) (N : Nat) {k0 : Nat} (hk0 : lay k0 = 6) {w3 : Int32} {k4 : Nat} (hk4 : lay k4 = 0) {k5 : Nat} (hk5 : lay k5 = 1) {w6 : Int32} {kt : Int32 → Mem → Option (Int32 × Mem)} (hK : ∀ (u8 : Int32) (h : Mem), J (ZM rvI ω χ) l ω χ 175 11 [(8, .int u8)] [] h (kt u8 h)) : ∀ (n : Nat) (u7 : Int32) (u8 : Int32) (u9 : Int32) (h : Mem), J (ZM rvI ω χ) l ω χ 112 11 [(0, .ref (ω.1 + k0)), (3, .int w3), (4, .ref (ω.1 + k4)), (5, .ref (ω.1 + k5)), (6, .int w6), (7, .int u7), (8, .int u8), (9, .int u9)] [] h (F_X6_winds_112 N k0 w3 k4 k5 w6 kt n u7 u8 u9 h) := by
  intro n
  induction n with
  | zero =>
    intro u7 u8 u9 h
    exact J_none rfl
  | succ n ih =>
    intro u7 u8 u9 h
    rw [F_X6_winds_112]
    refine J_iload (pc := 112) K dX6_winds_112 7 rfl ?_
    refine J_iload (pc := 114) K dX6_winds_114 4 rfl ?_
    refine J_icmp_ge (pc := 116) K 175 dX6_winds_116 (by decide) ?_ ?_
    · refine J_lv [6] [(8, .int u8)] rfl ?_
      exact hK u8 h
    · refine J_aload (pc := 119) K dX6_winds_119 2 rfl ?_
      refine J_iload (pc := 121) K dX6_winds_121 5 rfl ?_
      refine J_aload (pc := 123) K dX6_winds_123 3 rfl ?_
      refine J_getR (pc := 125) K gf_SaltClouds_216 hk5 1 rfl dX6_winds_125 ?_
      refine J_iload (pc := 128) K dX6_winds_128 7 rfl ?_
      refine J_iald (pc := 130) K (a := k5 + 1) (n := 40) (ty_1_1 hk5) dX6_winds_130 ?_
      refine J_callVI (As := [.int u7, .int (h (k5 + 1) (ix u9))]) (rest := []) (pc := 131) K cs_SaltClouds_237 (ok_X0_leastWind l ω N hk4 u7 (h (k5 + 1) (ix u9)) h) hk4 (by omega) rfl rfl (Nat.le_of_ble_eq_true rfl) dX6_winds_131 (fun r22 h23 => ?_)
      refine J_istore (pc := 134) K dX6_winds_134 (by decide) [(10, .int r22), (0, .ref (ω.1 + k0)), (3, .int w3), (4, .ref (ω.1 + k4)), (5, .ref (ω.1 + k5)), (6, .int w6), (7, .int u7), (8, .int u8), (9, .int u9)] rfl ?_
      refine J_iload (pc := 136) K dX6_winds_136 0 rfl ?_
      refine J_iconst (pc := 138) K (3) dX6_winds_138 (by decide) ?_
      refine J_icmp_le (pc := 139) K 149 dX6_winds_139 (by decide) ?_ ?_
      · refine J_iload (pc := 149) K dX6_winds_149 8 rfl ?_
        refine J_iload_n (pc := 151) K dX6_winds_151 3 rfl 2 rfl ?_
        refine J_icmp_ne (pc := 152) K 159 dX6_winds_152 (by decide) ?_ ?_
        · refine J_iload (pc := 155) K dX6_winds_155 0 rfl ?_
          refine J_istore (pc := 157) K dX6_winds_157 (by decide) [(8, .int r22), (10, .int r22), (0, .ref (ω.1 + k0)), (3, .int w3), (4, .ref (ω.1 + k4)), (5, .ref (ω.1 + k5)), (6, .int w6), (7, .int u7), (9, .int u9)] rfl ?_
          refine J_aload (pc := 159) K dX6_winds_159 5 rfl ?_
          refine J_getR (pc := 161) K gf_SaltClouds_216 hk5 1 rfl dX6_winds_161 ?_
          refine J_iload (pc := 164) K dX6_winds_164 8 rfl ?_
          refine J_iald (pc := 166) K (a := k5 + 1) (n := 40) (ty_1_1 hk5) dX6_winds_166 ?_
          refine J_topi (fun v24 => ?_)
          refine J_istore (pc := 167) K dX6_winds_167 (by decide) [(7, .int v24), (8, .int r22), (10, .int r22), (0, .ref (ω.1 + k0)), (3, .int w3), (4, .ref (ω.1 + k4)), (5, .ref (ω.1 + k5)), (6, .int w6), (9, .int u9)] rfl ?_
          refine J_iinc (pc := 169) K (1) dX6_winds_169 8 rfl (by decide) (by decide) [(9, .int (u9 + 1)), (7, .int v24), (8, .int r22), (10, .int r22), (0, .ref (ω.1 + k0)), (3, .int w3), (4, .ref (ω.1 + k4)), (5, .ref (ω.1 + k5)), (6, .int w6)] rfl ?_
          refine J_goto (pc := 172) K 112 dX6_winds_172 (by decide) ?_
          refine J_lv [4, 5, 6, 7, 8, 1, 2, 0] [(0, .ref (ω.1 + k0)), (3, .int w3), (4, .ref (ω.1 + k4)), (5, .ref (ω.1 + k5)), (6, .int w6), (7, .int v24), (8, .int r22), (9, .int (u9 + 1))] rfl ?_
          exact ih v24 r22 (u9 + 1) h23
        · refine J_aload (pc := 159) K dX6_winds_159 4 rfl ?_
          refine J_getR (pc := 161) K gf_SaltClouds_216 hk5 1 rfl dX6_winds_161 ?_
          refine J_iload (pc := 164) K dX6_winds_164 8 rfl ?_
          refine J_iald (pc := 166) K (a := k5 + 1) (n := 40) (ty_1_1 hk5) dX6_winds_166 ?_
          refine J_topi (fun v25 => ?_)
          refine J_istore (pc := 167) K dX6_winds_167 (by decide) [(7, .int v25), (10, .int r22), (0, .ref (ω.1 + k0)), (3, .int w3), (4, .ref (ω.1 + k4)), (5, .ref (ω.1 + k5)), (6, .int w6), (8, .int u8), (9, .int u9)] rfl ?_
          refine J_iinc (pc := 169) K (1) dX6_winds_169 8 rfl (by decide) (by decide) [(9, .int (u9 + 1)), (7, .int v25), (10, .int r22), (0, .ref (ω.1 + k0)), (3, .int w3), (4, .ref (ω.1 + k4)), (5, .ref (ω.1 + k5)), (6, .int w6), (8, .int u8)] rfl ?_
          refine J_goto (pc := 172) K 112 dX6_winds_172 (by decide) ?_
          refine J_lv [3, 4, 5, 6, 7, 1, 8, 0] [(0, .ref (ω.1 + k0)), (3, .int w3), (4, .ref (ω.1 + k4)), (5, .ref (ω.1 + k5)), (6, .int w6), (7, .int v25), (8, .int u8), (9, .int (u9 + 1))] rfl ?_
          exact ih v25 u8 (u9 + 1) h23
      · refine J_aload_n (pc := 142) K dX6_winds_142 0 rfl 1 rfl ?_
        refine J_ldc (pc := 143) K kc_SaltClouds_188 dX6_winds_143 ?_
        refine J_callVI (As := [.int (-1000000002 : Int32)]) (rest := []) (pc := 145) K cs_SaltClouds_60 (ok_X6_refuse l ω hk0 (-1000000002 : Int32) h23) hk0 (by omega) rfl rfl (Nat.le_of_ble_eq_true rfl) dX6_winds_145 (fun r26 h27 => ?_)
        exact J_iret (pc := 148) K dX6_winds_148
def F_X6_winds (N : Nat) (k0 : Nat) (x1 : Int32) (x2 : Int32) (x3 : Int32) (h : Mem) : Option (Int32 × Mem) :=
  (bnd (F_X6_hasCloud k0 x1 h) (fun r1 h2 =>
  (if r1 = 0 then
    (bnd (F_X6_refuse k0 (-1000000001 : Int32) h2) (fun r3 h4 =>
    (some (r3, h4))))
  else
    (bnd (F_X6_isSheet x2 h2) (fun r5 h6 =>
    (if r5 = 0 then
      (bnd (F_X6_refuse k0 (-1000000001 : Int32) h6) (fun r7 h8 =>
      (some (r7, h8))))
    else
      (bnd (F_X6_within x3 (0 : Int32) (7 : Int32) h6) (fun r9 h10 =>
      (if r9 = 0 then
        (bnd (F_X6_refuse k0 (-1000000001 : Int32) h10) (fun r11 h12 =>
        (some (r11, h12))))
      else
        (gin x1 8
        (if (h10 (((k0 + 1) + 1) + 11 + 2 * ix x1) 4) = 0 then
          (bnd (F_X6_refuse k0 (-1000000003 : Int32) h10) (fun r14 h15 =>
          (some (r14, h15))))
        else
          (gin x2 4
          (bnd (F_J9_min_7cf53 (8 : Int32) (h10 ((k0 + 85) + 9 + 2 * ix x2) 1) h10) (fun r17 h18 =>
          (bnd (F_X1_isMissing ((k0 + 85) + 9 + 2 * ix x2) h18) (fun r19 h20 =>
          (if r19 = 0 then
            (if x3 < r17 then
              (seqi (h20 (((k0 + 1) + 1) + 11 + 2 * ix x1) 2) (fun v21 =>
              (F_X6_winds_112 N k0 x3 (((k0 + 1) + 1) + 11 + 2 * ix x1) ((k0 + 85) + 9 + 2 * ix x2) r17 (fun (v28 : Int32) (h29 : Mem) =>
                (some (v28, h29))) N v21 (0 : Int32) (0 : Int32) h20)))
            else
              (bnd (F_X6_refuse k0 (-1000000002 : Int32) h20) (fun r30 h31 =>
              (some (r30, h31)))))
          else
            (bnd (F_X6_refuse k0 (-1000000002 : Int32) h20) (fun r32 h33 =>
            (some (r32, h33)))))))))))))))))))))
set_option maxRecDepth 10000 in
set_option maxHeartbeats 1000000 in
theorem ok_X6_winds (l : Launch) (ω : WX) (N : Nat) {k0 : Nat} (hk0 : lay k0 = 6) (x1 : Int32) (x2 : Int32) (x3 : Int32) (h : Mem) : MC rvI l ω yX6_winds cX6_winds 11 (some .int) 3 [.ref (ω.1 + k0), .int x1, .int x2, .int x3] h (F_X6_winds N k0 x1 x2 x3 h) := by
  refine MC.of (by decide +kernel) [(0, .ref (ω.1 + k0)), (1, .int x1), (2, .int x2), (3, .int x3)] rfl (Nat.le_of_ble_eq_true rfl) (fun χ K => ?_)
  have K : Kok ω χ "SaltClouds" cX6_winds 11 (some .int) 3 := K
  unfold F_X6_winds
  refine J_aload_n (pc := 0) K dX6_winds_0 0 rfl 0 rfl ?_
  refine J_iload_n (pc := 1) K dX6_winds_1 1 rfl 1 rfl ?_
  refine J_callVI (As := [.int x1]) (rest := []) (pc := 2) K cs_SaltClouds_72 (ok_X6_hasCloud l ω hk0 x1 h) hk0 (by decide) rfl rfl (Nat.le_of_ble_eq_true rfl) dX6_winds_2 (fun r1 h2 => ?_)
  refine J_if_eq (pc := 5) K 25 dX6_winds_5 (by decide) ?_ ?_
  · refine J_aload_n (pc := 25) K dX6_winds_25 0 rfl 0 rfl ?_
    refine J_ldc (pc := 26) K kc_SaltClouds_59 dX6_winds_26 ?_
    refine J_callVI (As := [.int (-1000000001 : Int32)]) (rest := []) (pc := 28) K cs_SaltClouds_60 (ok_X6_refuse l ω hk0 (-1000000001 : Int32) h2) hk0 (by decide) rfl rfl (Nat.le_of_ble_eq_true rfl) dX6_winds_28 (fun r3 h4 => ?_)
    exact J_iret (pc := 31) K dX6_winds_31
  · refine J_iload_n (pc := 8) K dX6_winds_8 2 rfl 2 rfl ?_
    refine J_callTI (As := [.int x2]) (rest := []) (pc := 9) K cs_SaltClouds_206 (ok_X6_isSheet l ω x2 h2) (by decide) rfl rfl (Nat.le_of_ble_eq_true rfl) dX6_winds_9 (fun r5 h6 => ?_)
    refine J_if_eq (pc := 12) K 25 dX6_winds_12 (by decide) ?_ ?_
    · refine J_aload_n (pc := 25) K dX6_winds_25 0 rfl 0 rfl ?_
      refine J_ldc (pc := 26) K kc_SaltClouds_59 dX6_winds_26 ?_
      refine J_callVI (As := [.int (-1000000001 : Int32)]) (rest := []) (pc := 28) K cs_SaltClouds_60 (ok_X6_refuse l ω hk0 (-1000000001 : Int32) h6) hk0 (by decide) rfl rfl (Nat.le_of_ble_eq_true rfl) dX6_winds_28 (fun r7 h8 => ?_)
      exact J_iret (pc := 31) K dX6_winds_31
    · refine J_iload_n (pc := 15) K dX6_winds_15 3 rfl 3 rfl ?_
      refine J_iconst (pc := 16) K (0) dX6_winds_16 (by decide) ?_
      refine J_bipush (pc := 17) K (7) dX6_winds_17 (by decide) ?_
      refine J_callTI (As := [.int x3, .int (0 : Int32), .int (7 : Int32)]) (rest := []) (pc := 19) K cs_SaltClouds_51 (ok_X6_within l ω x3 (0 : Int32) (7 : Int32) h6) (by decide) rfl rfl (Nat.le_of_ble_eq_true rfl) dX6_winds_19 (fun r9 h10 => ?_)
      refine J_if_ne (pc := 22) K 32 dX6_winds_22 (by decide) ?_ ?_
      · refine J_aload_n (pc := 25) K dX6_winds_25 0 rfl 0 rfl ?_
        refine J_ldc (pc := 26) K kc_SaltClouds_59 dX6_winds_26 ?_
        refine J_callVI (As := [.int (-1000000001 : Int32)]) (rest := []) (pc := 28) K cs_SaltClouds_60 (ok_X6_refuse l ω hk0 (-1000000001 : Int32) h10) hk0 (by decide) rfl rfl (Nat.le_of_ble_eq_true rfl) dX6_winds_28 (fun r11 h12 => ?_)
        exact J_iret (pc := 31) K dX6_winds_31
      · refine J_aload_n (pc := 32) K dX6_winds_32 0 rfl 0 rfl ?_
        refine J_getR (pc := 33) K gf_SaltClouds_12 hk0 1 rfl dX6_winds_33 ?_
        refine J_getR (pc := 36) K gf_SaltClouds_79 (ty_6_1 hk0) 1 rfl dX6_winds_36 ?_
        refine J_iload_n (pc := 39) K dX6_winds_39 1 rfl 1 rfl ?_
        refine J_aldC (pc := 40) K (a := (k0 + 1) + 1) (ty_2_1 (ty_6_1 hk0)) dX6_winds_40 (fun b13 => ?_)
        refine J_astore (pc := 41) K dX6_winds_41 (by decide) [(4, .ref (ω.1 + (((k0 + 1) + 1) + 11 + 2 * ix x1))), (0, .ref (ω.1 + k0)), (1, .int x1), (2, .int x2), (3, .int x3)] rfl ?_
        refine J_aload (pc := 43) K dX6_winds_43 0 rfl ?_
        refine J_getI (pc := 45) K gf_SaltClouds_103 (ty_8e (ty_2_1 (ty_6_1 hk0)) b13) rfl dX6_winds_45 ?_
        refine J_if_ne (pc := 48) K 58 dX6_winds_48 (by decide) ?_ ?_
        · refine J_aload_n (pc := 51) K dX6_winds_51 0 rfl 1 rfl ?_
          refine J_ldc (pc := 52) K kc_SaltClouds_107 dX6_winds_52 ?_
          refine J_callVI (As := [.int (-1000000003 : Int32)]) (rest := []) (pc := 54) K cs_SaltClouds_60 (ok_X6_refuse l ω hk0 (-1000000003 : Int32) h10) hk0 (by decide) rfl rfl (Nat.le_of_ble_eq_true rfl) dX6_winds_54 (fun r14 h15 => ?_)
          exact J_iret (pc := 57) K dX6_winds_57
        · refine J_aload_n (pc := 58) K dX6_winds_58 0 rfl 1 rfl ?_
          refine J_getR (pc := 59) K gf_SaltClouds_28 hk0 85 rfl dX6_winds_59 ?_
          refine J_iload_n (pc := 62) K dX6_winds_62 2 rfl 3 rfl ?_
          refine J_aldS (pc := 63) K (a := k0 + 85) (ty_6_85 hk0) dX6_winds_63 (fun b16 => ?_)
          refine J_astore (pc := 64) K dX6_winds_64 (by decide) [(5, .ref (ω.1 + ((k0 + 85) + 9 + 2 * ix x2))), (4, .ref (ω.1 + (((k0 + 1) + 1) + 11 + 2 * ix x1))), (0, .ref (ω.1 + k0)), (1, .int x1), (2, .int x2), (3, .int x3)] rfl ?_
          refine J_bipush (pc := 66) K (8) dX6_winds_66 (by decide) ?_
          refine J_aload (pc := 68) K dX6_winds_68 0 rfl ?_
          refine J_getI (pc := 70) K gf_SaltClouds_213 (ty_9e (ty_6_85 hk0) b16) rfl dX6_winds_70 ?_
          refine J_callTI (As := [.int (8 : Int32), .int (h10 ((k0 + 85) + 9 + 2 * ix x2) 1)]) (rest := []) (pc := 73) K cs_SaltClouds_229 (ok_J9_min_7cf53 l ω (8 : Int32) (h10 ((k0 + 85) + 9 + 2 * ix x2) 1) h10) (by decide) rfl rfl (Nat.le_of_ble_eq_true rfl) dX6_winds_73 (fun r17 h18 => ?_)
          refine J_istore (pc := 76) K dX6_winds_76 (by decide) [(6, .int r17), (5, .ref (ω.1 + ((k0 + 85) + 9 + 2 * ix x2))), (4, .ref (ω.1 + (((k0 + 1) + 1) + 11 + 2 * ix x1))), (0, .ref (ω.1 + k0)), (1, .int x1), (2, .int x2), (3, .int x3)] rfl ?_
          refine J_aload (pc := 78) K dX6_winds_78 1 rfl ?_
          refine J_callVI (As := []) (rest := []) (pc := 80) K cs_SaltClouds_209 (ok_X1_isMissing l ω (ty_9e (ty_6_85 hk0) b16) h18) (ty_9e (ty_6_85 hk0) b16) (by decide) rfl rfl (Nat.le_of_ble_eq_true rfl) dX6_winds_80 (fun r19 h20 => ?_)
          refine J_if_ne (pc := 83) K 92 dX6_winds_83 (by decide) ?_ ?_
          · refine J_iload_n (pc := 86) K dX6_winds_86 3 rfl 6 rfl ?_
            refine J_iload (pc := 87) K dX6_winds_87 0 rfl ?_
            refine J_icmp_lt (pc := 89) K 99 dX6_winds_89 (by decide) ?_ ?_
            · refine J_aload (pc := 99) K dX6_winds_99 2 rfl ?_
              refine J_getI (pc := 101) K gf_SaltClouds_234 (ty_8e (ty_2_1 (ty_6_1 hk0)) b13) rfl dX6_winds_101 ?_
              refine J_topi (fun v21 => ?_)
              refine J_istore (pc := 104) K dX6_winds_104 (by decide) [(7, .int v21), (6, .int r17), (5, .ref (ω.1 + ((k0 + 85) + 9 + 2 * ix x2))), (4, .ref (ω.1 + (((k0 + 1) + 1) + 11 + 2 * ix x1))), (0, .ref (ω.1 + k0)), (1, .int x1), (2, .int x2), (3, .int x3)] rfl ?_
              refine J_iconst (pc := 106) K (0) dX6_winds_106 (by decide) ?_
              refine J_istore (pc := 107) K dX6_winds_107 (by decide) [(8, .int (0 : Int32)), (7, .int v21), (6, .int r17), (5, .ref (ω.1 + ((k0 + 85) + 9 + 2 * ix x2))), (4, .ref (ω.1 + (((k0 + 1) + 1) + 11 + 2 * ix x1))), (0, .ref (ω.1 + k0)), (1, .int x1), (2, .int x2), (3, .int x3)] rfl ?_
              refine J_iconst (pc := 109) K (0) dX6_winds_109 (by decide) ?_
              refine J_istore (pc := 110) K dX6_winds_110 (by decide) [(9, .int (0 : Int32)), (8, .int (0 : Int32)), (7, .int v21), (6, .int r17), (5, .ref (ω.1 + ((k0 + 85) + 9 + 2 * ix x2))), (4, .ref (ω.1 + (((k0 + 1) + 1) + 11 + 2 * ix x1))), (0, .ref (ω.1 + k0)), (1, .int x1), (2, .int x2), (3, .int x3)] rfl ?_
              refine J_lv [6, 9, 5, 4, 3, 2, 1, 0] [(0, .ref (ω.1 + k0)), (3, .int x3), (4, .ref (ω.1 + (((k0 + 1) + 1) + 11 + 2 * ix x1))), (5, .ref (ω.1 + ((k0 + 85) + 9 + 2 * ix x2))), (6, .int r17), (7, .int v21), (8, .int (0 : Int32)), (9, .int (0 : Int32))] rfl ?_
              refine okL_X6_winds_112 K  (by decide) N hk0 (ty_8e (ty_2_1 (ty_6_1 hk0)) b13) (ty_9e (ty_6_85 hk0) b16) (fun v28 h29 => ?_) _ _ _ _ _
              refine J_iload (pc := 175) K dX6_winds_175 0 rfl ?_
              exact J_iret (pc := 177) K dX6_winds_177
            · refine J_aload_n (pc := 92) K dX6_winds_92 0 rfl 3 rfl ?_
              refine J_ldc (pc := 93) K kc_SaltClouds_188 dX6_winds_93 ?_
              refine J_callVI (As := [.int (-1000000002 : Int32)]) (rest := []) (pc := 95) K cs_SaltClouds_60 (ok_X6_refuse l ω hk0 (-1000000002 : Int32) h20) hk0 (by decide) rfl rfl (Nat.le_of_ble_eq_true rfl) dX6_winds_95 (fun r30 h31 => ?_)
              exact J_iret (pc := 98) K dX6_winds_98
          · refine J_aload_n (pc := 92) K dX6_winds_92 0 rfl 3 rfl ?_
            refine J_ldc (pc := 93) K kc_SaltClouds_188 dX6_winds_93 ?_
            refine J_callVI (As := [.int (-1000000002 : Int32)]) (rest := []) (pc := 95) K cs_SaltClouds_60 (ok_X6_refuse l ω hk0 (-1000000002 : Int32) h20) hk0 (by decide) rfl rfl (Nat.le_of_ble_eq_true rfl) dX6_winds_95 (fun r32 h33 => ?_)
            exact J_iret (pc := 98) K dX6_winds_98
def F_X6_seed (k0 : Nat) (x1 : Int32) (h : Mem) : Option (Int32 × Mem) :=
  (seqi (h (k0 + 1) 6) (fun v1 =>
  (seqh (upm h (k0 + 1) 6 x1) (fun h2 =>
  (some (v1, h2))))))
set_option maxRecDepth 10000 in
set_option maxHeartbeats 1000000 in
theorem ok_X6_seed (l : Launch) (ω : WX) {k0 : Nat} (hk0 : lay k0 = 6) (x1 : Int32) (h : Mem) : MC rvI l ω yX6_seed cX6_seed 3 (some .int) 0 [.ref (ω.1 + k0), .int x1] h (F_X6_seed k0 x1 h) := by
  refine MC.of (by decide +kernel) [(0, .ref (ω.1 + k0)), (1, .int x1)] rfl (Nat.le_of_ble_eq_true rfl) (fun χ K => ?_)
  have K : Kok ω χ "SaltClouds" cX6_seed 3 (some .int) 0 := K
  unfold F_X6_seed
  refine J_aload_n (pc := 0) K dX6_seed_0 0 rfl 0 rfl ?_
  refine J_getR (pc := 1) K gf_SaltClouds_12 hk0 1 rfl dX6_seed_1 ?_
  refine J_getI (pc := 4) K gf_SaltClouds_240 (ty_6_1 hk0) rfl dX6_seed_4 ?_
  refine J_topi (fun v1 => ?_)
  refine J_istore_n (pc := 7) K dX6_seed_7 2 rfl (by decide) [(2, .int v1), (0, .ref (ω.1 + k0)), (1, .int x1)] rfl ?_
  refine J_aload_n (pc := 8) K dX6_seed_8 0 rfl 1 rfl ?_
  refine J_getR (pc := 9) K gf_SaltClouds_12 hk0 1 rfl dX6_seed_9 ?_
  refine J_iload_n (pc := 12) K dX6_seed_12 1 rfl 2 rfl ?_
  refine J_putI (pc := 13) K gf_SaltClouds_240 (ty_6_1 hk0) (by decide) rfl dX6_seed_13 (fun h2 => ?_)
  refine J_iload_n (pc := 16) K dX6_seed_16 2 rfl 0 rfl ?_
  exact J_iret (pc := 17) K dX6_seed_17
def F_X5_bodyOf (x0 : Int32) (x1 : Int32) (h : Mem) : Option (Int32 × Mem) :=
  (seqi (((10 : Int32) * x0) + x1) (fun v1 =>
  (if v1 = (0 : Int32) then
    (some ((10 : Int32), h))
  else
    (if v1 = (1 : Int32) then
      (some ((11 : Int32), h))
    else
      (if v1 = (2 : Int32) then
        (some ((12 : Int32), h))
      else
        (if v1 = (3 : Int32) then
          (some ((13 : Int32), h))
        else
          (if v1 = (10 : Int32) then
            (some ((20 : Int32), h))
          else
            (if v1 = (21 : Int32) then
              (some ((30 : Int32), h))
            else
              (if v1 = (32 : Int32) then
                (some ((40 : Int32), h))
              else
                (if v1 = (43 : Int32) then
                  (some ((50 : Int32), h))
                else
                  (if v1 = (51 : Int32) then
                    (some ((60 : Int32), h))
                  else
                    (if v1 = (62 : Int32) then
                      (some ((70 : Int32), h))
                    else
                      (if v1 = (63 : Int32) then
                        (some ((71 : Int32), h))
                      else
                        (some ((0 : Int32), h)))))))))))))))
set_option maxRecDepth 10000 in
set_option maxHeartbeats 1000000 in
theorem ok_X5_bodyOf (l : Launch) (ω : WX) (x0 : Int32) (x1 : Int32) (h : Mem) : MC rvI l ω yX5_bodyOf cX5_bodyOf 2 (some .int) 0 [.int x0, .int x1] h (F_X5_bodyOf x0 x1 h) := by
  refine MC.of (by decide +kernel) [(0, .int x0), (1, .int x1)] rfl (Nat.le_of_ble_eq_true rfl) (fun χ K => ?_)
  have K : Kok ω χ "SaltClouds$Voices" cX5_bodyOf 2 (some .int) 0 := K
  unfold F_X5_bodyOf
  refine J_bipush (pc := 0) K (10) dX5_bodyOf_0 (by decide) ?_
  refine J_iload_n (pc := 2) K dX5_bodyOf_2 0 rfl 0 rfl ?_
  refine J_imul (pc := 3) K dX5_bodyOf_3 ?_
  refine J_iload_n (pc := 4) K dX5_bodyOf_4 1 rfl 1 rfl ?_
  refine J_iadd (pc := 5) K dX5_bodyOf_5 ?_
  refine J_topi (fun v1 => ?_)
  refine J_ite (fun e6_0 => ?_) (fun e6_0 => ?_)
  · refine J_lookup (pc := 6) K (off := 98) 104 dX5_bodyOf_6 (by decide) (by rw [e6_0]; decide) (by decide) ?_
    refine J_bipush (pc := 104) K (10) dX5_bodyOf_104 (by decide) ?_
    exact J_iret (pc := 106) K dX5_bodyOf_106
  · refine J_ite (fun e6_1 => ?_) (fun e6_1 => ?_)
    · refine J_lookup (pc := 6) K (off := 101) 107 dX5_bodyOf_6 (by decide) (by rw [e6_1]; decide) (by decide) ?_
      refine J_bipush (pc := 107) K (11) dX5_bodyOf_107 (by decide) ?_
      exact J_iret (pc := 109) K dX5_bodyOf_109
    · refine J_ite (fun e6_2 => ?_) (fun e6_2 => ?_)
      · refine J_lookup (pc := 6) K (off := 104) 110 dX5_bodyOf_6 (by decide) (by rw [e6_2]; decide) (by decide) ?_
        refine J_bipush (pc := 110) K (12) dX5_bodyOf_110 (by decide) ?_
        exact J_iret (pc := 112) K dX5_bodyOf_112
      · refine J_ite (fun e6_3 => ?_) (fun e6_3 => ?_)
        · refine J_lookup (pc := 6) K (off := 107) 113 dX5_bodyOf_6 (by decide) (by rw [e6_3]; decide) (by decide) ?_
          refine J_bipush (pc := 113) K (13) dX5_bodyOf_113 (by decide) ?_
          exact J_iret (pc := 115) K dX5_bodyOf_115
        · refine J_ite (fun e6_4 => ?_) (fun e6_4 => ?_)
          · refine J_lookup (pc := 6) K (off := 110) 116 dX5_bodyOf_6 (by decide) (by rw [e6_4]; decide) (by decide) ?_
            refine J_bipush (pc := 116) K (20) dX5_bodyOf_116 (by decide) ?_
            exact J_iret (pc := 118) K dX5_bodyOf_118
          · refine J_ite (fun e6_5 => ?_) (fun e6_5 => ?_)
            · refine J_lookup (pc := 6) K (off := 113) 119 dX5_bodyOf_6 (by decide) (by rw [e6_5]; decide) (by decide) ?_
              refine J_bipush (pc := 119) K (30) dX5_bodyOf_119 (by decide) ?_
              exact J_iret (pc := 121) K dX5_bodyOf_121
            · refine J_ite (fun e6_6 => ?_) (fun e6_6 => ?_)
              · refine J_lookup (pc := 6) K (off := 116) 122 dX5_bodyOf_6 (by decide) (by rw [e6_6]; decide) (by decide) ?_
                refine J_bipush (pc := 122) K (40) dX5_bodyOf_122 (by decide) ?_
                exact J_iret (pc := 124) K dX5_bodyOf_124
              · refine J_ite (fun e6_7 => ?_) (fun e6_7 => ?_)
                · refine J_lookup (pc := 6) K (off := 119) 125 dX5_bodyOf_6 (by decide) (by rw [e6_7]; decide) (by decide) ?_
                  refine J_bipush (pc := 125) K (50) dX5_bodyOf_125 (by decide) ?_
                  exact J_iret (pc := 127) K dX5_bodyOf_127
                · refine J_ite (fun e6_8 => ?_) (fun e6_8 => ?_)
                  · refine J_lookup (pc := 6) K (off := 122) 128 dX5_bodyOf_6 (by decide) (by rw [e6_8]; decide) (by decide) ?_
                    refine J_bipush (pc := 128) K (60) dX5_bodyOf_128 (by decide) ?_
                    exact J_iret (pc := 130) K dX5_bodyOf_130
                  · refine J_ite (fun e6_9 => ?_) (fun e6_9 => ?_)
                    · refine J_lookup (pc := 6) K (off := 125) 131 dX5_bodyOf_6 (by decide) (by rw [e6_9]; decide) (by decide) ?_
                      refine J_bipush (pc := 131) K (70) dX5_bodyOf_131 (by decide) ?_
                      exact J_iret (pc := 133) K dX5_bodyOf_133
                    · refine J_ite (fun e6_10 => ?_) (fun e6_10 => ?_)
                      · refine J_lookup (pc := 6) K (off := 128) 134 dX5_bodyOf_6 (by decide) (by rw [e6_10]; decide) (by decide) ?_
                        refine J_bipush (pc := 134) K (71) dX5_bodyOf_134 (by decide) ?_
                        exact J_iret (pc := 136) K dX5_bodyOf_136
                      · refine J_lookup (pc := 6) K (off := 131) 137 dX5_bodyOf_6 (by decide) ((lv_osw e6_0 (by decide)).trans ((lv_osw e6_1 (by decide)).trans ((lv_osw e6_2 (by decide)).trans ((lv_osw e6_3 (by decide)).trans ((lv_osw e6_4 (by decide)).trans ((lv_osw e6_5 (by decide)).trans ((lv_osw e6_6 (by decide)).trans ((lv_osw e6_7 (by decide)).trans ((lv_osw e6_8 (by decide)).trans ((lv_osw e6_9 (by decide)).trans ((lv_osw e6_10 (by decide)).trans rfl))))))))))) (by decide) ?_
                        refine J_iconst (pc := 137) K (0) dX5_bodyOf_137 (by decide) ?_
                        exact J_iret (pc := 138) K dX5_bodyOf_138
