/-! methods, by program: X6_within, X6_isPlace, X6_refuse, X0_takeKind, X0_appear, X2_make, X6_cloud, X6_hasCloud, X0_saltAt, X0_allSalts, J9_min_7cf53, X6_tasteBy, X0_taste, X3_valueOf, X3_workOutSign, X3_workOut, X2_nameBy, X2_nameOf, J9_floorMod_7cf53, X2_windNow, X0_driftBy, X2_heightUnder, J9_max_7cf53, X0_rainIfItHad, X0_rainAt, X2_factOf, X6_ofCloud, X6_become, X6_kindAbove, X6_isUnder, X6_as, X6_mostToSet, X0_change -/
def F_X6_within (x0 : Int32) (x1 : Int32) (x2 : Int32) (h : Mem) : Option (Int32 × Mem) :=
  (if x0 < x1 then
    (some ((0 : Int32), h))
  else
    (if x2 < x0 then
      (some ((0 : Int32), h))
    else
      (some ((1 : Int32), h))))
set_option maxRecDepth 10000 in
set_option maxHeartbeats 1000000 in
theorem ok_X6_within (l : Launch) (ω : WX) (x0 : Int32) (x1 : Int32) (x2 : Int32) (h : Mem) : MC rvI l ω yX6_within cX6_within 3 (some .boolean) 0 [.int x0, .int x1, .int x2] h (F_X6_within x0 x1 x2 h) := by
  refine MC.of (by decide +kernel) [(0, .int x0), (1, .int x1), (2, .int x2)] rfl (Nat.le_of_ble_eq_true rfl) (fun χ K => ?_)
  have K : Kok ω χ "SaltClouds" cX6_within 3 (some .boolean) 0 := K
  unfold F_X6_within
  refine J_iload_n (pc := 0) K dX6_within_0 0 rfl 0 rfl ?_
  refine J_iload_n (pc := 1) K dX6_within_1 1 rfl 1 rfl ?_
  refine J_icmp_lt (pc := 2) K 14 dX6_within_2 (by decide) ?_ ?_
  · refine J_iconst (pc := 14) K (0) dX6_within_14 (by decide) ?_
    exact J_nret (pc := 15) K rfl dX6_within_15
  · refine J_iload_n (pc := 5) K dX6_within_5 0 rfl 0 rfl ?_
    refine J_iload_n (pc := 6) K dX6_within_6 2 rfl 2 rfl ?_
    refine J_icmp_gt (pc := 7) K 14 dX6_within_7 (by decide) ?_ ?_
    · refine J_iconst (pc := 14) K (0) dX6_within_14 (by decide) ?_
      exact J_nret (pc := 15) K rfl dX6_within_15
    · refine J_iconst (pc := 10) K (1) dX6_within_10 (by decide) ?_
      refine J_goto (pc := 11) K 15 dX6_within_11 (by decide) ?_
      exact J_nret (pc := 15) K rfl dX6_within_15
def F_X6_isPlace (x0 : Int32) (h : Mem) : Option (Int32 × Mem) :=
  (bnd (F_X6_within x0 (0 : Int32) (11 : Int32) h) (fun r1 h2 =>
  (gbo r1 (some (r1, h2)))))
set_option maxRecDepth 10000 in
set_option maxHeartbeats 1000000 in
theorem ok_X6_isPlace (l : Launch) (ω : WX) (x0 : Int32) (h : Mem) : MC rvI l ω yX6_isPlace cX6_isPlace 1 (some .boolean) 1 [.int x0] h (F_X6_isPlace x0 h) := by
  refine MC.of (by decide +kernel) [(0, .int x0)] rfl (Nat.le_of_ble_eq_true rfl) (fun χ K => ?_)
  have K : Kok ω χ "SaltClouds" cX6_isPlace 1 (some .boolean) 1 := K
  unfold F_X6_isPlace
  refine J_iload_n (pc := 0) K dX6_isPlace_0 0 rfl 0 rfl ?_
  refine J_iconst (pc := 1) K (0) dX6_isPlace_1 (by decide) ?_
  refine J_bipush (pc := 2) K (11) dX6_isPlace_2 (by decide) ?_
  refine J_callTI (As := [.int x0, .int (0 : Int32), .int (11 : Int32)]) (rest := []) (pc := 4) K cs_SaltClouds_51 (ok_X6_within l ω x0 (0 : Int32) (11 : Int32) h) (by decide) rfl rfl (Nat.le_of_ble_eq_true rfl) dX6_isPlace_4 (fun r1 h2 => ?_)
  exact J_zret (pc := 7) K dX6_isPlace_7
def F_X6_refuse (k0 : Nat) (x1 : Int32) (h : Mem) : Option (Int32 × Mem) :=
  (seqi ((-1000000000 : Int32) - x1) (fun v1 =>
  (bnd (F_X6_within v1 (1 : Int32) (5 : Int32) h) (fun r2 h3 =>
  (if r2 = 0 then
    (some (x1, h3))
  else
    (gin v1 6
    (gin v1 6 (seqh (upm h3 (k0 + 93) (ix v1) ((h3 (k0 + 93) (ix v1)) + (1 : Int32))) (fun h4 =>
    (some (x1, h4)))))))))))
set_option maxRecDepth 10000 in
set_option maxHeartbeats 1000000 in
theorem ok_X6_refuse (l : Launch) (ω : WX) {k0 : Nat} (hk0 : lay k0 = 6) (x1 : Int32) (h : Mem) : MC rvI l ω yX6_refuse cX6_refuse 3 (some .int) 1 [.ref (ω.1 + k0), .int x1] h (F_X6_refuse k0 x1 h) := by
  refine MC.of (by decide +kernel) [(0, .ref (ω.1 + k0)), (1, .int x1)] rfl (Nat.le_of_ble_eq_true rfl) (fun χ K => ?_)
  have K : Kok ω χ "SaltClouds" cX6_refuse 3 (some .int) 1 := K
  unfold F_X6_refuse
  refine J_ldcw (pc := 0) K kc_SaltClouds_284 dX6_refuse_0 ?_
  refine J_iload_n (pc := 3) K dX6_refuse_3 1 rfl 1 rfl ?_
  refine J_isub (pc := 4) K dX6_refuse_4 ?_
  refine J_topi (fun v1 => ?_)
  refine J_istore_n (pc := 5) K dX6_refuse_5 2 rfl (by decide) [(2, .int v1), (0, .ref (ω.1 + k0)), (1, .int x1)] rfl ?_
  refine J_iload_n (pc := 6) K dX6_refuse_6 2 rfl 0 rfl ?_
  refine J_iconst (pc := 7) K (1) dX6_refuse_7 (by decide) ?_
  refine J_iconst (pc := 8) K (5) dX6_refuse_8 (by decide) ?_
  refine J_callTI (As := [.int v1, .int (1 : Int32), .int (5 : Int32)]) (rest := []) (pc := 9) K cs_SaltClouds_51 (ok_X6_within l ω v1 (1 : Int32) (5 : Int32) h) (by decide) rfl rfl (Nat.le_of_ble_eq_true rfl) dX6_refuse_9 (fun r2 h3 => ?_)
  refine J_if_eq (pc := 12) K 25 dX6_refuse_12 (by decide) ?_ ?_
  · refine J_iload_n (pc := 25) K dX6_refuse_25 1 rfl 2 rfl ?_
    exact J_iret (pc := 26) K dX6_refuse_26
  · refine J_aload_n (pc := 15) K dX6_refuse_15 0 rfl 1 rfl ?_
    refine J_getR (pc := 16) K gf_SaltClouds_46 hk0 93 rfl dX6_refuse_16 ?_
    refine J_iload_n (pc := 19) K dX6_refuse_19 2 rfl 0 rfl ?_
    refine J_dup2 (pc := 20) K dX6_refuse_20 rfl rfl ?_
    refine J_iald (pc := 21) K (a := k0 + 93) (n := 6) (ty_6_93 hk0) dX6_refuse_21 ?_
    refine J_iconst (pc := 22) K (1) dX6_refuse_22 (by decide) ?_
    refine J_iadd (pc := 23) K dX6_refuse_23 ?_
    refine J_iast (pc := 24) K (a := k0 + 93) (n := 6) (ty_6_93 hk0) dX6_refuse_24 (fun h4 => ?_)
    refine J_iload_n (pc := 25) K dX6_refuse_25 1 rfl 2 rfl ?_
    exact J_iret (pc := 26) K dX6_refuse_26
def F_X0_takeKind (k0 : Nat) (x1 : Int32) (h : Mem) : Option (Unit × Mem) :=
  (gnz (10 : Int32)
  (seqh (upm h k0 0 (x1 / (10 : Int32))) (fun h1 =>
  (gnz (10 : Int32)
  (seqh (upm h1 k0 1 (irm x1 (10 : Int32))) (fun h2 =>
  (some ((), h2))))))))
set_option maxRecDepth 10000 in
set_option maxHeartbeats 1000000 in
theorem ok_X0_takeKind (l : Launch) (ω : WX) {k0 : Nat} (hk0 : lay k0 = 0) (x1 : Int32) (h : Mem) : MC rvV l ω yX0_takeKind cX0_takeKind 2 none 0 [.ref (ω.1 + k0), .int x1] h (F_X0_takeKind k0 x1 h) := by
  refine MC.of (by decide +kernel) [(0, .ref (ω.1 + k0)), (1, .int x1)] rfl (Nat.le_of_ble_eq_true rfl) (fun χ K => ?_)
  have K : Kok ω χ "SaltClouds$Cloud" cX0_takeKind 2 none 0 := K
  unfold F_X0_takeKind
  refine J_aload_n (pc := 0) K dX0_takeKind_0 0 rfl 0 rfl ?_
  refine J_iload_n (pc := 1) K dX0_takeKind_1 1 rfl 1 rfl ?_
  refine J_bipush (pc := 2) K (10) dX0_takeKind_2 (by decide) ?_
  refine J_idiv (pc := 4) K dX0_takeKind_4 ?_
  refine J_putI (pc := 5) K gf_SaltClouds_Cloud_9 hk0 (by decide) rfl dX0_takeKind_5 (fun h1 => ?_)
  refine J_aload_n (pc := 8) K dX0_takeKind_8 0 rfl 0 rfl ?_
  refine J_iload_n (pc := 9) K dX0_takeKind_9 1 rfl 1 rfl ?_
  refine J_bipush (pc := 10) K (10) dX0_takeKind_10 (by decide) ?_
  refine J_irem (pc := 12) K dX0_takeKind_12 ?_
  refine J_putI (pc := 13) K gf_SaltClouds_Cloud_15 hk0 (by decide) rfl dX0_takeKind_13 (fun h2 => ?_)
  exact J_vret (pc := 16) K dX0_takeKind_16
def F_X0_appear_23 (N : Nat) (k0 : Nat) (kt : Mem → Option (Unit × Mem)) : Nat → Int32 → Mem → Option (Unit × Mem)
  | 0, _, _ => none
  | n + 1, u4, h =>
    (if (3 : Int32) ≤ u4 then
      (kt h)
    else
      (gin u4 3 (seqh (upm h (k0 + 1) (ix u4) (0 : Int32)) (fun h6 =>
      (F_X0_appear_23 N k0 kt n (u4 + 1) h6)))))
set_option maxRecDepth 10000 in
set_option maxHeartbeats 1000000 in
theorem okL_X0_appear_23 {l : Launch} {ω : WX} {χ : KT} {d : Nat} (K : Kok ω χ "SaltClouds$Cloud" cX0_appear 5 none d) (hd : 0 ≤ d) (N : Nat) {k0 : Nat} (hk0 : lay k0 = 0) {kt : Mem → Option (Unit × Mem)} (hK : ∀ (h : Mem), J (ZM rvV ω χ) l ω χ 43 5 [] [] h (kt h)) : ∀ (n : Nat) (u4 : Int32) (h : Mem), J (ZM rvV ω χ) l ω χ 23 5 [(0, .ref (ω.1 + k0)), (4, .int u4)] [] h (F_X0_appear_23 N k0 kt n u4 h) := by
  intro n
  induction n with
  | zero =>
    intro u4 h
    exact J_none rfl
  | succ n ih =>
    intro u4 h
    rw [F_X0_appear_23]
    refine J_iload (pc := 23) K dX0_appear_23 1 rfl ?_
    refine J_iconst (pc := 25) K (3) dX0_appear_25 (by decide) ?_
    refine J_icmp_ge (pc := 26) K 43 dX0_appear_26 (by decide) ?_ ?_
    · refine J_lv [] [] rfl ?_
      exact hK h
    · refine J_aload_n (pc := 29) K dX0_appear_29 0 rfl 0 rfl ?_
      refine J_getR (pc := 30) K gf_SaltClouds_Cloud_28 hk0 1 rfl dX0_appear_30 ?_
      refine J_iload (pc := 33) K dX0_appear_33 1 rfl ?_
      refine J_iconst (pc := 35) K (0) dX0_appear_35 (by decide) ?_
      refine J_iast (pc := 36) K (a := k0 + 1) (n := 3) (ty_0_1 hk0) dX0_appear_36 (fun h6 => ?_)
      refine J_iinc (pc := 37) K (1) dX0_appear_37 1 rfl (by decide) (by decide) [(4, .int (u4 + 1)), (0, .ref (ω.1 + k0))] rfl ?_
      refine J_goto (pc := 40) K 23 dX0_appear_40 (by decide) ?_
      refine J_lv [1, 0] [(0, .ref (ω.1 + k0)), (4, .int (u4 + 1))] rfl ?_
      exact ih (u4 + 1) h6
def F_X0_appear (N : Nat) (k0 : Nat) (x1 : Int32) (x2 : Int32) (x3 : Int32) (h : Mem) : Option (Unit × Mem) :=
  (bnd (F_X0_takeKind k0 x1 h) (fun _ h2 =>
  (seqh (upm h2 k0 2 x2) (fun h3 =>
  (seqh (upm h3 k0 3 x3) (fun h4 =>
  (seqh (upm h4 k0 4 (1 : Int32)) (fun h5 =>
  (F_X0_appear_23 N k0 (fun (h7 : Mem) =>
    (some ((), h7))) N (0 : Int32) h5)))))))))
set_option maxRecDepth 10000 in
set_option maxHeartbeats 1000000 in
theorem ok_X0_appear (l : Launch) (ω : WX) (N : Nat) {k0 : Nat} (hk0 : lay k0 = 0) (x1 : Int32) (x2 : Int32) (x3 : Int32) (h : Mem) : MC rvV l ω yX0_appear cX0_appear 5 none 1 [.ref (ω.1 + k0), .int x1, .int x2, .int x3] h (F_X0_appear N k0 x1 x2 x3 h) := by
  refine MC.of (by decide +kernel) [(0, .ref (ω.1 + k0)), (1, .int x1), (2, .int x2), (3, .int x3)] rfl (Nat.le_of_ble_eq_true rfl) (fun χ K => ?_)
  have K : Kok ω χ "SaltClouds$Cloud" cX0_appear 5 none 1 := K
  unfold F_X0_appear
  refine J_aload_n (pc := 0) K dX0_appear_0 0 rfl 0 rfl ?_
  refine J_iload_n (pc := 1) K dX0_appear_1 1 rfl 1 rfl ?_
  refine J_callVU (As := [.int x1]) (rest := []) (pc := 2) K cs_SaltClouds_Cloud_38 (ok_X0_takeKind l ω hk0 x1 h) hk0 (by decide) rfl rfl (Nat.le_of_ble_eq_true rfl) dX0_appear_2 (fun _ h2 => ?_)
  refine J_aload_n (pc := 5) K dX0_appear_5 0 rfl 0 rfl ?_
  refine J_iload_n (pc := 6) K dX0_appear_6 2 rfl 2 rfl ?_
  refine J_putI (pc := 7) K gf_SaltClouds_Cloud_18 hk0 (by decide) rfl dX0_appear_7 (fun h3 => ?_)
  refine J_aload_n (pc := 10) K dX0_appear_10 0 rfl 0 rfl ?_
  refine J_iload_n (pc := 11) K dX0_appear_11 3 rfl 3 rfl ?_
  refine J_putI (pc := 12) K gf_SaltClouds_Cloud_21 hk0 (by decide) rfl dX0_appear_12 (fun h4 => ?_)
  refine J_aload_n (pc := 15) K dX0_appear_15 0 rfl 0 rfl ?_
  refine J_iconst (pc := 16) K (1) dX0_appear_16 (by decide) ?_
  refine J_putZc (pc := 17) K (Or.inr rfl) gf_SaltClouds_Cloud_24 hk0 (by decide) rfl dX0_appear_17 (fun h5 => ?_)
  refine J_iconst (pc := 20) K (0) dX0_appear_20 (by decide) ?_
  refine J_istore (pc := 21) K dX0_appear_21 (by decide) [(4, .int (0 : Int32)), (0, .ref (ω.1 + k0)), (1, .int x1), (2, .int x2), (3, .int x3)] rfl ?_
  refine J_lv [1, 0] [(0, .ref (ω.1 + k0)), (4, .int (0 : Int32))] rfl ?_
  refine okL_X0_appear_23 K  (by decide) N hk0 (fun h7 => ?_) _ _ _
  exact J_vret (pc := 43) K dX0_appear_43
def F_X2_make (N : Nat) (k0 : Nat) (x1 : Int32) (x2 : Int32) (x3 : Int32) (h : Mem) : Option (Int32 × Mem) :=
  (seqi (h k0 1) (fun v1 =>
  (gin v1 8
  (bnd (F_X0_appear N ((k0 + 1) + 11 + 2 * ix v1) x1 x2 x3 h) (fun _ h4 =>
  (seqh (upm h4 k0 1 ((h4 k0 1) + (1 : Int32))) (fun h5 =>
  (some (v1, h5)))))))))
set_option maxRecDepth 10000 in
set_option maxHeartbeats 1000000 in
theorem ok_X2_make (l : Launch) (ω : WX) (N : Nat) {k0 : Nat} (hk0 : lay k0 = 2) (x1 : Int32) (x2 : Int32) (x3 : Int32) (h : Mem) : MC rvI l ω yX2_make cX2_make 5 (some .int) 2 [.ref (ω.1 + k0), .int x1, .int x2, .int x3] h (F_X2_make N k0 x1 x2 x3 h) := by
  refine MC.of (by decide +kernel) [(0, .ref (ω.1 + k0)), (1, .int x1), (2, .int x2), (3, .int x3)] rfl (Nat.le_of_ble_eq_true rfl) (fun χ K => ?_)
  have K : Kok ω χ "SaltClouds$Sky" cX2_make 5 (some .int) 2 := K
  unfold F_X2_make
  refine J_aload_n (pc := 0) K dX2_make_0 0 rfl 0 rfl ?_
  refine J_getI (pc := 1) K gf_SaltClouds_Sky_17 hk0 rfl dX2_make_1 ?_
  refine J_topi (fun v1 => ?_)
  refine J_istore (pc := 4) K dX2_make_4 (by decide) [(4, .int v1), (0, .ref (ω.1 + k0)), (1, .int x1), (2, .int x2), (3, .int x3)] rfl ?_
  refine J_aload_n (pc := 6) K dX2_make_6 0 rfl 1 rfl ?_
  refine J_getR (pc := 7) K gf_SaltClouds_Sky_11 hk0 1 rfl dX2_make_7 ?_
  refine J_iload (pc := 10) K dX2_make_10 0 rfl ?_
  refine J_aldC (pc := 12) K (a := k0 + 1) (ty_2_1 hk0) dX2_make_12 (fun b2 => ?_)
  refine J_iload_n (pc := 13) K dX2_make_13 1 rfl 2 rfl ?_
  refine J_iload_n (pc := 14) K dX2_make_14 2 rfl 3 rfl ?_
  refine J_iload_n (pc := 15) K dX2_make_15 3 rfl 4 rfl ?_
  refine J_callVU (As := [.int x1, .int x2, .int x3]) (rest := []) (pc := 16) K cs_SaltClouds_Sky_73 (ok_X0_appear l ω N (ty_8e (ty_2_1 hk0) b2) x1 x2 x3 h) (ty_8e (ty_2_1 hk0) b2) (by decide) rfl rfl (Nat.le_of_ble_eq_true rfl) dX2_make_16 (fun _ h4 => ?_)
  refine J_aload_n (pc := 19) K dX2_make_19 0 rfl 1 rfl ?_
  refine J_dup (pc := 20) K dX2_make_20 rfl ?_
  refine J_getI (pc := 21) K gf_SaltClouds_Sky_17 hk0 rfl dX2_make_21 ?_
  refine J_iconst (pc := 24) K (1) dX2_make_24 (by decide) ?_
  refine J_iadd (pc := 25) K dX2_make_25 ?_
  refine J_putI (pc := 26) K gf_SaltClouds_Sky_17 hk0 (by decide) rfl dX2_make_26 (fun h5 => ?_)
  refine J_iload (pc := 29) K dX2_make_29 0 rfl ?_
  exact J_iret (pc := 31) K dX2_make_31
def F_X6_cloud (N : Nat) (k0 : Nat) (x1 : Int32) (x2 : Int32) (x3 : Int32) (h : Mem) : Option (Int32 × Mem) :=
  (bnd (F_X6_within x1 (0 : Int32) (69 : Int32) h) (fun r1 h2 =>
  (if r1 = 0 then
    (bnd (F_X6_refuse k0 (-1000000001 : Int32) h2) (fun r3 h4 =>
    (some (r3, h4))))
  else
    (bnd (F_X6_isPlace x2 h2) (fun r5 h6 =>
    (if r5 = 0 then
      (bnd (F_X6_refuse k0 (-1000000001 : Int32) h6) (fun r7 h8 =>
      (some (r7, h8))))
    else
      (bnd (F_X6_within x3 (0 : Int32) (999 : Int32) h6) (fun r9 h10 =>
      (if r9 = 0 then
        (bnd (F_X6_refuse k0 (-1000000001 : Int32) h10) (fun r11 h12 =>
        (some (r11, h12))))
      else
        (if (h10 (k0 + 1) 1) < (8 : Int32) then
          (bnd (F_X2_make N (k0 + 1) x1 x2 x3 h10) (fun r13 h14 =>
          (some (r13, h14))))
        else
          (bnd (F_X6_refuse k0 (-1000000004 : Int32) h10) (fun r15 h16 =>
          (some (r15, h16))))))))))))))
set_option maxRecDepth 10000 in
set_option maxHeartbeats 1000000 in
theorem ok_X6_cloud (l : Launch) (ω : WX) (N : Nat) {k0 : Nat} (hk0 : lay k0 = 6) (x1 : Int32) (x2 : Int32) (x3 : Int32) (h : Mem) : MC rvI l ω yX6_cloud cX6_cloud 4 (some .int) 3 [.ref (ω.1 + k0), .int x1, .int x2, .int x3] h (F_X6_cloud N k0 x1 x2 x3 h) := by
  refine MC.of (by decide +kernel) [(0, .ref (ω.1 + k0)), (1, .int x1), (2, .int x2), (3, .int x3)] rfl (Nat.le_of_ble_eq_true rfl) (fun χ K => ?_)
  have K : Kok ω χ "SaltClouds" cX6_cloud 4 (some .int) 3 := K
  unfold F_X6_cloud
  refine J_iload_n (pc := 0) K dX6_cloud_0 1 rfl 1 rfl ?_
  refine J_iconst (pc := 1) K (0) dX6_cloud_1 (by decide) ?_
  refine J_bipush (pc := 2) K (69) dX6_cloud_2 (by decide) ?_
  refine J_callTI (As := [.int x1, .int (0 : Int32), .int (69 : Int32)]) (rest := []) (pc := 4) K cs_SaltClouds_51 (ok_X6_within l ω x1 (0 : Int32) (69 : Int32) h) (by decide) rfl rfl (Nat.le_of_ble_eq_true rfl) dX6_cloud_4 (fun r1 h2 => ?_)
  refine J_if_eq (pc := 7) K 28 dX6_cloud_7 (by decide) ?_ ?_
  · refine J_aload_n (pc := 28) K dX6_cloud_28 0 rfl 0 rfl ?_
    refine J_ldc (pc := 29) K kc_SaltClouds_59 dX6_cloud_29 ?_
    refine J_callVI (As := [.int (-1000000001 : Int32)]) (rest := []) (pc := 31) K cs_SaltClouds_60 (ok_X6_refuse l ω hk0 (-1000000001 : Int32) h2) hk0 (by decide) rfl rfl (Nat.le_of_ble_eq_true rfl) dX6_cloud_31 (fun r3 h4 => ?_)
    exact J_iret (pc := 34) K dX6_cloud_34
  · refine J_iload_n (pc := 10) K dX6_cloud_10 2 rfl 2 rfl ?_
    refine J_callTI (As := [.int x2]) (rest := []) (pc := 11) K cs_SaltClouds_55 (ok_X6_isPlace l ω x2 h2) (by decide) rfl rfl (Nat.le_of_ble_eq_true rfl) dX6_cloud_11 (fun r5 h6 => ?_)
    refine J_if_eq (pc := 14) K 28 dX6_cloud_14 (by decide) ?_ ?_
    · refine J_aload_n (pc := 28) K dX6_cloud_28 0 rfl 0 rfl ?_
      refine J_ldc (pc := 29) K kc_SaltClouds_59 dX6_cloud_29 ?_
      refine J_callVI (As := [.int (-1000000001 : Int32)]) (rest := []) (pc := 31) K cs_SaltClouds_60 (ok_X6_refuse l ω hk0 (-1000000001 : Int32) h6) hk0 (by decide) rfl rfl (Nat.le_of_ble_eq_true rfl) dX6_cloud_31 (fun r7 h8 => ?_)
      exact J_iret (pc := 34) K dX6_cloud_34
    · refine J_iload_n (pc := 17) K dX6_cloud_17 3 rfl 3 rfl ?_
      refine J_iconst (pc := 18) K (0) dX6_cloud_18 (by decide) ?_
      refine J_sipush (pc := 19) K (999) dX6_cloud_19 (by decide) ?_
      refine J_callTI (As := [.int x3, .int (0 : Int32), .int (999 : Int32)]) (rest := []) (pc := 22) K cs_SaltClouds_51 (ok_X6_within l ω x3 (0 : Int32) (999 : Int32) h6) (by decide) rfl rfl (Nat.le_of_ble_eq_true rfl) dX6_cloud_22 (fun r9 h10 => ?_)
      refine J_if_ne (pc := 25) K 35 dX6_cloud_25 (by decide) ?_ ?_
      · refine J_aload_n (pc := 28) K dX6_cloud_28 0 rfl 0 rfl ?_
        refine J_ldc (pc := 29) K kc_SaltClouds_59 dX6_cloud_29 ?_
        refine J_callVI (As := [.int (-1000000001 : Int32)]) (rest := []) (pc := 31) K cs_SaltClouds_60 (ok_X6_refuse l ω hk0 (-1000000001 : Int32) h10) hk0 (by decide) rfl rfl (Nat.le_of_ble_eq_true rfl) dX6_cloud_31 (fun r11 h12 => ?_)
        exact J_iret (pc := 34) K dX6_cloud_34
      · refine J_aload_n (pc := 35) K dX6_cloud_35 0 rfl 0 rfl ?_
        refine J_getR (pc := 36) K gf_SaltClouds_12 hk0 1 rfl dX6_cloud_36 ?_
        refine J_getI (pc := 39) K gf_SaltClouds_64 (ty_6_1 hk0) rfl dX6_cloud_39 ?_
        refine J_bipush (pc := 42) K (8) dX6_cloud_42 (by decide) ?_
        refine J_icmp_lt (pc := 44) K 54 dX6_cloud_44 (by decide) ?_ ?_
        · refine J_aload_n (pc := 54) K dX6_cloud_54 0 rfl 0 rfl ?_
          refine J_getR (pc := 55) K gf_SaltClouds_12 hk0 1 rfl dX6_cloud_55 ?_
          refine J_iload_n (pc := 58) K dX6_cloud_58 1 rfl 1 rfl ?_
          refine J_iload_n (pc := 59) K dX6_cloud_59 2 rfl 2 rfl ?_
          refine J_iload_n (pc := 60) K dX6_cloud_60 3 rfl 3 rfl ?_
          refine J_callVI (As := [.int x1, .int x2, .int x3]) (rest := []) (pc := 61) K cs_SaltClouds_68 (ok_X2_make l ω N (ty_6_1 hk0) x1 x2 x3 h10) (ty_6_1 hk0) (by decide) rfl rfl (Nat.le_of_ble_eq_true rfl) dX6_cloud_61 (fun r13 h14 => ?_)
          exact J_iret (pc := 64) K dX6_cloud_64
        · refine J_aload_n (pc := 47) K dX6_cloud_47 0 rfl 0 rfl ?_
          refine J_ldc (pc := 48) K kc_SaltClouds_67 dX6_cloud_48 ?_
          refine J_callVI (As := [.int (-1000000004 : Int32)]) (rest := []) (pc := 50) K cs_SaltClouds_60 (ok_X6_refuse l ω hk0 (-1000000004 : Int32) h10) hk0 (by decide) rfl rfl (Nat.le_of_ble_eq_true rfl) dX6_cloud_50 (fun r15 h16 => ?_)
          exact J_iret (pc := 53) K dX6_cloud_53
def F_X6_hasCloud (k0 : Nat) (x1 : Int32) (h : Mem) : Option (Int32 × Mem) :=
  (bnd (F_X6_within x1 (0 : Int32) ((h (k0 + 1) 1) - (1 : Int32)) h) (fun r1 h2 =>
  (gbo r1 (some (r1, h2)))))
set_option maxRecDepth 10000 in
set_option maxHeartbeats 1000000 in
theorem ok_X6_hasCloud (l : Launch) (ω : WX) {k0 : Nat} (hk0 : lay k0 = 6) (x1 : Int32) (h : Mem) : MC rvI l ω yX6_hasCloud cX6_hasCloud 2 (some .boolean) 1 [.ref (ω.1 + k0), .int x1] h (F_X6_hasCloud k0 x1 h) := by
  refine MC.of (by decide +kernel) [(0, .ref (ω.1 + k0)), (1, .int x1)] rfl (Nat.le_of_ble_eq_true rfl) (fun χ K => ?_)
  have K : Kok ω χ "SaltClouds" cX6_hasCloud 2 (some .boolean) 1 := K
  unfold F_X6_hasCloud
  refine J_iload_n (pc := 0) K dX6_hasCloud_0 1 rfl 1 rfl ?_
  refine J_iconst (pc := 1) K (0) dX6_hasCloud_1 (by decide) ?_
  refine J_aload_n (pc := 2) K dX6_hasCloud_2 0 rfl 0 rfl ?_
  refine J_getR (pc := 3) K gf_SaltClouds_12 hk0 1 rfl dX6_hasCloud_3 ?_
  refine J_getI (pc := 6) K gf_SaltClouds_64 (ty_6_1 hk0) rfl dX6_hasCloud_6 ?_
  refine J_iconst (pc := 9) K (1) dX6_hasCloud_9 (by decide) ?_
  refine J_isub (pc := 10) K dX6_hasCloud_10 ?_
  refine J_callTI (As := [.int x1, .int (0 : Int32), .int ((h (k0 + 1) 1) - (1 : Int32))]) (rest := []) (pc := 11) K cs_SaltClouds_51 (ok_X6_within l ω x1 (0 : Int32) ((h (k0 + 1) 1) - (1 : Int32)) h) (by decide) rfl rfl (Nat.le_of_ble_eq_true rfl) dX6_hasCloud_11 (fun r1 h2 => ?_)
  exact J_zret (pc := 14) K dX6_hasCloud_14
def F_X0_saltAt (k0 : Nat) (x1 : Int32) (h : Mem) : Option (Int32 × Mem) :=
  (if x1 < 0 then
    (some ((0 : Int32), h))
  else
    (if (3 : Int32) ≤ x1 then
      (some ((0 : Int32), h))
    else
      (gin x1 3
      (some (h (k0 + 1) (ix x1), h)))))
set_option maxRecDepth 10000 in
set_option maxHeartbeats 1000000 in
theorem ok_X0_saltAt (l : Launch) (ω : WX) {k0 : Nat} (hk0 : lay k0 = 0) (x1 : Int32) (h : Mem) : MC rvI l ω yX0_saltAt cX0_saltAt 2 (some .int) 0 [.ref (ω.1 + k0), .int x1] h (F_X0_saltAt k0 x1 h) := by
  refine MC.of (by decide +kernel) [(0, .ref (ω.1 + k0)), (1, .int x1)] rfl (Nat.le_of_ble_eq_true rfl) (fun χ K => ?_)
  have K : Kok ω χ "SaltClouds$Cloud" cX0_saltAt 2 (some .int) 0 := K
  unfold F_X0_saltAt
  refine J_iload_n (pc := 0) K dX0_saltAt_0 1 rfl 1 rfl ?_
  refine J_if_lt (pc := 1) K 18 dX0_saltAt_1 (by decide) ?_ ?_
  · refine J_iconst (pc := 18) K (0) dX0_saltAt_18 (by decide) ?_
    exact J_iret (pc := 19) K dX0_saltAt_19
  · refine J_iload_n (pc := 4) K dX0_saltAt_4 1 rfl 1 rfl ?_
    refine J_iconst (pc := 5) K (3) dX0_saltAt_5 (by decide) ?_
    refine J_icmp_ge (pc := 6) K 18 dX0_saltAt_6 (by decide) ?_ ?_
    · refine J_iconst (pc := 18) K (0) dX0_saltAt_18 (by decide) ?_
      exact J_iret (pc := 19) K dX0_saltAt_19
    · refine J_aload_n (pc := 9) K dX0_saltAt_9 0 rfl 0 rfl ?_
      refine J_getR (pc := 10) K gf_SaltClouds_Cloud_28 hk0 1 rfl dX0_saltAt_10 ?_
      refine J_iload_n (pc := 13) K dX0_saltAt_13 1 rfl 1 rfl ?_
      refine J_iald (pc := 14) K (a := k0 + 1) (n := 3) (ty_0_1 hk0) dX0_saltAt_14 ?_
      refine J_goto (pc := 15) K 19 dX0_saltAt_15 (by decide) ?_
      exact J_iret (pc := 19) K dX0_saltAt_19
def F_X0_allSalts (k0 : Nat) (h : Mem) : Option (Int32 × Mem) :=
  (gin (0 : Int32) 3
  (gin (1 : Int32) 3
  (gin (2 : Int32) 3
  (some (((h (k0 + 1) (ix (0 : Int32))) + (h (k0 + 1) (ix (1 : Int32)))) + (h (k0 + 1) (ix (2 : Int32))), h)))))
set_option maxRecDepth 10000 in
set_option maxHeartbeats 1000000 in
theorem ok_X0_allSalts (l : Launch) (ω : WX) {k0 : Nat} (hk0 : lay k0 = 0) (h : Mem) : MC rvI l ω yX0_allSalts cX0_allSalts 1 (some .int) 0 [.ref (ω.1 + k0)] h (F_X0_allSalts k0 h) := by
  refine MC.of (by decide +kernel) [(0, .ref (ω.1 + k0))] rfl (Nat.le_of_ble_eq_true rfl) (fun χ K => ?_)
  have K : Kok ω χ "SaltClouds$Cloud" cX0_allSalts 1 (some .int) 0 := K
  unfold F_X0_allSalts
  refine J_aload_n (pc := 0) K dX0_allSalts_0 0 rfl 0 rfl ?_
  refine J_getR (pc := 1) K gf_SaltClouds_Cloud_28 hk0 1 rfl dX0_allSalts_1 ?_
  refine J_iconst (pc := 4) K (0) dX0_allSalts_4 (by decide) ?_
  refine J_iald (pc := 5) K (a := k0 + 1) (n := 3) (ty_0_1 hk0) dX0_allSalts_5 ?_
  refine J_aload_n (pc := 6) K dX0_allSalts_6 0 rfl 0 rfl ?_
  refine J_getR (pc := 7) K gf_SaltClouds_Cloud_28 hk0 1 rfl dX0_allSalts_7 ?_
  refine J_iconst (pc := 10) K (1) dX0_allSalts_10 (by decide) ?_
  refine J_iald (pc := 11) K (a := k0 + 1) (n := 3) (ty_0_1 hk0) dX0_allSalts_11 ?_
  refine J_iadd (pc := 12) K dX0_allSalts_12 ?_
  refine J_aload_n (pc := 13) K dX0_allSalts_13 0 rfl 0 rfl ?_
  refine J_getR (pc := 14) K gf_SaltClouds_Cloud_28 hk0 1 rfl dX0_allSalts_14 ?_
  refine J_iconst (pc := 17) K (2) dX0_allSalts_17 (by decide) ?_
  refine J_iald (pc := 18) K (a := k0 + 1) (n := 3) (ty_0_1 hk0) dX0_allSalts_18 ?_
  refine J_iadd (pc := 19) K dX0_allSalts_19 ?_
  exact J_iret (pc := 20) K dX0_allSalts_20
def F_J9_min_7cf53 (x0 : Int32) (x1 : Int32) (h : Mem) : Option (Int32 × Mem) :=
  (if x1 < x0 then
    (some (x1, h))
  else
    (some (x0, h)))
set_option maxRecDepth 10000 in
set_option maxHeartbeats 1000000 in
theorem ok_J9_min_7cf53 (l : Launch) (ω : WX) (x0 : Int32) (x1 : Int32) (h : Mem) : MC rvI l ω yJ9_min_7cf53 cJ9_min_7cf53 2 (some .int) 0 [.int x0, .int x1] h (F_J9_min_7cf53 x0 x1 h) := by
  refine MC.of (by decide +kernel) [(0, .int x0), (1, .int x1)] rfl (Nat.le_of_ble_eq_true rfl) (fun χ K => ?_)
  have K : Kok ω χ "java/lang/Math" cJ9_min_7cf53 2 (some .int) 0 := K
  unfold F_J9_min_7cf53
  refine J_iload_n (pc := 0) K dJ9_min_7cf53_0 0 rfl 0 rfl ?_
  refine J_iload_n (pc := 1) K dJ9_min_7cf53_1 1 rfl 1 rfl ?_
  refine J_icmp_gt (pc := 2) K 9 dJ9_min_7cf53_2 (by decide) ?_ ?_
  · refine J_iload_n (pc := 9) K dJ9_min_7cf53_9 1 rfl 1 rfl ?_
    exact J_iret (pc := 10) K dJ9_min_7cf53_10
  · refine J_iload_n (pc := 5) K dJ9_min_7cf53_5 0 rfl 0 rfl ?_
    refine J_goto (pc := 6) K 10 dJ9_min_7cf53_6 (by decide) ?_
    exact J_iret (pc := 10) K dJ9_min_7cf53_10
def F_X6_tasteBy (x0 : Int32) (x1 : Int32) (h : Mem) : Option (Int32 × Mem) :=
  (if 0 < x1 then
    (gnz x1
    (bnd (F_J9_min_7cf53 (9999 : Int32) (((100 : Int32) * x0) / x1) h) (fun r1 h2 =>
    (some (r1, h2)))))
  else
    (some ((9999 : Int32), h)))
set_option maxRecDepth 10000 in
set_option maxHeartbeats 1000000 in
theorem ok_X6_tasteBy (l : Launch) (ω : WX) (x0 : Int32) (x1 : Int32) (h : Mem) : MC rvI l ω yX6_tasteBy cX6_tasteBy 2 (some .int) 1 [.int x0, .int x1] h (F_X6_tasteBy x0 x1 h) := by
  refine MC.of (by decide +kernel) [(0, .int x0), (1, .int x1)] rfl (Nat.le_of_ble_eq_true rfl) (fun χ K => ?_)
  have K : Kok ω χ "SaltClouds" cX6_tasteBy 2 (some .int) 1 := K
  unfold F_X6_tasteBy
  refine J_iload_n (pc := 0) K dX6_tasteBy_0 1 rfl 1 rfl ?_
  refine J_if_gt (pc := 1) K 10 dX6_tasteBy_1 (by decide) ?_ ?_
  · refine J_sipush (pc := 10) K (9999) dX6_tasteBy_10 (by decide) ?_
    refine J_bipush (pc := 13) K (100) dX6_tasteBy_13 (by decide) ?_
    refine J_iload_n (pc := 15) K dX6_tasteBy_15 0 rfl 0 rfl ?_
    refine J_imul (pc := 16) K dX6_tasteBy_16 ?_
    refine J_iload_n (pc := 17) K dX6_tasteBy_17 1 rfl 1 rfl ?_
    refine J_idiv (pc := 18) K dX6_tasteBy_18 ?_
    refine J_callTI (As := [.int (9999 : Int32), .int (((100 : Int32) * x0) / x1)]) (rest := []) (pc := 19) K cs_SaltClouds_229 (ok_J9_min_7cf53 l ω (9999 : Int32) (((100 : Int32) * x0) / x1) h) (by decide) rfl rfl (Nat.le_of_ble_eq_true rfl) dX6_tasteBy_19 (fun r1 h2 => ?_)
    exact J_iret (pc := 22) K dX6_tasteBy_22
  · refine J_sipush (pc := 4) K (9999) dX6_tasteBy_4 (by decide) ?_
    refine J_goto (pc := 7) K 22 dX6_tasteBy_7 (by decide) ?_
    exact J_iret (pc := 22) K dX6_tasteBy_22
def F_X0_taste (k0 : Nat) (h : Mem) : Option (Int32 × Mem) :=
  (bnd (F_X0_allSalts k0 h) (fun r1 h2 =>
  (bnd (F_X6_tasteBy r1 (h2 k0 3) h2) (fun r3 h4 =>
  (some (r3, h4))))))
set_option maxRecDepth 10000 in
set_option maxHeartbeats 1000000 in
theorem ok_X0_taste (l : Launch) (ω : WX) {k0 : Nat} (hk0 : lay k0 = 0) (h : Mem) : MC rvI l ω yX0_taste cX0_taste 1 (some .int) 2 [.ref (ω.1 + k0)] h (F_X0_taste k0 h) := by
  refine MC.of (by decide +kernel) [(0, .ref (ω.1 + k0))] rfl (Nat.le_of_ble_eq_true rfl) (fun χ K => ?_)
  have K : Kok ω χ "SaltClouds$Cloud" cX0_taste 1 (some .int) 2 := K
  unfold F_X0_taste
  refine J_aload_n (pc := 0) K dX0_taste_0 0 rfl 0 rfl ?_
  refine J_callVI (As := []) (rest := []) (pc := 1) K cs_SaltClouds_Cloud_42 (ok_X0_allSalts l ω hk0 h) hk0 (by decide) rfl rfl (Nat.le_of_ble_eq_true rfl) dX0_taste_1 (fun r1 h2 => ?_)
  refine J_aload_n (pc := 4) K dX0_taste_4 0 rfl 0 rfl ?_
  refine J_getI (pc := 5) K gf_SaltClouds_Cloud_21 hk0 rfl dX0_taste_5 ?_
  refine J_callNI (As := [.int r1, .int (h2 k0 3)]) (rest := []) (pc := 8) K cs_SaltClouds_Cloud_46 (ok_X6_tasteBy l ω r1 (h2 k0 3) h2) (by decide) rfl rfl (Nat.le_of_ble_eq_true rfl) dX0_taste_8 (fun r3 h4 => ?_)
  exact J_iret (pc := 11) K dX0_taste_11
def F_X3_valueOf (x0 : Int32) (x1 : Int32) (x2 : Int32) (x3 : Int32) (h : Mem) : Option (Int32 × Mem) :=
  (if x0 = (-3 : Int32) then
    (some (x3, h))
  else
    (if x0 = (-2 : Int32) then
      (some (x2, h))
    else
      (if x0 = (-1 : Int32) then
        (some (x1, h))
      else
        (some (x0, h)))))
set_option maxRecDepth 10000 in
set_option maxHeartbeats 1000000 in
theorem ok_X3_valueOf (l : Launch) (ω : WX) (x0 : Int32) (x1 : Int32) (x2 : Int32) (x3 : Int32) (h : Mem) : MC rvI l ω yX3_valueOf cX3_valueOf 4 (some .int) 0 [.int x0, .int x1, .int x2, .int x3] h (F_X3_valueOf x0 x1 x2 x3 h) := by
  refine MC.of (by decide +kernel) [(0, .int x0), (1, .int x1), (2, .int x2), (3, .int x3)] rfl (Nat.le_of_ble_eq_true rfl) (fun χ K => ?_)
  have K : Kok ω χ "SaltClouds$Text" cX3_valueOf 4 (some .int) 0 := K
  unfold F_X3_valueOf
  refine J_iload_n (pc := 0) K dX3_valueOf_0 0 rfl 0 rfl ?_
  refine J_ite (fun e1_0 => ?_) (fun e1_0 => ?_)
  · refine J_tableIn (pc := 1) K (v := -3) 32 e1_0 dX3_valueOf_1 (by decide) (by decide) rfl (by decide) ?_
    refine J_iload_n (pc := 32) K dX3_valueOf_32 3 rfl 3 rfl ?_
    exact J_iret (pc := 33) K dX3_valueOf_33
  · refine J_ite (fun e1_1 => ?_) (fun e1_1 => ?_)
    · refine J_tableIn (pc := 1) K (v := -2) 30 e1_1 dX3_valueOf_1 (by decide) (by decide) rfl (by decide) ?_
      refine J_iload_n (pc := 30) K dX3_valueOf_30 2 rfl 2 rfl ?_
      exact J_iret (pc := 31) K dX3_valueOf_31
    · refine J_ite (fun e1_2 => ?_) (fun e1_2 => ?_)
      · refine J_tableIn (pc := 1) K (v := -1) 28 e1_2 dX3_valueOf_1 (by decide) (by decide) rfl (by decide) ?_
        refine J_iload_n (pc := 28) K dX3_valueOf_28 1 rfl 1 rfl ?_
        exact J_iret (pc := 29) K dX3_valueOf_29
      · refine J_tableOut (pc := 1) K 34 dX3_valueOf_1 (by have q0 := lv_neT e1_0 (a := -3) (by decide); have q1 := lv_neT e1_1 (a := -2) (by decide); have q2 := lv_neT e1_2 (a := -1) (by decide); omega) (by decide) ?_
        refine J_iload_n (pc := 34) K dX3_valueOf_34 0 rfl 0 rfl ?_
        exact J_iret (pc := 35) K dX3_valueOf_35
def F_X3_workOutSign (x0 : Int32) (x1 : Int32) (x2 : Int32) (h : Mem) : Option (Int32 × Mem) :=
  (if x0 = (37 : Int32) then
    (if x2 = 0 then
      (some ((0 : Int32), h))
    else
      (gnz x2
      (some (irm x1 x2, h))))
  else
    (if x0 = (38 : Int32) then
      (if x1 = 0 then
        (some ((0 : Int32), h))
      else
        (if x2 = 0 then
          (some ((0 : Int32), h))
        else
          (some ((1 : Int32), h))))
    else
      (if x0 = (42 : Int32) then
        (some (x1 * x2, h))
      else
        (if x0 = (43 : Int32) then
          (some (x1 + x2, h))
        else
          (if x0 = (45 : Int32) then
            (some (x1 - x2, h))
          else
            (if x0 = (47 : Int32) then
              (if x2 = 0 then
                (some ((0 : Int32), h))
              else
                (gnz x2
                (some (x1 / x2, h))))
            else
              (if x0 = (60 : Int32) then
                (if x2 ≤ x1 then
                  (some ((0 : Int32), h))
                else
                  (some ((1 : Int32), h)))
              else
                (if x0 = (61 : Int32) then
                  (if x1 = x2 then
                    (some ((1 : Int32), h))
                  else
                    (some ((0 : Int32), h)))
                else
                  (if x0 = (62 : Int32) then
                    (if x1 ≤ x2 then
                      (some ((0 : Int32), h))
                    else
                      (some ((1 : Int32), h)))
                  else
                    (if x0 = (124 : Int32) then
                      (if x1 = 0 then
                        (if x2 = 0 then
                          (some ((0 : Int32), h))
                        else
                          (some ((1 : Int32), h)))
                      else
                        (some ((1 : Int32), h)))
                    else
                      (some ((0 : Int32), h))))))))))))
set_option maxRecDepth 10000 in
set_option maxHeartbeats 1000000 in
theorem ok_X3_workOutSign (l : Launch) (ω : WX) (x0 : Int32) (x1 : Int32) (x2 : Int32) (h : Mem) : MC rvI l ω yX3_workOutSign cX3_workOutSign 3 (some .int) 0 [.int x0, .int x1, .int x2] h (F_X3_workOutSign x0 x1 x2 h) := by
  refine MC.of (by decide +kernel) [(0, .int x0), (1, .int x1), (2, .int x2)] rfl (Nat.le_of_ble_eq_true rfl) (fun χ K => ?_)
  have K : Kok ω χ "SaltClouds$Text" cX3_workOutSign 3 (some .int) 0 := K
  unfold F_X3_workOutSign
  refine J_iload_n (pc := 0) K dX3_workOutSign_0 0 rfl 0 rfl ?_
  refine J_ite (fun e1_0 => ?_) (fun e1_0 => ?_)
  · refine J_lookup (pc := 1) K (off := 176) 177 dX3_workOutSign_1 (by decide) (by rw [e1_0]; decide) (by decide) ?_
    refine J_iload_n (pc := 177) K dX3_workOutSign_177 2 rfl 2 rfl ?_
    refine J_if_ne (pc := 178) K 185 dX3_workOutSign_178 (by decide) ?_ ?_
    · refine J_iconst (pc := 181) K (0) dX3_workOutSign_181 (by decide) ?_
      refine J_goto (pc := 182) K 188 dX3_workOutSign_182 (by decide) ?_
      exact J_iret (pc := 188) K dX3_workOutSign_188
    · refine J_iload_n (pc := 185) K dX3_workOutSign_185 1 rfl 1 rfl ?_
      refine J_iload_n (pc := 186) K dX3_workOutSign_186 2 rfl 2 rfl ?_
      refine J_irem (pc := 187) K dX3_workOutSign_187 ?_
      exact J_iret (pc := 188) K dX3_workOutSign_188
  · refine J_ite (fun e1_1 => ?_) (fun e1_1 => ?_)
    · refine J_lookup (pc := 1) K (off := 105) 106 dX3_workOutSign_1 (by decide) (by rw [e1_1]; decide) (by decide) ?_
      refine J_iload_n (pc := 106) K dX3_workOutSign_106 1 rfl 1 rfl ?_
      refine J_if_eq (pc := 107) K 118 dX3_workOutSign_107 (by decide) ?_ ?_
      · refine J_iconst (pc := 118) K (0) dX3_workOutSign_118 (by decide) ?_
        exact J_iret (pc := 119) K dX3_workOutSign_119
      · refine J_iload_n (pc := 110) K dX3_workOutSign_110 2 rfl 2 rfl ?_
        refine J_if_eq (pc := 111) K 118 dX3_workOutSign_111 (by decide) ?_ ?_
        · refine J_iconst (pc := 118) K (0) dX3_workOutSign_118 (by decide) ?_
          exact J_iret (pc := 119) K dX3_workOutSign_119
        · refine J_iconst (pc := 114) K (1) dX3_workOutSign_114 (by decide) ?_
          refine J_goto (pc := 115) K 119 dX3_workOutSign_115 (by decide) ?_
          exact J_iret (pc := 119) K dX3_workOutSign_119
    · refine J_ite (fun e1_2 => ?_) (fun e1_2 => ?_)
      · refine J_lookup (pc := 1) K (off := 160) 161 dX3_workOutSign_1 (by decide) (by rw [e1_2]; decide) (by decide) ?_
        refine J_iload_n (pc := 161) K dX3_workOutSign_161 1 rfl 1 rfl ?_
        refine J_iload_n (pc := 162) K dX3_workOutSign_162 2 rfl 2 rfl ?_
        refine J_imul (pc := 163) K dX3_workOutSign_163 ?_
        exact J_iret (pc := 164) K dX3_workOutSign_164
      · refine J_ite (fun e1_3 => ?_) (fun e1_3 => ?_)
        · refine J_lookup (pc := 1) K (off := 152) 153 dX3_workOutSign_1 (by decide) (by rw [e1_3]; decide) (by decide) ?_
          refine J_iload_n (pc := 153) K dX3_workOutSign_153 1 rfl 1 rfl ?_
          refine J_iload_n (pc := 154) K dX3_workOutSign_154 2 rfl 2 rfl ?_
          refine J_iadd (pc := 155) K dX3_workOutSign_155 ?_
          exact J_iret (pc := 156) K dX3_workOutSign_156
        · refine J_ite (fun e1_4 => ?_) (fun e1_4 => ?_)
          · refine J_lookup (pc := 1) K (off := 156) 157 dX3_workOutSign_1 (by decide) (by rw [e1_4]; decide) (by decide) ?_
            refine J_iload_n (pc := 157) K dX3_workOutSign_157 1 rfl 1 rfl ?_
            refine J_iload_n (pc := 158) K dX3_workOutSign_158 2 rfl 2 rfl ?_
            refine J_isub (pc := 159) K dX3_workOutSign_159 ?_
            exact J_iret (pc := 160) K dX3_workOutSign_160
          · refine J_ite (fun e1_5 => ?_) (fun e1_5 => ?_)
            · refine J_lookup (pc := 1) K (off := 164) 165 dX3_workOutSign_1 (by decide) (by rw [e1_5]; decide) (by decide) ?_
              refine J_iload_n (pc := 165) K dX3_workOutSign_165 2 rfl 2 rfl ?_
              refine J_if_ne (pc := 166) K 173 dX3_workOutSign_166 (by decide) ?_ ?_
              · refine J_iconst (pc := 169) K (0) dX3_workOutSign_169 (by decide) ?_
                refine J_goto (pc := 170) K 176 dX3_workOutSign_170 (by decide) ?_
                exact J_iret (pc := 176) K dX3_workOutSign_176
              · refine J_iload_n (pc := 173) K dX3_workOutSign_173 1 rfl 1 rfl ?_
                refine J_iload_n (pc := 174) K dX3_workOutSign_174 2 rfl 2 rfl ?_
                refine J_idiv (pc := 175) K dX3_workOutSign_175 ?_
                exact J_iret (pc := 176) K dX3_workOutSign_176
            · refine J_ite (fun e1_6 => ?_) (fun e1_6 => ?_)
              · refine J_lookup (pc := 1) K (off := 119) 120 dX3_workOutSign_1 (by decide) (by rw [e1_6]; decide) (by decide) ?_
                refine J_iload_n (pc := 120) K dX3_workOutSign_120 1 rfl 1 rfl ?_
                refine J_iload_n (pc := 121) K dX3_workOutSign_121 2 rfl 2 rfl ?_
                refine J_icmp_ge (pc := 122) K 129 dX3_workOutSign_122 (by decide) ?_ ?_
                · refine J_iconst (pc := 129) K (0) dX3_workOutSign_129 (by decide) ?_
                  exact J_iret (pc := 130) K dX3_workOutSign_130
                · refine J_iconst (pc := 125) K (1) dX3_workOutSign_125 (by decide) ?_
                  refine J_goto (pc := 126) K 130 dX3_workOutSign_126 (by decide) ?_
                  exact J_iret (pc := 130) K dX3_workOutSign_130
              · refine J_ite (fun e1_7 => ?_) (fun e1_7 => ?_)
                · refine J_lookup (pc := 1) K (off := 130) 131 dX3_workOutSign_1 (by decide) (by rw [e1_7]; decide) (by decide) ?_
                  refine J_iload_n (pc := 131) K dX3_workOutSign_131 1 rfl 1 rfl ?_
                  refine J_iload_n (pc := 132) K dX3_workOutSign_132 2 rfl 2 rfl ?_
                  refine J_icmp_ne (pc := 133) K 140 dX3_workOutSign_133 (by decide) ?_ ?_
                  · refine J_iconst (pc := 136) K (1) dX3_workOutSign_136 (by decide) ?_
                    refine J_goto (pc := 137) K 141 dX3_workOutSign_137 (by decide) ?_
                    exact J_iret (pc := 141) K dX3_workOutSign_141
                  · refine J_iconst (pc := 140) K (0) dX3_workOutSign_140 (by decide) ?_
                    exact J_iret (pc := 141) K dX3_workOutSign_141
                · refine J_ite (fun e1_8 => ?_) (fun e1_8 => ?_)
                  · refine J_lookup (pc := 1) K (off := 141) 142 dX3_workOutSign_1 (by decide) (by rw [e1_8]; decide) (by decide) ?_
                    refine J_iload_n (pc := 142) K dX3_workOutSign_142 1 rfl 1 rfl ?_
                    refine J_iload_n (pc := 143) K dX3_workOutSign_143 2 rfl 2 rfl ?_
                    refine J_icmp_le (pc := 144) K 151 dX3_workOutSign_144 (by decide) ?_ ?_
                    · refine J_iconst (pc := 151) K (0) dX3_workOutSign_151 (by decide) ?_
                      exact J_iret (pc := 152) K dX3_workOutSign_152
                    · refine J_iconst (pc := 147) K (1) dX3_workOutSign_147 (by decide) ?_
                      refine J_goto (pc := 148) K 152 dX3_workOutSign_148 (by decide) ?_
                      exact J_iret (pc := 152) K dX3_workOutSign_152
                  · refine J_ite (fun e1_9 => ?_) (fun e1_9 => ?_)
                    · refine J_lookup (pc := 1) K (off := 91) 92 dX3_workOutSign_1 (by decide) (by rw [e1_9]; decide) (by decide) ?_
                      refine J_iload_n (pc := 92) K dX3_workOutSign_92 1 rfl 1 rfl ?_
                      refine J_if_ne (pc := 93) K 100 dX3_workOutSign_93 (by decide) ?_ ?_
                      · refine J_iload_n (pc := 96) K dX3_workOutSign_96 2 rfl 2 rfl ?_
                        refine J_if_eq (pc := 97) K 104 dX3_workOutSign_97 (by decide) ?_ ?_
                        · refine J_iconst (pc := 104) K (0) dX3_workOutSign_104 (by decide) ?_
                          exact J_iret (pc := 105) K dX3_workOutSign_105
                        · refine J_iconst (pc := 100) K (1) dX3_workOutSign_100 (by decide) ?_
                          refine J_goto (pc := 101) K 105 dX3_workOutSign_101 (by decide) ?_
                          exact J_iret (pc := 105) K dX3_workOutSign_105
                      · refine J_iconst (pc := 100) K (1) dX3_workOutSign_100 (by decide) ?_
                        refine J_goto (pc := 101) K 105 dX3_workOutSign_101 (by decide) ?_
                        exact J_iret (pc := 105) K dX3_workOutSign_105
                    · refine J_lookup (pc := 1) K (off := 188) 189 dX3_workOutSign_1 (by decide) ((lv_osw e1_0 (by decide)).trans ((lv_osw e1_1 (by decide)).trans ((lv_osw e1_2 (by decide)).trans ((lv_osw e1_3 (by decide)).trans ((lv_osw e1_4 (by decide)).trans ((lv_osw e1_5 (by decide)).trans ((lv_osw e1_6 (by decide)).trans ((lv_osw e1_7 (by decide)).trans ((lv_osw e1_8 (by decide)).trans ((lv_osw e1_9 (by decide)).trans rfl)))))))))) (by decide) ?_
                      refine J_iconst (pc := 189) K (0) dX3_workOutSign_189 (by decide) ?_
                      exact J_iret (pc := 190) K dX3_workOutSign_190
def F_X3_workOut_6 (N : Nat) (k0 : Nat) (w1 : Int32) (w2 : Int32) (w3 : Int32) (kt : Mem → Option (Int32 × Mem)) : Nat → Int32 → Int32 → Mem → Option (Int32 × Mem)
  | 0, _, _, _ => none
  | n + 1, u4, u5, h =>
    (if (h k0 2) ≤ u5 then
      (kt h)
    else
      (gin u5 50
      (seqi (h (k0 + 1) (ix u5)) (fun v1 =>
      (if v1 < (-3 : Int32) then
        (if v1 = (-33 : Int32) then
          (if (1 : Int32) ≤ u4 then
            (seqi (u4 - (1 : Int32)) (fun v2 =>
            (gin v2 50
            (if (h (k0 + 2) (ix v2)) = 0 then
              (gin (u4 - (1 : Int32)) 50 (seqh (upm h (k0 + 2) (ix (u4 - (1 : Int32))) (1 : Int32)) (fun h3 =>
              (F_X3_workOut_6 N k0 w1 w2 w3 kt n u4 (u5 + 1) h3))))
            else
              (gin (u4 - (1 : Int32)) 50 (seqh (upm h (k0 + 2) (ix (u4 - (1 : Int32))) (0 : Int32)) (fun h4 =>
              (F_X3_workOut_6 N k0 w1 w2 w3 kt n u4 (u5 + 1) h4))))))))
          else
            (some ((0 : Int32), h)))
        else
          (if (2 : Int32) ≤ u4 then
            (seqi ((u4 + (-1)) - (1 : Int32)) (fun v5 =>
            (gin v5 50
            (seqi (u4 + (-1)) (fun v6 =>
            (gin v6 50
            (bnd (F_X3_workOutSign (-v1) (h (k0 + 2) (ix v5)) (h (k0 + 2) (ix v6)) h) (fun r7 h8 =>
            (gin ((u4 + (-1)) - (1 : Int32)) 50 (seqh (upm h8 (k0 + 2) (ix ((u4 + (-1)) - (1 : Int32))) r7) (fun h9 =>
            (F_X3_workOut_6 N k0 w1 w2 w3 kt n (u4 + (-1)) (u5 + 1) h9))))))))))))
          else
            (some ((0 : Int32), h))))
      else
        (if u4 < (nI 50) then
          (bnd (F_X3_valueOf v1 w1 w2 w3 h) (fun r10 h11 =>
          (gin u4 50 (seqh (upm h11 (k0 + 2) (ix u4) r10) (fun h12 =>
          (F_X3_workOut_6 N k0 w1 w2 w3 kt n (u4 + 1) (u5 + 1) h12))))))
        else
          (some ((0 : Int32), h))))))))
set_option maxRecDepth 10000 in
set_option maxHeartbeats 1000000 in
theorem okL_X3_workOut_6 {l : Launch} {ω : WX} {χ : KT} {d : Nat} (K : Kok ω χ "SaltClouds$Text" cX3_workOut 7 (some .int) d) (hd : 1 ≤ d) (N : Nat) {k0 : Nat} (hk0 : lay k0 = 3) {w1 : Int32} {w2 : Int32} {w3 : Int32} {kt : Mem → Option (Int32 × Mem)} (hK : ∀ (h : Mem), J (ZM rvI ω χ) l ω χ 156 7 [(0, .ref (ω.1 + k0))] [] h (kt h)) : ∀ (n : Nat) (u4 : Int32) (u5 : Int32) (h : Mem), J (ZM rvI ω χ) l ω χ 6 7 [(0, .ref (ω.1 + k0)), (1, .int w1), (2, .int w2), (3, .int w3), (4, .int u4), (5, .int u5)] [] h (F_X3_workOut_6 N k0 w1 w2 w3 kt n u4 u5 h) := by
  intro n
  induction n with
  | zero =>
    intro u4 u5 h
    exact J_none rfl
  | succ n ih =>
    intro u4 u5 h
    rw [F_X3_workOut_6]
    refine J_iload (pc := 6) K dX3_workOut_6 5 rfl ?_
    refine J_aload_n (pc := 8) K dX3_workOut_8 0 rfl 0 rfl ?_
    refine J_getI (pc := 9) K gf_SaltClouds_Text_19 hk0 rfl dX3_workOut_9 ?_
    refine J_icmp_ge (pc := 12) K 156 dX3_workOut_12 (by decide) ?_ ?_
    · refine J_lv [0] [(0, .ref (ω.1 + k0))] rfl ?_
      exact hK h
    · refine J_aload_n (pc := 15) K dX3_workOut_15 0 rfl 0 rfl ?_
      refine J_getR (pc := 16) K gf_SaltClouds_Text_15 hk0 1 rfl dX3_workOut_16 ?_
      refine J_iload (pc := 19) K dX3_workOut_19 5 rfl ?_
      refine J_iald (pc := 21) K (a := k0 + 1) (n := 50) (ty_3_1 hk0) dX3_workOut_21 ?_
      refine J_topi (fun v1 => ?_)
      refine J_istore (pc := 22) K dX3_workOut_22 (by decide) [(6, .int v1), (0, .ref (ω.1 + k0)), (1, .int w1), (2, .int w2), (3, .int w3), (4, .int u4), (5, .int u5)] rfl ?_
      refine J_iload (pc := 24) K dX3_workOut_24 0 rfl ?_
      refine J_bipush (pc := 26) K (-3) dX3_workOut_26 (by decide) ?_
      refine J_icmp_lt (pc := 28) K 64 dX3_workOut_28 (by decide) ?_ ?_
      · refine J_iload (pc := 64) K dX3_workOut_64 0 rfl ?_
        refine J_bipush (pc := 66) K (-33) dX3_workOut_66 (by decide) ?_
        refine J_icmp_ne (pc := 68) K 108 dX3_workOut_68 (by decide) ?_ ?_
        · refine J_iload (pc := 71) K dX3_workOut_71 5 rfl ?_
          refine J_iconst (pc := 73) K (1) dX3_workOut_73 (by decide) ?_
          refine J_icmp_ge (pc := 74) K 79 dX3_workOut_74 (by decide) ?_ ?_
          · refine J_aload_n (pc := 79) K dX3_workOut_79 0 rfl 1 rfl ?_
            refine J_getR (pc := 80) K gf_SaltClouds_Text_23 hk0 2 rfl dX3_workOut_80 ?_
            refine J_iload (pc := 83) K dX3_workOut_83 5 rfl ?_
            refine J_iconst (pc := 85) K (1) dX3_workOut_85 (by decide) ?_
            refine J_isub (pc := 86) K dX3_workOut_86 ?_
            refine J_aload_n (pc := 87) K dX3_workOut_87 0 rfl 1 rfl ?_
            refine J_getR (pc := 88) K gf_SaltClouds_Text_23 hk0 2 rfl dX3_workOut_88 ?_
            refine J_iload (pc := 91) K dX3_workOut_91 5 rfl ?_
            refine J_iconst (pc := 93) K (1) dX3_workOut_93 (by decide) ?_
            refine J_isub (pc := 94) K dX3_workOut_94 ?_
            refine J_topi (fun v2 => ?_)
            refine J_iald (pc := 95) K (a := k0 + 2) (n := 50) (ty_3_2 hk0) dX3_workOut_95 ?_
            refine J_if_ne (pc := 96) K 103 dX3_workOut_96 (by decide) ?_ ?_
            · refine J_iconst (pc := 99) K (1) dX3_workOut_99 (by decide) ?_
              refine J_goto (pc := 100) K 104 dX3_workOut_100 (by decide) ?_
              refine J_iast (pc := 104) K (a := k0 + 2) (n := 50) (ty_3_2 hk0) dX3_workOut_104 (fun h3 => ?_)
              refine J_goto (pc := 105) K 150 dX3_workOut_105 (by decide) ?_
              refine J_iinc (pc := 150) K (1) dX3_workOut_150 6 rfl (by decide) (by decide) [(5, .int (u5 + 1)), (6, .int v1), (0, .ref (ω.1 + k0)), (1, .int w1), (2, .int w2), (3, .int w3), (4, .int u4)] rfl ?_
              refine J_goto (pc := 153) K 6 dX3_workOut_153 (by decide) ?_
              refine J_lv [2, 3, 4, 5, 6, 0] [(0, .ref (ω.1 + k0)), (1, .int w1), (2, .int w2), (3, .int w3), (4, .int u4), (5, .int (u5 + 1))] rfl ?_
              exact ih u4 (u5 + 1) h3
            · refine J_iconst (pc := 103) K (0) dX3_workOut_103 (by decide) ?_
              refine J_iast (pc := 104) K (a := k0 + 2) (n := 50) (ty_3_2 hk0) dX3_workOut_104 (fun h4 => ?_)
              refine J_goto (pc := 105) K 150 dX3_workOut_105 (by decide) ?_
              refine J_iinc (pc := 150) K (1) dX3_workOut_150 6 rfl (by decide) (by decide) [(5, .int (u5 + 1)), (6, .int v1), (0, .ref (ω.1 + k0)), (1, .int w1), (2, .int w2), (3, .int w3), (4, .int u4)] rfl ?_
              refine J_goto (pc := 153) K 6 dX3_workOut_153 (by decide) ?_
              refine J_lv [2, 3, 4, 5, 6, 0] [(0, .ref (ω.1 + k0)), (1, .int w1), (2, .int w2), (3, .int w3), (4, .int u4), (5, .int (u5 + 1))] rfl ?_
              exact ih u4 (u5 + 1) h4
          · refine J_iconst (pc := 77) K (0) dX3_workOut_77 (by decide) ?_
            exact J_iret (pc := 78) K dX3_workOut_78
        · refine J_iload (pc := 108) K dX3_workOut_108 5 rfl ?_
          refine J_iconst (pc := 110) K (2) dX3_workOut_110 (by decide) ?_
          refine J_icmp_ge (pc := 111) K 116 dX3_workOut_111 (by decide) ?_ ?_
          · refine J_iinc (pc := 116) K (-1) dX3_workOut_116 5 rfl (by decide) (by decide) [(4, .int (u4 + (-1))), (6, .int v1), (0, .ref (ω.1 + k0)), (1, .int w1), (2, .int w2), (3, .int w3), (5, .int u5)] rfl ?_
            refine J_aload_n (pc := 119) K dX3_workOut_119 0 rfl 2 rfl ?_
            refine J_getR (pc := 120) K gf_SaltClouds_Text_23 hk0 2 rfl dX3_workOut_120 ?_
            refine J_iload (pc := 123) K dX3_workOut_123 0 rfl ?_
            refine J_iconst (pc := 125) K (1) dX3_workOut_125 (by decide) ?_
            refine J_isub (pc := 126) K dX3_workOut_126 ?_
            refine J_iload (pc := 127) K dX3_workOut_127 1 rfl ?_
            refine J_ineg (pc := 129) K dX3_workOut_129 ?_
            refine J_aload_n (pc := 130) K dX3_workOut_130 0 rfl 2 rfl ?_
            refine J_getR (pc := 131) K gf_SaltClouds_Text_23 hk0 2 rfl dX3_workOut_131 ?_
            refine J_iload (pc := 134) K dX3_workOut_134 0 rfl ?_
            refine J_iconst (pc := 136) K (1) dX3_workOut_136 (by decide) ?_
            refine J_isub (pc := 137) K dX3_workOut_137 ?_
            refine J_topi (fun v5 => ?_)
            refine J_iald (pc := 138) K (a := k0 + 2) (n := 50) (ty_3_2 hk0) dX3_workOut_138 ?_
            refine J_aload_n (pc := 139) K dX3_workOut_139 0 rfl 2 rfl ?_
            refine J_getR (pc := 140) K gf_SaltClouds_Text_23 hk0 2 rfl dX3_workOut_140 ?_
            refine J_iload (pc := 143) K dX3_workOut_143 0 rfl ?_
            refine J_topi (fun v6 => ?_)
            refine J_iald (pc := 145) K (a := k0 + 2) (n := 50) (ty_3_2 hk0) dX3_workOut_145 ?_
            refine J_callTI (As := [.int (-v1), .int (h (k0 + 2) (ix v5)), .int (h (k0 + 2) (ix v6))]) (rest := [.int ((u4 + (-1)) - (1 : Int32)), .ref (ω.1 + (k0 + 2))]) (pc := 146) K cs_SaltClouds_Text_36 (ok_X3_workOutSign l ω (-v1) (h (k0 + 2) (ix v5)) (h (k0 + 2) (ix v6)) h) (by omega) rfl rfl (Nat.le_of_ble_eq_true rfl) dX3_workOut_146 (fun r7 h8 => ?_)
            refine J_iast (pc := 149) K (a := k0 + 2) (n := 50) (ty_3_2 hk0) dX3_workOut_149 (fun h9 => ?_)
            refine J_iinc (pc := 150) K (1) dX3_workOut_150 6 rfl (by decide) (by decide) [(5, .int (u5 + 1)), (4, .int (u4 + (-1))), (6, .int v1), (0, .ref (ω.1 + k0)), (1, .int w1), (2, .int w2), (3, .int w3)] rfl ?_
            refine J_goto (pc := 153) K 6 dX3_workOut_153 (by decide) ?_
            refine J_lv [3, 4, 5, 6, 1, 0] [(0, .ref (ω.1 + k0)), (1, .int w1), (2, .int w2), (3, .int w3), (4, .int (u4 + (-1))), (5, .int (u5 + 1))] rfl ?_
            exact ih (u4 + (-1)) (u5 + 1) h9
          · refine J_iconst (pc := 114) K (0) dX3_workOut_114 (by decide) ?_
            exact J_iret (pc := 115) K dX3_workOut_115
      · refine J_iload (pc := 31) K dX3_workOut_31 5 rfl ?_
        refine J_aload_n (pc := 33) K dX3_workOut_33 0 rfl 1 rfl ?_
        refine J_getR (pc := 34) K gf_SaltClouds_Text_23 hk0 2 rfl dX3_workOut_34 ?_
        refine J_alen (pc := 37) K (a := k0 + 2) (n := 50) (ty_3_2 hk0) dX3_workOut_37 ?_
        refine J_icmp_lt (pc := 38) K 43 dX3_workOut_38 (by decide) ?_ ?_
        · refine J_aload_n (pc := 43) K dX3_workOut_43 0 rfl 1 rfl ?_
          refine J_getR (pc := 44) K gf_SaltClouds_Text_23 hk0 2 rfl dX3_workOut_44 ?_
          refine J_iload (pc := 47) K dX3_workOut_47 5 rfl ?_
          refine J_iload (pc := 49) K dX3_workOut_49 0 rfl ?_
          refine J_iload_n (pc := 51) K dX3_workOut_51 1 rfl 2 rfl ?_
          refine J_iload_n (pc := 52) K dX3_workOut_52 2 rfl 3 rfl ?_
          refine J_iload_n (pc := 53) K dX3_workOut_53 3 rfl 4 rfl ?_
          refine J_callTI (As := [.int v1, .int w1, .int w2, .int w3]) (rest := [.int u4, .ref (ω.1 + (k0 + 2))]) (pc := 54) K cs_SaltClouds_Text_32 (ok_X3_valueOf l ω v1 w1 w2 w3 h) (by omega) rfl rfl (Nat.le_of_ble_eq_true rfl) dX3_workOut_54 (fun r10 h11 => ?_)
          refine J_iast (pc := 57) K (a := k0 + 2) (n := 50) (ty_3_2 hk0) dX3_workOut_57 (fun h12 => ?_)
          refine J_iinc (pc := 58) K (1) dX3_workOut_58 5 rfl (by decide) (by decide) [(4, .int (u4 + 1)), (6, .int v1), (0, .ref (ω.1 + k0)), (1, .int w1), (2, .int w2), (3, .int w3), (5, .int u5)] rfl ?_
          refine J_goto (pc := 61) K 150 dX3_workOut_61 (by decide) ?_
          refine J_iinc (pc := 150) K (1) dX3_workOut_150 6 rfl (by decide) (by decide) [(5, .int (u5 + 1)), (4, .int (u4 + 1)), (6, .int v1), (0, .ref (ω.1 + k0)), (1, .int w1), (2, .int w2), (3, .int w3)] rfl ?_
          refine J_goto (pc := 153) K 6 dX3_workOut_153 (by decide) ?_
          refine J_lv [3, 4, 5, 6, 1, 0] [(0, .ref (ω.1 + k0)), (1, .int w1), (2, .int w2), (3, .int w3), (4, .int (u4 + 1)), (5, .int (u5 + 1))] rfl ?_
          exact ih (u4 + 1) (u5 + 1) h12
        · refine J_iconst (pc := 41) K (0) dX3_workOut_41 (by decide) ?_
          exact J_iret (pc := 42) K dX3_workOut_42
def F_X3_workOut (N : Nat) (k0 : Nat) (x1 : Int32) (x2 : Int32) (x3 : Int32) (h : Mem) : Option (Int32 × Mem) :=
  (F_X3_workOut_6 N k0 x1 x2 x3 (fun (h13 : Mem) =>
    (gin (0 : Int32) 50
    (some (h13 (k0 + 2) (ix (0 : Int32)), h13)))) N (0 : Int32) (0 : Int32) h)
set_option maxRecDepth 10000 in
set_option maxHeartbeats 1000000 in
theorem ok_X3_workOut (l : Launch) (ω : WX) (N : Nat) {k0 : Nat} (hk0 : lay k0 = 3) (x1 : Int32) (x2 : Int32) (x3 : Int32) (h : Mem) : MC rvI l ω yX3_workOut cX3_workOut 7 (some .int) 1 [.ref (ω.1 + k0), .int x1, .int x2, .int x3] h (F_X3_workOut N k0 x1 x2 x3 h) := by
  refine MC.of (by decide +kernel) [(0, .ref (ω.1 + k0)), (1, .int x1), (2, .int x2), (3, .int x3)] rfl (Nat.le_of_ble_eq_true rfl) (fun χ K => ?_)
  have K : Kok ω χ "SaltClouds$Text" cX3_workOut 7 (some .int) 1 := K
  unfold F_X3_workOut
  refine J_iconst (pc := 0) K (0) dX3_workOut_0 (by decide) ?_
  refine J_istore (pc := 1) K dX3_workOut_1 (by decide) [(4, .int (0 : Int32)), (0, .ref (ω.1 + k0)), (1, .int x1), (2, .int x2), (3, .int x3)] rfl ?_
  refine J_iconst (pc := 3) K (0) dX3_workOut_3 (by decide) ?_
  refine J_istore (pc := 4) K dX3_workOut_4 (by decide) [(5, .int (0 : Int32)), (4, .int (0 : Int32)), (0, .ref (ω.1 + k0)), (1, .int x1), (2, .int x2), (3, .int x3)] rfl ?_
  refine J_lv [2, 3, 4, 5, 1, 0] [(0, .ref (ω.1 + k0)), (1, .int x1), (2, .int x2), (3, .int x3), (4, .int (0 : Int32)), (5, .int (0 : Int32))] rfl ?_
  refine okL_X3_workOut_6 K  (by decide) N hk0 (fun h13 => ?_) _ _ _ _
  refine J_aload_n (pc := 156) K dX3_workOut_156 0 rfl 0 rfl ?_
  refine J_getR (pc := 157) K gf_SaltClouds_Text_23 hk0 2 rfl dX3_workOut_157 ?_
  refine J_iconst (pc := 160) K (0) dX3_workOut_160 (by decide) ?_
  refine J_iald (pc := 161) K (a := k0 + 2) (n := 50) (ty_3_2 hk0) dX3_workOut_161 ?_
  exact J_iret (pc := 162) K dX3_workOut_162
def F_X2_nameBy (N : Nat) (k0 : Nat) (x1 : Int32) (x2 : Int32) (x3 : Int32) (h : Mem) : Option (Int32 × Mem) :=
  (if (h (k0 + 5) 0) = 0 then
    (gnz (10 : Int32)
    (some (x1 / (10 : Int32), h)))
  else
    (bnd (F_X3_workOut N (k0 + 5) x1 x2 x3 h) (fun r1 h2 =>
    (some (r1, h2)))))
set_option maxRecDepth 10000 in
set_option maxHeartbeats 1000000 in
theorem ok_X2_nameBy (l : Launch) (ω : WX) (N : Nat) {k0 : Nat} (hk0 : lay k0 = 2) (x1 : Int32) (x2 : Int32) (x3 : Int32) (h : Mem) : MC rvI l ω yX2_nameBy cX2_nameBy 4 (some .int) 2 [.ref (ω.1 + k0), .int x1, .int x2, .int x3] h (F_X2_nameBy N k0 x1 x2 x3 h) := by
  refine MC.of (by decide +kernel) [(0, .ref (ω.1 + k0)), (1, .int x1), (2, .int x2), (3, .int x3)] rfl (Nat.le_of_ble_eq_true rfl) (fun χ K => ?_)
  have K : Kok ω χ "SaltClouds$Sky" cX2_nameBy 4 (some .int) 2 := K
  unfold F_X2_nameBy
  refine J_aload_n (pc := 0) K dX2_nameBy_0 0 rfl 0 rfl ?_
  refine J_getR (pc := 1) K gf_SaltClouds_Sky_46 hk0 5 rfl dX2_nameBy_1 ?_
  refine J_getI (pc := 4) K gf_SaltClouds_Sky_149 (ty_2_5 hk0) rfl dX2_nameBy_4 ?_
  refine J_if_eq (pc := 7) K 23 dX2_nameBy_7 (by decide) ?_ ?_
  · refine J_iload_n (pc := 23) K dX2_nameBy_23 1 rfl 1 rfl ?_
    refine J_bipush (pc := 24) K (10) dX2_nameBy_24 (by decide) ?_
    refine J_idiv (pc := 26) K dX2_nameBy_26 ?_
    exact J_iret (pc := 27) K dX2_nameBy_27
  · refine J_aload_n (pc := 10) K dX2_nameBy_10 0 rfl 0 rfl ?_
    refine J_getR (pc := 11) K gf_SaltClouds_Sky_46 hk0 5 rfl dX2_nameBy_11 ?_
    refine J_iload_n (pc := 14) K dX2_nameBy_14 1 rfl 1 rfl ?_
    refine J_iload_n (pc := 15) K dX2_nameBy_15 2 rfl 2 rfl ?_
    refine J_iload_n (pc := 16) K dX2_nameBy_16 3 rfl 3 rfl ?_
    refine J_callVI (As := [.int x1, .int x2, .int x3]) (rest := []) (pc := 17) K cs_SaltClouds_Sky_152 (ok_X3_workOut l ω N (ty_2_5 hk0) x1 x2 x3 h) (ty_2_5 hk0) (by decide) rfl rfl (Nat.le_of_ble_eq_true rfl) dX2_nameBy_17 (fun r1 h2 => ?_)
    refine J_goto (pc := 20) K 27 dX2_nameBy_20 (by decide) ?_
    exact J_iret (pc := 27) K dX2_nameBy_27
def F_X2_nameOf (N : Nat) (k0 : Nat) (k1 : Nat) (h : Mem) : Option (Int32 × Mem) :=
  (bnd (F_X0_taste k1 h) (fun r1 h2 =>
  (bnd (F_X0_saltAt k1 (0 : Int32) h2) (fun r3 h4 =>
  (bnd (F_X2_nameBy N k0 r1 (h2 k1 3) r3 h4) (fun r5 h6 =>
  (some (r5, h6))))))))
set_option maxRecDepth 10000 in
set_option maxHeartbeats 1000000 in
theorem ok_X2_nameOf (l : Launch) (ω : WX) (N : Nat) {k0 : Nat} (hk0 : lay k0 = 2) {k1 : Nat} (hk1 : lay k1 = 0) (h : Mem) : MC rvI l ω yX2_nameOf cX2_nameOf 2 (some .int) 3 [.ref (ω.1 + k0), .ref (ω.1 + k1)] h (F_X2_nameOf N k0 k1 h) := by
  refine MC.of (by decide +kernel) [(0, .ref (ω.1 + k0)), (1, .ref (ω.1 + k1))] rfl (Nat.le_of_ble_eq_true rfl) (fun χ K => ?_)
  have K : Kok ω χ "SaltClouds$Sky" cX2_nameOf 2 (some .int) 3 := K
  unfold F_X2_nameOf
  refine J_aload_n (pc := 0) K dX2_nameOf_0 0 rfl 0 rfl ?_
  refine J_aload_n (pc := 1) K dX2_nameOf_1 1 rfl 1 rfl ?_
  refine J_callVI (As := []) (rest := [.ref (ω.1 + k0)]) (pc := 2) K cs_SaltClouds_Sky_97 (ok_X0_taste l ω hk1 h) hk1 (by decide) rfl rfl (Nat.le_of_ble_eq_true rfl) dX2_nameOf_2 (fun r1 h2 => ?_)
  refine J_aload_n (pc := 5) K dX2_nameOf_5 1 rfl 1 rfl ?_
  refine J_getI (pc := 6) K gf_SaltClouds_Sky_86 hk1 rfl dX2_nameOf_6 ?_
  refine J_aload_n (pc := 9) K dX2_nameOf_9 1 rfl 1 rfl ?_
  refine J_iconst (pc := 10) K (0) dX2_nameOf_10 (by decide) ?_
  refine J_callVI (As := [.int (0 : Int32)]) (rest := [.int (h2 k1 3), .int r1, .ref (ω.1 + k0)]) (pc := 11) K cs_SaltClouds_Sky_89 (ok_X0_saltAt l ω hk1 (0 : Int32) h2) hk1 (by decide) rfl rfl (Nat.le_of_ble_eq_true rfl) dX2_nameOf_11 (fun r3 h4 => ?_)
  refine J_callVI (As := [.int r1, .int (h2 k1 3), .int r3]) (rest := []) (pc := 14) K cs_SaltClouds_Sky_159 (ok_X2_nameBy l ω N hk0 r1 (h2 k1 3) r3 h4) hk0 (by decide) rfl rfl (Nat.le_of_ble_eq_true rfl) dX2_nameOf_14 (fun r5 h6 => ?_)
  exact J_iret (pc := 17) K dX2_nameOf_17
def F_J9_floorMod_7cf53 (x0 : Int32) (x1 : Int32) (h : Mem) : Option (Int32 × Mem) :=
  (gnz x1
  (seqi (irm x0 x1) (fun v1 =>
  (if 0 ≤ (x0 ^^^ x1) then
    (some (v1, h))
  else
    (if v1 = 0 then
      (some (v1, h))
    else
      (some (v1 + x1, h)))))))
set_option maxRecDepth 10000 in
set_option maxHeartbeats 1000000 in
theorem ok_J9_floorMod_7cf53 (l : Launch) (ω : WX) (x0 : Int32) (x1 : Int32) (h : Mem) : MC rvI l ω yJ9_floorMod_7cf53 cJ9_floorMod_7cf53 3 (some .int) 0 [.int x0, .int x1] h (F_J9_floorMod_7cf53 x0 x1 h) := by
  refine MC.of (by decide +kernel) [(0, .int x0), (1, .int x1)] rfl (Nat.le_of_ble_eq_true rfl) (fun χ K => ?_)
  have K : Kok ω χ "java/lang/Math" cJ9_floorMod_7cf53 3 (some .int) 0 := K
  unfold F_J9_floorMod_7cf53
  refine J_iload_n (pc := 0) K dJ9_floorMod_7cf53_0 0 rfl 0 rfl ?_
  refine J_iload_n (pc := 1) K dJ9_floorMod_7cf53_1 1 rfl 1 rfl ?_
  refine J_irem (pc := 2) K dJ9_floorMod_7cf53_2 ?_
  refine J_topi (fun v1 => ?_)
  refine J_istore_n (pc := 3) K dJ9_floorMod_7cf53_3 2 rfl (by decide) [(2, .int v1), (0, .int x0), (1, .int x1)] rfl ?_
  refine J_iload_n (pc := 4) K dJ9_floorMod_7cf53_4 0 rfl 1 rfl ?_
  refine J_iload_n (pc := 5) K dJ9_floorMod_7cf53_5 1 rfl 2 rfl ?_
  refine J_ixor (pc := 6) K dJ9_floorMod_7cf53_6 ?_
  refine J_if_ge (pc := 7) K 18 dJ9_floorMod_7cf53_7 (by decide) ?_ ?_
  · refine J_iload_n (pc := 18) K dJ9_floorMod_7cf53_18 2 rfl 0 rfl ?_
    exact J_iret (pc := 19) K dJ9_floorMod_7cf53_19
  · refine J_iload_n (pc := 10) K dJ9_floorMod_7cf53_10 2 rfl 0 rfl ?_
    refine J_if_eq (pc := 11) K 18 dJ9_floorMod_7cf53_11 (by decide) ?_ ?_
    · refine J_iload_n (pc := 18) K dJ9_floorMod_7cf53_18 2 rfl 0 rfl ?_
      exact J_iret (pc := 19) K dJ9_floorMod_7cf53_19
    · refine J_iload_n (pc := 14) K dJ9_floorMod_7cf53_14 2 rfl 0 rfl ?_
      refine J_iload_n (pc := 15) K dJ9_floorMod_7cf53_15 1 rfl 2 rfl ?_
      refine J_iadd (pc := 16) K dJ9_floorMod_7cf53_16 ?_
      exact J_iret (pc := 17) K dJ9_floorMod_7cf53_17
def F_X2_windNow (k0 : Nat) (h : Mem) : Option (Int32 × Mem) :=
  (bnd (F_J9_floorMod_7cf53 (h k0 4) (8 : Int32) h) (fun r1 h2 =>
  (gin r1 8
  (some (h2 (k0 + 3) (ix r1), h2)))))
set_option maxRecDepth 10000 in
set_option maxHeartbeats 1000000 in
theorem ok_X2_windNow (l : Launch) (ω : WX) {k0 : Nat} (hk0 : lay k0 = 2) (h : Mem) : MC rvI l ω yX2_windNow cX2_windNow 1 (some .int) 1 [.ref (ω.1 + k0)] h (F_X2_windNow k0 h) := by
  refine MC.of (by decide +kernel) [(0, .ref (ω.1 + k0))] rfl (Nat.le_of_ble_eq_true rfl) (fun χ K => ?_)
  have K : Kok ω χ "SaltClouds$Sky" cX2_windNow 1 (some .int) 1 := K
  unfold F_X2_windNow
  refine J_aload_n (pc := 0) K dX2_windNow_0 0 rfl 0 rfl ?_
  refine J_getR (pc := 1) K gf_SaltClouds_Sky_25 hk0 3 rfl dX2_windNow_1 ?_
  refine J_aload_n (pc := 4) K dX2_windNow_4 0 rfl 0 rfl ?_
  refine J_getI (pc := 5) K gf_SaltClouds_Sky_28 hk0 rfl dX2_windNow_5 ?_
  refine J_bipush (pc := 8) K (8) dX2_windNow_8 (by decide) ?_
  refine J_callTI (As := [.int (h k0 4), .int (8 : Int32)]) (rest := [.ref (ω.1 + (k0 + 3))]) (pc := 10) K cs_SaltClouds_Sky_121 (ok_J9_floorMod_7cf53 l ω (h k0 4) (8 : Int32) h) (by decide) rfl rfl (Nat.le_of_ble_eq_true rfl) dX2_windNow_10 (fun r1 h2 => ?_)
  refine J_iald (pc := 13) K (a := k0 + 3) (n := 8) (ty_2_3 hk0) dX2_windNow_13 ?_
  exact J_iret (pc := 14) K dX2_windNow_14
def F_X0_driftBy (k0 : Nat) (x1 : Int32) (h : Mem) : Option (Int32 × Mem) :=
  (seqi (h k0 0) (fun v1 =>
  (if v1 = (1 : Int32) then
    (gnz (2 : Int32)
    (some (x1 / (2 : Int32), h)))
  else
    (if v1 = (2 : Int32) then
      (some ((2 : Int32) * x1, h))
    else
      (if v1 = (3 : Int32) then
        (some (x1, h))
      else
        (if v1 = (4 : Int32) then
          (gnz (2 : Int32)
          (gnz (2 : Int32)
          (some ((x1 / (2 : Int32)) + (irm (h k0 1) (2 : Int32)), h))))
        else
          (if v1 = (5 : Int32) then
            (some ((2 : Int32) * x1, h))
          else
            (if v1 = (6 : Int32) then
              (some ((0 : Int32), h))
            else
              (some (x1, h))))))))))
set_option maxRecDepth 10000 in
set_option maxHeartbeats 1000000 in
theorem ok_X0_driftBy (l : Launch) (ω : WX) {k0 : Nat} (hk0 : lay k0 = 0) (x1 : Int32) (h : Mem) : MC rvI l ω yX0_driftBy cX0_driftBy 2 (some .int) 0 [.ref (ω.1 + k0), .int x1] h (F_X0_driftBy k0 x1 h) := by
  refine MC.of (by decide +kernel) [(0, .ref (ω.1 + k0)), (1, .int x1)] rfl (Nat.le_of_ble_eq_true rfl) (fun χ K => ?_)
  have K : Kok ω χ "SaltClouds$Cloud" cX0_driftBy 2 (some .int) 0 := K
  unfold F_X0_driftBy
  refine J_aload_n (pc := 0) K dX0_driftBy_0 0 rfl 0 rfl ?_
  refine J_getI (pc := 1) K gf_SaltClouds_Cloud_9 hk0 rfl dX0_driftBy_1 ?_
  refine J_topi (fun v1 => ?_)
  refine J_ite (fun e4_0 => ?_) (fun e4_0 => ?_)
  · refine J_tableIn (pc := 4) K (v := 1) 44 e4_0 dX0_driftBy_4 (by decide) (by decide) rfl (by decide) ?_
    refine J_iload_n (pc := 44) K dX0_driftBy_44 1 rfl 1 rfl ?_
    refine J_iconst (pc := 45) K (2) dX0_driftBy_45 (by decide) ?_
    refine J_idiv (pc := 46) K dX0_driftBy_46 ?_
    exact J_iret (pc := 47) K dX0_driftBy_47
  · refine J_ite (fun e4_1 => ?_) (fun e4_1 => ?_)
    · refine J_tableIn (pc := 4) K (v := 2) 48 e4_1 dX0_driftBy_4 (by decide) (by decide) rfl (by decide) ?_
      refine J_iconst (pc := 48) K (2) dX0_driftBy_48 (by decide) ?_
      refine J_iload_n (pc := 49) K dX0_driftBy_49 1 rfl 1 rfl ?_
      refine J_imul (pc := 50) K dX0_driftBy_50 ?_
      exact J_iret (pc := 51) K dX0_driftBy_51
    · refine J_ite (fun e4_2 => ?_) (fun e4_2 => ?_)
      · refine J_tableIn (pc := 4) K (v := 3) 65 e4_2 dX0_driftBy_4 (by decide) (by decide) rfl (by decide) ?_
        refine J_iload_n (pc := 65) K dX0_driftBy_65 1 rfl 1 rfl ?_
        exact J_iret (pc := 66) K dX0_driftBy_66
      · refine J_ite (fun e4_3 => ?_) (fun e4_3 => ?_)
        · refine J_tableIn (pc := 4) K (v := 4) 52 e4_3 dX0_driftBy_4 (by decide) (by decide) rfl (by decide) ?_
          refine J_iload_n (pc := 52) K dX0_driftBy_52 1 rfl 1 rfl ?_
          refine J_iconst (pc := 53) K (2) dX0_driftBy_53 (by decide) ?_
          refine J_idiv (pc := 54) K dX0_driftBy_54 ?_
          refine J_aload_n (pc := 55) K dX0_driftBy_55 0 rfl 0 rfl ?_
          refine J_getI (pc := 56) K gf_SaltClouds_Cloud_15 hk0 rfl dX0_driftBy_56 ?_
          refine J_iconst (pc := 59) K (2) dX0_driftBy_59 (by decide) ?_
          refine J_irem (pc := 60) K dX0_driftBy_60 ?_
          refine J_iadd (pc := 61) K dX0_driftBy_61 ?_
          exact J_iret (pc := 62) K dX0_driftBy_62
        · refine J_ite (fun e4_4 => ?_) (fun e4_4 => ?_)
          · refine J_tableIn (pc := 4) K (v := 5) 48 e4_4 dX0_driftBy_4 (by decide) (by decide) rfl (by decide) ?_
            refine J_iconst (pc := 48) K (2) dX0_driftBy_48 (by decide) ?_
            refine J_iload_n (pc := 49) K dX0_driftBy_49 1 rfl 1 rfl ?_
            refine J_imul (pc := 50) K dX0_driftBy_50 ?_
            exact J_iret (pc := 51) K dX0_driftBy_51
          · refine J_ite (fun e4_5 => ?_) (fun e4_5 => ?_)
            · refine J_tableIn (pc := 4) K (v := 6) 63 e4_5 dX0_driftBy_4 (by decide) (by decide) rfl (by decide) ?_
              refine J_iconst (pc := 63) K (0) dX0_driftBy_63 (by decide) ?_
              exact J_iret (pc := 64) K dX0_driftBy_64
            · refine J_tableOut (pc := 4) K 65 dX0_driftBy_4 (by have q0 := lv_neT e4_0 (a := 1) (by decide); have q1 := lv_neT e4_1 (a := 2) (by decide); have q2 := lv_neT e4_2 (a := 3) (by decide); have q3 := lv_neT e4_3 (a := 4) (by decide); have q4 := lv_neT e4_4 (a := 5) (by decide); have q5 := lv_neT e4_5 (a := 6) (by decide); omega) (by decide) ?_
              refine J_iload_n (pc := 65) K dX0_driftBy_65 1 rfl 1 rfl ?_
              exact J_iret (pc := 66) K dX0_driftBy_66
def F_X2_heightUnder (k0 : Nat) (k1 : Nat) (h : Mem) : Option (Int32 × Mem) :=
  (bnd (F_X6_isPlace (h k1 2) h) (fun r1 h2 =>
  (if r1 = 0 then
    (some ((0 : Int32), h2))
  else
    (seqi (h2 k1 2) (fun v3 =>
    (gin v3 12
    (some (h2 (k0 + 2) (ix v3), h2))))))))
set_option maxRecDepth 10000 in
set_option maxHeartbeats 1000000 in
theorem ok_X2_heightUnder (l : Launch) (ω : WX) {k0 : Nat} (hk0 : lay k0 = 2) {k1 : Nat} (hk1 : lay k1 = 0) (h : Mem) : MC rvI l ω yX2_heightUnder cX2_heightUnder 2 (some .int) 2 [.ref (ω.1 + k0), .ref (ω.1 + k1)] h (F_X2_heightUnder k0 k1 h) := by
  refine MC.of (by decide +kernel) [(0, .ref (ω.1 + k0)), (1, .ref (ω.1 + k1))] rfl (Nat.le_of_ble_eq_true rfl) (fun χ K => ?_)
  have K : Kok ω χ "SaltClouds$Sky" cX2_heightUnder 2 (some .int) 2 := K
  unfold F_X2_heightUnder
  refine J_aload_n (pc := 0) K dX2_heightUnder_0 1 rfl 1 rfl ?_
  refine J_getI (pc := 1) K gf_SaltClouds_Sky_83 hk1 rfl dX2_heightUnder_1 ?_
  refine J_callNI (As := [.int (h k1 2)]) (rest := []) (pc := 4) K cs_SaltClouds_Sky_117 (ok_X6_isPlace l ω (h k1 2) h) (by decide) rfl rfl (Nat.le_of_ble_eq_true rfl) dX2_heightUnder_4 (fun r1 h2 => ?_)
  refine J_if_eq (pc := 7) K 22 dX2_heightUnder_7 (by decide) ?_ ?_
  · refine J_iconst (pc := 22) K (0) dX2_heightUnder_22 (by decide) ?_
    exact J_iret (pc := 23) K dX2_heightUnder_23
  · refine J_aload_n (pc := 10) K dX2_heightUnder_10 0 rfl 0 rfl ?_
    refine J_getR (pc := 11) K gf_SaltClouds_Sky_21 hk0 2 rfl dX2_heightUnder_11 ?_
    refine J_aload_n (pc := 14) K dX2_heightUnder_14 1 rfl 1 rfl ?_
    refine J_getI (pc := 15) K gf_SaltClouds_Sky_83 hk1 rfl dX2_heightUnder_15 ?_
    refine J_topi (fun v3 => ?_)
    refine J_iald (pc := 18) K (a := k0 + 2) (n := 12) (ty_2_2 hk0) dX2_heightUnder_18 ?_
    refine J_goto (pc := 19) K 23 dX2_heightUnder_19 (by decide) ?_
    exact J_iret (pc := 23) K dX2_heightUnder_23
def F_J9_max_7cf53 (x0 : Int32) (x1 : Int32) (h : Mem) : Option (Int32 × Mem) :=
  (if x0 < x1 then
    (some (x1, h))
  else
    (some (x0, h)))
set_option maxRecDepth 10000 in
set_option maxHeartbeats 1000000 in
theorem ok_J9_max_7cf53 (l : Launch) (ω : WX) (x0 : Int32) (x1 : Int32) (h : Mem) : MC rvI l ω yJ9_max_7cf53 cJ9_max_7cf53 2 (some .int) 0 [.int x0, .int x1] h (F_J9_max_7cf53 x0 x1 h) := by
  refine MC.of (by decide +kernel) [(0, .int x0), (1, .int x1)] rfl (Nat.le_of_ble_eq_true rfl) (fun χ K => ?_)
  have K : Kok ω χ "java/lang/Math" cJ9_max_7cf53 2 (some .int) 0 := K
  unfold F_J9_max_7cf53
  refine J_iload_n (pc := 0) K dJ9_max_7cf53_0 0 rfl 0 rfl ?_
  refine J_iload_n (pc := 1) K dJ9_max_7cf53_1 1 rfl 1 rfl ?_
  refine J_icmp_lt (pc := 2) K 9 dJ9_max_7cf53_2 (by decide) ?_ ?_
  · refine J_iload_n (pc := 9) K dJ9_max_7cf53_9 1 rfl 1 rfl ?_
    exact J_iret (pc := 10) K dJ9_max_7cf53_10
  · refine J_iload_n (pc := 5) K dJ9_max_7cf53_5 0 rfl 0 rfl ?_
    refine J_goto (pc := 6) K 10 dJ9_max_7cf53_6 (by decide) ?_
    exact J_iret (pc := 10) K dJ9_max_7cf53_10
def F_X0_rainIfItHad (k0 : Nat) (x1 : Int32) (h : Mem) : Option (Int32 × Mem) :=
  (seqi ((2 : Int32) * x1) (fun v1 =>
  (seqi (h k0 0) (fun v2 =>
  (if v2 = (1 : Int32) then
    (some ((0 : Int32), h))
  else
    (if v2 = (2 : Int32) then
      (some (v1 + (h k0 1), h))
    else
      (if v2 = (3 : Int32) then
        (bnd (F_J9_max_7cf53 (0 : Int32) (v1 - (h k0 1)) h) (fun r3 h4 =>
        (some (r3, h4))))
      else
        (if v2 = (4 : Int32) then
          (some ((0 : Int32), h))
        else
          (if v2 = (5 : Int32) then
            (some ((2 : Int32) * (v1 + (h k0 1)), h))
          else
            (if v2 = (6 : Int32) then
              (bnd (F_J9_max_7cf53 (0 : Int32) (v1 - (h k0 1)) h) (fun r5 h6 =>
              (some (r5, h6))))
            else
              (some (v1, h))))))))))))
set_option maxRecDepth 10000 in
set_option maxHeartbeats 1000000 in
theorem ok_X0_rainIfItHad (l : Launch) (ω : WX) {k0 : Nat} (hk0 : lay k0 = 0) (x1 : Int32) (h : Mem) : MC rvI l ω yX0_rainIfItHad cX0_rainIfItHad 3 (some .int) 1 [.ref (ω.1 + k0), .int x1] h (F_X0_rainIfItHad k0 x1 h) := by
  refine MC.of (by decide +kernel) [(0, .ref (ω.1 + k0)), (1, .int x1)] rfl (Nat.le_of_ble_eq_true rfl) (fun χ K => ?_)
  have K : Kok ω χ "SaltClouds$Cloud" cX0_rainIfItHad 3 (some .int) 1 := K
  unfold F_X0_rainIfItHad
  refine J_iconst (pc := 0) K (2) dX0_rainIfItHad_0 (by decide) ?_
  refine J_iload_n (pc := 1) K dX0_rainIfItHad_1 1 rfl 1 rfl ?_
  refine J_imul (pc := 2) K dX0_rainIfItHad_2 ?_
  refine J_topi (fun v1 => ?_)
  refine J_istore_n (pc := 3) K dX0_rainIfItHad_3 2 rfl (by decide) [(2, .int v1), (0, .ref (ω.1 + k0)), (1, .int x1)] rfl ?_
  refine J_aload_n (pc := 4) K dX0_rainIfItHad_4 0 rfl 1 rfl ?_
  refine J_getI (pc := 5) K gf_SaltClouds_Cloud_9 hk0 rfl dX0_rainIfItHad_5 ?_
  refine J_topi (fun v2 => ?_)
  refine J_ite (fun e8_0 => ?_) (fun e8_0 => ?_)
  · refine J_tableIn (pc := 8) K (v := 1) 48 e8_0 dX0_rainIfItHad_8 (by decide) (by decide) rfl (by decide) ?_
    refine J_iconst (pc := 48) K (0) dX0_rainIfItHad_48 (by decide) ?_
    exact J_iret (pc := 49) K dX0_rainIfItHad_49
  · refine J_ite (fun e8_1 => ?_) (fun e8_1 => ?_)
    · refine J_tableIn (pc := 8) K (v := 2) 50 e8_1 dX0_rainIfItHad_8 (by decide) (by decide) rfl (by decide) ?_
      refine J_iload_n (pc := 50) K dX0_rainIfItHad_50 2 rfl 0 rfl ?_
      refine J_aload_n (pc := 51) K dX0_rainIfItHad_51 0 rfl 1 rfl ?_
      refine J_getI (pc := 52) K gf_SaltClouds_Cloud_15 hk0 rfl dX0_rainIfItHad_52 ?_
      refine J_iadd (pc := 55) K dX0_rainIfItHad_55 ?_
      exact J_iret (pc := 56) K dX0_rainIfItHad_56
    · refine J_ite (fun e8_2 => ?_) (fun e8_2 => ?_)
      · refine J_tableIn (pc := 8) K (v := 3) 66 e8_2 dX0_rainIfItHad_8 (by decide) (by decide) rfl (by decide) ?_
        refine J_iconst (pc := 66) K (0) dX0_rainIfItHad_66 (by decide) ?_
        refine J_iload_n (pc := 67) K dX0_rainIfItHad_67 2 rfl 0 rfl ?_
        refine J_aload_n (pc := 68) K dX0_rainIfItHad_68 0 rfl 1 rfl ?_
        refine J_getI (pc := 69) K gf_SaltClouds_Cloud_15 hk0 rfl dX0_rainIfItHad_69 ?_
        refine J_isub (pc := 72) K dX0_rainIfItHad_72 ?_
        refine J_callTI (As := [.int (0 : Int32), .int (v1 - (h k0 1))]) (rest := []) (pc := 73) K cs_SaltClouds_Cloud_68 (ok_J9_max_7cf53 l ω (0 : Int32) (v1 - (h k0 1)) h) (by decide) rfl rfl (Nat.le_of_ble_eq_true rfl) dX0_rainIfItHad_73 (fun r3 h4 => ?_)
        exact J_iret (pc := 76) K dX0_rainIfItHad_76
      · refine J_ite (fun e8_3 => ?_) (fun e8_3 => ?_)
        · refine J_tableIn (pc := 8) K (v := 4) 48 e8_3 dX0_rainIfItHad_8 (by decide) (by decide) rfl (by decide) ?_
          refine J_iconst (pc := 48) K (0) dX0_rainIfItHad_48 (by decide) ?_
          exact J_iret (pc := 49) K dX0_rainIfItHad_49
        · refine J_ite (fun e8_4 => ?_) (fun e8_4 => ?_)
          · refine J_tableIn (pc := 8) K (v := 5) 57 e8_4 dX0_rainIfItHad_8 (by decide) (by decide) rfl (by decide) ?_
            refine J_iconst (pc := 57) K (2) dX0_rainIfItHad_57 (by decide) ?_
            refine J_iload_n (pc := 58) K dX0_rainIfItHad_58 2 rfl 0 rfl ?_
            refine J_aload_n (pc := 59) K dX0_rainIfItHad_59 0 rfl 1 rfl ?_
            refine J_getI (pc := 60) K gf_SaltClouds_Cloud_15 hk0 rfl dX0_rainIfItHad_60 ?_
            refine J_iadd (pc := 63) K dX0_rainIfItHad_63 ?_
            refine J_imul (pc := 64) K dX0_rainIfItHad_64 ?_
            exact J_iret (pc := 65) K dX0_rainIfItHad_65
          · refine J_ite (fun e8_5 => ?_) (fun e8_5 => ?_)
            · refine J_tableIn (pc := 8) K (v := 6) 66 e8_5 dX0_rainIfItHad_8 (by decide) (by decide) rfl (by decide) ?_
              refine J_iconst (pc := 66) K (0) dX0_rainIfItHad_66 (by decide) ?_
              refine J_iload_n (pc := 67) K dX0_rainIfItHad_67 2 rfl 0 rfl ?_
              refine J_aload_n (pc := 68) K dX0_rainIfItHad_68 0 rfl 1 rfl ?_
              refine J_getI (pc := 69) K gf_SaltClouds_Cloud_15 hk0 rfl dX0_rainIfItHad_69 ?_
              refine J_isub (pc := 72) K dX0_rainIfItHad_72 ?_
              refine J_callTI (As := [.int (0 : Int32), .int (v1 - (h k0 1))]) (rest := []) (pc := 73) K cs_SaltClouds_Cloud_68 (ok_J9_max_7cf53 l ω (0 : Int32) (v1 - (h k0 1)) h) (by decide) rfl rfl (Nat.le_of_ble_eq_true rfl) dX0_rainIfItHad_73 (fun r5 h6 => ?_)
              exact J_iret (pc := 76) K dX0_rainIfItHad_76
            · refine J_tableOut (pc := 8) K 77 dX0_rainIfItHad_8 (by have q0 := lv_neT e8_0 (a := 1) (by decide); have q1 := lv_neT e8_1 (a := 2) (by decide); have q2 := lv_neT e8_2 (a := 3) (by decide); have q3 := lv_neT e8_3 (a := 4) (by decide); have q4 := lv_neT e8_4 (a := 5) (by decide); have q5 := lv_neT e8_5 (a := 6) (by decide); omega) (by decide) ?_
              refine J_iload_n (pc := 77) K dX0_rainIfItHad_77 2 rfl 0 rfl ?_
              exact J_iret (pc := 78) K dX0_rainIfItHad_78
def F_X0_rainAt (k0 : Nat) (x1 : Int32) (h : Mem) : Option (Int32 × Mem) :=
  (if 0 < x1 then
    (bnd (F_X0_rainIfItHad k0 x1 h) (fun r1 h2 =>
    (bnd (F_J9_min_7cf53 (h k0 3) r1 h2) (fun r3 h4 =>
    (some (r3, h4))))))
  else
    (some ((0 : Int32), h)))
set_option maxRecDepth 10000 in
set_option maxHeartbeats 1000000 in
theorem ok_X0_rainAt (l : Launch) (ω : WX) {k0 : Nat} (hk0 : lay k0 = 0) (x1 : Int32) (h : Mem) : MC rvI l ω yX0_rainAt cX0_rainAt 2 (some .int) 2 [.ref (ω.1 + k0), .int x1] h (F_X0_rainAt k0 x1 h) := by
  refine MC.of (by decide +kernel) [(0, .ref (ω.1 + k0)), (1, .int x1)] rfl (Nat.le_of_ble_eq_true rfl) (fun χ K => ?_)
  have K : Kok ω χ "SaltClouds$Cloud" cX0_rainAt 2 (some .int) 2 := K
  unfold F_X0_rainAt
  refine J_iload_n (pc := 0) K dX0_rainAt_0 1 rfl 1 rfl ?_
  refine J_if_gt (pc := 1) K 8 dX0_rainAt_1 (by decide) ?_ ?_
  · refine J_aload_n (pc := 8) K dX0_rainAt_8 0 rfl 0 rfl ?_
    refine J_getI (pc := 9) K gf_SaltClouds_Cloud_21 hk0 rfl dX0_rainAt_9 ?_
    refine J_aload_n (pc := 12) K dX0_rainAt_12 0 rfl 0 rfl ?_
    refine J_iload_n (pc := 13) K dX0_rainAt_13 1 rfl 1 rfl ?_
    refine J_callVI (As := [.int x1]) (rest := [.int (h k0 3)]) (pc := 14) K cs_SaltClouds_Cloud_65 (ok_X0_rainIfItHad l ω hk0 x1 h) hk0 (by decide) rfl rfl (Nat.le_of_ble_eq_true rfl) dX0_rainAt_14 (fun r1 h2 => ?_)
    refine J_callTI (As := [.int (h k0 3), .int r1]) (rest := []) (pc := 17) K cs_SaltClouds_Cloud_50 (ok_J9_min_7cf53 l ω (h k0 3) r1 h2) (by decide) rfl rfl (Nat.le_of_ble_eq_true rfl) dX0_rainAt_17 (fun r3 h4 => ?_)
    exact J_iret (pc := 20) K dX0_rainAt_20
  · refine J_iconst (pc := 4) K (0) dX0_rainAt_4 (by decide) ?_
    refine J_goto (pc := 5) K 20 dX0_rainAt_5 (by decide) ?_
    exact J_iret (pc := 20) K dX0_rainAt_20
def F_X2_factOf (N : Nat) (k0 : Nat) (x1 : Int32) (x2 : Int32) (h : Mem) : Option (Int32 × Mem) :=
  (gin x1 8
  (if x2 = (0 : Int32) then
    (some (h ((k0 + 1) + 11 + 2 * ix x1) 0, h))
  else
    (if x2 = (1 : Int32) then
      (some (h ((k0 + 1) + 11 + 2 * ix x1) 1, h))
    else
      (if x2 = (2 : Int32) then
        (some (h ((k0 + 1) + 11 + 2 * ix x1) 2, h))
      else
        (if x2 = (3 : Int32) then
          (some (h ((k0 + 1) + 11 + 2 * ix x1) 3, h))
        else
          (if x2 = (4 : Int32) then
            (bnd (F_X0_saltAt ((k0 + 1) + 11 + 2 * ix x1) (x2 - (4 : Int32)) h) (fun r2 h3 =>
            (some (r2, h3))))
          else
            (if x2 = (5 : Int32) then
              (bnd (F_X0_saltAt ((k0 + 1) + 11 + 2 * ix x1) (x2 - (4 : Int32)) h) (fun r4 h5 =>
              (some (r4, h5))))
            else
              (if x2 = (6 : Int32) then
                (bnd (F_X0_saltAt ((k0 + 1) + 11 + 2 * ix x1) (x2 - (4 : Int32)) h) (fun r6 h7 =>
                (some (r6, h7))))
              else
                (if x2 = (7 : Int32) then
                  (if (h ((k0 + 1) + 11 + 2 * ix x1) 4) = 0 then
                    (some ((0 : Int32), h))
                  else
                    (some ((1 : Int32), h)))
                else
                  (if x2 = (8 : Int32) then
                    (bnd (F_X0_taste ((k0 + 1) + 11 + 2 * ix x1) h) (fun r8 h9 =>
                    (some (r8, h9))))
                  else
                    (if x2 = (9 : Int32) then
                      (bnd (F_X2_nameOf N k0 ((k0 + 1) + 11 + 2 * ix x1) h) (fun r10 h11 =>
                      (some (r10, h11))))
                    else
                      (if x2 = (10 : Int32) then
                        (bnd (F_X2_windNow k0 h) (fun r12 h13 =>
                        (bnd (F_X0_driftBy ((k0 + 1) + 11 + 2 * ix x1) r12 h13) (fun r14 h15 =>
                        (some (r14, h15))))))
                      else
                        (if x2 = (11 : Int32) then
                          (bnd (F_X2_heightUnder k0 ((k0 + 1) + 11 + 2 * ix x1) h) (fun r16 h17 =>
                          (bnd (F_X0_rainAt ((k0 + 1) + 11 + 2 * ix x1) r16 h17) (fun r18 h19 =>
                          (some (r18, h19))))))
                        else
                          (some ((0 : Int32), h)))))))))))))))
set_option maxRecDepth 10000 in
set_option maxHeartbeats 1000000 in
theorem ok_X2_factOf (l : Launch) (ω : WX) (N : Nat) {k0 : Nat} (hk0 : lay k0 = 2) (x1 : Int32) (x2 : Int32) (h : Mem) : MC rvI l ω yX2_factOf cX2_factOf 4 (some .int) 4 [.ref (ω.1 + k0), .int x1, .int x2] h (F_X2_factOf N k0 x1 x2 h) := by
  refine MC.of (by decide +kernel) [(0, .ref (ω.1 + k0)), (1, .int x1), (2, .int x2)] rfl (Nat.le_of_ble_eq_true rfl) (fun χ K => ?_)
  have K : Kok ω χ "SaltClouds$Sky" cX2_factOf 4 (some .int) 4 := K
  unfold F_X2_factOf
  refine J_aload_n (pc := 0) K dX2_factOf_0 0 rfl 0 rfl ?_
  refine J_getR (pc := 1) K gf_SaltClouds_Sky_11 hk0 1 rfl dX2_factOf_1 ?_
  refine J_iload_n (pc := 4) K dX2_factOf_4 1 rfl 1 rfl ?_
  refine J_aldC (pc := 5) K (a := k0 + 1) (ty_2_1 hk0) dX2_factOf_5 (fun b1 => ?_)
  refine J_astore_n (pc := 6) K dX2_factOf_6 3 rfl (by decide) [(3, .ref (ω.1 + ((k0 + 1) + 11 + 2 * ix x1))), (0, .ref (ω.1 + k0)), (1, .int x1), (2, .int x2)] rfl ?_
  refine J_iload_n (pc := 7) K dX2_factOf_7 2 rfl 3 rfl ?_
  refine J_ite (fun e8_0 => ?_) (fun e8_0 => ?_)
  · refine J_tableIn (pc := 8) K (v := 0) 72 e8_0 dX2_factOf_8 (by decide) (by decide) rfl (by decide) ?_
    refine J_aload_n (pc := 72) K dX2_factOf_72 3 rfl 0 rfl ?_
    refine J_getI (pc := 73) K gf_SaltClouds_Sky_77 (ty_8e (ty_2_1 hk0) b1) rfl dX2_factOf_73 ?_
    exact J_iret (pc := 76) K dX2_factOf_76
  · refine J_ite (fun e8_1 => ?_) (fun e8_1 => ?_)
    · refine J_tableIn (pc := 8) K (v := 1) 77 e8_1 dX2_factOf_8 (by decide) (by decide) rfl (by decide) ?_
      refine J_aload_n (pc := 77) K dX2_factOf_77 3 rfl 0 rfl ?_
      refine J_getI (pc := 78) K gf_SaltClouds_Sky_80 (ty_8e (ty_2_1 hk0) b1) rfl dX2_factOf_78 ?_
      exact J_iret (pc := 81) K dX2_factOf_81
    · refine J_ite (fun e8_2 => ?_) (fun e8_2 => ?_)
      · refine J_tableIn (pc := 8) K (v := 2) 82 e8_2 dX2_factOf_8 (by decide) (by decide) rfl (by decide) ?_
        refine J_aload_n (pc := 82) K dX2_factOf_82 3 rfl 0 rfl ?_
        refine J_getI (pc := 83) K gf_SaltClouds_Sky_83 (ty_8e (ty_2_1 hk0) b1) rfl dX2_factOf_83 ?_
        exact J_iret (pc := 86) K dX2_factOf_86
      · refine J_ite (fun e8_3 => ?_) (fun e8_3 => ?_)
        · refine J_tableIn (pc := 8) K (v := 3) 87 e8_3 dX2_factOf_8 (by decide) (by decide) rfl (by decide) ?_
          refine J_aload_n (pc := 87) K dX2_factOf_87 3 rfl 0 rfl ?_
          refine J_getI (pc := 88) K gf_SaltClouds_Sky_86 (ty_8e (ty_2_1 hk0) b1) rfl dX2_factOf_88 ?_
          exact J_iret (pc := 91) K dX2_factOf_91
        · refine J_ite (fun e8_4 => ?_) (fun e8_4 => ?_)
          · refine J_tableIn (pc := 8) K (v := 4) 92 e8_4 dX2_factOf_8 (by decide) (by decide) rfl (by decide) ?_
            refine J_aload_n (pc := 92) K dX2_factOf_92 3 rfl 0 rfl ?_
            refine J_iload_n (pc := 93) K dX2_factOf_93 2 rfl 3 rfl ?_
            refine J_iconst (pc := 94) K (4) dX2_factOf_94 (by decide) ?_
            refine J_isub (pc := 95) K dX2_factOf_95 ?_
            refine J_callVI (As := [.int (x2 - (4 : Int32))]) (rest := []) (pc := 96) K cs_SaltClouds_Sky_89 (ok_X0_saltAt l ω (ty_8e (ty_2_1 hk0) b1) (x2 - (4 : Int32)) h) (ty_8e (ty_2_1 hk0) b1) (by decide) rfl rfl (Nat.le_of_ble_eq_true rfl) dX2_factOf_96 (fun r2 h3 => ?_)
            exact J_iret (pc := 99) K dX2_factOf_99
          · refine J_ite (fun e8_5 => ?_) (fun e8_5 => ?_)
            · refine J_tableIn (pc := 8) K (v := 5) 92 e8_5 dX2_factOf_8 (by decide) (by decide) rfl (by decide) ?_
              refine J_aload_n (pc := 92) K dX2_factOf_92 3 rfl 0 rfl ?_
              refine J_iload_n (pc := 93) K dX2_factOf_93 2 rfl 3 rfl ?_
              refine J_iconst (pc := 94) K (4) dX2_factOf_94 (by decide) ?_
              refine J_isub (pc := 95) K dX2_factOf_95 ?_
              refine J_callVI (As := [.int (x2 - (4 : Int32))]) (rest := []) (pc := 96) K cs_SaltClouds_Sky_89 (ok_X0_saltAt l ω (ty_8e (ty_2_1 hk0) b1) (x2 - (4 : Int32)) h) (ty_8e (ty_2_1 hk0) b1) (by decide) rfl rfl (Nat.le_of_ble_eq_true rfl) dX2_factOf_96 (fun r4 h5 => ?_)
              exact J_iret (pc := 99) K dX2_factOf_99
            · refine J_ite (fun e8_6 => ?_) (fun e8_6 => ?_)
              · refine J_tableIn (pc := 8) K (v := 6) 92 e8_6 dX2_factOf_8 (by decide) (by decide) rfl (by decide) ?_
                refine J_aload_n (pc := 92) K dX2_factOf_92 3 rfl 0 rfl ?_
                refine J_iload_n (pc := 93) K dX2_factOf_93 2 rfl 3 rfl ?_
                refine J_iconst (pc := 94) K (4) dX2_factOf_94 (by decide) ?_
                refine J_isub (pc := 95) K dX2_factOf_95 ?_
                refine J_callVI (As := [.int (x2 - (4 : Int32))]) (rest := []) (pc := 96) K cs_SaltClouds_Sky_89 (ok_X0_saltAt l ω (ty_8e (ty_2_1 hk0) b1) (x2 - (4 : Int32)) h) (ty_8e (ty_2_1 hk0) b1) (by decide) rfl rfl (Nat.le_of_ble_eq_true rfl) dX2_factOf_96 (fun r6 h7 => ?_)
                exact J_iret (pc := 99) K dX2_factOf_99
              · refine J_ite (fun e8_7 => ?_) (fun e8_7 => ?_)
                · refine J_tableIn (pc := 8) K (v := 7) 100 e8_7 dX2_factOf_8 (by decide) (by decide) rfl (by decide) ?_
                  refine J_aload_n (pc := 100) K dX2_factOf_100 3 rfl 0 rfl ?_
                  refine J_getI (pc := 101) K gf_SaltClouds_Sky_93 (ty_8e (ty_2_1 hk0) b1) rfl dX2_factOf_101 ?_
                  refine J_if_eq (pc := 104) K 111 dX2_factOf_104 (by decide) ?_ ?_
                  · refine J_iconst (pc := 111) K (0) dX2_factOf_111 (by decide) ?_
                    exact J_iret (pc := 112) K dX2_factOf_112
                  · refine J_iconst (pc := 107) K (1) dX2_factOf_107 (by decide) ?_
                    refine J_goto (pc := 108) K 112 dX2_factOf_108 (by decide) ?_
                    exact J_iret (pc := 112) K dX2_factOf_112
                · refine J_ite (fun e8_8 => ?_) (fun e8_8 => ?_)
                  · refine J_tableIn (pc := 8) K (v := 8) 113 e8_8 dX2_factOf_8 (by decide) (by decide) rfl (by decide) ?_
                    refine J_aload_n (pc := 113) K dX2_factOf_113 3 rfl 0 rfl ?_
                    refine J_callVI (As := []) (rest := []) (pc := 114) K cs_SaltClouds_Sky_97 (ok_X0_taste l ω (ty_8e (ty_2_1 hk0) b1) h) (ty_8e (ty_2_1 hk0) b1) (by decide) rfl rfl (Nat.le_of_ble_eq_true rfl) dX2_factOf_114 (fun r8 h9 => ?_)
                    exact J_iret (pc := 117) K dX2_factOf_117
                  · refine J_ite (fun e8_9 => ?_) (fun e8_9 => ?_)
                    · refine J_tableIn (pc := 8) K (v := 9) 118 e8_9 dX2_factOf_8 (by decide) (by decide) rfl (by decide) ?_
                      refine J_aload_n (pc := 118) K dX2_factOf_118 0 rfl 1 rfl ?_
                      refine J_aload_n (pc := 119) K dX2_factOf_119 3 rfl 0 rfl ?_
                      refine J_callVI (As := [.ref (ω.1 + ((k0 + 1) + 11 + 2 * ix x1))]) (rest := []) (pc := 120) K cs_SaltClouds_Sky_101 (ok_X2_nameOf l ω N hk0 (ty_8e (ty_2_1 hk0) b1) h) hk0 (by decide) rfl rfl (Nat.le_of_ble_eq_true rfl) dX2_factOf_120 (fun r10 h11 => ?_)
                      exact J_iret (pc := 123) K dX2_factOf_123
                    · refine J_ite (fun e8_10 => ?_) (fun e8_10 => ?_)
                      · refine J_tableIn (pc := 8) K (v := 10) 124 e8_10 dX2_factOf_8 (by decide) (by decide) rfl (by decide) ?_
                        refine J_aload_n (pc := 124) K dX2_factOf_124 3 rfl 0 rfl ?_
                        refine J_aload_n (pc := 125) K dX2_factOf_125 0 rfl 1 rfl ?_
                        refine J_callVI (As := []) (rest := [.ref (ω.1 + ((k0 + 1) + 11 + 2 * ix x1))]) (pc := 126) K cs_SaltClouds_Sky_105 (ok_X2_windNow l ω hk0 h) hk0 (by decide) rfl rfl (Nat.le_of_ble_eq_true rfl) dX2_factOf_126 (fun r12 h13 => ?_)
                        refine J_callVI (As := [.int r12]) (rest := []) (pc := 129) K cs_SaltClouds_Sky_108 (ok_X0_driftBy l ω (ty_8e (ty_2_1 hk0) b1) r12 h13) (ty_8e (ty_2_1 hk0) b1) (by decide) rfl rfl (Nat.le_of_ble_eq_true rfl) dX2_factOf_129 (fun r14 h15 => ?_)
                        exact J_iret (pc := 132) K dX2_factOf_132
                      · refine J_ite (fun e8_11 => ?_) (fun e8_11 => ?_)
                        · refine J_tableIn (pc := 8) K (v := 11) 133 e8_11 dX2_factOf_8 (by decide) (by decide) rfl (by decide) ?_
                          refine J_aload_n (pc := 133) K dX2_factOf_133 3 rfl 0 rfl ?_
                          refine J_aload_n (pc := 134) K dX2_factOf_134 0 rfl 1 rfl ?_
                          refine J_aload_n (pc := 135) K dX2_factOf_135 3 rfl 0 rfl ?_
                          refine J_callVI (As := [.ref (ω.1 + ((k0 + 1) + 11 + 2 * ix x1))]) (rest := [.ref (ω.1 + ((k0 + 1) + 11 + 2 * ix x1))]) (pc := 136) K cs_SaltClouds_Sky_111 (ok_X2_heightUnder l ω hk0 (ty_8e (ty_2_1 hk0) b1) h) hk0 (by decide) rfl rfl (Nat.le_of_ble_eq_true rfl) dX2_factOf_136 (fun r16 h17 => ?_)
                          refine J_callVI (As := [.int r16]) (rest := []) (pc := 139) K cs_SaltClouds_Sky_114 (ok_X0_rainAt l ω (ty_8e (ty_2_1 hk0) b1) r16 h17) (ty_8e (ty_2_1 hk0) b1) (by decide) rfl rfl (Nat.le_of_ble_eq_true rfl) dX2_factOf_139 (fun r18 h19 => ?_)
                          exact J_iret (pc := 142) K dX2_factOf_142
                        · refine J_tableOut (pc := 8) K 143 dX2_factOf_8 (by have q0 := lv_neT e8_0 (a := 0) (by decide); have q1 := lv_neT e8_1 (a := 1) (by decide); have q2 := lv_neT e8_2 (a := 2) (by decide); have q3 := lv_neT e8_3 (a := 3) (by decide); have q4 := lv_neT e8_4 (a := 4) (by decide); have q5 := lv_neT e8_5 (a := 5) (by decide); have q6 := lv_neT e8_6 (a := 6) (by decide); have q7 := lv_neT e8_7 (a := 7) (by decide); have q8 := lv_neT e8_8 (a := 8) (by decide); have q9 := lv_neT e8_9 (a := 9) (by decide); have q10 := lv_neT e8_10 (a := 10) (by decide); have q11 := lv_neT e8_11 (a := 11) (by decide); omega) (by decide) ?_
                          refine J_iconst (pc := 143) K (0) dX2_factOf_143 (by decide) ?_
                          exact J_iret (pc := 144) K dX2_factOf_144
def F_X6_ofCloud (N : Nat) (k0 : Nat) (x1 : Int32) (x2 : Int32) (h : Mem) : Option (Int32 × Mem) :=
  (bnd (F_X6_hasCloud k0 x1 h) (fun r1 h2 =>
  (if r1 = 0 then
    (bnd (F_X6_refuse k0 (-1000000001 : Int32) h2) (fun r3 h4 =>
    (some (r3, h4))))
  else
    (bnd (F_X6_within x2 (0 : Int32) (11 : Int32) h2) (fun r5 h6 =>
    (if r5 = 0 then
      (bnd (F_X6_refuse k0 (-1000000001 : Int32) h6) (fun r7 h8 =>
      (some (r7, h8))))
    else
      (bnd (F_X2_factOf N (k0 + 1) x1 x2 h6) (fun r9 h10 =>
      (some (r9, h10))))))))))
set_option maxRecDepth 10000 in
set_option maxHeartbeats 1000000 in
theorem ok_X6_ofCloud (l : Launch) (ω : WX) (N : Nat) {k0 : Nat} (hk0 : lay k0 = 6) (x1 : Int32) (x2 : Int32) (h : Mem) : MC rvI l ω yX6_ofCloud cX6_ofCloud 3 (some .int) 5 [.ref (ω.1 + k0), .int x1, .int x2] h (F_X6_ofCloud N k0 x1 x2 h) := by
  refine MC.of (by decide +kernel) [(0, .ref (ω.1 + k0)), (1, .int x1), (2, .int x2)] rfl (Nat.le_of_ble_eq_true rfl) (fun χ K => ?_)
  have K : Kok ω χ "SaltClouds" cX6_ofCloud 3 (some .int) 5 := K
  unfold F_X6_ofCloud
  refine J_aload_n (pc := 0) K dX6_ofCloud_0 0 rfl 0 rfl ?_
  refine J_iload_n (pc := 1) K dX6_ofCloud_1 1 rfl 1 rfl ?_
  refine J_callVI (As := [.int x1]) (rest := []) (pc := 2) K cs_SaltClouds_72 (ok_X6_hasCloud l ω hk0 x1 h) hk0 (by decide) rfl rfl (Nat.le_of_ble_eq_true rfl) dX6_ofCloud_2 (fun r1 h2 => ?_)
  refine J_if_eq (pc := 5) K 18 dX6_ofCloud_5 (by decide) ?_ ?_
  · refine J_aload_n (pc := 18) K dX6_ofCloud_18 0 rfl 0 rfl ?_
    refine J_ldc (pc := 19) K kc_SaltClouds_59 dX6_ofCloud_19 ?_
    refine J_callVI (As := [.int (-1000000001 : Int32)]) (rest := []) (pc := 21) K cs_SaltClouds_60 (ok_X6_refuse l ω hk0 (-1000000001 : Int32) h2) hk0 (by decide) rfl rfl (Nat.le_of_ble_eq_true rfl) dX6_ofCloud_21 (fun r3 h4 => ?_)
    exact J_iret (pc := 24) K dX6_ofCloud_24
  · refine J_iload_n (pc := 8) K dX6_ofCloud_8 2 rfl 2 rfl ?_
    refine J_iconst (pc := 9) K (0) dX6_ofCloud_9 (by decide) ?_
    refine J_bipush (pc := 10) K (11) dX6_ofCloud_10 (by decide) ?_
    refine J_callTI (As := [.int x2, .int (0 : Int32), .int (11 : Int32)]) (rest := []) (pc := 12) K cs_SaltClouds_51 (ok_X6_within l ω x2 (0 : Int32) (11 : Int32) h2) (by decide) rfl rfl (Nat.le_of_ble_eq_true rfl) dX6_ofCloud_12 (fun r5 h6 => ?_)
    refine J_if_ne (pc := 15) K 25 dX6_ofCloud_15 (by decide) ?_ ?_
    · refine J_aload_n (pc := 18) K dX6_ofCloud_18 0 rfl 0 rfl ?_
      refine J_ldc (pc := 19) K kc_SaltClouds_59 dX6_ofCloud_19 ?_
      refine J_callVI (As := [.int (-1000000001 : Int32)]) (rest := []) (pc := 21) K cs_SaltClouds_60 (ok_X6_refuse l ω hk0 (-1000000001 : Int32) h6) hk0 (by decide) rfl rfl (Nat.le_of_ble_eq_true rfl) dX6_ofCloud_21 (fun r7 h8 => ?_)
      exact J_iret (pc := 24) K dX6_ofCloud_24
    · refine J_aload_n (pc := 25) K dX6_ofCloud_25 0 rfl 0 rfl ?_
      refine J_getR (pc := 26) K gf_SaltClouds_12 hk0 1 rfl dX6_ofCloud_26 ?_
      refine J_iload_n (pc := 29) K dX6_ofCloud_29 1 rfl 1 rfl ?_
      refine J_iload_n (pc := 30) K dX6_ofCloud_30 2 rfl 2 rfl ?_
      refine J_callVI (As := [.int x1, .int x2]) (rest := []) (pc := 31) K cs_SaltClouds_75 (ok_X2_factOf l ω N (ty_6_1 hk0) x1 x2 h6) (ty_6_1 hk0) (by decide) rfl rfl (Nat.le_of_ble_eq_true rfl) dX6_ofCloud_31 (fun r9 h10 => ?_)
      exact J_iret (pc := 34) K dX6_ofCloud_34
def F_X6_become (k0 : Nat) (x1 : Int32) (x2 : Int32) (h : Mem) : Option (Int32 × Mem) :=
  (bnd (F_X6_hasCloud k0 x1 h) (fun r1 h2 =>
  (if r1 = 0 then
    (bnd (F_X6_refuse k0 (-1000000001 : Int32) h2) (fun r3 h4 =>
    (some (r3, h4))))
  else
    (bnd (F_X6_within x2 (0 : Int32) (69 : Int32) h2) (fun r5 h6 =>
    (if r5 = 0 then
      (bnd (F_X6_refuse k0 (-1000000001 : Int32) h6) (fun r7 h8 =>
      (some (r7, h8))))
    else
      (gin x1 8
      (seqi (h6 (((k0 + 1) + 1) + 11 + 2 * ix x1) 0) (fun v10 =>
      (gin x1 8
      (bnd (F_X0_takeKind (((k0 + 1) + 1) + 11 + 2 * ix x1) x2 h6) (fun _ h13 =>
      (some (v10, h13))))))))))))))
set_option maxRecDepth 10000 in
set_option maxHeartbeats 1000000 in
theorem ok_X6_become (l : Launch) (ω : WX) {k0 : Nat} (hk0 : lay k0 = 6) (x1 : Int32) (x2 : Int32) (h : Mem) : MC rvI l ω yX6_become cX6_become 4 (some .int) 2 [.ref (ω.1 + k0), .int x1, .int x2] h (F_X6_become k0 x1 x2 h) := by
  refine MC.of (by decide +kernel) [(0, .ref (ω.1 + k0)), (1, .int x1), (2, .int x2)] rfl (Nat.le_of_ble_eq_true rfl) (fun χ K => ?_)
  have K : Kok ω χ "SaltClouds" cX6_become 4 (some .int) 2 := K
  unfold F_X6_become
  refine J_aload_n (pc := 0) K dX6_become_0 0 rfl 0 rfl ?_
  refine J_iload_n (pc := 1) K dX6_become_1 1 rfl 1 rfl ?_
  refine J_callVI (As := [.int x1]) (rest := []) (pc := 2) K cs_SaltClouds_72 (ok_X6_hasCloud l ω hk0 x1 h) hk0 (by decide) rfl rfl (Nat.le_of_ble_eq_true rfl) dX6_become_2 (fun r1 h2 => ?_)
  refine J_if_eq (pc := 5) K 18 dX6_become_5 (by decide) ?_ ?_
  · refine J_aload_n (pc := 18) K dX6_become_18 0 rfl 0 rfl ?_
    refine J_ldc (pc := 19) K kc_SaltClouds_59 dX6_become_19 ?_
    refine J_callVI (As := [.int (-1000000001 : Int32)]) (rest := []) (pc := 21) K cs_SaltClouds_60 (ok_X6_refuse l ω hk0 (-1000000001 : Int32) h2) hk0 (by decide) rfl rfl (Nat.le_of_ble_eq_true rfl) dX6_become_21 (fun r3 h4 => ?_)
    exact J_iret (pc := 24) K dX6_become_24
  · refine J_iload_n (pc := 8) K dX6_become_8 2 rfl 2 rfl ?_
    refine J_iconst (pc := 9) K (0) dX6_become_9 (by decide) ?_
    refine J_bipush (pc := 10) K (69) dX6_become_10 (by decide) ?_
    refine J_callTI (As := [.int x2, .int (0 : Int32), .int (69 : Int32)]) (rest := []) (pc := 12) K cs_SaltClouds_51 (ok_X6_within l ω x2 (0 : Int32) (69 : Int32) h2) (by decide) rfl rfl (Nat.le_of_ble_eq_true rfl) dX6_become_12 (fun r5 h6 => ?_)
    refine J_if_ne (pc := 15) K 25 dX6_become_15 (by decide) ?_ ?_
    · refine J_aload_n (pc := 18) K dX6_become_18 0 rfl 0 rfl ?_
      refine J_ldc (pc := 19) K kc_SaltClouds_59 dX6_become_19 ?_
      refine J_callVI (As := [.int (-1000000001 : Int32)]) (rest := []) (pc := 21) K cs_SaltClouds_60 (ok_X6_refuse l ω hk0 (-1000000001 : Int32) h6) hk0 (by decide) rfl rfl (Nat.le_of_ble_eq_true rfl) dX6_become_21 (fun r7 h8 => ?_)
      exact J_iret (pc := 24) K dX6_become_24
    · refine J_aload_n (pc := 25) K dX6_become_25 0 rfl 0 rfl ?_
      refine J_getR (pc := 26) K gf_SaltClouds_12 hk0 1 rfl dX6_become_26 ?_
      refine J_getR (pc := 29) K gf_SaltClouds_79 (ty_6_1 hk0) 1 rfl dX6_become_29 ?_
      refine J_iload_n (pc := 32) K dX6_become_32 1 rfl 1 rfl ?_
      refine J_aldC (pc := 33) K (a := (k0 + 1) + 1) (ty_2_1 (ty_6_1 hk0)) dX6_become_33 (fun b9 => ?_)
      refine J_getI (pc := 34) K gf_SaltClouds_83 (ty_8e (ty_2_1 (ty_6_1 hk0)) b9) rfl dX6_become_34 ?_
      refine J_topi (fun v10 => ?_)
      refine J_istore_n (pc := 37) K dX6_become_37 3 rfl (by decide) [(3, .int v10), (0, .ref (ω.1 + k0)), (1, .int x1), (2, .int x2)] rfl ?_
      refine J_aload_n (pc := 38) K dX6_become_38 0 rfl 1 rfl ?_
      refine J_getR (pc := 39) K gf_SaltClouds_12 hk0 1 rfl dX6_become_39 ?_
      refine J_getR (pc := 42) K gf_SaltClouds_79 (ty_6_1 hk0) 1 rfl dX6_become_42 ?_
      refine J_iload_n (pc := 45) K dX6_become_45 1 rfl 2 rfl ?_
      refine J_aldC (pc := 46) K (a := (k0 + 1) + 1) (ty_2_1 (ty_6_1 hk0)) dX6_become_46 (fun b11 => ?_)
      refine J_iload_n (pc := 47) K dX6_become_47 2 rfl 3 rfl ?_
      refine J_callVU (As := [.int x2]) (rest := []) (pc := 48) K cs_SaltClouds_88 (ok_X0_takeKind l ω (ty_8e (ty_2_1 (ty_6_1 hk0)) b11) x2 h6) (ty_8e (ty_2_1 (ty_6_1 hk0)) b11) (by decide) rfl rfl (Nat.le_of_ble_eq_true rfl) dX6_become_48 (fun _ h13 => ?_)
      refine J_iload_n (pc := 51) K dX6_become_51 3 rfl 0 rfl ?_
      exact J_iret (pc := 52) K dX6_become_52
def F_X6_kindAbove (x0 : Int32) (h : Mem) : Option (Int32 × Mem) :=
  (if x0 = (1 : Int32) then
    (some ((0 : Int32), h))
  else
    (if x0 = (2 : Int32) then
      (some ((0 : Int32), h))
    else
      (if x0 = (3 : Int32) then
        (some ((0 : Int32), h))
      else
        (if x0 = (4 : Int32) then
          (some ((1 : Int32), h))
        else
          (if x0 = (5 : Int32) then
            (some ((2 : Int32), h))
          else
            (if x0 = (6 : Int32) then
              (some ((3 : Int32), h))
            else
              (some ((-1 : Int32), h))))))))
set_option maxRecDepth 10000 in
set_option maxHeartbeats 1000000 in
theorem ok_X6_kindAbove (l : Launch) (ω : WX) (x0 : Int32) (h : Mem) : MC rvI l ω yX6_kindAbove cX6_kindAbove 1 (some .int) 0 [.int x0] h (F_X6_kindAbove x0 h) := by
  refine MC.of (by decide +kernel) [(0, .int x0)] rfl (Nat.le_of_ble_eq_true rfl) (fun χ K => ?_)
  have K : Kok ω χ "SaltClouds" cX6_kindAbove 1 (some .int) 0 := K
  unfold F_X6_kindAbove
  refine J_iload_n (pc := 0) K dX6_kindAbove_0 0 rfl 0 rfl ?_
  refine J_ite (fun e1_0 => ?_) (fun e1_0 => ?_)
  · refine J_tableIn (pc := 1) K (v := 1) 40 e1_0 dX6_kindAbove_1 (by decide) (by decide) rfl (by decide) ?_
    refine J_iconst (pc := 40) K (0) dX6_kindAbove_40 (by decide) ?_
    exact J_iret (pc := 41) K dX6_kindAbove_41
  · refine J_ite (fun e1_1 => ?_) (fun e1_1 => ?_)
    · refine J_tableIn (pc := 1) K (v := 2) 40 e1_1 dX6_kindAbove_1 (by decide) (by decide) rfl (by decide) ?_
      refine J_iconst (pc := 40) K (0) dX6_kindAbove_40 (by decide) ?_
      exact J_iret (pc := 41) K dX6_kindAbove_41
    · refine J_ite (fun e1_2 => ?_) (fun e1_2 => ?_)
      · refine J_tableIn (pc := 1) K (v := 3) 40 e1_2 dX6_kindAbove_1 (by decide) (by decide) rfl (by decide) ?_
        refine J_iconst (pc := 40) K (0) dX6_kindAbove_40 (by decide) ?_
        exact J_iret (pc := 41) K dX6_kindAbove_41
      · refine J_ite (fun e1_3 => ?_) (fun e1_3 => ?_)
        · refine J_tableIn (pc := 1) K (v := 4) 42 e1_3 dX6_kindAbove_1 (by decide) (by decide) rfl (by decide) ?_
          refine J_iconst (pc := 42) K (1) dX6_kindAbove_42 (by decide) ?_
          exact J_iret (pc := 43) K dX6_kindAbove_43
        · refine J_ite (fun e1_4 => ?_) (fun e1_4 => ?_)
          · refine J_tableIn (pc := 1) K (v := 5) 44 e1_4 dX6_kindAbove_1 (by decide) (by decide) rfl (by decide) ?_
            refine J_iconst (pc := 44) K (2) dX6_kindAbove_44 (by decide) ?_
            exact J_iret (pc := 45) K dX6_kindAbove_45
          · refine J_ite (fun e1_5 => ?_) (fun e1_5 => ?_)
            · refine J_tableIn (pc := 1) K (v := 6) 46 e1_5 dX6_kindAbove_1 (by decide) (by decide) rfl (by decide) ?_
              refine J_iconst (pc := 46) K (3) dX6_kindAbove_46 (by decide) ?_
              exact J_iret (pc := 47) K dX6_kindAbove_47
            · refine J_tableOut (pc := 1) K 48 dX6_kindAbove_1 (by have q0 := lv_neT e1_0 (a := 1) (by decide); have q1 := lv_neT e1_1 (a := 2) (by decide); have q2 := lv_neT e1_2 (a := 3) (by decide); have q3 := lv_neT e1_3 (a := 4) (by decide); have q4 := lv_neT e1_4 (a := 5) (by decide); have q5 := lv_neT e1_5 (a := 6) (by decide); omega) (by decide) ?_
              refine J_iconst (pc := 48) K (-1) dX6_kindAbove_48 (by decide) ?_
              exact J_iret (pc := 49) K dX6_kindAbove_49
def F_X6_isUnder_4 (N : Nat) (w1 : Int32) (kt : Mem → Option (Int32 × Mem)) : Nat → Int32 → Int32 → Mem → Option (Int32 × Mem)
  | 0, _, _, _ => none
  | n + 1, u2, u3, h =>
    (if (6 : Int32) < u3 then
      (kt h)
    else
      (if u2 < 0 then
        (kt h)
      else
        (if u2 = w1 then
          (some ((1 : Int32), h))
        else
          (bnd (F_X6_kindAbove u2 h) (fun r1 h2 =>
          (F_X6_isUnder_4 N w1 kt n r1 (u3 + 1) h2))))))
set_option maxRecDepth 10000 in
set_option maxHeartbeats 1000000 in
theorem okL_X6_isUnder_4 {l : Launch} {ω : WX} {χ : KT} {d : Nat} (K : Kok ω χ "SaltClouds" cX6_isUnder 4 (some .boolean) d) (hd : 1 ≤ d) (N : Nat) {w1 : Int32} {kt : Mem → Option (Int32 × Mem)} (hK : ∀ (h : Mem), J (ZM rvI ω χ) l ω χ 32 4 [] [] h (kt h)) : ∀ (n : Nat) (u2 : Int32) (u3 : Int32) (h : Mem), J (ZM rvI ω χ) l ω χ 4 4 [(1, .int w1), (2, .int u2), (3, .int u3)] [] h (F_X6_isUnder_4 N w1 kt n u2 u3 h) := by
  intro n
  induction n with
  | zero =>
    intro u2 u3 h
    exact J_none rfl
  | succ n ih =>
    intro u2 u3 h
    rw [F_X6_isUnder_4]
    refine J_iload_n (pc := 4) K dX6_isUnder_4 3 rfl 2 rfl ?_
    refine J_bipush (pc := 5) K (6) dX6_isUnder_5 (by decide) ?_
    refine J_icmp_gt (pc := 7) K 32 dX6_isUnder_7 (by decide) ?_ ?_
    · refine J_lv [] [] rfl ?_
      exact hK h
    · refine J_iload_n (pc := 10) K dX6_isUnder_10 2 rfl 1 rfl ?_
      refine J_if_lt (pc := 11) K 32 dX6_isUnder_11 (by decide) ?_ ?_
      · refine J_lv [] [] rfl ?_
        exact hK h
      · refine J_iload_n (pc := 14) K dX6_isUnder_14 2 rfl 1 rfl ?_
        refine J_iload_n (pc := 15) K dX6_isUnder_15 1 rfl 0 rfl ?_
        refine J_icmp_ne (pc := 16) K 21 dX6_isUnder_16 (by decide) ?_ ?_
        · refine J_iconst (pc := 19) K (1) dX6_isUnder_19 (by decide) ?_
          exact J_nret (pc := 20) K rfl dX6_isUnder_20
        · refine J_iload_n (pc := 21) K dX6_isUnder_21 2 rfl 1 rfl ?_
          refine J_callTI (As := [.int u2]) (rest := []) (pc := 22) K cs_SaltClouds_285 (ok_X6_kindAbove l ω u2 h) (by omega) rfl rfl (Nat.le_of_ble_eq_true rfl) dX6_isUnder_22 (fun r1 h2 => ?_)
          refine J_istore_n (pc := 25) K dX6_isUnder_25 2 rfl (by decide) [(2, .int r1), (1, .int w1), (3, .int u3)] rfl ?_
          refine J_iinc (pc := 26) K (1) dX6_isUnder_26 2 rfl (by decide) (by decide) [(3, .int (u3 + 1)), (2, .int r1), (1, .int w1)] rfl ?_
          refine J_goto (pc := 29) K 4 dX6_isUnder_29 (by decide) ?_
          refine J_lv [2, 1, 0] [(1, .int w1), (2, .int r1), (3, .int (u3 + 1))] rfl ?_
          exact ih r1 (u3 + 1) h2
def F_X6_isUnder (N : Nat) (x0 : Int32) (x1 : Int32) (h : Mem) : Option (Int32 × Mem) :=
  (F_X6_isUnder_4 N x1 (fun (h3 : Mem) =>
    (some ((0 : Int32), h3))) N x0 (0 : Int32) h)
set_option maxRecDepth 10000 in
set_option maxHeartbeats 1000000 in
theorem ok_X6_isUnder (l : Launch) (ω : WX) (N : Nat) (x0 : Int32) (x1 : Int32) (h : Mem) : MC rvI l ω yX6_isUnder cX6_isUnder 4 (some .boolean) 1 [.int x0, .int x1] h (F_X6_isUnder N x0 x1 h) := by
  refine MC.of (by decide +kernel) [(0, .int x0), (1, .int x1)] rfl (Nat.le_of_ble_eq_true rfl) (fun χ K => ?_)
  have K : Kok ω χ "SaltClouds" cX6_isUnder 4 (some .boolean) 1 := K
  unfold F_X6_isUnder
  refine J_iload_n (pc := 0) K dX6_isUnder_0 0 rfl 0 rfl ?_
  refine J_istore_n (pc := 1) K dX6_isUnder_1 2 rfl (by decide) [(2, .int x0), (0, .int x0), (1, .int x1)] rfl ?_
  refine J_iconst (pc := 2) K (0) dX6_isUnder_2 (by decide) ?_
  refine J_istore_n (pc := 3) K dX6_isUnder_3 3 rfl (by decide) [(3, .int (0 : Int32)), (2, .int x0), (0, .int x0), (1, .int x1)] rfl ?_
  refine J_lv [3, 1, 0] [(1, .int x1), (2, .int x0), (3, .int (0 : Int32))] rfl ?_
  refine okL_X6_isUnder_4 K  (by decide) N  (fun h3 => ?_) _ _ _ _
  refine J_iconst (pc := 32) K (0) dX6_isUnder_32 (by decide) ?_
  exact J_nret (pc := 33) K rfl dX6_isUnder_33
def F_X6_as (N : Nat) (k0 : Nat) (x1 : Int32) (x2 : Int32) (h : Mem) : Option (Int32 × Mem) :=
  (bnd (F_X6_hasCloud k0 x1 h) (fun r1 h2 =>
  (if r1 = 0 then
    (bnd (F_X6_refuse k0 (-1000000001 : Int32) h2) (fun r3 h4 =>
    (some (r3, h4))))
  else
    (bnd (F_X6_within x2 (0 : Int32) (6 : Int32) h2) (fun r5 h6 =>
    (if r5 = 0 then
      (bnd (F_X6_refuse k0 (-1000000001 : Int32) h6) (fun r7 h8 =>
      (some (r7, h8))))
    else
      (gin x1 8
      (bnd (F_X6_isUnder N (h6 (((k0 + 1) + 1) + 11 + 2 * ix x1) 0) x2 h6) (fun r10 h11 =>
      (if r10 = 0 then
        (bnd (F_X6_refuse k0 (-1000000005 : Int32) h11) (fun r12 h13 =>
        (some (r12, h13))))
      else
        (gin x1 8
        (some (h11 (((k0 + 1) + 1) + 11 + 2 * ix x1) 1, h11)))))))))))))
set_option maxRecDepth 10000 in
set_option maxHeartbeats 1000000 in
theorem ok_X6_as (l : Launch) (ω : WX) (N : Nat) {k0 : Nat} (hk0 : lay k0 = 6) (x1 : Int32) (x2 : Int32) (h : Mem) : MC rvI l ω yX6_as cX6_as 3 (some .int) 2 [.ref (ω.1 + k0), .int x1, .int x2] h (F_X6_as N k0 x1 x2 h) := by
  refine MC.of (by decide +kernel) [(0, .ref (ω.1 + k0)), (1, .int x1), (2, .int x2)] rfl (Nat.le_of_ble_eq_true rfl) (fun χ K => ?_)
  have K : Kok ω χ "SaltClouds" cX6_as 3 (some .int) 2 := K
  unfold F_X6_as
  refine J_aload_n (pc := 0) K dX6_as_0 0 rfl 0 rfl ?_
  refine J_iload_n (pc := 1) K dX6_as_1 1 rfl 1 rfl ?_
  refine J_callVI (As := [.int x1]) (rest := []) (pc := 2) K cs_SaltClouds_72 (ok_X6_hasCloud l ω hk0 x1 h) hk0 (by decide) rfl rfl (Nat.le_of_ble_eq_true rfl) dX6_as_2 (fun r1 h2 => ?_)
  refine J_if_eq (pc := 5) K 18 dX6_as_5 (by decide) ?_ ?_
  · refine J_aload_n (pc := 18) K dX6_as_18 0 rfl 0 rfl ?_
    refine J_ldc (pc := 19) K kc_SaltClouds_59 dX6_as_19 ?_
    refine J_callVI (As := [.int (-1000000001 : Int32)]) (rest := []) (pc := 21) K cs_SaltClouds_60 (ok_X6_refuse l ω hk0 (-1000000001 : Int32) h2) hk0 (by decide) rfl rfl (Nat.le_of_ble_eq_true rfl) dX6_as_21 (fun r3 h4 => ?_)
    exact J_iret (pc := 24) K dX6_as_24
  · refine J_iload_n (pc := 8) K dX6_as_8 2 rfl 2 rfl ?_
    refine J_iconst (pc := 9) K (0) dX6_as_9 (by decide) ?_
    refine J_bipush (pc := 10) K (6) dX6_as_10 (by decide) ?_
    refine J_callTI (As := [.int x2, .int (0 : Int32), .int (6 : Int32)]) (rest := []) (pc := 12) K cs_SaltClouds_51 (ok_X6_within l ω x2 (0 : Int32) (6 : Int32) h2) (by decide) rfl rfl (Nat.le_of_ble_eq_true rfl) dX6_as_12 (fun r5 h6 => ?_)
    refine J_if_ne (pc := 15) K 25 dX6_as_15 (by decide) ?_ ?_
    · refine J_aload_n (pc := 18) K dX6_as_18 0 rfl 0 rfl ?_
      refine J_ldc (pc := 19) K kc_SaltClouds_59 dX6_as_19 ?_
      refine J_callVI (As := [.int (-1000000001 : Int32)]) (rest := []) (pc := 21) K cs_SaltClouds_60 (ok_X6_refuse l ω hk0 (-1000000001 : Int32) h6) hk0 (by decide) rfl rfl (Nat.le_of_ble_eq_true rfl) dX6_as_21 (fun r7 h8 => ?_)
      exact J_iret (pc := 24) K dX6_as_24
    · refine J_aload_n (pc := 25) K dX6_as_25 0 rfl 0 rfl ?_
      refine J_getR (pc := 26) K gf_SaltClouds_12 hk0 1 rfl dX6_as_26 ?_
      refine J_getR (pc := 29) K gf_SaltClouds_79 (ty_6_1 hk0) 1 rfl dX6_as_29 ?_
      refine J_iload_n (pc := 32) K dX6_as_32 1 rfl 1 rfl ?_
      refine J_aldC (pc := 33) K (a := (k0 + 1) + 1) (ty_2_1 (ty_6_1 hk0)) dX6_as_33 (fun b9 => ?_)
      refine J_getI (pc := 34) K gf_SaltClouds_83 (ty_8e (ty_2_1 (ty_6_1 hk0)) b9) rfl dX6_as_34 ?_
      refine J_iload_n (pc := 37) K dX6_as_37 2 rfl 2 rfl ?_
      refine J_callTI (As := [.int (h6 (((k0 + 1) + 1) + 11 + 2 * ix x1) 0), .int x2]) (rest := []) (pc := 38) K cs_SaltClouds_92 (ok_X6_isUnder l ω N (h6 (((k0 + 1) + 1) + 11 + 2 * ix x1) 0) x2 h6) (by decide) rfl rfl (Nat.le_of_ble_eq_true rfl) dX6_as_38 (fun r10 h11 => ?_)
      refine J_if_ne (pc := 41) K 51 dX6_as_41 (by decide) ?_ ?_
      · refine J_aload_n (pc := 44) K dX6_as_44 0 rfl 0 rfl ?_
        refine J_ldc (pc := 45) K kc_SaltClouds_96 dX6_as_45 ?_
        refine J_callVI (As := [.int (-1000000005 : Int32)]) (rest := []) (pc := 47) K cs_SaltClouds_60 (ok_X6_refuse l ω hk0 (-1000000005 : Int32) h11) hk0 (by decide) rfl rfl (Nat.le_of_ble_eq_true rfl) dX6_as_47 (fun r12 h13 => ?_)
        exact J_iret (pc := 50) K dX6_as_50
      · refine J_aload_n (pc := 51) K dX6_as_51 0 rfl 0 rfl ?_
        refine J_getR (pc := 52) K gf_SaltClouds_12 hk0 1 rfl dX6_as_52 ?_
        refine J_getR (pc := 55) K gf_SaltClouds_79 (ty_6_1 hk0) 1 rfl dX6_as_55 ?_
        refine J_iload_n (pc := 58) K dX6_as_58 1 rfl 1 rfl ?_
        refine J_aldC (pc := 59) K (a := (k0 + 1) + 1) (ty_2_1 (ty_6_1 hk0)) dX6_as_59 (fun b14 => ?_)
        refine J_getI (pc := 60) K gf_SaltClouds_97 (ty_8e (ty_2_1 (ty_6_1 hk0)) b14) rfl dX6_as_60 ?_
        exact J_iret (pc := 63) K dX6_as_63
def F_X6_mostToSet (x0 : Int32) (h : Mem) : Option (Int32 × Mem) :=
  (if x0 = (0 : Int32) then
    (some ((11 : Int32), h))
  else
    (if x0 = (1 : Int32) then
      (some ((999 : Int32), h))
    else
      (some ((99 : Int32), h))))
set_option maxRecDepth 10000 in
set_option maxHeartbeats 1000000 in
theorem ok_X6_mostToSet (l : Launch) (ω : WX) (x0 : Int32) (h : Mem) : MC rvI l ω yX6_mostToSet cX6_mostToSet 1 (some .int) 0 [.int x0] h (F_X6_mostToSet x0 h) := by
  refine MC.of (by decide +kernel) [(0, .int x0)] rfl (Nat.le_of_ble_eq_true rfl) (fun χ K => ?_)
  have K : Kok ω χ "SaltClouds" cX6_mostToSet 1 (some .int) 0 := K
  unfold F_X6_mostToSet
  refine J_iload_n (pc := 0) K dX6_mostToSet_0 0 rfl 0 rfl ?_
  refine J_ite (fun e1_0 => ?_) (fun e1_0 => ?_)
  · refine J_lookup (pc := 1) K (off := 27) 28 dX6_mostToSet_1 (by decide) (by rw [e1_0]; decide) (by decide) ?_
    refine J_bipush (pc := 28) K (11) dX6_mostToSet_28 (by decide) ?_
    exact J_iret (pc := 30) K dX6_mostToSet_30
  · refine J_ite (fun e1_1 => ?_) (fun e1_1 => ?_)
    · refine J_lookup (pc := 1) K (off := 30) 31 dX6_mostToSet_1 (by decide) (by rw [e1_1]; decide) (by decide) ?_
      refine J_sipush (pc := 31) K (999) dX6_mostToSet_31 (by decide) ?_
      exact J_iret (pc := 34) K dX6_mostToSet_34
    · refine J_lookup (pc := 1) K (off := 34) 35 dX6_mostToSet_1 (by decide) ((lv_osw e1_0 (by decide)).trans ((lv_osw e1_1 (by decide)).trans rfl)) (by decide) ?_
      refine J_bipush (pc := 35) K (99) dX6_mostToSet_35 (by decide) ?_
      exact J_iret (pc := 37) K dX6_mostToSet_37
def F_X0_change (k0 : Nat) (x1 : Int32) (x2 : Int32) (h : Mem) : Option (Int32 × Mem) :=
  (if x1 = (0 : Int32) then
    (seqi (h k0 2) (fun v1 =>
    (seqh (upm h k0 2 x2) (fun h2 =>
    (some (v1, h2))))))
  else
    (if x1 = (1 : Int32) then
      (seqi (h k0 3) (fun v3 =>
      (seqh (upm h k0 3 x2) (fun h4 =>
      (some (v3, h4))))))
    else
      (if x1 = (2 : Int32) then
        (seqi (x1 - (2 : Int32)) (fun v5 =>
        (gin v5 3
        (seqi (h (k0 + 1) (ix v5)) (fun v6 =>
        (gin (x1 - (2 : Int32)) 3 (seqh (upm h (k0 + 1) (ix (x1 - (2 : Int32))) x2) (fun h7 =>
        (some (v6, h7))))))))))
      else
        (if x1 = (3 : Int32) then
          (seqi (x1 - (2 : Int32)) (fun v8 =>
          (gin v8 3
          (seqi (h (k0 + 1) (ix v8)) (fun v9 =>
          (gin (x1 - (2 : Int32)) 3 (seqh (upm h (k0 + 1) (ix (x1 - (2 : Int32))) x2) (fun h10 =>
          (some (v9, h10))))))))))
        else
          (if x1 = (4 : Int32) then
            (seqi (x1 - (2 : Int32)) (fun v11 =>
            (gin v11 3
            (seqi (h (k0 + 1) (ix v11)) (fun v12 =>
            (gin (x1 - (2 : Int32)) 3 (seqh (upm h (k0 + 1) (ix (x1 - (2 : Int32))) x2) (fun h13 =>
            (some (v12, h13))))))))))
          else
            (some ((0 : Int32), h)))))))
set_option maxRecDepth 10000 in
set_option maxHeartbeats 1000000 in
theorem ok_X0_change (l : Launch) (ω : WX) {k0 : Nat} (hk0 : lay k0 = 0) (x1 : Int32) (x2 : Int32) (h : Mem) : MC rvI l ω yX0_change cX0_change 4 (some .int) 0 [.ref (ω.1 + k0), .int x1, .int x2] h (F_X0_change k0 x1 x2 h) := by
  refine MC.of (by decide +kernel) [(0, .ref (ω.1 + k0)), (1, .int x1), (2, .int x2)] rfl (Nat.le_of_ble_eq_true rfl) (fun χ K => ?_)
  have K : Kok ω χ "SaltClouds$Cloud" cX0_change 4 (some .int) 0 := K
  unfold F_X0_change
  refine J_iload_n (pc := 0) K dX0_change_0 1 rfl 1 rfl ?_
  refine J_ite (fun e1_0 => ?_) (fun e1_0 => ?_)
  · refine J_tableIn (pc := 1) K (v := 0) 36 e1_0 dX0_change_1 (by decide) (by decide) rfl (by decide) ?_
    refine J_aload_n (pc := 36) K dX0_change_36 0 rfl 0 rfl ?_
    refine J_getI (pc := 37) K gf_SaltClouds_Cloud_18 hk0 rfl dX0_change_37 ?_
    refine J_topi (fun v1 => ?_)
    refine J_istore_n (pc := 40) K dX0_change_40 3 rfl (by decide) [(3, .int v1), (0, .ref (ω.1 + k0)), (1, .int x1), (2, .int x2)] rfl ?_
    refine J_aload_n (pc := 41) K dX0_change_41 0 rfl 1 rfl ?_
    refine J_iload_n (pc := 42) K dX0_change_42 2 rfl 3 rfl ?_
    refine J_putI (pc := 43) K gf_SaltClouds_Cloud_18 hk0 (by decide) rfl dX0_change_43 (fun h2 => ?_)
    refine J_iload_n (pc := 46) K dX0_change_46 3 rfl 0 rfl ?_
    exact J_iret (pc := 47) K dX0_change_47
  · refine J_ite (fun e1_1 => ?_) (fun e1_1 => ?_)
    · refine J_tableIn (pc := 1) K (v := 1) 48 e1_1 dX0_change_1 (by decide) (by decide) rfl (by decide) ?_
      refine J_aload_n (pc := 48) K dX0_change_48 0 rfl 0 rfl ?_
      refine J_getI (pc := 49) K gf_SaltClouds_Cloud_21 hk0 rfl dX0_change_49 ?_
      refine J_topi (fun v3 => ?_)
      refine J_istore_n (pc := 52) K dX0_change_52 3 rfl (by decide) [(3, .int v3), (0, .ref (ω.1 + k0)), (1, .int x1), (2, .int x2)] rfl ?_
      refine J_aload_n (pc := 53) K dX0_change_53 0 rfl 1 rfl ?_
      refine J_iload_n (pc := 54) K dX0_change_54 2 rfl 3 rfl ?_
      refine J_putI (pc := 55) K gf_SaltClouds_Cloud_21 hk0 (by decide) rfl dX0_change_55 (fun h4 => ?_)
      refine J_iload_n (pc := 58) K dX0_change_58 3 rfl 0 rfl ?_
      exact J_iret (pc := 59) K dX0_change_59
    · refine J_ite (fun e1_2 => ?_) (fun e1_2 => ?_)
      · refine J_tableIn (pc := 1) K (v := 2) 60 e1_2 dX0_change_1 (by decide) (by decide) rfl (by decide) ?_
        refine J_aload_n (pc := 60) K dX0_change_60 0 rfl 0 rfl ?_
        refine J_getR (pc := 61) K gf_SaltClouds_Cloud_28 hk0 1 rfl dX0_change_61 ?_
        refine J_iload_n (pc := 64) K dX0_change_64 1 rfl 1 rfl ?_
        refine J_iconst (pc := 65) K (2) dX0_change_65 (by decide) ?_
        refine J_isub (pc := 66) K dX0_change_66 ?_
        refine J_topi (fun v5 => ?_)
        refine J_iald (pc := 67) K (a := k0 + 1) (n := 3) (ty_0_1 hk0) dX0_change_67 ?_
        refine J_topi (fun v6 => ?_)
        refine J_istore_n (pc := 68) K dX0_change_68 3 rfl (by decide) [(3, .int v6), (0, .ref (ω.1 + k0)), (1, .int x1), (2, .int x2)] rfl ?_
        refine J_aload_n (pc := 69) K dX0_change_69 0 rfl 1 rfl ?_
        refine J_getR (pc := 70) K gf_SaltClouds_Cloud_28 hk0 1 rfl dX0_change_70 ?_
        refine J_iload_n (pc := 73) K dX0_change_73 1 rfl 2 rfl ?_
        refine J_iconst (pc := 74) K (2) dX0_change_74 (by decide) ?_
        refine J_isub (pc := 75) K dX0_change_75 ?_
        refine J_iload_n (pc := 76) K dX0_change_76 2 rfl 3 rfl ?_
        refine J_iast (pc := 77) K (a := k0 + 1) (n := 3) (ty_0_1 hk0) dX0_change_77 (fun h7 => ?_)
        refine J_iload_n (pc := 78) K dX0_change_78 3 rfl 0 rfl ?_
        exact J_iret (pc := 79) K dX0_change_79
      · refine J_ite (fun e1_3 => ?_) (fun e1_3 => ?_)
        · refine J_tableIn (pc := 1) K (v := 3) 60 e1_3 dX0_change_1 (by decide) (by decide) rfl (by decide) ?_
          refine J_aload_n (pc := 60) K dX0_change_60 0 rfl 0 rfl ?_
          refine J_getR (pc := 61) K gf_SaltClouds_Cloud_28 hk0 1 rfl dX0_change_61 ?_
          refine J_iload_n (pc := 64) K dX0_change_64 1 rfl 1 rfl ?_
          refine J_iconst (pc := 65) K (2) dX0_change_65 (by decide) ?_
          refine J_isub (pc := 66) K dX0_change_66 ?_
          refine J_topi (fun v8 => ?_)
          refine J_iald (pc := 67) K (a := k0 + 1) (n := 3) (ty_0_1 hk0) dX0_change_67 ?_
          refine J_topi (fun v9 => ?_)
          refine J_istore_n (pc := 68) K dX0_change_68 3 rfl (by decide) [(3, .int v9), (0, .ref (ω.1 + k0)), (1, .int x1), (2, .int x2)] rfl ?_
          refine J_aload_n (pc := 69) K dX0_change_69 0 rfl 1 rfl ?_
          refine J_getR (pc := 70) K gf_SaltClouds_Cloud_28 hk0 1 rfl dX0_change_70 ?_
          refine J_iload_n (pc := 73) K dX0_change_73 1 rfl 2 rfl ?_
          refine J_iconst (pc := 74) K (2) dX0_change_74 (by decide) ?_
          refine J_isub (pc := 75) K dX0_change_75 ?_
          refine J_iload_n (pc := 76) K dX0_change_76 2 rfl 3 rfl ?_
          refine J_iast (pc := 77) K (a := k0 + 1) (n := 3) (ty_0_1 hk0) dX0_change_77 (fun h10 => ?_)
          refine J_iload_n (pc := 78) K dX0_change_78 3 rfl 0 rfl ?_
          exact J_iret (pc := 79) K dX0_change_79
        · refine J_ite (fun e1_4 => ?_) (fun e1_4 => ?_)
          · refine J_tableIn (pc := 1) K (v := 4) 60 e1_4 dX0_change_1 (by decide) (by decide) rfl (by decide) ?_
            refine J_aload_n (pc := 60) K dX0_change_60 0 rfl 0 rfl ?_
            refine J_getR (pc := 61) K gf_SaltClouds_Cloud_28 hk0 1 rfl dX0_change_61 ?_
            refine J_iload_n (pc := 64) K dX0_change_64 1 rfl 1 rfl ?_
            refine J_iconst (pc := 65) K (2) dX0_change_65 (by decide) ?_
            refine J_isub (pc := 66) K dX0_change_66 ?_
            refine J_topi (fun v11 => ?_)
            refine J_iald (pc := 67) K (a := k0 + 1) (n := 3) (ty_0_1 hk0) dX0_change_67 ?_
            refine J_topi (fun v12 => ?_)
            refine J_istore_n (pc := 68) K dX0_change_68 3 rfl (by decide) [(3, .int v12), (0, .ref (ω.1 + k0)), (1, .int x1), (2, .int x2)] rfl ?_
            refine J_aload_n (pc := 69) K dX0_change_69 0 rfl 1 rfl ?_
            refine J_getR (pc := 70) K gf_SaltClouds_Cloud_28 hk0 1 rfl dX0_change_70 ?_
            refine J_iload_n (pc := 73) K dX0_change_73 1 rfl 2 rfl ?_
            refine J_iconst (pc := 74) K (2) dX0_change_74 (by decide) ?_
            refine J_isub (pc := 75) K dX0_change_75 ?_
            refine J_iload_n (pc := 76) K dX0_change_76 2 rfl 3 rfl ?_
            refine J_iast (pc := 77) K (a := k0 + 1) (n := 3) (ty_0_1 hk0) dX0_change_77 (fun h13 => ?_)
            refine J_iload_n (pc := 78) K dX0_change_78 3 rfl 0 rfl ?_
            exact J_iret (pc := 79) K dX0_change_79
          · refine J_tableOut (pc := 1) K 80 dX0_change_1 (by have q0 := lv_neT e1_0 (a := 0) (by decide); have q1 := lv_neT e1_1 (a := 1) (by decide); have q2 := lv_neT e1_2 (a := 2) (by decide); have q3 := lv_neT e1_3 (a := 3) (by decide); have q4 := lv_neT e1_4 (a := 4) (by decide); omega) (by decide) ?_
            refine J_iconst (pc := 80) K (0) dX0_change_80 (by decide) ?_
            exact J_iret (pc := 81) K dX0_change_81
