/-! methods, by program: X7_errs, X7_held, X7_moveAll, X7_isCloud, X7_isPlace, X7_its, X7_puts, X7_isThere, X7_cloud, X7_driftsBy, X7_rainsAt, X7_keeps, X7_taste, X7_tasteOf, X7_byteAt, X7_product, X7_sum, X7_compared, X7_both, X7_whole, X7_isDigit, X7_number, X7_fails, X7_named, X7_factor -/
def F_X7_errs (k0 : Nat) (x1 : Int32) (h : Mem) : Option (Int32 × Mem) :=
  (seqi ((-1000000000 : Int32) - x1) (fun v1 =>
  (gin v1 6
  (gin v1 6 (seqh (upm h (k0 + 5) (ix v1) ((h (k0 + 5) (ix v1)) + (1 : Int32))) (fun h2 =>
  (some (x1, h2))))))))
set_option maxRecDepth 10000 in
set_option maxHeartbeats 1000000 in
theorem ok_X7_errs (l : Launch) (ω : WX) {k0 : Nat} (hk0 : lay k0 = 7) (x1 : Int32) (h : Mem) : MC rvI l ω yX7_errs cX7_errs 2 (some .int) 0 [.ref (ω.1 + k0), .int x1] h (F_X7_errs k0 x1 h) := by
  refine MC.of (by decide +kernel) [(0, .ref (ω.1 + k0)), (1, .int x1)] rfl (Nat.le_of_ble_eq_true rfl) (fun χ K => ?_)
  have K : Kok ω χ "SaltCloudsModel" cX7_errs 2 (some .int) 0 := K
  unfold F_X7_errs
  refine J_aload_n (pc := 0) K dX7_errs_0 0 rfl 0 rfl ?_
  refine J_getR (pc := 1) K gf_SaltCloudsModel_22 hk0 5 rfl dX7_errs_1 ?_
  refine J_ldc (pc := 4) K kc_SaltCloudsModel_40 dX7_errs_4 ?_
  refine J_iload_n (pc := 6) K dX7_errs_6 1 rfl 1 rfl ?_
  refine J_isub (pc := 7) K dX7_errs_7 ?_
  refine J_topi (fun v1 => ?_)
  refine J_dup2 (pc := 8) K dX7_errs_8 rfl rfl ?_
  refine J_iald (pc := 9) K (a := k0 + 5) (n := 6) (ty_7_5 hk0) dX7_errs_9 ?_
  refine J_iconst (pc := 10) K (1) dX7_errs_10 (by decide) ?_
  refine J_iadd (pc := 11) K dX7_errs_11 ?_
  refine J_iast (pc := 12) K (a := k0 + 5) (n := 6) (ty_7_5 hk0) dX7_errs_12 (fun h2 => ?_)
  refine J_iload_n (pc := 13) K dX7_errs_13 1 rfl 1 rfl ?_
  exact J_iret (pc := 14) K dX7_errs_14
def F_X7_held (x0 : Int32) (x1 : Int32) (x2 : Int32) (h : Mem) : Option (Int32 × Mem) :=
  (if x1 ≤ x0 then
    (if x0 ≤ x2 then
      (some (x0, h))
    else
      (some (x2, h)))
  else
    (some (x1, h)))
set_option maxRecDepth 10000 in
set_option maxHeartbeats 1000000 in
theorem ok_X7_held (l : Launch) (ω : WX) (x0 : Int32) (x1 : Int32) (x2 : Int32) (h : Mem) : MC rvI l ω yX7_held cX7_held 3 (some .int) 0 [.int x0, .int x1, .int x2] h (F_X7_held x0 x1 x2 h) := by
  refine MC.of (by decide +kernel) [(0, .int x0), (1, .int x1), (2, .int x2)] rfl (Nat.le_of_ble_eq_true rfl) (fun χ K => ?_)
  have K : Kok ω χ "SaltCloudsModel" cX7_held 3 (some .int) 0 := K
  unfold F_X7_held
  refine J_iload_n (pc := 0) K dX7_held_0 0 rfl 0 rfl ?_
  refine J_iload_n (pc := 1) K dX7_held_1 1 rfl 1 rfl ?_
  refine J_icmp_ge (pc := 2) K 9 dX7_held_2 (by decide) ?_ ?_
  · refine J_iload_n (pc := 9) K dX7_held_9 0 rfl 0 rfl ?_
    refine J_iload_n (pc := 10) K dX7_held_10 2 rfl 2 rfl ?_
    refine J_icmp_le (pc := 11) K 18 dX7_held_11 (by decide) ?_ ?_
    · refine J_iload_n (pc := 18) K dX7_held_18 0 rfl 0 rfl ?_
      exact J_iret (pc := 19) K dX7_held_19
    · refine J_iload_n (pc := 14) K dX7_held_14 2 rfl 2 rfl ?_
      refine J_goto (pc := 15) K 19 dX7_held_15 (by decide) ?_
      exact J_iret (pc := 19) K dX7_held_19
  · refine J_iload_n (pc := 5) K dX7_held_5 1 rfl 1 rfl ?_
    refine J_goto (pc := 6) K 19 dX7_held_6 (by decide) ?_
    exact J_iret (pc := 19) K dX7_held_19
def F_X7_moveAll_2 (N : Nat) (k1 n1 : Nat) (k2 n2 : Nat) (kt : Mem → Option (Unit × Mem)) : Nat → Int32 → Mem → Option (Unit × Mem)
  | 0, _, _ => none
  | n + 1, u3, h =>
    (if (262 : Int32) ≤ u3 then
      (kt h)
    else
      (gin u3 n1
      (gin u3 n2 (seqh (upm h k2 (ix u3) (h k1 (ix u3))) (fun h1 =>
      (F_X7_moveAll_2 N k1 n1 k2 n2 kt n (u3 + 1) h1))))))
set_option maxRecDepth 10000 in
set_option maxHeartbeats 1000000 in
theorem okL_X7_moveAll_2 {l : Launch} {ω : WX} {χ : KT} {d : Nat} (K : Kok ω χ "SaltCloudsModel" cX7_moveAll 4 none d) (hd : 0 ≤ d) (N : Nat) {k1 n1 : Nat} (hk1 : lay k1 = 1000 + n1) {k2 n2 : Nat} (hk2 : lay k2 = 1000 + n2) {kt : Mem → Option (Unit × Mem)} (hK : ∀ (h : Mem), J (ZM rvV ω χ) l ω χ 21 4 [] [] h (kt h)) : ∀ (n : Nat) (u3 : Int32) (h : Mem), J (ZM rvV ω χ) l ω χ 2 4 [(1, .ref (ω.1 + k1)), (2, .ref (ω.1 + k2)), (3, .int u3)] [] h (F_X7_moveAll_2 N k1 n1 k2 n2 kt n u3 h) := by
  intro n
  induction n with
  | zero =>
    intro u3 h
    exact J_none rfl
  | succ n ih =>
    intro u3 h
    rw [F_X7_moveAll_2]
    refine J_iload_n (pc := 2) K dX7_moveAll_2 3 rfl 2 rfl ?_
    refine J_sipush (pc := 3) K (262) dX7_moveAll_3 (by decide) ?_
    refine J_icmp_ge (pc := 6) K 21 dX7_moveAll_6 (by decide) ?_ ?_
    · refine J_lv [] [] rfl ?_
      exact hK h
    · refine J_aload_n (pc := 9) K dX7_moveAll_9 2 rfl 1 rfl ?_
      refine J_iload_n (pc := 10) K dX7_moveAll_10 3 rfl 2 rfl ?_
      refine J_aload_n (pc := 11) K dX7_moveAll_11 1 rfl 0 rfl ?_
      refine J_iload_n (pc := 12) K dX7_moveAll_12 3 rfl 2 rfl ?_
      refine J_iald (pc := 13) K (a := k1) (n := n1) hk1 dX7_moveAll_13 ?_
      refine J_iast (pc := 14) K (a := k2) (n := n2) hk2 dX7_moveAll_14 (fun h1 => ?_)
      refine J_iinc (pc := 15) K (1) dX7_moveAll_15 2 rfl (by decide) (by decide) [(3, .int (u3 + 1)), (1, .ref (ω.1 + k1)), (2, .ref (ω.1 + k2))] rfl ?_
      refine J_goto (pc := 18) K 2 dX7_moveAll_18 (by decide) ?_
      refine J_lv [1, 2, 0] [(1, .ref (ω.1 + k1)), (2, .ref (ω.1 + k2)), (3, .int (u3 + 1))] rfl ?_
      exact ih (u3 + 1) h1
def F_X7_moveAll (N : Nat) (k0 : Nat) (k1 n1 : Nat) (k2 n2 : Nat) (h : Mem) : Option (Unit × Mem) :=
  (F_X7_moveAll_2 N k1 n1 k2 n2 (fun (h2 : Mem) =>
    (some ((), h2))) N (0 : Int32) h)
set_option maxRecDepth 10000 in
set_option maxHeartbeats 1000000 in
theorem ok_X7_moveAll (l : Launch) (ω : WX) (N : Nat) {k0 : Nat} (hk0 : lay k0 = 7) {k1 n1 : Nat} (hk1 : lay k1 = 1000 + n1) {k2 n2 : Nat} (hk2 : lay k2 = 1000 + n2) (h : Mem) : MC rvV l ω yX7_moveAll cX7_moveAll 4 none 0 [.ref (ω.1 + k0), .ref (ω.1 + k1), .ref (ω.1 + k2)] h (F_X7_moveAll N k0 k1 n1 k2 n2 h) := by
  refine MC.of (by decide +kernel) [(0, .ref (ω.1 + k0)), (1, .ref (ω.1 + k1)), (2, .ref (ω.1 + k2))] rfl (Nat.le_of_ble_eq_true rfl) (fun χ K => ?_)
  have K : Kok ω χ "SaltCloudsModel" cX7_moveAll 4 none 0 := K
  unfold F_X7_moveAll
  refine J_iconst (pc := 0) K (0) dX7_moveAll_0 (by decide) ?_
  refine J_istore_n (pc := 1) K dX7_moveAll_1 3 rfl (by decide) [(3, .int (0 : Int32)), (0, .ref (ω.1 + k0)), (1, .ref (ω.1 + k1)), (2, .ref (ω.1 + k2))] rfl ?_
  refine J_lv [2, 3, 0] [(1, .ref (ω.1 + k1)), (2, .ref (ω.1 + k2)), (3, .int (0 : Int32))] rfl ?_
  refine okL_X7_moveAll_2 K  (by decide) N hk1 hk2 (fun h2 => ?_) _ _ _
  exact J_vret (pc := 21) K dX7_moveAll_21
def F_X7_isCloud (k0 : Nat) (x1 : Int32) (h : Mem) : Option (Int32 × Mem) :=
  (gin (0 : Int32) 262
  (bnd (F_X7_in x1 (0 : Int32) ((h (k0 + 1) (ix (0 : Int32))) - (1 : Int32)) h) (fun r1 h2 =>
  (gbo r1 (some (r1, h2))))))
set_option maxRecDepth 10000 in
set_option maxHeartbeats 1000000 in
theorem ok_X7_isCloud (l : Launch) (ω : WX) {k0 : Nat} (hk0 : lay k0 = 7) (x1 : Int32) (h : Mem) : MC rvI l ω yX7_isCloud cX7_isCloud 2 (some .boolean) 1 [.ref (ω.1 + k0), .int x1] h (F_X7_isCloud k0 x1 h) := by
  refine MC.of (by decide +kernel) [(0, .ref (ω.1 + k0)), (1, .int x1)] rfl (Nat.le_of_ble_eq_true rfl) (fun χ K => ?_)
  have K : Kok ω χ "SaltCloudsModel" cX7_isCloud 2 (some .boolean) 1 := K
  unfold F_X7_isCloud
  refine J_iload_n (pc := 0) K dX7_isCloud_0 1 rfl 1 rfl ?_
  refine J_iconst (pc := 1) K (0) dX7_isCloud_1 (by decide) ?_
  refine J_aload_n (pc := 2) K dX7_isCloud_2 0 rfl 0 rfl ?_
  refine J_getR (pc := 3) K gf_SaltCloudsModel_7 hk0 1 rfl dX7_isCloud_3 ?_
  refine J_iconst (pc := 6) K (0) dX7_isCloud_6 (by decide) ?_
  refine J_iald (pc := 7) K (a := k0 + 1) (n := 262) (ty_7_1 hk0) dX7_isCloud_7 ?_
  refine J_iconst (pc := 8) K (1) dX7_isCloud_8 (by decide) ?_
  refine J_isub (pc := 9) K dX7_isCloud_9 ?_
  refine J_callTI (As := [.int x1, .int (0 : Int32), .int ((h (k0 + 1) (ix (0 : Int32))) - (1 : Int32))]) (rest := []) (pc := 10) K cs_SaltCloudsModel_41 (ok_X7_in l ω x1 (0 : Int32) ((h (k0 + 1) (ix (0 : Int32))) - (1 : Int32)) h) (by decide) rfl rfl (Nat.le_of_ble_eq_true rfl) dX7_isCloud_10 (fun r1 h2 => ?_)
  exact J_zret (pc := 13) K dX7_isCloud_13
def F_X7_isPlace (x0 : Int32) (h : Mem) : Option (Int32 × Mem) :=
  (bnd (F_X7_in x0 (0 : Int32) (11 : Int32) h) (fun r1 h2 =>
  (gbo r1 (some (r1, h2)))))
set_option maxRecDepth 10000 in
set_option maxHeartbeats 1000000 in
theorem ok_X7_isPlace (l : Launch) (ω : WX) (x0 : Int32) (h : Mem) : MC rvI l ω yX7_isPlace cX7_isPlace 1 (some .boolean) 1 [.int x0] h (F_X7_isPlace x0 h) := by
  refine MC.of (by decide +kernel) [(0, .int x0)] rfl (Nat.le_of_ble_eq_true rfl) (fun χ K => ?_)
  have K : Kok ω χ "SaltCloudsModel" cX7_isPlace 1 (some .boolean) 1 := K
  unfold F_X7_isPlace
  refine J_iload_n (pc := 0) K dX7_isPlace_0 0 rfl 0 rfl ?_
  refine J_iconst (pc := 1) K (0) dX7_isPlace_1 (by decide) ?_
  refine J_bipush (pc := 2) K (11) dX7_isPlace_2 (by decide) ?_
  refine J_callTI (As := [.int x0, .int (0 : Int32), .int (11 : Int32)]) (rest := []) (pc := 4) K cs_SaltCloudsModel_41 (ok_X7_in l ω x0 (0 : Int32) (11 : Int32) h) (by decide) rfl rfl (Nat.le_of_ble_eq_true rfl) dX7_isPlace_4 (fun r1 h2 => ?_)
  exact J_zret (pc := 7) K dX7_isPlace_7
def F_X7_its (k0 : Nat) (x1 : Int32) (x2 : Int32) (h : Mem) : Option (Int32 × Mem) :=
  (seqi (((28 : Int32) + ((8 : Int32) * x1)) + x2) (fun v1 =>
  (gin v1 262
  (some (h (k0 + 1) (ix v1), h)))))
set_option maxRecDepth 10000 in
set_option maxHeartbeats 1000000 in
theorem ok_X7_its (l : Launch) (ω : WX) {k0 : Nat} (hk0 : lay k0 = 7) (x1 : Int32) (x2 : Int32) (h : Mem) : MC rvI l ω yX7_its cX7_its 3 (some .int) 0 [.ref (ω.1 + k0), .int x1, .int x2] h (F_X7_its k0 x1 x2 h) := by
  refine MC.of (by decide +kernel) [(0, .ref (ω.1 + k0)), (1, .int x1), (2, .int x2)] rfl (Nat.le_of_ble_eq_true rfl) (fun χ K => ?_)
  have K : Kok ω χ "SaltCloudsModel" cX7_its 3 (some .int) 0 := K
  unfold F_X7_its
  refine J_aload_n (pc := 0) K dX7_its_0 0 rfl 0 rfl ?_
  refine J_getR (pc := 1) K gf_SaltCloudsModel_7 hk0 1 rfl dX7_its_1 ?_
  refine J_bipush (pc := 4) K (28) dX7_its_4 (by decide) ?_
  refine J_bipush (pc := 6) K (8) dX7_its_6 (by decide) ?_
  refine J_iload_n (pc := 8) K dX7_its_8 1 rfl 1 rfl ?_
  refine J_imul (pc := 9) K dX7_its_9 ?_
  refine J_iadd (pc := 10) K dX7_its_10 ?_
  refine J_iload_n (pc := 11) K dX7_its_11 2 rfl 2 rfl ?_
  refine J_iadd (pc := 12) K dX7_its_12 ?_
  refine J_topi (fun v1 => ?_)
  refine J_iald (pc := 13) K (a := k0 + 1) (n := 262) (ty_7_1 hk0) dX7_its_13 ?_
  exact J_iret (pc := 14) K dX7_its_14
def F_X7_puts (k0 : Nat) (x1 : Int32) (x2 : Int32) (x3 : Int32) (h : Mem) : Option (Unit × Mem) :=
  (gin (((28 : Int32) + ((8 : Int32) * x1)) + x2) 262 (seqh (upm h (k0 + 1) (ix (((28 : Int32) + ((8 : Int32) * x1)) + x2)) x3) (fun h1 =>
  (some ((), h1)))))
set_option maxRecDepth 10000 in
set_option maxHeartbeats 1000000 in
theorem ok_X7_puts (l : Launch) (ω : WX) {k0 : Nat} (hk0 : lay k0 = 7) (x1 : Int32) (x2 : Int32) (x3 : Int32) (h : Mem) : MC rvV l ω yX7_puts cX7_puts 4 none 0 [.ref (ω.1 + k0), .int x1, .int x2, .int x3] h (F_X7_puts k0 x1 x2 x3 h) := by
  refine MC.of (by decide +kernel) [(0, .ref (ω.1 + k0)), (1, .int x1), (2, .int x2), (3, .int x3)] rfl (Nat.le_of_ble_eq_true rfl) (fun χ K => ?_)
  have K : Kok ω χ "SaltCloudsModel" cX7_puts 4 none 0 := K
  unfold F_X7_puts
  refine J_aload_n (pc := 0) K dX7_puts_0 0 rfl 0 rfl ?_
  refine J_getR (pc := 1) K gf_SaltCloudsModel_7 hk0 1 rfl dX7_puts_1 ?_
  refine J_bipush (pc := 4) K (28) dX7_puts_4 (by decide) ?_
  refine J_bipush (pc := 6) K (8) dX7_puts_6 (by decide) ?_
  refine J_iload_n (pc := 8) K dX7_puts_8 1 rfl 1 rfl ?_
  refine J_imul (pc := 9) K dX7_puts_9 ?_
  refine J_iadd (pc := 10) K dX7_puts_10 ?_
  refine J_iload_n (pc := 11) K dX7_puts_11 2 rfl 2 rfl ?_
  refine J_iadd (pc := 12) K dX7_puts_12 ?_
  refine J_iload_n (pc := 13) K dX7_puts_13 3 rfl 3 rfl ?_
  refine J_iast (pc := 14) K (a := k0 + 1) (n := 262) (ty_7_1 hk0) dX7_puts_14 (fun h1 => ?_)
  exact J_vret (pc := 15) K dX7_puts_15
def F_X7_isThere (k0 : Nat) (x1 : Int32) (h : Mem) : Option (Int32 × Mem) :=
  (bnd (F_X7_its k0 x1 (7 : Int32) h) (fun r1 h2 =>
  (if r1 = (1 : Int32) then
    (some ((1 : Int32), h2))
  else
    (some ((0 : Int32), h2)))))
set_option maxRecDepth 10000 in
set_option maxHeartbeats 1000000 in
theorem ok_X7_isThere (l : Launch) (ω : WX) {k0 : Nat} (hk0 : lay k0 = 7) (x1 : Int32) (h : Mem) : MC rvI l ω yX7_isThere cX7_isThere 2 (some .boolean) 1 [.ref (ω.1 + k0), .int x1] h (F_X7_isThere k0 x1 h) := by
  refine MC.of (by decide +kernel) [(0, .ref (ω.1 + k0)), (1, .int x1)] rfl (Nat.le_of_ble_eq_true rfl) (fun χ K => ?_)
  have K : Kok ω χ "SaltCloudsModel" cX7_isThere 2 (some .boolean) 1 := K
  unfold F_X7_isThere
  refine J_aload_n (pc := 0) K dX7_isThere_0 0 rfl 0 rfl ?_
  refine J_iload_n (pc := 1) K dX7_isThere_1 1 rfl 1 rfl ?_
  refine J_bipush (pc := 2) K (7) dX7_isThere_2 (by decide) ?_
  refine J_callVI (As := [.int x1, .int (7 : Int32)]) (rest := []) (pc := 4) K cs_SaltCloudsModel_45 (ok_X7_its l ω hk0 x1 (7 : Int32) h) hk0 (by decide) rfl rfl (Nat.le_of_ble_eq_true rfl) dX7_isThere_4 (fun r1 h2 => ?_)
  refine J_iconst (pc := 7) K (1) dX7_isThere_7 (by decide) ?_
  refine J_icmp_ne (pc := 8) K 15 dX7_isThere_8 (by decide) ?_ ?_
  · refine J_iconst (pc := 11) K (1) dX7_isThere_11 (by decide) ?_
    refine J_goto (pc := 12) K 16 dX7_isThere_12 (by decide) ?_
    exact J_nret (pc := 16) K rfl dX7_isThere_16
  · refine J_iconst (pc := 15) K (0) dX7_isThere_15 (by decide) ?_
    exact J_nret (pc := 16) K rfl dX7_isThere_16
def F_X7_cloud_102 (N : Nat) (k0 : Nat) (w4 : Int32) (kt : Mem → Option (Int32 × Mem)) : Nat → Int32 → Mem → Option (Int32 × Mem)
  | 0, _, _ => none
  | n + 1, u5, h =>
    (if (3 : Int32) ≤ u5 then
      (kt h)
    else
      (bnd (F_X7_puts k0 w4 ((4 : Int32) + u5) (0 : Int32) h) (fun _ h25 =>
      (F_X7_cloud_102 N k0 w4 kt n (u5 + 1) h25))))
set_option maxRecDepth 10000 in
set_option maxHeartbeats 1000000 in
theorem okL_X7_cloud_102 {l : Launch} {ω : WX} {χ : KT} {d : Nat} (K : Kok ω χ "SaltCloudsModel" cX7_cloud 6 (some .int) d) (hd : 1 ≤ d) (N : Nat) {k0 : Nat} (hk0 : lay k0 = 7) {w4 : Int32} {kt : Mem → Option (Int32 × Mem)} (hK : ∀ (h : Mem), J (ZM rvI ω χ) l ω χ 125 6 [(0, .ref (ω.1 + k0)), (4, .int w4)] [] h (kt h)) : ∀ (n : Nat) (u5 : Int32) (h : Mem), J (ZM rvI ω χ) l ω χ 102 6 [(0, .ref (ω.1 + k0)), (4, .int w4), (5, .int u5)] [] h (F_X7_cloud_102 N k0 w4 kt n u5 h) := by
  intro n
  induction n with
  | zero =>
    intro u5 h
    exact J_none rfl
  | succ n ih =>
    intro u5 h
    rw [F_X7_cloud_102]
    refine J_iload (pc := 102) K dX7_cloud_102 2 rfl ?_
    refine J_iconst (pc := 104) K (3) dX7_cloud_104 (by decide) ?_
    refine J_icmp_ge (pc := 105) K 125 dX7_cloud_105 (by decide) ?_ ?_
    · refine J_lv [0, 1] [(0, .ref (ω.1 + k0)), (4, .int w4)] rfl ?_
      exact hK h
    · refine J_aload_n (pc := 108) K dX7_cloud_108 0 rfl 0 rfl ?_
      refine J_iload (pc := 109) K dX7_cloud_109 1 rfl ?_
      refine J_iconst (pc := 111) K (4) dX7_cloud_111 (by decide) ?_
      refine J_iload (pc := 112) K dX7_cloud_112 2 rfl ?_
      refine J_iadd (pc := 114) K dX7_cloud_114 ?_
      refine J_iconst (pc := 115) K (0) dX7_cloud_115 (by decide) ?_
      refine J_callVU (As := [.int w4, .int ((4 : Int32) + u5), .int (0 : Int32)]) (rest := []) (pc := 116) K cs_SaltCloudsModel_59 (ok_X7_puts l ω hk0 w4 ((4 : Int32) + u5) (0 : Int32) h) hk0 (by omega) rfl rfl (Nat.le_of_ble_eq_true rfl) dX7_cloud_116 (fun _ h25 => ?_)
      refine J_iinc (pc := 119) K (1) dX7_cloud_119 2 rfl (by decide) (by decide) [(5, .int (u5 + 1)), (0, .ref (ω.1 + k0)), (4, .int w4)] rfl ?_
      refine J_goto (pc := 122) K 102 dX7_cloud_122 (by decide) ?_
      refine J_lv [1, 2, 0] [(0, .ref (ω.1 + k0)), (4, .int w4), (5, .int (u5 + 1))] rfl ?_
      exact ih (u5 + 1) h25
def F_X7_cloud (N : Nat) (k0 : Nat) (x1 : Int32) (x2 : Int32) (x3 : Int32) (h : Mem) : Option (Int32 × Mem) :=
  (bnd (F_X7_in x1 (0 : Int32) (69 : Int32) h) (fun r1 h2 =>
  (if r1 = 0 then
    (bnd (F_X7_errs k0 (-1000000001 : Int32) h2) (fun r3 h4 =>
    (some (r3, h4))))
  else
    (bnd (F_X7_isPlace x2 h2) (fun r5 h6 =>
    (if r5 = 0 then
      (bnd (F_X7_errs k0 (-1000000001 : Int32) h6) (fun r7 h8 =>
      (some (r7, h8))))
    else
      (bnd (F_X7_in x3 (0 : Int32) (999 : Int32) h6) (fun r9 h10 =>
      (if r9 = 0 then
        (bnd (F_X7_errs k0 (-1000000001 : Int32) h10) (fun r11 h12 =>
        (some (r11, h12))))
      else
        (gin (0 : Int32) 262
        (if (h10 (k0 + 1) (ix (0 : Int32))) = (8 : Int32) then
          (bnd (F_X7_errs k0 (-1000000004 : Int32) h10) (fun r13 h14 =>
          (some (r13, h14))))
        else
          (gin (0 : Int32) 262
          (seqi (h10 (k0 + 1) (ix (0 : Int32))) (fun v15 =>
          (gnz (10 : Int32)
          (bnd (F_X7_puts k0 v15 (0 : Int32) (x1 / (10 : Int32)) h10) (fun _ h17 =>
          (gnz (10 : Int32)
          (bnd (F_X7_puts k0 v15 (1 : Int32) (irm x1 (10 : Int32)) h17) (fun _ h19 =>
          (bnd (F_X7_puts k0 v15 (2 : Int32) x2 h19) (fun _ h21 =>
          (bnd (F_X7_puts k0 v15 (3 : Int32) x3 h21) (fun _ h23 =>
          (F_X7_cloud_102 N k0 v15 (fun (h26 : Mem) =>
            (bnd (F_X7_puts k0 v15 (7 : Int32) (1 : Int32) h26) (fun _ h28 =>
            (gin (0 : Int32) 262
            (gin (0 : Int32) 262 (seqh (upm h28 (k0 + 1) (ix (0 : Int32)) ((h28 (k0 + 1) (ix (0 : Int32))) + (1 : Int32))) (fun h29 =>
            (some (v15, h29))))))))) N (0 : Int32) h23)))))))))))))))))))))))))
set_option maxRecDepth 10000 in
set_option maxHeartbeats 1000000 in
theorem ok_X7_cloud (l : Launch) (ω : WX) (N : Nat) {k0 : Nat} (hk0 : lay k0 = 7) (x1 : Int32) (x2 : Int32) (x3 : Int32) (h : Mem) : MC rvI l ω yX7_cloud cX7_cloud 6 (some .int) 2 [.ref (ω.1 + k0), .int x1, .int x2, .int x3] h (F_X7_cloud N k0 x1 x2 x3 h) := by
  refine MC.of (by decide +kernel) [(0, .ref (ω.1 + k0)), (1, .int x1), (2, .int x2), (3, .int x3)] rfl (Nat.le_of_ble_eq_true rfl) (fun χ K => ?_)
  have K : Kok ω χ "SaltCloudsModel" cX7_cloud 6 (some .int) 2 := K
  unfold F_X7_cloud
  refine J_iload_n (pc := 0) K dX7_cloud_0 1 rfl 1 rfl ?_
  refine J_iconst (pc := 1) K (0) dX7_cloud_1 (by decide) ?_
  refine J_bipush (pc := 2) K (69) dX7_cloud_2 (by decide) ?_
  refine J_callTI (As := [.int x1, .int (0 : Int32), .int (69 : Int32)]) (rest := []) (pc := 4) K cs_SaltCloudsModel_41 (ok_X7_in l ω x1 (0 : Int32) (69 : Int32) h) (by decide) rfl rfl (Nat.le_of_ble_eq_true rfl) dX7_cloud_4 (fun r1 h2 => ?_)
  refine J_if_eq (pc := 7) K 28 dX7_cloud_7 (by decide) ?_ ?_
  · refine J_aload_n (pc := 28) K dX7_cloud_28 0 rfl 0 rfl ?_
    refine J_ldc (pc := 29) K kc_SaltCloudsModel_53 dX7_cloud_29 ?_
    refine J_callVI (As := [.int (-1000000001 : Int32)]) (rest := []) (pc := 31) K cs_SaltCloudsModel_54 (ok_X7_errs l ω hk0 (-1000000001 : Int32) h2) hk0 (by decide) rfl rfl (Nat.le_of_ble_eq_true rfl) dX7_cloud_31 (fun r3 h4 => ?_)
    exact J_iret (pc := 34) K dX7_cloud_34
  · refine J_iload_n (pc := 10) K dX7_cloud_10 2 rfl 2 rfl ?_
    refine J_callTI (As := [.int x2]) (rest := []) (pc := 11) K cs_SaltCloudsModel_49 (ok_X7_isPlace l ω x2 h2) (by decide) rfl rfl (Nat.le_of_ble_eq_true rfl) dX7_cloud_11 (fun r5 h6 => ?_)
    refine J_if_eq (pc := 14) K 28 dX7_cloud_14 (by decide) ?_ ?_
    · refine J_aload_n (pc := 28) K dX7_cloud_28 0 rfl 0 rfl ?_
      refine J_ldc (pc := 29) K kc_SaltCloudsModel_53 dX7_cloud_29 ?_
      refine J_callVI (As := [.int (-1000000001 : Int32)]) (rest := []) (pc := 31) K cs_SaltCloudsModel_54 (ok_X7_errs l ω hk0 (-1000000001 : Int32) h6) hk0 (by decide) rfl rfl (Nat.le_of_ble_eq_true rfl) dX7_cloud_31 (fun r7 h8 => ?_)
      exact J_iret (pc := 34) K dX7_cloud_34
    · refine J_iload_n (pc := 17) K dX7_cloud_17 3 rfl 3 rfl ?_
      refine J_iconst (pc := 18) K (0) dX7_cloud_18 (by decide) ?_
      refine J_sipush (pc := 19) K (999) dX7_cloud_19 (by decide) ?_
      refine J_callTI (As := [.int x3, .int (0 : Int32), .int (999 : Int32)]) (rest := []) (pc := 22) K cs_SaltCloudsModel_41 (ok_X7_in l ω x3 (0 : Int32) (999 : Int32) h6) (by decide) rfl rfl (Nat.le_of_ble_eq_true rfl) dX7_cloud_22 (fun r9 h10 => ?_)
      refine J_if_ne (pc := 25) K 35 dX7_cloud_25 (by decide) ?_ ?_
      · refine J_aload_n (pc := 28) K dX7_cloud_28 0 rfl 0 rfl ?_
        refine J_ldc (pc := 29) K kc_SaltCloudsModel_53 dX7_cloud_29 ?_
        refine J_callVI (As := [.int (-1000000001 : Int32)]) (rest := []) (pc := 31) K cs_SaltCloudsModel_54 (ok_X7_errs l ω hk0 (-1000000001 : Int32) h10) hk0 (by decide) rfl rfl (Nat.le_of_ble_eq_true rfl) dX7_cloud_31 (fun r11 h12 => ?_)
        exact J_iret (pc := 34) K dX7_cloud_34
      · refine J_aload_n (pc := 35) K dX7_cloud_35 0 rfl 0 rfl ?_
        refine J_getR (pc := 36) K gf_SaltCloudsModel_7 hk0 1 rfl dX7_cloud_36 ?_
        refine J_iconst (pc := 39) K (0) dX7_cloud_39 (by decide) ?_
        refine J_iald (pc := 40) K (a := k0 + 1) (n := 262) (ty_7_1 hk0) dX7_cloud_40 ?_
        refine J_bipush (pc := 41) K (8) dX7_cloud_41 (by decide) ?_
        refine J_icmp_ne (pc := 43) K 53 dX7_cloud_43 (by decide) ?_ ?_
        · refine J_aload_n (pc := 46) K dX7_cloud_46 0 rfl 0 rfl ?_
          refine J_ldc (pc := 47) K kc_SaltCloudsModel_58 dX7_cloud_47 ?_
          refine J_callVI (As := [.int (-1000000004 : Int32)]) (rest := []) (pc := 49) K cs_SaltCloudsModel_54 (ok_X7_errs l ω hk0 (-1000000004 : Int32) h10) hk0 (by decide) rfl rfl (Nat.le_of_ble_eq_true rfl) dX7_cloud_49 (fun r13 h14 => ?_)
          exact J_iret (pc := 52) K dX7_cloud_52
        · refine J_aload_n (pc := 53) K dX7_cloud_53 0 rfl 0 rfl ?_
          refine J_getR (pc := 54) K gf_SaltCloudsModel_7 hk0 1 rfl dX7_cloud_54 ?_
          refine J_iconst (pc := 57) K (0) dX7_cloud_57 (by decide) ?_
          refine J_iald (pc := 58) K (a := k0 + 1) (n := 262) (ty_7_1 hk0) dX7_cloud_58 ?_
          refine J_topi (fun v15 => ?_)
          refine J_istore (pc := 59) K dX7_cloud_59 (by decide) [(4, .int v15), (0, .ref (ω.1 + k0)), (1, .int x1), (2, .int x2), (3, .int x3)] rfl ?_
          refine J_aload_n (pc := 61) K dX7_cloud_61 0 rfl 1 rfl ?_
          refine J_iload (pc := 62) K dX7_cloud_62 0 rfl ?_
          refine J_iconst (pc := 64) K (0) dX7_cloud_64 (by decide) ?_
          refine J_iload_n (pc := 65) K dX7_cloud_65 1 rfl 2 rfl ?_
          refine J_bipush (pc := 66) K (10) dX7_cloud_66 (by decide) ?_
          refine J_idiv (pc := 68) K dX7_cloud_68 ?_
          refine J_callVU (As := [.int v15, .int (0 : Int32), .int (x1 / (10 : Int32))]) (rest := []) (pc := 69) K cs_SaltCloudsModel_59 (ok_X7_puts l ω hk0 v15 (0 : Int32) (x1 / (10 : Int32)) h10) hk0 (by decide) rfl rfl (Nat.le_of_ble_eq_true rfl) dX7_cloud_69 (fun _ h17 => ?_)
          refine J_aload_n (pc := 72) K dX7_cloud_72 0 rfl 1 rfl ?_
          refine J_iload (pc := 73) K dX7_cloud_73 0 rfl ?_
          refine J_iconst (pc := 75) K (1) dX7_cloud_75 (by decide) ?_
          refine J_iload_n (pc := 76) K dX7_cloud_76 1 rfl 2 rfl ?_
          refine J_bipush (pc := 77) K (10) dX7_cloud_77 (by decide) ?_
          refine J_irem (pc := 79) K dX7_cloud_79 ?_
          refine J_callVU (As := [.int v15, .int (1 : Int32), .int (irm x1 (10 : Int32))]) (rest := []) (pc := 80) K cs_SaltCloudsModel_59 (ok_X7_puts l ω hk0 v15 (1 : Int32) (irm x1 (10 : Int32)) h17) hk0 (by decide) rfl rfl (Nat.le_of_ble_eq_true rfl) dX7_cloud_80 (fun _ h19 => ?_)
          refine J_aload_n (pc := 83) K dX7_cloud_83 0 rfl 1 rfl ?_
          refine J_iload (pc := 84) K dX7_cloud_84 0 rfl ?_
          refine J_iconst (pc := 86) K (2) dX7_cloud_86 (by decide) ?_
          refine J_iload_n (pc := 87) K dX7_cloud_87 2 rfl 3 rfl ?_
          refine J_callVU (As := [.int v15, .int (2 : Int32), .int x2]) (rest := []) (pc := 88) K cs_SaltCloudsModel_59 (ok_X7_puts l ω hk0 v15 (2 : Int32) x2 h19) hk0 (by decide) rfl rfl (Nat.le_of_ble_eq_true rfl) dX7_cloud_88 (fun _ h21 => ?_)
          refine J_aload_n (pc := 91) K dX7_cloud_91 0 rfl 1 rfl ?_
          refine J_iload (pc := 92) K dX7_cloud_92 0 rfl ?_
          refine J_iconst (pc := 94) K (3) dX7_cloud_94 (by decide) ?_
          refine J_iload_n (pc := 95) K dX7_cloud_95 3 rfl 4 rfl ?_
          refine J_callVU (As := [.int v15, .int (3 : Int32), .int x3]) (rest := []) (pc := 96) K cs_SaltCloudsModel_59 (ok_X7_puts l ω hk0 v15 (3 : Int32) x3 h21) hk0 (by decide) rfl rfl (Nat.le_of_ble_eq_true rfl) dX7_cloud_96 (fun _ h23 => ?_)
          refine J_iconst (pc := 99) K (0) dX7_cloud_99 (by decide) ?_
          refine J_istore (pc := 100) K dX7_cloud_100 (by decide) [(5, .int (0 : Int32)), (4, .int v15), (0, .ref (ω.1 + k0)), (1, .int x1), (2, .int x2), (3, .int x3)] rfl ?_
          refine J_lv [2, 1, 0] [(0, .ref (ω.1 + k0)), (4, .int v15), (5, .int (0 : Int32))] rfl ?_
          refine okL_X7_cloud_102 K  (by decide) N hk0 (fun h26 => ?_) _ _ _
          refine J_aload_n (pc := 125) K dX7_cloud_125 0 rfl 0 rfl ?_
          refine J_iload (pc := 126) K dX7_cloud_126 1 rfl ?_
          refine J_bipush (pc := 128) K (7) dX7_cloud_128 (by decide) ?_
          refine J_iconst (pc := 130) K (1) dX7_cloud_130 (by decide) ?_
          refine J_callVU (As := [.int v15, .int (7 : Int32), .int (1 : Int32)]) (rest := []) (pc := 131) K cs_SaltCloudsModel_59 (ok_X7_puts l ω hk0 v15 (7 : Int32) (1 : Int32) h26) hk0 (by decide) rfl rfl (Nat.le_of_ble_eq_true rfl) dX7_cloud_131 (fun _ h28 => ?_)
          refine J_aload_n (pc := 134) K dX7_cloud_134 0 rfl 0 rfl ?_
          refine J_getR (pc := 135) K gf_SaltCloudsModel_7 hk0 1 rfl dX7_cloud_135 ?_
          refine J_iconst (pc := 138) K (0) dX7_cloud_138 (by decide) ?_
          refine J_dup2 (pc := 139) K dX7_cloud_139 rfl rfl ?_
          refine J_iald (pc := 140) K (a := k0 + 1) (n := 262) (ty_7_1 hk0) dX7_cloud_140 ?_
          refine J_iconst (pc := 141) K (1) dX7_cloud_141 (by decide) ?_
          refine J_iadd (pc := 142) K dX7_cloud_142 ?_
          refine J_iast (pc := 143) K (a := k0 + 1) (n := 262) (ty_7_1 hk0) dX7_cloud_143 (fun h29 => ?_)
          refine J_iload (pc := 144) K dX7_cloud_144 1 rfl ?_
          exact J_iret (pc := 146) K dX7_cloud_146
def F_X7_driftsBy (k0 : Nat) (x1 : Int32) (x2 : Int32) (h : Mem) : Option (Int32 × Mem) :=
  (bnd (F_X7_its k0 x1 (0 : Int32) h) (fun r1 h2 =>
  (if r1 = (1 : Int32) then
    (gnz (2 : Int32)
    (some (x2 / (2 : Int32), h2)))
  else
    (if r1 = (4 : Int32) then
      (gnz (2 : Int32)
      (bnd (F_X7_its k0 x1 (1 : Int32) h2) (fun r3 h4 =>
      (gnz (2 : Int32)
      (some ((x2 / (2 : Int32)) + (irm r3 (2 : Int32)), h4))))))
    else
      (if r1 = (2 : Int32) then
        (some ((2 : Int32) * x2, h2))
      else
        (if r1 = (5 : Int32) then
          (some ((2 : Int32) * x2, h2))
        else
          (if r1 = (6 : Int32) then
            (some ((0 : Int32), h2))
          else
            (some (x2, h2)))))))))
set_option maxRecDepth 10000 in
set_option maxHeartbeats 1000000 in
theorem ok_X7_driftsBy (l : Launch) (ω : WX) {k0 : Nat} (hk0 : lay k0 = 7) (x1 : Int32) (x2 : Int32) (h : Mem) : MC rvI l ω yX7_driftsBy cX7_driftsBy 4 (some .int) 1 [.ref (ω.1 + k0), .int x1, .int x2] h (F_X7_driftsBy k0 x1 x2 h) := by
  refine MC.of (by decide +kernel) [(0, .ref (ω.1 + k0)), (1, .int x1), (2, .int x2)] rfl (Nat.le_of_ble_eq_true rfl) (fun χ K => ?_)
  have K : Kok ω χ "SaltCloudsModel" cX7_driftsBy 4 (some .int) 1 := K
  unfold F_X7_driftsBy
  refine J_aload_n (pc := 0) K dX7_driftsBy_0 0 rfl 0 rfl ?_
  refine J_iload_n (pc := 1) K dX7_driftsBy_1 1 rfl 1 rfl ?_
  refine J_iconst (pc := 2) K (0) dX7_driftsBy_2 (by decide) ?_
  refine J_callVI (As := [.int x1, .int (0 : Int32)]) (rest := []) (pc := 3) K cs_SaltCloudsModel_45 (ok_X7_its l ω hk0 x1 (0 : Int32) h) hk0 (by decide) rfl rfl (Nat.le_of_ble_eq_true rfl) dX7_driftsBy_3 (fun r1 h2 => ?_)
  refine J_istore_n (pc := 6) K dX7_driftsBy_6 3 rfl (by decide) [(3, .int r1), (0, .ref (ω.1 + k0)), (1, .int x1), (2, .int x2)] rfl ?_
  refine J_iload_n (pc := 7) K dX7_driftsBy_7 3 rfl 0 rfl ?_
  refine J_iconst (pc := 8) K (1) dX7_driftsBy_8 (by decide) ?_
  refine J_icmp_ne (pc := 9) K 18 dX7_driftsBy_9 (by decide) ?_ ?_
  · refine J_iload_n (pc := 12) K dX7_driftsBy_12 2 rfl 3 rfl ?_
    refine J_iconst (pc := 13) K (2) dX7_driftsBy_13 (by decide) ?_
    refine J_idiv (pc := 14) K dX7_driftsBy_14 ?_
    refine J_goto (pc := 15) K 65 dX7_driftsBy_15 (by decide) ?_
    exact J_iret (pc := 65) K dX7_driftsBy_65
  · refine J_iload_n (pc := 18) K dX7_driftsBy_18 3 rfl 0 rfl ?_
    refine J_iconst (pc := 19) K (4) dX7_driftsBy_19 (by decide) ?_
    refine J_icmp_ne (pc := 20) K 38 dX7_driftsBy_20 (by decide) ?_ ?_
    · refine J_iload_n (pc := 23) K dX7_driftsBy_23 2 rfl 3 rfl ?_
      refine J_iconst (pc := 24) K (2) dX7_driftsBy_24 (by decide) ?_
      refine J_idiv (pc := 25) K dX7_driftsBy_25 ?_
      refine J_aload_n (pc := 26) K dX7_driftsBy_26 0 rfl 1 rfl ?_
      refine J_iload_n (pc := 27) K dX7_driftsBy_27 1 rfl 2 rfl ?_
      refine J_iconst (pc := 28) K (1) dX7_driftsBy_28 (by decide) ?_
      refine J_callVI (As := [.int x1, .int (1 : Int32)]) (rest := [.int (x2 / (2 : Int32))]) (pc := 29) K cs_SaltCloudsModel_45 (ok_X7_its l ω hk0 x1 (1 : Int32) h2) hk0 (by decide) rfl rfl (Nat.le_of_ble_eq_true rfl) dX7_driftsBy_29 (fun r3 h4 => ?_)
      refine J_iconst (pc := 32) K (2) dX7_driftsBy_32 (by decide) ?_
      refine J_irem (pc := 33) K dX7_driftsBy_33 ?_
      refine J_iadd (pc := 34) K dX7_driftsBy_34 ?_
      refine J_goto (pc := 35) K 65 dX7_driftsBy_35 (by decide) ?_
      exact J_iret (pc := 65) K dX7_driftsBy_65
    · refine J_iload_n (pc := 38) K dX7_driftsBy_38 3 rfl 0 rfl ?_
      refine J_iconst (pc := 39) K (2) dX7_driftsBy_39 (by decide) ?_
      refine J_icmp_eq (pc := 40) K 48 dX7_driftsBy_40 (by decide) ?_ ?_
      · refine J_iconst (pc := 48) K (2) dX7_driftsBy_48 (by decide) ?_
        refine J_iload_n (pc := 49) K dX7_driftsBy_49 2 rfl 3 rfl ?_
        refine J_imul (pc := 50) K dX7_driftsBy_50 ?_
        refine J_goto (pc := 51) K 65 dX7_driftsBy_51 (by decide) ?_
        exact J_iret (pc := 65) K dX7_driftsBy_65
      · refine J_iload_n (pc := 43) K dX7_driftsBy_43 3 rfl 0 rfl ?_
        refine J_iconst (pc := 44) K (5) dX7_driftsBy_44 (by decide) ?_
        refine J_icmp_ne (pc := 45) K 54 dX7_driftsBy_45 (by decide) ?_ ?_
        · refine J_iconst (pc := 48) K (2) dX7_driftsBy_48 (by decide) ?_
          refine J_iload_n (pc := 49) K dX7_driftsBy_49 2 rfl 3 rfl ?_
          refine J_imul (pc := 50) K dX7_driftsBy_50 ?_
          refine J_goto (pc := 51) K 65 dX7_driftsBy_51 (by decide) ?_
          exact J_iret (pc := 65) K dX7_driftsBy_65
        · refine J_iload_n (pc := 54) K dX7_driftsBy_54 3 rfl 0 rfl ?_
          refine J_bipush (pc := 55) K (6) dX7_driftsBy_55 (by decide) ?_
          refine J_icmp_ne (pc := 57) K 64 dX7_driftsBy_57 (by decide) ?_ ?_
          · refine J_iconst (pc := 60) K (0) dX7_driftsBy_60 (by decide) ?_
            refine J_goto (pc := 61) K 65 dX7_driftsBy_61 (by decide) ?_
            exact J_iret (pc := 65) K dX7_driftsBy_65
          · refine J_iload_n (pc := 64) K dX7_driftsBy_64 2 rfl 3 rfl ?_
            exact J_iret (pc := 65) K dX7_driftsBy_65
def F_X7_rainsAt (k0 : Nat) (x1 : Int32) (x2 : Int32) (h : Mem) : Option (Int32 × Mem) :=
  (bnd (F_X7_its k0 x1 (0 : Int32) h) (fun r1 h2 =>
  (bnd (F_X7_its k0 x1 (1 : Int32) h2) (fun r3 h4 =>
  (seqi ((2 : Int32) * x2) (fun v5 =>
  (jn (fun (s7 : Int32) (h8 : Mem) =>
    (bnd (F_X7_its k0 x1 (3 : Int32) h8) (fun r9 h10 =>
    (bnd (F_X7_held s7 (0 : Int32) r9 h10) (fun r11 h12 =>
    (some (r11, h12))))))) (fun j6 =>
    (if r1 = (1 : Int32) then
      (j6 (0 : Int32) h4)
    else
      (if r1 = (4 : Int32) then
        (j6 (0 : Int32) h4)
      else
        (if r1 = (2 : Int32) then
          (j6 (v5 + r3) h4)
        else
          (if r1 = (5 : Int32) then
            (j6 ((2 : Int32) * (v5 + r3)) h4)
          else
            (if r1 = (3 : Int32) then
              (j6 (v5 - r3) h4)
            else
              (if r1 = (6 : Int32) then
                (j6 (v5 - r3) h4)
              else
                (j6 v5 h4)))))))))))))))
set_option maxRecDepth 10000 in
set_option maxHeartbeats 1000000 in
theorem ok_X7_rainsAt (l : Launch) (ω : WX) {k0 : Nat} (hk0 : lay k0 = 7) (x1 : Int32) (x2 : Int32) (h : Mem) : MC rvI l ω yX7_rainsAt cX7_rainsAt 7 (some .int) 1 [.ref (ω.1 + k0), .int x1, .int x2] h (F_X7_rainsAt k0 x1 x2 h) := by
  refine MC.of (by decide +kernel) [(0, .ref (ω.1 + k0)), (1, .int x1), (2, .int x2)] rfl (Nat.le_of_ble_eq_true rfl) (fun χ K => ?_)
  have K : Kok ω χ "SaltCloudsModel" cX7_rainsAt 7 (some .int) 1 := K
  unfold F_X7_rainsAt
  refine J_aload_n (pc := 0) K dX7_rainsAt_0 0 rfl 0 rfl ?_
  refine J_iload_n (pc := 1) K dX7_rainsAt_1 1 rfl 1 rfl ?_
  refine J_iconst (pc := 2) K (0) dX7_rainsAt_2 (by decide) ?_
  refine J_callVI (As := [.int x1, .int (0 : Int32)]) (rest := []) (pc := 3) K cs_SaltCloudsModel_45 (ok_X7_its l ω hk0 x1 (0 : Int32) h) hk0 (by decide) rfl rfl (Nat.le_of_ble_eq_true rfl) dX7_rainsAt_3 (fun r1 h2 => ?_)
  refine J_istore_n (pc := 6) K dX7_rainsAt_6 3 rfl (by decide) [(3, .int r1), (0, .ref (ω.1 + k0)), (1, .int x1), (2, .int x2)] rfl ?_
  refine J_aload_n (pc := 7) K dX7_rainsAt_7 0 rfl 1 rfl ?_
  refine J_iload_n (pc := 8) K dX7_rainsAt_8 1 rfl 2 rfl ?_
  refine J_iconst (pc := 9) K (1) dX7_rainsAt_9 (by decide) ?_
  refine J_callVI (As := [.int x1, .int (1 : Int32)]) (rest := []) (pc := 10) K cs_SaltCloudsModel_45 (ok_X7_its l ω hk0 x1 (1 : Int32) h2) hk0 (by decide) rfl rfl (Nat.le_of_ble_eq_true rfl) dX7_rainsAt_10 (fun r3 h4 => ?_)
  refine J_istore (pc := 13) K dX7_rainsAt_13 (by decide) [(4, .int r3), (3, .int r1), (0, .ref (ω.1 + k0)), (1, .int x1), (2, .int x2)] rfl ?_
  refine J_iconst (pc := 15) K (2) dX7_rainsAt_15 (by decide) ?_
  refine J_iload_n (pc := 16) K dX7_rainsAt_16 2 rfl 4 rfl ?_
  refine J_imul (pc := 17) K dX7_rainsAt_17 ?_
  refine J_topi (fun v5 => ?_)
  refine J_istore (pc := 18) K dX7_rainsAt_18 (by decide) [(5, .int v5), (4, .int r3), (3, .int r1), (0, .ref (ω.1 + k0)), (1, .int x1), (2, .int x2)] rfl ?_
  refine J_iload_n (pc := 20) K dX7_rainsAt_20 3 rfl 2 rfl ?_
  refine J_iconst (pc := 21) K (1) dX7_rainsAt_21 (by decide) ?_
  refine J_jn (fun j6 => ∀ (s7 : Int32) (h8 : Mem), J (ZM rvI ω χ) l ω χ 83 7 [(0, .ref (ω.1 + k0)), (1, .int x1)] [.int s7] h8 (j6 s7 h8)) ?_ ?_
  · intro s7 h8
    refine J_istore (pc := 83) K dX7_rainsAt_83 (by decide) [(6, .int s7), (0, .ref (ω.1 + k0)), (1, .int x1)] rfl ?_
    refine J_iload (pc := 85) K dX7_rainsAt_85 0 rfl ?_
    refine J_iconst (pc := 87) K (0) dX7_rainsAt_87 (by decide) ?_
    refine J_aload_n (pc := 88) K dX7_rainsAt_88 0 rfl 1 rfl ?_
    refine J_iload_n (pc := 89) K dX7_rainsAt_89 1 rfl 2 rfl ?_
    refine J_iconst (pc := 90) K (3) dX7_rainsAt_90 (by decide) ?_
    refine J_callVI (As := [.int x1, .int (3 : Int32)]) (rest := [.int (0 : Int32), .int s7]) (pc := 91) K cs_SaltCloudsModel_45 (ok_X7_its l ω hk0 x1 (3 : Int32) h8) hk0 (by decide) rfl rfl (Nat.le_of_ble_eq_true rfl) dX7_rainsAt_91 (fun r9 h10 => ?_)
    refine J_callTI (As := [.int s7, .int (0 : Int32), .int r9]) (rest := []) (pc := 94) K cs_SaltCloudsModel_63 (ok_X7_held l ω s7 (0 : Int32) r9 h10) (by decide) rfl rfl (Nat.le_of_ble_eq_true rfl) dX7_rainsAt_94 (fun r11 h12 => ?_)
    exact J_iret (pc := 97) K dX7_rainsAt_97
  · intro j6 hj6
    refine J_icmp_eq (pc := 22) K 30 dX7_rainsAt_22 (by decide) ?_ ?_
    · refine J_iconst (pc := 30) K (0) dX7_rainsAt_30 (by decide) ?_
      refine J_goto (pc := 31) K 83 dX7_rainsAt_31 (by decide) ?_
      refine J_lv [3, 4] [(0, .ref (ω.1 + k0)), (1, .int x1)] rfl ?_
      exact hj6 (0 : Int32) h4
    · refine J_iload_n (pc := 25) K dX7_rainsAt_25 3 rfl 2 rfl ?_
      refine J_iconst (pc := 26) K (4) dX7_rainsAt_26 (by decide) ?_
      refine J_icmp_ne (pc := 27) K 34 dX7_rainsAt_27 (by decide) ?_ ?_
      · refine J_iconst (pc := 30) K (0) dX7_rainsAt_30 (by decide) ?_
        refine J_goto (pc := 31) K 83 dX7_rainsAt_31 (by decide) ?_
        refine J_lv [3, 4] [(0, .ref (ω.1 + k0)), (1, .int x1)] rfl ?_
        exact hj6 (0 : Int32) h4
      · refine J_iload_n (pc := 34) K dX7_rainsAt_34 3 rfl 2 rfl ?_
        refine J_iconst (pc := 35) K (2) dX7_rainsAt_35 (by decide) ?_
        refine J_icmp_ne (pc := 36) K 47 dX7_rainsAt_36 (by decide) ?_ ?_
        · refine J_iload (pc := 39) K dX7_rainsAt_39 0 rfl ?_
          refine J_iload (pc := 41) K dX7_rainsAt_41 1 rfl ?_
          refine J_iadd (pc := 43) K dX7_rainsAt_43 ?_
          refine J_goto (pc := 44) K 83 dX7_rainsAt_44 (by decide) ?_
          refine J_lv [3, 4] [(0, .ref (ω.1 + k0)), (1, .int x1)] rfl ?_
          exact hj6 (v5 + r3) h4
        · refine J_iload_n (pc := 47) K dX7_rainsAt_47 3 rfl 2 rfl ?_
          refine J_iconst (pc := 48) K (5) dX7_rainsAt_48 (by decide) ?_
          refine J_icmp_ne (pc := 49) K 62 dX7_rainsAt_49 (by decide) ?_ ?_
          · refine J_iconst (pc := 52) K (2) dX7_rainsAt_52 (by decide) ?_
            refine J_iload (pc := 53) K dX7_rainsAt_53 0 rfl ?_
            refine J_iload (pc := 55) K dX7_rainsAt_55 1 rfl ?_
            refine J_iadd (pc := 57) K dX7_rainsAt_57 ?_
            refine J_imul (pc := 58) K dX7_rainsAt_58 ?_
            refine J_goto (pc := 59) K 83 dX7_rainsAt_59 (by decide) ?_
            refine J_lv [3, 4] [(0, .ref (ω.1 + k0)), (1, .int x1)] rfl ?_
            exact hj6 ((2 : Int32) * (v5 + r3)) h4
          · refine J_iload_n (pc := 62) K dX7_rainsAt_62 3 rfl 2 rfl ?_
            refine J_iconst (pc := 63) K (3) dX7_rainsAt_63 (by decide) ?_
            refine J_icmp_eq (pc := 64) K 73 dX7_rainsAt_64 (by decide) ?_ ?_
            · refine J_iload (pc := 73) K dX7_rainsAt_73 0 rfl ?_
              refine J_iload (pc := 75) K dX7_rainsAt_75 1 rfl ?_
              refine J_isub (pc := 77) K dX7_rainsAt_77 ?_
              refine J_goto (pc := 78) K 83 dX7_rainsAt_78 (by decide) ?_
              refine J_lv [3, 4] [(0, .ref (ω.1 + k0)), (1, .int x1)] rfl ?_
              exact hj6 (v5 - r3) h4
            · refine J_iload_n (pc := 67) K dX7_rainsAt_67 3 rfl 2 rfl ?_
              refine J_bipush (pc := 68) K (6) dX7_rainsAt_68 (by decide) ?_
              refine J_icmp_ne (pc := 70) K 81 dX7_rainsAt_70 (by decide) ?_ ?_
              · refine J_iload (pc := 73) K dX7_rainsAt_73 0 rfl ?_
                refine J_iload (pc := 75) K dX7_rainsAt_75 1 rfl ?_
                refine J_isub (pc := 77) K dX7_rainsAt_77 ?_
                refine J_goto (pc := 78) K 83 dX7_rainsAt_78 (by decide) ?_
                refine J_lv [3, 4] [(0, .ref (ω.1 + k0)), (1, .int x1)] rfl ?_
                exact hj6 (v5 - r3) h4
              · refine J_iload (pc := 81) K dX7_rainsAt_81 0 rfl ?_
                refine J_lv [3, 4] [(0, .ref (ω.1 + k0)), (1, .int x1)] rfl ?_
                exact hj6 v5 h4
def F_X7_keeps (k0 : Nat) (x1 : Int32) (x2 : Int32) (h : Mem) : Option (Int32 × Mem) :=
  (bnd (F_X7_its k0 x1 (0 : Int32) h) (fun r1 h2 =>
  (if r1 = (2 : Int32) then
    (if x2 = (2 : Int32) then
      (some ((0 : Int32), h2))
    else
      (some ((1 : Int32), h2)))
  else
    (if r1 = (5 : Int32) then
      (if x2 = 0 then
        (some ((1 : Int32), h2))
      else
        (some ((0 : Int32), h2)))
    else
      (if r1 = (3 : Int32) then
        (if x2 = 0 then
          (some ((0 : Int32), h2))
        else
          (some ((1 : Int32), h2)))
      else
        (if r1 = (6 : Int32) then
          (if x2 = 0 then
            (some ((0 : Int32), h2))
          else
            (some ((1 : Int32), h2)))
        else
          (some ((1 : Int32), h2))))))))
set_option maxRecDepth 10000 in
set_option maxHeartbeats 1000000 in
theorem ok_X7_keeps (l : Launch) (ω : WX) {k0 : Nat} (hk0 : lay k0 = 7) (x1 : Int32) (x2 : Int32) (h : Mem) : MC rvI l ω yX7_keeps cX7_keeps 4 (some .boolean) 1 [.ref (ω.1 + k0), .int x1, .int x2] h (F_X7_keeps k0 x1 x2 h) := by
  refine MC.of (by decide +kernel) [(0, .ref (ω.1 + k0)), (1, .int x1), (2, .int x2)] rfl (Nat.le_of_ble_eq_true rfl) (fun χ K => ?_)
  have K : Kok ω χ "SaltCloudsModel" cX7_keeps 4 (some .boolean) 1 := K
  unfold F_X7_keeps
  refine J_aload_n (pc := 0) K dX7_keeps_0 0 rfl 0 rfl ?_
  refine J_iload_n (pc := 1) K dX7_keeps_1 1 rfl 1 rfl ?_
  refine J_iconst (pc := 2) K (0) dX7_keeps_2 (by decide) ?_
  refine J_callVI (As := [.int x1, .int (0 : Int32)]) (rest := []) (pc := 3) K cs_SaltCloudsModel_45 (ok_X7_its l ω hk0 x1 (0 : Int32) h) hk0 (by decide) rfl rfl (Nat.le_of_ble_eq_true rfl) dX7_keeps_3 (fun r1 h2 => ?_)
  refine J_istore_n (pc := 6) K dX7_keeps_6 3 rfl (by decide) [(3, .int r1), (0, .ref (ω.1 + k0)), (1, .int x1), (2, .int x2)] rfl ?_
  refine J_iload_n (pc := 7) K dX7_keeps_7 3 rfl 0 rfl ?_
  refine J_iconst (pc := 8) K (2) dX7_keeps_8 (by decide) ?_
  refine J_icmp_ne (pc := 9) K 25 dX7_keeps_9 (by decide) ?_ ?_
  · refine J_iload_n (pc := 12) K dX7_keeps_12 2 rfl 3 rfl ?_
    refine J_iconst (pc := 13) K (2) dX7_keeps_13 (by decide) ?_
    refine J_icmp_eq (pc := 14) K 21 dX7_keeps_14 (by decide) ?_ ?_
    · refine J_iconst (pc := 21) K (0) dX7_keeps_21 (by decide) ?_
      refine J_goto (pc := 22) K 66 dX7_keeps_22 (by decide) ?_
      exact J_nret (pc := 66) K rfl dX7_keeps_66
    · refine J_iconst (pc := 17) K (1) dX7_keeps_17 (by decide) ?_
      refine J_goto (pc := 18) K 66 dX7_keeps_18 (by decide) ?_
      exact J_nret (pc := 66) K rfl dX7_keeps_66
  · refine J_iload_n (pc := 25) K dX7_keeps_25 3 rfl 0 rfl ?_
    refine J_iconst (pc := 26) K (5) dX7_keeps_26 (by decide) ?_
    refine J_icmp_ne (pc := 27) K 42 dX7_keeps_27 (by decide) ?_ ?_
    · refine J_iload_n (pc := 30) K dX7_keeps_30 2 rfl 3 rfl ?_
      refine J_if_ne (pc := 31) K 38 dX7_keeps_31 (by decide) ?_ ?_
      · refine J_iconst (pc := 34) K (1) dX7_keeps_34 (by decide) ?_
        refine J_goto (pc := 35) K 66 dX7_keeps_35 (by decide) ?_
        exact J_nret (pc := 66) K rfl dX7_keeps_66
      · refine J_iconst (pc := 38) K (0) dX7_keeps_38 (by decide) ?_
        refine J_goto (pc := 39) K 66 dX7_keeps_39 (by decide) ?_
        exact J_nret (pc := 66) K rfl dX7_keeps_66
    · refine J_iload_n (pc := 42) K dX7_keeps_42 3 rfl 0 rfl ?_
      refine J_iconst (pc := 43) K (3) dX7_keeps_43 (by decide) ?_
      refine J_icmp_eq (pc := 44) K 53 dX7_keeps_44 (by decide) ?_ ?_
      · refine J_iload_n (pc := 53) K dX7_keeps_53 2 rfl 3 rfl ?_
        refine J_if_eq (pc := 54) K 61 dX7_keeps_54 (by decide) ?_ ?_
        · refine J_iconst (pc := 61) K (0) dX7_keeps_61 (by decide) ?_
          refine J_goto (pc := 62) K 66 dX7_keeps_62 (by decide) ?_
          exact J_nret (pc := 66) K rfl dX7_keeps_66
        · refine J_iconst (pc := 57) K (1) dX7_keeps_57 (by decide) ?_
          refine J_goto (pc := 58) K 66 dX7_keeps_58 (by decide) ?_
          exact J_nret (pc := 66) K rfl dX7_keeps_66
      · refine J_iload_n (pc := 47) K dX7_keeps_47 3 rfl 0 rfl ?_
        refine J_bipush (pc := 48) K (6) dX7_keeps_48 (by decide) ?_
        refine J_icmp_ne (pc := 50) K 65 dX7_keeps_50 (by decide) ?_ ?_
        · refine J_iload_n (pc := 53) K dX7_keeps_53 2 rfl 3 rfl ?_
          refine J_if_eq (pc := 54) K 61 dX7_keeps_54 (by decide) ?_ ?_
          · refine J_iconst (pc := 61) K (0) dX7_keeps_61 (by decide) ?_
            refine J_goto (pc := 62) K 66 dX7_keeps_62 (by decide) ?_
            exact J_nret (pc := 66) K rfl dX7_keeps_66
          · refine J_iconst (pc := 57) K (1) dX7_keeps_57 (by decide) ?_
            refine J_goto (pc := 58) K 66 dX7_keeps_58 (by decide) ?_
            exact J_nret (pc := 66) K rfl dX7_keeps_66
        · refine J_iconst (pc := 65) K (1) dX7_keeps_65 (by decide) ?_
          exact J_nret (pc := 66) K rfl dX7_keeps_66
def F_X7_taste (x0 : Int32) (x1 : Int32) (h : Mem) : Option (Int32 × Mem) :=
  (if x1 = 0 then
    (some ((9999 : Int32), h))
  else
    (gnz x1
    (bnd (F_X7_held (((100 : Int32) * x0) / x1) (0 : Int32) (9999 : Int32) h) (fun r1 h2 =>
    (some (r1, h2))))))
set_option maxRecDepth 10000 in
set_option maxHeartbeats 1000000 in
theorem ok_X7_taste (l : Launch) (ω : WX) (x0 : Int32) (x1 : Int32) (h : Mem) : MC rvI l ω yX7_taste cX7_taste 2 (some .int) 1 [.int x0, .int x1] h (F_X7_taste x0 x1 h) := by
  refine MC.of (by decide +kernel) [(0, .int x0), (1, .int x1)] rfl (Nat.le_of_ble_eq_true rfl) (fun χ K => ?_)
  have K : Kok ω χ "SaltCloudsModel" cX7_taste 2 (some .int) 1 := K
  unfold F_X7_taste
  refine J_iload_n (pc := 0) K dX7_taste_0 1 rfl 1 rfl ?_
  refine J_if_ne (pc := 1) K 10 dX7_taste_1 (by decide) ?_ ?_
  · refine J_sipush (pc := 4) K (9999) dX7_taste_4 (by decide) ?_
    refine J_goto (pc := 7) K 23 dX7_taste_7 (by decide) ?_
    exact J_iret (pc := 23) K dX7_taste_23
  · refine J_bipush (pc := 10) K (100) dX7_taste_10 (by decide) ?_
    refine J_iload_n (pc := 12) K dX7_taste_12 0 rfl 0 rfl ?_
    refine J_imul (pc := 13) K dX7_taste_13 ?_
    refine J_iload_n (pc := 14) K dX7_taste_14 1 rfl 1 rfl ?_
    refine J_idiv (pc := 15) K dX7_taste_15 ?_
    refine J_iconst (pc := 16) K (0) dX7_taste_16 (by decide) ?_
    refine J_sipush (pc := 17) K (9999) dX7_taste_17 (by decide) ?_
    refine J_callTI (As := [.int (((100 : Int32) * x0) / x1), .int (0 : Int32), .int (9999 : Int32)]) (rest := []) (pc := 20) K cs_SaltCloudsModel_63 (ok_X7_held l ω (((100 : Int32) * x0) / x1) (0 : Int32) (9999 : Int32) h) (by decide) rfl rfl (Nat.le_of_ble_eq_true rfl) dX7_taste_20 (fun r1 h2 => ?_)
    exact J_iret (pc := 23) K dX7_taste_23
def F_X7_tasteOf (k0 : Nat) (x1 : Int32) (h : Mem) : Option (Int32 × Mem) :=
  (bnd (F_X7_its k0 x1 (4 : Int32) h) (fun r1 h2 =>
  (bnd (F_X7_its k0 x1 (5 : Int32) h2) (fun r3 h4 =>
  (bnd (F_X7_its k0 x1 (6 : Int32) h4) (fun r5 h6 =>
  (bnd (F_X7_its k0 x1 (3 : Int32) h6) (fun r7 h8 =>
  (bnd (F_X7_taste ((r1 + r3) + r5) r7 h8) (fun r9 h10 =>
  (some (r9, h10))))))))))))
set_option maxRecDepth 10000 in
set_option maxHeartbeats 1000000 in
theorem ok_X7_tasteOf (l : Launch) (ω : WX) {k0 : Nat} (hk0 : lay k0 = 7) (x1 : Int32) (h : Mem) : MC rvI l ω yX7_tasteOf cX7_tasteOf 2 (some .int) 2 [.ref (ω.1 + k0), .int x1] h (F_X7_tasteOf k0 x1 h) := by
  refine MC.of (by decide +kernel) [(0, .ref (ω.1 + k0)), (1, .int x1)] rfl (Nat.le_of_ble_eq_true rfl) (fun χ K => ?_)
  have K : Kok ω χ "SaltCloudsModel" cX7_tasteOf 2 (some .int) 2 := K
  unfold F_X7_tasteOf
  refine J_aload_n (pc := 0) K dX7_tasteOf_0 0 rfl 0 rfl ?_
  refine J_iload_n (pc := 1) K dX7_tasteOf_1 1 rfl 1 rfl ?_
  refine J_iconst (pc := 2) K (4) dX7_tasteOf_2 (by decide) ?_
  refine J_callVI (As := [.int x1, .int (4 : Int32)]) (rest := []) (pc := 3) K cs_SaltCloudsModel_45 (ok_X7_its l ω hk0 x1 (4 : Int32) h) hk0 (by decide) rfl rfl (Nat.le_of_ble_eq_true rfl) dX7_tasteOf_3 (fun r1 h2 => ?_)
  refine J_aload_n (pc := 6) K dX7_tasteOf_6 0 rfl 0 rfl ?_
  refine J_iload_n (pc := 7) K dX7_tasteOf_7 1 rfl 1 rfl ?_
  refine J_iconst (pc := 8) K (5) dX7_tasteOf_8 (by decide) ?_
  refine J_callVI (As := [.int x1, .int (5 : Int32)]) (rest := [.int r1]) (pc := 9) K cs_SaltCloudsModel_45 (ok_X7_its l ω hk0 x1 (5 : Int32) h2) hk0 (by decide) rfl rfl (Nat.le_of_ble_eq_true rfl) dX7_tasteOf_9 (fun r3 h4 => ?_)
  refine J_iadd (pc := 12) K dX7_tasteOf_12 ?_
  refine J_aload_n (pc := 13) K dX7_tasteOf_13 0 rfl 0 rfl ?_
  refine J_iload_n (pc := 14) K dX7_tasteOf_14 1 rfl 1 rfl ?_
  refine J_bipush (pc := 15) K (6) dX7_tasteOf_15 (by decide) ?_
  refine J_callVI (As := [.int x1, .int (6 : Int32)]) (rest := [.int (r1 + r3)]) (pc := 17) K cs_SaltCloudsModel_45 (ok_X7_its l ω hk0 x1 (6 : Int32) h4) hk0 (by decide) rfl rfl (Nat.le_of_ble_eq_true rfl) dX7_tasteOf_17 (fun r5 h6 => ?_)
  refine J_iadd (pc := 20) K dX7_tasteOf_20 ?_
  refine J_aload_n (pc := 21) K dX7_tasteOf_21 0 rfl 0 rfl ?_
  refine J_iload_n (pc := 22) K dX7_tasteOf_22 1 rfl 1 rfl ?_
  refine J_iconst (pc := 23) K (3) dX7_tasteOf_23 (by decide) ?_
  refine J_callVI (As := [.int x1, .int (3 : Int32)]) (rest := [.int ((r1 + r3) + r5)]) (pc := 24) K cs_SaltCloudsModel_45 (ok_X7_its l ω hk0 x1 (3 : Int32) h6) hk0 (by decide) rfl rfl (Nat.le_of_ble_eq_true rfl) dX7_tasteOf_24 (fun r7 h8 => ?_)
  refine J_callTI (As := [.int ((r1 + r3) + r5), .int r7]) (rest := []) (pc := 27) K cs_SaltCloudsModel_67 (ok_X7_taste l ω ((r1 + r3) + r5) r7 h8) (by decide) rfl rfl (Nat.le_of_ble_eq_true rfl) dX7_tasteOf_27 (fun r9 h10 => ?_)
  exact J_iret (pc := 30) K dX7_tasteOf_30
def F_X7_byteAt (k0 : Nat) (x1 : Int32) (h : Mem) : Option (Int32 × Mem) :=
  (if (h k0 9) ≤ x1 then
    (some ((-1 : Int32), h))
  else
    (seqi (((162 : Int32) + ((50 : Int32) * (h k0 7))) + x1) (fun v1 =>
    (gin v1 262
    (some (h (k0 + 1) (ix v1), h))))))
set_option maxRecDepth 10000 in
set_option maxHeartbeats 1000000 in
theorem ok_X7_byteAt (l : Launch) (ω : WX) {k0 : Nat} (hk0 : lay k0 = 7) (x1 : Int32) (h : Mem) : MC rvI l ω yX7_byteAt cX7_byteAt 2 (some .int) 0 [.ref (ω.1 + k0), .int x1] h (F_X7_byteAt k0 x1 h) := by
  refine MC.of (by decide +kernel) [(0, .ref (ω.1 + k0)), (1, .int x1)] rfl (Nat.le_of_ble_eq_true rfl) (fun χ K => ?_)
  have K : Kok ω χ "SaltCloudsModel" cX7_byteAt 2 (some .int) 0 := K
  unfold F_X7_byteAt
  refine J_iload_n (pc := 0) K dX7_byteAt_0 1 rfl 1 rfl ?_
  refine J_aload_n (pc := 1) K dX7_byteAt_1 0 rfl 0 rfl ?_
  refine J_getI (pc := 2) K gf_SaltCloudsModel_104 hk0 rfl dX7_byteAt_2 ?_
  refine J_icmp_ge (pc := 5) K 29 dX7_byteAt_5 (by decide) ?_ ?_
  · refine J_iconst (pc := 29) K (-1) dX7_byteAt_29 (by decide) ?_
    exact J_iret (pc := 30) K dX7_byteAt_30
  · refine J_aload_n (pc := 8) K dX7_byteAt_8 0 rfl 0 rfl ?_
    refine J_getR (pc := 9) K gf_SaltCloudsModel_7 hk0 1 rfl dX7_byteAt_9 ?_
    refine J_sipush (pc := 12) K (162) dX7_byteAt_12 (by decide) ?_
    refine J_bipush (pc := 15) K (50) dX7_byteAt_15 (by decide) ?_
    refine J_aload_n (pc := 17) K dX7_byteAt_17 0 rfl 0 rfl ?_
    refine J_getI (pc := 18) K gf_SaltCloudsModel_108 hk0 rfl dX7_byteAt_18 ?_
    refine J_imul (pc := 21) K dX7_byteAt_21 ?_
    refine J_iadd (pc := 22) K dX7_byteAt_22 ?_
    refine J_iload_n (pc := 23) K dX7_byteAt_23 1 rfl 1 rfl ?_
    refine J_iadd (pc := 24) K dX7_byteAt_24 ?_
    refine J_topi (fun v1 => ?_)
    refine J_iald (pc := 25) K (a := k0 + 1) (n := 262) (ty_7_1 hk0) dX7_byteAt_25 ?_
    refine J_goto (pc := 26) K 30 dX7_byteAt_26 (by decide) ?_
    exact J_iret (pc := 30) K dX7_byteAt_30
def F_X7_product_5 (oq : Nat → Mem → Option (Int32 × Mem)) (N : Nat) (k0 : Nat) (kt : Int32 → Mem → Option (Int32 × Mem)) : Nat → Int32 → Mem → Option (Int32 × Mem)
  | 0, _, _ => none
  | n + 1, u1, h =>
    (if (h k0 14) = 0 then
      (kt u1 h)
    else
      (bnd (F_X7_byteAt k0 (h k0 8) h) (fun r3 h4 =>
      (jn (fun (v6 : Int32) (h7 : Mem) =>
        (bnd (F_X7_byteAt k0 (h7 k0 8) h7) (fun r8 h9 =>
        (seqh (upm h9 k0 8 ((h9 k0 8) + (1 : Int32))) (fun h10 =>
        (bnd (oq k0 h10) (fun r11 h12 =>
        (if r8 = (42 : Int32) then
          (seqi (v6 * r11) (fun v13 =>
          (F_X7_product_5 oq N k0 kt n v13 h12)))
        else
          (if r11 = 0 then
            (F_X7_product_5 oq N k0 kt n (0 : Int32) h12)
          else
            (if r8 = (47 : Int32) then
              (gnz r11
              (seqi (v6 / r11) (fun v14 =>
              (F_X7_product_5 oq N k0 kt n v14 h12))))
            else
              (gnz r11
              (seqi (irm v6 r11) (fun v15 =>
              (F_X7_product_5 oq N k0 kt n v15 h12)))))))))))))) (fun j5 =>
        (if r3 = (42 : Int32) then
          (j5 u1 h4)
        else
          (bnd (F_X7_byteAt k0 (h4 k0 8) h4) (fun r16 h17 =>
          (if r16 = (47 : Int32) then
            (j5 u1 h17)
          else
            (bnd (F_X7_byteAt k0 (h17 k0 8) h17) (fun r18 h19 =>
            (if r18 = (37 : Int32) then
              (j5 u1 h19)
            else
              (kt u1 h19)))))))))))))
set_option maxRecDepth 10000 in
set_option maxHeartbeats 1000000 in
theorem okL_X7_product_5 {l : Launch} {ω : WX} {χ : KT} {d : Nat} (K : Kok ω χ "SaltCloudsModel" cX7_product 4 (some .int) d) {oq : Nat → Mem → Option (Int32 × Mem)} {dq : Nat} (hq : ∀ {k0 : Nat} (hk0 : lay k0 = 7) (h : Mem), MC rvI l ω yX7_factor cX7_factor 3 (some .int) dq [.ref (ω.1 + k0)] h (oq k0 h)) (hd : (dq + 1) ≤ d) (N : Nat) {k0 : Nat} (hk0 : lay k0 = 7) {kt : Int32 → Mem → Option (Int32 × Mem)} (hK : ∀ (u1 : Int32) (h : Mem), J (ZM rvI ω χ) l ω χ 114 4 [(1, .int u1)] [] h (kt u1 h)) : ∀ (n : Nat) (u1 : Int32) (h : Mem), J (ZM rvI ω χ) l ω χ 5 4 [(0, .ref (ω.1 + k0)), (1, .int u1)] [] h (F_X7_product_5 oq N k0 kt n u1 h) := by
  intro n
  induction n with
  | zero =>
    intro u1 h
    exact J_none rfl
  | succ n ih =>
    intro u1 h
    rw [F_X7_product_5]
    refine J_aload_n (pc := 5) K dX7_product_5 0 rfl 0 rfl ?_
    refine J_getI (pc := 6) K gf_SaltCloudsModel_111 hk0 rfl dX7_product_6 ?_
    refine J_if_eq (pc := 9) K 114 dX7_product_9 (by decide) ?_ ?_
    · refine J_lv [1] [(1, .int u1)] rfl ?_
      exact hK u1 h
    · refine J_aload_n (pc := 12) K dX7_product_12 0 rfl 0 rfl ?_
      refine J_aload_n (pc := 13) K dX7_product_13 0 rfl 0 rfl ?_
      refine J_getI (pc := 14) K gf_SaltCloudsModel_115 hk0 rfl dX7_product_14 ?_
      refine J_callVI (As := [.int (h k0 8)]) (rest := []) (pc := 17) K cs_SaltCloudsModel_118 (ok_X7_byteAt l ω hk0 (h k0 8) h) hk0 (by omega) rfl rfl (Nat.le_of_ble_eq_true rfl) dX7_product_17 (fun r3 h4 => ?_)
      refine J_bipush (pc := 20) K (42) dX7_product_20 (by decide) ?_
      refine J_jn (fun j5 => ∀ (v6 : Int32) (h7 : Mem), J (ZM rvI ω χ) l ω χ 51 4 [(0, .ref (ω.1 + k0)), (1, .int v6)] [] h7 (j5 v6 h7)) ?_ ?_
      · intro v6 h7
        refine J_aload_n (pc := 51) K dX7_product_51 0 rfl 0 rfl ?_
        refine J_aload_n (pc := 52) K dX7_product_52 0 rfl 0 rfl ?_
        refine J_getI (pc := 53) K gf_SaltCloudsModel_115 hk0 rfl dX7_product_53 ?_
        refine J_callVI (As := [.int (h7 k0 8)]) (rest := []) (pc := 56) K cs_SaltCloudsModel_118 (ok_X7_byteAt l ω hk0 (h7 k0 8) h7) hk0 (by omega) rfl rfl (Nat.le_of_ble_eq_true rfl) dX7_product_56 (fun r8 h9 => ?_)
        refine J_istore_n (pc := 59) K dX7_product_59 2 rfl (by decide) [(2, .int r8), (0, .ref (ω.1 + k0)), (1, .int v6)] rfl ?_
        refine J_aload_n (pc := 60) K dX7_product_60 0 rfl 1 rfl ?_
        refine J_dup (pc := 61) K dX7_product_61 rfl ?_
        refine J_getI (pc := 62) K gf_SaltCloudsModel_115 hk0 rfl dX7_product_62 ?_
        refine J_iconst (pc := 65) K (1) dX7_product_65 (by decide) ?_
        refine J_iadd (pc := 66) K dX7_product_66 ?_
        refine J_putI (pc := 67) K gf_SaltCloudsModel_115 hk0 (by decide) rfl dX7_product_67 (fun h10 => ?_)
        refine J_aload_n (pc := 70) K dX7_product_70 0 rfl 1 rfl ?_
        refine J_callVI (As := []) (rest := []) (pc := 71) K cs_SaltCloudsModel_145 (hq hk0 h10) hk0 (by omega) rfl rfl (Nat.le_of_ble_eq_true rfl) dX7_product_71 (fun r11 h12 => ?_)
        refine J_istore_n (pc := 74) K dX7_product_74 3 rfl (by decide) [(3, .int r11), (2, .int r8), (0, .ref (ω.1 + k0)), (1, .int v6)] rfl ?_
        refine J_iload_n (pc := 75) K dX7_product_75 2 rfl 1 rfl ?_
        refine J_bipush (pc := 76) K (42) dX7_product_76 (by decide) ?_
        refine J_icmp_ne (pc := 78) K 87 dX7_product_78 (by decide) ?_ ?_
        · refine J_iload_n (pc := 81) K dX7_product_81 1 rfl 3 rfl ?_
          refine J_iload_n (pc := 82) K dX7_product_82 3 rfl 0 rfl ?_
          refine J_imul (pc := 83) K dX7_product_83 ?_
          refine J_goto (pc := 84) K 110 dX7_product_84 (by decide) ?_
          refine J_topi (fun v13 => ?_)
          refine J_istore_n (pc := 110) K dX7_product_110 1 rfl (by decide) [(1, .int v13), (3, .int r11), (2, .int r8), (0, .ref (ω.1 + k0))] rfl ?_
          refine J_goto (pc := 111) K 5 dX7_product_111 (by decide) ?_
          refine J_lv [3, 0] [(0, .ref (ω.1 + k0)), (1, .int v13)] rfl ?_
          exact ih v13 h12
        · refine J_iload_n (pc := 87) K dX7_product_87 3 rfl 0 rfl ?_
          refine J_if_ne (pc := 88) K 95 dX7_product_88 (by decide) ?_ ?_
          · refine J_iconst (pc := 91) K (0) dX7_product_91 (by decide) ?_
            refine J_goto (pc := 92) K 110 dX7_product_92 (by decide) ?_
            refine J_istore_n (pc := 110) K dX7_product_110 1 rfl (by decide) [(1, .int (0 : Int32)), (3, .int r11), (2, .int r8), (0, .ref (ω.1 + k0))] rfl ?_
            refine J_goto (pc := 111) K 5 dX7_product_111 (by decide) ?_
            refine J_lv [3, 0] [(0, .ref (ω.1 + k0)), (1, .int (0 : Int32))] rfl ?_
            exact ih (0 : Int32) h12
          · refine J_iload_n (pc := 95) K dX7_product_95 2 rfl 1 rfl ?_
            refine J_bipush (pc := 96) K (47) dX7_product_96 (by decide) ?_
            refine J_icmp_ne (pc := 98) K 107 dX7_product_98 (by decide) ?_ ?_
            · refine J_iload_n (pc := 101) K dX7_product_101 1 rfl 3 rfl ?_
              refine J_iload_n (pc := 102) K dX7_product_102 3 rfl 0 rfl ?_
              refine J_idiv (pc := 103) K dX7_product_103 ?_
              refine J_goto (pc := 104) K 110 dX7_product_104 (by decide) ?_
              refine J_topi (fun v14 => ?_)
              refine J_istore_n (pc := 110) K dX7_product_110 1 rfl (by decide) [(1, .int v14), (3, .int r11), (2, .int r8), (0, .ref (ω.1 + k0))] rfl ?_
              refine J_goto (pc := 111) K 5 dX7_product_111 (by decide) ?_
              refine J_lv [3, 0] [(0, .ref (ω.1 + k0)), (1, .int v14)] rfl ?_
              exact ih v14 h12
            · refine J_iload_n (pc := 107) K dX7_product_107 1 rfl 3 rfl ?_
              refine J_iload_n (pc := 108) K dX7_product_108 3 rfl 0 rfl ?_
              refine J_irem (pc := 109) K dX7_product_109 ?_
              refine J_topi (fun v15 => ?_)
              refine J_istore_n (pc := 110) K dX7_product_110 1 rfl (by decide) [(1, .int v15), (3, .int r11), (2, .int r8), (0, .ref (ω.1 + k0))] rfl ?_
              refine J_goto (pc := 111) K 5 dX7_product_111 (by decide) ?_
              refine J_lv [3, 0] [(0, .ref (ω.1 + k0)), (1, .int v15)] rfl ?_
              exact ih v15 h12
      · intro j5 hj5
        refine J_icmp_eq (pc := 22) K 51 dX7_product_22 (by decide) ?_ ?_
        · exact hj5 u1 h4
        · refine J_aload_n (pc := 25) K dX7_product_25 0 rfl 0 rfl ?_
          refine J_aload_n (pc := 26) K dX7_product_26 0 rfl 0 rfl ?_
          refine J_getI (pc := 27) K gf_SaltCloudsModel_115 hk0 rfl dX7_product_27 ?_
          refine J_callVI (As := [.int (h4 k0 8)]) (rest := []) (pc := 30) K cs_SaltCloudsModel_118 (ok_X7_byteAt l ω hk0 (h4 k0 8) h4) hk0 (by omega) rfl rfl (Nat.le_of_ble_eq_true rfl) dX7_product_30 (fun r16 h17 => ?_)
          refine J_bipush (pc := 33) K (47) dX7_product_33 (by decide) ?_
          refine J_icmp_eq (pc := 35) K 51 dX7_product_35 (by decide) ?_ ?_
          · exact hj5 u1 h17
          · refine J_aload_n (pc := 38) K dX7_product_38 0 rfl 0 rfl ?_
            refine J_aload_n (pc := 39) K dX7_product_39 0 rfl 0 rfl ?_
            refine J_getI (pc := 40) K gf_SaltCloudsModel_115 hk0 rfl dX7_product_40 ?_
            refine J_callVI (As := [.int (h17 k0 8)]) (rest := []) (pc := 43) K cs_SaltCloudsModel_118 (ok_X7_byteAt l ω hk0 (h17 k0 8) h17) hk0 (by omega) rfl rfl (Nat.le_of_ble_eq_true rfl) dX7_product_43 (fun r18 h19 => ?_)
            refine J_bipush (pc := 46) K (37) dX7_product_46 (by decide) ?_
            refine J_icmp_ne (pc := 48) K 114 dX7_product_48 (by decide) ?_ ?_
            · exact hj5 u1 h19
            · refine J_lv [1] [(1, .int u1)] rfl ?_
              exact hK u1 h19
def F_X7_product (oq : Nat → Mem → Option (Int32 × Mem)) (N : Nat) (k0 : Nat) (h : Mem) : Option (Int32 × Mem) :=
  (bnd (oq k0 h) (fun r1 h2 =>
  (F_X7_product_5 oq N k0 (fun (v20 : Int32) (h21 : Mem) =>
    (some (v20, h21))) N r1 h2)))
set_option maxRecDepth 10000 in
set_option maxHeartbeats 1000000 in
theorem ok_X7_product (l : Launch) (ω : WX) {oq : Nat → Mem → Option (Int32 × Mem)} {dq : Nat} (hq : ∀ {k0 : Nat} (hk0 : lay k0 = 7) (h : Mem), MC rvI l ω yX7_factor cX7_factor 3 (some .int) dq [.ref (ω.1 + k0)] h (oq k0 h)) (N : Nat) {k0 : Nat} (hk0 : lay k0 = 7) (h : Mem) : MC rvI l ω yX7_product cX7_product 4 (some .int) (dq + 1) [.ref (ω.1 + k0)] h (F_X7_product oq N k0 h) := by
  refine MC.of (by decide +kernel) [(0, .ref (ω.1 + k0))] rfl (Nat.le_of_ble_eq_true rfl) (fun χ K => ?_)
  have K : Kok ω χ "SaltCloudsModel" cX7_product 4 (some .int) (dq + 1) := K
  unfold F_X7_product
  refine J_aload_n (pc := 0) K dX7_product_0 0 rfl 0 rfl ?_
  refine J_callVI (As := []) (rest := []) (pc := 1) K cs_SaltCloudsModel_145 (hq hk0 h) hk0 (by omega) rfl rfl (Nat.le_of_ble_eq_true rfl) dX7_product_1 (fun r1 h2 => ?_)
  refine J_istore_n (pc := 4) K dX7_product_4 1 rfl (by decide) [(1, .int r1), (0, .ref (ω.1 + k0))] rfl ?_
  refine J_lv [1, 0] [(0, .ref (ω.1 + k0)), (1, .int r1)] rfl ?_
  refine okL_X7_product_5 K hq (by omega) N hk0 (fun v20 h21 => ?_) _ _ _
  refine J_iload_n (pc := 114) K dX7_product_114 1 rfl 0 rfl ?_
  exact J_iret (pc := 115) K dX7_product_115
def F_X7_sum_5 (oq : Nat → Mem → Option (Int32 × Mem)) (N : Nat) (k0 : Nat) (kt : Int32 → Mem → Option (Int32 × Mem)) : Nat → Int32 → Mem → Option (Int32 × Mem)
  | 0, _, _ => none
  | n + 1, u1, h =>
    (if (h k0 14) = 0 then
      (kt u1 h)
    else
      (bnd (F_X7_byteAt k0 (h k0 8) h) (fun r3 h4 =>
      (jn (fun (v6 : Int32) (h7 : Mem) =>
        (bnd (F_X7_byteAt k0 (h7 k0 8) h7) (fun r8 h9 =>
        (seqh (upm h9 k0 8 ((h9 k0 8) + (1 : Int32))) (fun h10 =>
        (bnd (F_X7_product oq N k0 h10) (fun r11 h12 =>
        (if r8 = (43 : Int32) then
          (seqi (v6 + r11) (fun v13 =>
          (F_X7_sum_5 oq N k0 kt n v13 h12)))
        else
          (seqi (v6 - r11) (fun v14 =>
          (F_X7_sum_5 oq N k0 kt n v14 h12))))))))))) (fun j5 =>
        (if r3 = (43 : Int32) then
          (j5 u1 h4)
        else
          (bnd (F_X7_byteAt k0 (h4 k0 8) h4) (fun r15 h16 =>
          (if r15 = (45 : Int32) then
            (j5 u1 h16)
          else
            (kt u1 h16))))))))))
set_option maxRecDepth 10000 in
set_option maxHeartbeats 1000000 in
theorem okL_X7_sum_5 {l : Launch} {ω : WX} {χ : KT} {d : Nat} (K : Kok ω χ "SaltCloudsModel" cX7_sum 4 (some .int) d) {oq : Nat → Mem → Option (Int32 × Mem)} {dq : Nat} (hq : ∀ {k0 : Nat} (hk0 : lay k0 = 7) (h : Mem), MC rvI l ω yX7_factor cX7_factor 3 (some .int) dq [.ref (ω.1 + k0)] h (oq k0 h)) (hd : (dq + 2) ≤ d) (N : Nat) {k0 : Nat} (hk0 : lay k0 = 7) {kt : Int32 → Mem → Option (Int32 × Mem)} (hK : ∀ (u1 : Int32) (h : Mem), J (ZM rvI ω χ) l ω χ 81 4 [(1, .int u1)] [] h (kt u1 h)) : ∀ (n : Nat) (u1 : Int32) (h : Mem), J (ZM rvI ω χ) l ω χ 5 4 [(0, .ref (ω.1 + k0)), (1, .int u1)] [] h (F_X7_sum_5 oq N k0 kt n u1 h) := by
  intro n
  induction n with
  | zero =>
    intro u1 h
    exact J_none rfl
  | succ n ih =>
    intro u1 h
    rw [F_X7_sum_5]
    refine J_aload_n (pc := 5) K dX7_sum_5 0 rfl 0 rfl ?_
    refine J_getI (pc := 6) K gf_SaltCloudsModel_111 hk0 rfl dX7_sum_6 ?_
    refine J_if_eq (pc := 9) K 81 dX7_sum_9 (by decide) ?_ ?_
    · refine J_lv [1] [(1, .int u1)] rfl ?_
      exact hK u1 h
    · refine J_aload_n (pc := 12) K dX7_sum_12 0 rfl 0 rfl ?_
      refine J_aload_n (pc := 13) K dX7_sum_13 0 rfl 0 rfl ?_
      refine J_getI (pc := 14) K gf_SaltCloudsModel_115 hk0 rfl dX7_sum_14 ?_
      refine J_callVI (As := [.int (h k0 8)]) (rest := []) (pc := 17) K cs_SaltCloudsModel_118 (ok_X7_byteAt l ω hk0 (h k0 8) h) hk0 (by omega) rfl rfl (Nat.le_of_ble_eq_true rfl) dX7_sum_17 (fun r3 h4 => ?_)
      refine J_bipush (pc := 20) K (43) dX7_sum_20 (by decide) ?_
      refine J_jn (fun j5 => ∀ (v6 : Int32) (h7 : Mem), J (ZM rvI ω χ) l ω χ 38 4 [(0, .ref (ω.1 + k0)), (1, .int v6)] [] h7 (j5 v6 h7)) ?_ ?_
      · intro v6 h7
        refine J_aload_n (pc := 38) K dX7_sum_38 0 rfl 0 rfl ?_
        refine J_aload_n (pc := 39) K dX7_sum_39 0 rfl 0 rfl ?_
        refine J_getI (pc := 40) K gf_SaltCloudsModel_115 hk0 rfl dX7_sum_40 ?_
        refine J_callVI (As := [.int (h7 k0 8)]) (rest := []) (pc := 43) K cs_SaltCloudsModel_118 (ok_X7_byteAt l ω hk0 (h7 k0 8) h7) hk0 (by omega) rfl rfl (Nat.le_of_ble_eq_true rfl) dX7_sum_43 (fun r8 h9 => ?_)
        refine J_istore_n (pc := 46) K dX7_sum_46 2 rfl (by decide) [(2, .int r8), (0, .ref (ω.1 + k0)), (1, .int v6)] rfl ?_
        refine J_aload_n (pc := 47) K dX7_sum_47 0 rfl 1 rfl ?_
        refine J_dup (pc := 48) K dX7_sum_48 rfl ?_
        refine J_getI (pc := 49) K gf_SaltCloudsModel_115 hk0 rfl dX7_sum_49 ?_
        refine J_iconst (pc := 52) K (1) dX7_sum_52 (by decide) ?_
        refine J_iadd (pc := 53) K dX7_sum_53 ?_
        refine J_putI (pc := 54) K gf_SaltCloudsModel_115 hk0 (by decide) rfl dX7_sum_54 (fun h10 => ?_)
        refine J_aload_n (pc := 57) K dX7_sum_57 0 rfl 1 rfl ?_
        refine J_callVI (As := []) (rest := []) (pc := 58) K cs_SaltCloudsModel_151 (ok_X7_product l ω hq N hk0 h10) hk0 (by omega) rfl rfl (Nat.le_of_ble_eq_true rfl) dX7_sum_58 (fun r11 h12 => ?_)
        refine J_istore_n (pc := 61) K dX7_sum_61 3 rfl (by decide) [(3, .int r11), (2, .int r8), (0, .ref (ω.1 + k0)), (1, .int v6)] rfl ?_
        refine J_iload_n (pc := 62) K dX7_sum_62 2 rfl 1 rfl ?_
        refine J_bipush (pc := 63) K (43) dX7_sum_63 (by decide) ?_
        refine J_icmp_ne (pc := 65) K 74 dX7_sum_65 (by decide) ?_ ?_
        · refine J_iload_n (pc := 68) K dX7_sum_68 1 rfl 3 rfl ?_
          refine J_iload_n (pc := 69) K dX7_sum_69 3 rfl 0 rfl ?_
          refine J_iadd (pc := 70) K dX7_sum_70 ?_
          refine J_goto (pc := 71) K 77 dX7_sum_71 (by decide) ?_
          refine J_topi (fun v13 => ?_)
          refine J_istore_n (pc := 77) K dX7_sum_77 1 rfl (by decide) [(1, .int v13), (3, .int r11), (2, .int r8), (0, .ref (ω.1 + k0))] rfl ?_
          refine J_goto (pc := 78) K 5 dX7_sum_78 (by decide) ?_
          refine J_lv [3, 0] [(0, .ref (ω.1 + k0)), (1, .int v13)] rfl ?_
          exact ih v13 h12
        · refine J_iload_n (pc := 74) K dX7_sum_74 1 rfl 3 rfl ?_
          refine J_iload_n (pc := 75) K dX7_sum_75 3 rfl 0 rfl ?_
          refine J_isub (pc := 76) K dX7_sum_76 ?_
          refine J_topi (fun v14 => ?_)
          refine J_istore_n (pc := 77) K dX7_sum_77 1 rfl (by decide) [(1, .int v14), (3, .int r11), (2, .int r8), (0, .ref (ω.1 + k0))] rfl ?_
          refine J_goto (pc := 78) K 5 dX7_sum_78 (by decide) ?_
          refine J_lv [3, 0] [(0, .ref (ω.1 + k0)), (1, .int v14)] rfl ?_
          exact ih v14 h12
      · intro j5 hj5
        refine J_icmp_eq (pc := 22) K 38 dX7_sum_22 (by decide) ?_ ?_
        · exact hj5 u1 h4
        · refine J_aload_n (pc := 25) K dX7_sum_25 0 rfl 0 rfl ?_
          refine J_aload_n (pc := 26) K dX7_sum_26 0 rfl 0 rfl ?_
          refine J_getI (pc := 27) K gf_SaltCloudsModel_115 hk0 rfl dX7_sum_27 ?_
          refine J_callVI (As := [.int (h4 k0 8)]) (rest := []) (pc := 30) K cs_SaltCloudsModel_118 (ok_X7_byteAt l ω hk0 (h4 k0 8) h4) hk0 (by omega) rfl rfl (Nat.le_of_ble_eq_true rfl) dX7_sum_30 (fun r15 h16 => ?_)
          refine J_bipush (pc := 33) K (45) dX7_sum_33 (by decide) ?_
          refine J_icmp_ne (pc := 35) K 81 dX7_sum_35 (by decide) ?_ ?_
          · exact hj5 u1 h16
          · refine J_lv [1] [(1, .int u1)] rfl ?_
            exact hK u1 h16
def F_X7_sum (oq : Nat → Mem → Option (Int32 × Mem)) (N : Nat) (k0 : Nat) (h : Mem) : Option (Int32 × Mem) :=
  (bnd (F_X7_product oq N k0 h) (fun r1 h2 =>
  (F_X7_sum_5 oq N k0 (fun (v17 : Int32) (h18 : Mem) =>
    (some (v17, h18))) N r1 h2)))
set_option maxRecDepth 10000 in
set_option maxHeartbeats 1000000 in
theorem ok_X7_sum (l : Launch) (ω : WX) {oq : Nat → Mem → Option (Int32 × Mem)} {dq : Nat} (hq : ∀ {k0 : Nat} (hk0 : lay k0 = 7) (h : Mem), MC rvI l ω yX7_factor cX7_factor 3 (some .int) dq [.ref (ω.1 + k0)] h (oq k0 h)) (N : Nat) {k0 : Nat} (hk0 : lay k0 = 7) (h : Mem) : MC rvI l ω yX7_sum cX7_sum 4 (some .int) (dq + 2) [.ref (ω.1 + k0)] h (F_X7_sum oq N k0 h) := by
  refine MC.of (by decide +kernel) [(0, .ref (ω.1 + k0))] rfl (Nat.le_of_ble_eq_true rfl) (fun χ K => ?_)
  have K : Kok ω χ "SaltCloudsModel" cX7_sum 4 (some .int) (dq + 2) := K
  unfold F_X7_sum
  refine J_aload_n (pc := 0) K dX7_sum_0 0 rfl 0 rfl ?_
  refine J_callVI (As := []) (rest := []) (pc := 1) K cs_SaltCloudsModel_151 (ok_X7_product l ω hq N hk0 h) hk0 (by omega) rfl rfl (Nat.le_of_ble_eq_true rfl) dX7_sum_1 (fun r1 h2 => ?_)
  refine J_istore_n (pc := 4) K dX7_sum_4 1 rfl (by decide) [(1, .int r1), (0, .ref (ω.1 + k0))] rfl ?_
  refine J_lv [1, 0] [(0, .ref (ω.1 + k0)), (1, .int r1)] rfl ?_
  refine okL_X7_sum_5 K hq (by omega) N hk0 (fun v17 h18 => ?_) _ _ _
  refine J_iload_n (pc := 81) K dX7_sum_81 1 rfl 0 rfl ?_
  exact J_iret (pc := 82) K dX7_sum_82
def F_X7_compared (oq : Nat → Mem → Option (Int32 × Mem)) (N : Nat) (k0 : Nat) (h : Mem) : Option (Int32 × Mem) :=
  (bnd (F_X7_sum oq N k0 h) (fun r1 h2 =>
  (jn (fun (s4 : Int32) (h5 : Mem) =>
    (jn (fun (h7 : Mem) =>
      (seqh (upm h7 k0 8 ((h7 k0 8) + (1 : Int32))) (fun h8 =>
      (bnd (F_X7_sum oq N k0 h8) (fun r9 h10 =>
      (if s4 = (60 : Int32) then
        (if r9 ≤ r1 then
          (if (0 : Int32) = 0 then
            (some ((0 : Int32), h10))
          else
            (some ((1 : Int32), h10)))
        else
          (if (1 : Int32) = 0 then
            (some ((0 : Int32), h10))
          else
            (some ((1 : Int32), h10))))
      else
        (if s4 = (61 : Int32) then
          (if r1 = r9 then
            (if (1 : Int32) = 0 then
              (some ((0 : Int32), h10))
            else
              (some ((1 : Int32), h10)))
          else
            (if (0 : Int32) = 0 then
              (some ((0 : Int32), h10))
            else
              (some ((1 : Int32), h10))))
        else
          (if r1 ≤ r9 then
            (if (0 : Int32) = 0 then
              (some ((0 : Int32), h10))
            else
              (some ((1 : Int32), h10)))
          else
            (if (1 : Int32) = 0 then
              (some ((0 : Int32), h10))
            else
              (some ((1 : Int32), h10))))))))))) (fun j6 =>
      (if s4 = (60 : Int32) then
        (j6 h5)
      else
        (if s4 = (61 : Int32) then
          (j6 h5)
        else
          (if s4 = (62 : Int32) then
            (j6 h5)
          else
            (some (r1, h5)))))))) (fun j3 =>
    (if (h2 k0 14) = 0 then
      (j3 (-1 : Int32) h2)
    else
      (bnd (F_X7_byteAt k0 (h2 k0 8) h2) (fun r11 h12 =>
      (j3 r11 h12))))))))
set_option maxRecDepth 10000 in
set_option maxHeartbeats 1000000 in
theorem ok_X7_compared (l : Launch) (ω : WX) {oq : Nat → Mem → Option (Int32 × Mem)} {dq : Nat} (hq : ∀ {k0 : Nat} (hk0 : lay k0 = 7) (h : Mem), MC rvI l ω yX7_factor cX7_factor 3 (some .int) dq [.ref (ω.1 + k0)] h (oq k0 h)) (N : Nat) {k0 : Nat} (hk0 : lay k0 = 7) (h : Mem) : MC rvI l ω yX7_compared cX7_compared 5 (some .int) (dq + 3) [.ref (ω.1 + k0)] h (F_X7_compared oq N k0 h) := by
  refine MC.of (by decide +kernel) [(0, .ref (ω.1 + k0))] rfl (Nat.le_of_ble_eq_true rfl) (fun χ K => ?_)
  have K : Kok ω χ "SaltCloudsModel" cX7_compared 5 (some .int) (dq + 3) := K
  unfold F_X7_compared
  refine J_aload_n (pc := 0) K dX7_compared_0 0 rfl 0 rfl ?_
  refine J_callVI (As := []) (rest := []) (pc := 1) K cs_SaltCloudsModel_154 (ok_X7_sum l ω hq N hk0 h) hk0 (by omega) rfl rfl (Nat.le_of_ble_eq_true rfl) dX7_compared_1 (fun r1 h2 => ?_)
  refine J_istore_n (pc := 4) K dX7_compared_4 1 rfl (by decide) [(1, .int r1), (0, .ref (ω.1 + k0))] rfl ?_
  refine J_aload_n (pc := 5) K dX7_compared_5 0 rfl 1 rfl ?_
  refine J_getI (pc := 6) K gf_SaltCloudsModel_111 hk0 rfl dX7_compared_6 ?_
  refine J_jn (fun j3 => ∀ (s4 : Int32) (h5 : Mem), J (ZM rvI ω χ) l ω χ 24 5 [(0, .ref (ω.1 + k0)), (1, .int r1)] [.int s4] h5 (j3 s4 h5)) ?_ ?_
  · intro s4 h5
    refine J_istore_n (pc := 24) K dX7_compared_24 2 rfl (by decide) [(2, .int s4), (0, .ref (ω.1 + k0)), (1, .int r1)] rfl ?_
    refine J_iload_n (pc := 25) K dX7_compared_25 2 rfl 0 rfl ?_
    refine J_bipush (pc := 26) K (60) dX7_compared_26 (by decide) ?_
    refine J_jn (fun j6 => ∀ (h7 : Mem), J (ZM rvI ω χ) l ω χ 45 5 [(0, .ref (ω.1 + k0)), (1, .int r1), (2, .int s4)] [] h7 (j6 h7)) ?_ ?_
    · intro h7
      refine J_aload_n (pc := 45) K dX7_compared_45 0 rfl 0 rfl ?_
      refine J_dup (pc := 46) K dX7_compared_46 rfl ?_
      refine J_getI (pc := 47) K gf_SaltCloudsModel_115 hk0 rfl dX7_compared_47 ?_
      refine J_iconst (pc := 50) K (1) dX7_compared_50 (by decide) ?_
      refine J_iadd (pc := 51) K dX7_compared_51 ?_
      refine J_putI (pc := 52) K gf_SaltCloudsModel_115 hk0 (by decide) rfl dX7_compared_52 (fun h8 => ?_)
      refine J_aload_n (pc := 55) K dX7_compared_55 0 rfl 0 rfl ?_
      refine J_callVI (As := []) (rest := []) (pc := 56) K cs_SaltCloudsModel_154 (ok_X7_sum l ω hq N hk0 h8) hk0 (by omega) rfl rfl (Nat.le_of_ble_eq_true rfl) dX7_compared_56 (fun r9 h10 => ?_)
      refine J_istore_n (pc := 59) K dX7_compared_59 3 rfl (by decide) [(3, .int r9), (0, .ref (ω.1 + k0)), (1, .int r1), (2, .int s4)] rfl ?_
      refine J_iload_n (pc := 60) K dX7_compared_60 2 rfl 3 rfl ?_
      refine J_bipush (pc := 61) K (60) dX7_compared_61 (by decide) ?_
      refine J_icmp_ne (pc := 63) K 79 dX7_compared_63 (by decide) ?_ ?_
      · refine J_iload_n (pc := 66) K dX7_compared_66 1 rfl 2 rfl ?_
        refine J_iload_n (pc := 67) K dX7_compared_67 3 rfl 0 rfl ?_
        refine J_icmp_ge (pc := 68) K 75 dX7_compared_68 (by decide) ?_ ?_
        · refine J_iconst (pc := 75) K (0) dX7_compared_75 (by decide) ?_
          refine J_goto (pc := 76) K 108 dX7_compared_76 (by decide) ?_
          refine J_istore (pc := 108) K dX7_compared_108 (by decide) [(4, .int (0 : Int32)), (3, .int r9), (0, .ref (ω.1 + k0)), (1, .int r1), (2, .int s4)] rfl ?_
          refine J_iload (pc := 110) K dX7_compared_110 0 rfl ?_
          refine J_if_eq (pc := 112) K 119 dX7_compared_112 (by decide) ?_ ?_
          · refine J_iconst (pc := 119) K (0) dX7_compared_119 (by decide) ?_
            exact J_iret (pc := 120) K dX7_compared_120
          · refine J_iconst (pc := 115) K (1) dX7_compared_115 (by decide) ?_
            refine J_goto (pc := 116) K 120 dX7_compared_116 (by decide) ?_
            exact J_iret (pc := 120) K dX7_compared_120
        · refine J_iconst (pc := 71) K (1) dX7_compared_71 (by decide) ?_
          refine J_goto (pc := 72) K 108 dX7_compared_72 (by decide) ?_
          refine J_istore (pc := 108) K dX7_compared_108 (by decide) [(4, .int (1 : Int32)), (3, .int r9), (0, .ref (ω.1 + k0)), (1, .int r1), (2, .int s4)] rfl ?_
          refine J_iload (pc := 110) K dX7_compared_110 0 rfl ?_
          refine J_if_eq (pc := 112) K 119 dX7_compared_112 (by decide) ?_ ?_
          · refine J_iconst (pc := 119) K (0) dX7_compared_119 (by decide) ?_
            exact J_iret (pc := 120) K dX7_compared_120
          · refine J_iconst (pc := 115) K (1) dX7_compared_115 (by decide) ?_
            refine J_goto (pc := 116) K 120 dX7_compared_116 (by decide) ?_
            exact J_iret (pc := 120) K dX7_compared_120
      · refine J_iload_n (pc := 79) K dX7_compared_79 2 rfl 3 rfl ?_
        refine J_bipush (pc := 80) K (61) dX7_compared_80 (by decide) ?_
        refine J_icmp_ne (pc := 82) K 98 dX7_compared_82 (by decide) ?_ ?_
        · refine J_iload_n (pc := 85) K dX7_compared_85 1 rfl 2 rfl ?_
          refine J_iload_n (pc := 86) K dX7_compared_86 3 rfl 0 rfl ?_
          refine J_icmp_ne (pc := 87) K 94 dX7_compared_87 (by decide) ?_ ?_
          · refine J_iconst (pc := 90) K (1) dX7_compared_90 (by decide) ?_
            refine J_goto (pc := 91) K 108 dX7_compared_91 (by decide) ?_
            refine J_istore (pc := 108) K dX7_compared_108 (by decide) [(4, .int (1 : Int32)), (3, .int r9), (0, .ref (ω.1 + k0)), (1, .int r1), (2, .int s4)] rfl ?_
            refine J_iload (pc := 110) K dX7_compared_110 0 rfl ?_
            refine J_if_eq (pc := 112) K 119 dX7_compared_112 (by decide) ?_ ?_
            · refine J_iconst (pc := 119) K (0) dX7_compared_119 (by decide) ?_
              exact J_iret (pc := 120) K dX7_compared_120
            · refine J_iconst (pc := 115) K (1) dX7_compared_115 (by decide) ?_
              refine J_goto (pc := 116) K 120 dX7_compared_116 (by decide) ?_
              exact J_iret (pc := 120) K dX7_compared_120
          · refine J_iconst (pc := 94) K (0) dX7_compared_94 (by decide) ?_
            refine J_goto (pc := 95) K 108 dX7_compared_95 (by decide) ?_
            refine J_istore (pc := 108) K dX7_compared_108 (by decide) [(4, .int (0 : Int32)), (3, .int r9), (0, .ref (ω.1 + k0)), (1, .int r1), (2, .int s4)] rfl ?_
            refine J_iload (pc := 110) K dX7_compared_110 0 rfl ?_
            refine J_if_eq (pc := 112) K 119 dX7_compared_112 (by decide) ?_ ?_
            · refine J_iconst (pc := 119) K (0) dX7_compared_119 (by decide) ?_
              exact J_iret (pc := 120) K dX7_compared_120
            · refine J_iconst (pc := 115) K (1) dX7_compared_115 (by decide) ?_
              refine J_goto (pc := 116) K 120 dX7_compared_116 (by decide) ?_
              exact J_iret (pc := 120) K dX7_compared_120
        · refine J_iload_n (pc := 98) K dX7_compared_98 1 rfl 2 rfl ?_
          refine J_iload_n (pc := 99) K dX7_compared_99 3 rfl 0 rfl ?_
          refine J_icmp_le (pc := 100) K 107 dX7_compared_100 (by decide) ?_ ?_
          · refine J_iconst (pc := 107) K (0) dX7_compared_107 (by decide) ?_
            refine J_istore (pc := 108) K dX7_compared_108 (by decide) [(4, .int (0 : Int32)), (3, .int r9), (0, .ref (ω.1 + k0)), (1, .int r1), (2, .int s4)] rfl ?_
            refine J_iload (pc := 110) K dX7_compared_110 0 rfl ?_
            refine J_if_eq (pc := 112) K 119 dX7_compared_112 (by decide) ?_ ?_
            · refine J_iconst (pc := 119) K (0) dX7_compared_119 (by decide) ?_
              exact J_iret (pc := 120) K dX7_compared_120
            · refine J_iconst (pc := 115) K (1) dX7_compared_115 (by decide) ?_
              refine J_goto (pc := 116) K 120 dX7_compared_116 (by decide) ?_
              exact J_iret (pc := 120) K dX7_compared_120
          · refine J_iconst (pc := 103) K (1) dX7_compared_103 (by decide) ?_
            refine J_goto (pc := 104) K 108 dX7_compared_104 (by decide) ?_
            refine J_istore (pc := 108) K dX7_compared_108 (by decide) [(4, .int (1 : Int32)), (3, .int r9), (0, .ref (ω.1 + k0)), (1, .int r1), (2, .int s4)] rfl ?_
            refine J_iload (pc := 110) K dX7_compared_110 0 rfl ?_
            refine J_if_eq (pc := 112) K 119 dX7_compared_112 (by decide) ?_ ?_
            · refine J_iconst (pc := 119) K (0) dX7_compared_119 (by decide) ?_
              exact J_iret (pc := 120) K dX7_compared_120
            · refine J_iconst (pc := 115) K (1) dX7_compared_115 (by decide) ?_
              refine J_goto (pc := 116) K 120 dX7_compared_116 (by decide) ?_
              exact J_iret (pc := 120) K dX7_compared_120
    · intro j6 hj6
      refine J_icmp_eq (pc := 28) K 45 dX7_compared_28 (by decide) ?_ ?_
      · refine J_lv [1, 2, 0] [(0, .ref (ω.1 + k0)), (1, .int r1), (2, .int s4)] rfl ?_
        exact hj6 h5
      · refine J_iload_n (pc := 31) K dX7_compared_31 2 rfl 0 rfl ?_
        refine J_bipush (pc := 32) K (61) dX7_compared_32 (by decide) ?_
        refine J_icmp_eq (pc := 34) K 45 dX7_compared_34 (by decide) ?_ ?_
        · refine J_lv [1, 2, 0] [(0, .ref (ω.1 + k0)), (1, .int r1), (2, .int s4)] rfl ?_
          exact hj6 h5
        · refine J_iload_n (pc := 37) K dX7_compared_37 2 rfl 0 rfl ?_
          refine J_bipush (pc := 38) K (62) dX7_compared_38 (by decide) ?_
          refine J_icmp_eq (pc := 40) K 45 dX7_compared_40 (by decide) ?_ ?_
          · refine J_lv [1, 2, 0] [(0, .ref (ω.1 + k0)), (1, .int r1), (2, .int s4)] rfl ?_
            exact hj6 h5
          · refine J_iload_n (pc := 43) K dX7_compared_43 1 rfl 2 rfl ?_
            exact J_iret (pc := 44) K dX7_compared_44
  · intro j3 hj3
    refine J_if_eq (pc := 9) K 23 dX7_compared_9 (by decide) ?_ ?_
    · refine J_iconst (pc := 23) K (-1) dX7_compared_23 (by decide) ?_
      refine J_lv [1, 0] [(0, .ref (ω.1 + k0)), (1, .int r1)] rfl ?_
      exact hj3 (-1 : Int32) h2
    · refine J_aload_n (pc := 12) K dX7_compared_12 0 rfl 1 rfl ?_
      refine J_aload_n (pc := 13) K dX7_compared_13 0 rfl 1 rfl ?_
      refine J_getI (pc := 14) K gf_SaltCloudsModel_115 hk0 rfl dX7_compared_14 ?_
      refine J_callVI (As := [.int (h2 k0 8)]) (rest := []) (pc := 17) K cs_SaltCloudsModel_118 (ok_X7_byteAt l ω hk0 (h2 k0 8) h2) hk0 (by omega) rfl rfl (Nat.le_of_ble_eq_true rfl) dX7_compared_17 (fun r11 h12 => ?_)
      refine J_goto (pc := 20) K 24 dX7_compared_20 (by decide) ?_
      refine J_lv [1, 0] [(0, .ref (ω.1 + k0)), (1, .int r1)] rfl ?_
      exact hj3 r11 h12
def F_X7_both_5 (oq : Nat → Mem → Option (Int32 × Mem)) (N : Nat) (k0 : Nat) (kt : Int32 → Mem → Option (Int32 × Mem)) : Nat → Int32 → Mem → Option (Int32 × Mem)
  | 0, _, _ => none
  | n + 1, u1, h =>
    (if (h k0 14) = 0 then
      (kt u1 h)
    else
      (bnd (F_X7_byteAt k0 (h k0 8) h) (fun r3 h4 =>
      (if r3 = (38 : Int32) then
        (seqh (upm h4 k0 8 ((h4 k0 8) + (1 : Int32))) (fun h5 =>
        (bnd (F_X7_compared oq N k0 h5) (fun r6 h7 =>
        (if u1 = 0 then
          (F_X7_both_5 oq N k0 kt n (0 : Int32) h7)
        else
          (if r6 = 0 then
            (F_X7_both_5 oq N k0 kt n (0 : Int32) h7)
          else
            (F_X7_both_5 oq N k0 kt n (1 : Int32) h7)))))))
      else
        (kt u1 h4)))))
set_option maxRecDepth 10000 in
set_option maxHeartbeats 1000000 in
theorem okL_X7_both_5 {l : Launch} {ω : WX} {χ : KT} {d : Nat} (K : Kok ω χ "SaltCloudsModel" cX7_both 3 (some .int) d) {oq : Nat → Mem → Option (Int32 × Mem)} {dq : Nat} (hq : ∀ {k0 : Nat} (hk0 : lay k0 = 7) (h : Mem), MC rvI l ω yX7_factor cX7_factor 3 (some .int) dq [.ref (ω.1 + k0)] h (oq k0 h)) (hd : (dq + 4) ≤ d) (N : Nat) {k0 : Nat} (hk0 : lay k0 = 7) {kt : Int32 → Mem → Option (Int32 × Mem)} (hK : ∀ (u1 : Int32) (h : Mem), J (ZM rvI ω χ) l ω χ 57 3 [(1, .int u1)] [] h (kt u1 h)) : ∀ (n : Nat) (u1 : Int32) (h : Mem), J (ZM rvI ω χ) l ω χ 5 3 [(0, .ref (ω.1 + k0)), (1, .int u1)] [] h (F_X7_both_5 oq N k0 kt n u1 h) := by
  intro n
  induction n with
  | zero =>
    intro u1 h
    exact J_none rfl
  | succ n ih =>
    intro u1 h
    rw [F_X7_both_5]
    refine J_aload_n (pc := 5) K dX7_both_5 0 rfl 0 rfl ?_
    refine J_getI (pc := 6) K gf_SaltCloudsModel_111 hk0 rfl dX7_both_6 ?_
    refine J_if_eq (pc := 9) K 57 dX7_both_9 (by decide) ?_ ?_
    · refine J_lv [1] [(1, .int u1)] rfl ?_
      exact hK u1 h
    · refine J_aload_n (pc := 12) K dX7_both_12 0 rfl 0 rfl ?_
      refine J_aload_n (pc := 13) K dX7_both_13 0 rfl 0 rfl ?_
      refine J_getI (pc := 14) K gf_SaltCloudsModel_115 hk0 rfl dX7_both_14 ?_
      refine J_callVI (As := [.int (h k0 8)]) (rest := []) (pc := 17) K cs_SaltCloudsModel_118 (ok_X7_byteAt l ω hk0 (h k0 8) h) hk0 (by omega) rfl rfl (Nat.le_of_ble_eq_true rfl) dX7_both_17 (fun r3 h4 => ?_)
      refine J_bipush (pc := 20) K (38) dX7_both_20 (by decide) ?_
      refine J_icmp_ne (pc := 22) K 57 dX7_both_22 (by decide) ?_ ?_
      · refine J_aload_n (pc := 25) K dX7_both_25 0 rfl 0 rfl ?_
        refine J_dup (pc := 26) K dX7_both_26 rfl ?_
        refine J_getI (pc := 27) K gf_SaltCloudsModel_115 hk0 rfl dX7_both_27 ?_
        refine J_iconst (pc := 30) K (1) dX7_both_30 (by decide) ?_
        refine J_iadd (pc := 31) K dX7_both_31 ?_
        refine J_putI (pc := 32) K gf_SaltCloudsModel_115 hk0 (by decide) rfl dX7_both_32 (fun h5 => ?_)
        refine J_aload_n (pc := 35) K dX7_both_35 0 rfl 0 rfl ?_
        refine J_callVI (As := []) (rest := []) (pc := 36) K cs_SaltCloudsModel_157 (ok_X7_compared l ω hq N hk0 h5) hk0 (by omega) rfl rfl (Nat.le_of_ble_eq_true rfl) dX7_both_36 (fun r6 h7 => ?_)
        refine J_istore_n (pc := 39) K dX7_both_39 2 rfl (by decide) [(2, .int r6), (0, .ref (ω.1 + k0)), (1, .int u1)] rfl ?_
        refine J_iload_n (pc := 40) K dX7_both_40 1 rfl 2 rfl ?_
        refine J_if_eq (pc := 41) K 52 dX7_both_41 (by decide) ?_ ?_
        · refine J_iconst (pc := 52) K (0) dX7_both_52 (by decide) ?_
          refine J_istore_n (pc := 53) K dX7_both_53 1 rfl (by decide) [(1, .int (0 : Int32)), (2, .int r6), (0, .ref (ω.1 + k0))] rfl ?_
          refine J_goto (pc := 54) K 5 dX7_both_54 (by decide) ?_
          refine J_lv [2, 0] [(0, .ref (ω.1 + k0)), (1, .int (0 : Int32))] rfl ?_
          exact ih (0 : Int32) h7
        · refine J_iload_n (pc := 44) K dX7_both_44 2 rfl 0 rfl ?_
          refine J_if_eq (pc := 45) K 52 dX7_both_45 (by decide) ?_ ?_
          · refine J_iconst (pc := 52) K (0) dX7_both_52 (by decide) ?_
            refine J_istore_n (pc := 53) K dX7_both_53 1 rfl (by decide) [(1, .int (0 : Int32)), (2, .int r6), (0, .ref (ω.1 + k0))] rfl ?_
            refine J_goto (pc := 54) K 5 dX7_both_54 (by decide) ?_
            refine J_lv [2, 0] [(0, .ref (ω.1 + k0)), (1, .int (0 : Int32))] rfl ?_
            exact ih (0 : Int32) h7
          · refine J_iconst (pc := 48) K (1) dX7_both_48 (by decide) ?_
            refine J_goto (pc := 49) K 53 dX7_both_49 (by decide) ?_
            refine J_istore_n (pc := 53) K dX7_both_53 1 rfl (by decide) [(1, .int (1 : Int32)), (2, .int r6), (0, .ref (ω.1 + k0))] rfl ?_
            refine J_goto (pc := 54) K 5 dX7_both_54 (by decide) ?_
            refine J_lv [2, 0] [(0, .ref (ω.1 + k0)), (1, .int (1 : Int32))] rfl ?_
            exact ih (1 : Int32) h7
      · refine J_lv [1] [(1, .int u1)] rfl ?_
        exact hK u1 h4
def F_X7_both (oq : Nat → Mem → Option (Int32 × Mem)) (N : Nat) (k0 : Nat) (h : Mem) : Option (Int32 × Mem) :=
  (bnd (F_X7_compared oq N k0 h) (fun r1 h2 =>
  (F_X7_both_5 oq N k0 (fun (v8 : Int32) (h9 : Mem) =>
    (some (v8, h9))) N r1 h2)))
set_option maxRecDepth 10000 in
set_option maxHeartbeats 1000000 in
theorem ok_X7_both (l : Launch) (ω : WX) {oq : Nat → Mem → Option (Int32 × Mem)} {dq : Nat} (hq : ∀ {k0 : Nat} (hk0 : lay k0 = 7) (h : Mem), MC rvI l ω yX7_factor cX7_factor 3 (some .int) dq [.ref (ω.1 + k0)] h (oq k0 h)) (N : Nat) {k0 : Nat} (hk0 : lay k0 = 7) (h : Mem) : MC rvI l ω yX7_both cX7_both 3 (some .int) (dq + 4) [.ref (ω.1 + k0)] h (F_X7_both oq N k0 h) := by
  refine MC.of (by decide +kernel) [(0, .ref (ω.1 + k0))] rfl (Nat.le_of_ble_eq_true rfl) (fun χ K => ?_)
  have K : Kok ω χ "SaltCloudsModel" cX7_both 3 (some .int) (dq + 4) := K
  unfold F_X7_both
  refine J_aload_n (pc := 0) K dX7_both_0 0 rfl 0 rfl ?_
  refine J_callVI (As := []) (rest := []) (pc := 1) K cs_SaltCloudsModel_157 (ok_X7_compared l ω hq N hk0 h) hk0 (by omega) rfl rfl (Nat.le_of_ble_eq_true rfl) dX7_both_1 (fun r1 h2 => ?_)
  refine J_istore_n (pc := 4) K dX7_both_4 1 rfl (by decide) [(1, .int r1), (0, .ref (ω.1 + k0))] rfl ?_
  refine J_lv [1, 0] [(0, .ref (ω.1 + k0)), (1, .int r1)] rfl ?_
  refine okL_X7_both_5 K hq (by omega) N hk0 (fun v8 h9 => ?_) _ _ _
  refine J_iload_n (pc := 57) K dX7_both_57 1 rfl 0 rfl ?_
  exact J_iret (pc := 58) K dX7_both_58
def F_X7_whole_5 (oq : Nat → Mem → Option (Int32 × Mem)) (N : Nat) (k0 : Nat) (kt : Int32 → Mem → Option (Int32 × Mem)) : Nat → Int32 → Mem → Option (Int32 × Mem)
  | 0, _, _ => none
  | n + 1, u1, h =>
    (if (h k0 14) = 0 then
      (kt u1 h)
    else
      (bnd (F_X7_byteAt k0 (h k0 8) h) (fun r3 h4 =>
      (if r3 = (124 : Int32) then
        (seqh (upm h4 k0 8 ((h4 k0 8) + (1 : Int32))) (fun h5 =>
        (bnd (F_X7_both oq N k0 h5) (fun r6 h7 =>
        (if u1 = 0 then
          (if r6 = 0 then
            (F_X7_whole_5 oq N k0 kt n (0 : Int32) h7)
          else
            (F_X7_whole_5 oq N k0 kt n (1 : Int32) h7))
        else
          (F_X7_whole_5 oq N k0 kt n (1 : Int32) h7))))))
      else
        (kt u1 h4)))))
set_option maxRecDepth 10000 in
set_option maxHeartbeats 1000000 in
theorem okL_X7_whole_5 {l : Launch} {ω : WX} {χ : KT} {d : Nat} (K : Kok ω χ "SaltCloudsModel" cX7_whole 3 (some .int) d) {oq : Nat → Mem → Option (Int32 × Mem)} {dq : Nat} (hq : ∀ {k0 : Nat} (hk0 : lay k0 = 7) (h : Mem), MC rvI l ω yX7_factor cX7_factor 3 (some .int) dq [.ref (ω.1 + k0)] h (oq k0 h)) (hd : (dq + 5) ≤ d) (N : Nat) {k0 : Nat} (hk0 : lay k0 = 7) {kt : Int32 → Mem → Option (Int32 × Mem)} (hK : ∀ (u1 : Int32) (h : Mem), J (ZM rvI ω χ) l ω χ 57 3 [(1, .int u1)] [] h (kt u1 h)) : ∀ (n : Nat) (u1 : Int32) (h : Mem), J (ZM rvI ω χ) l ω χ 5 3 [(0, .ref (ω.1 + k0)), (1, .int u1)] [] h (F_X7_whole_5 oq N k0 kt n u1 h) := by
  intro n
  induction n with
  | zero =>
    intro u1 h
    exact J_none rfl
  | succ n ih =>
    intro u1 h
    rw [F_X7_whole_5]
    refine J_aload_n (pc := 5) K dX7_whole_5 0 rfl 0 rfl ?_
    refine J_getI (pc := 6) K gf_SaltCloudsModel_111 hk0 rfl dX7_whole_6 ?_
    refine J_if_eq (pc := 9) K 57 dX7_whole_9 (by decide) ?_ ?_
    · refine J_lv [1] [(1, .int u1)] rfl ?_
      exact hK u1 h
    · refine J_aload_n (pc := 12) K dX7_whole_12 0 rfl 0 rfl ?_
      refine J_aload_n (pc := 13) K dX7_whole_13 0 rfl 0 rfl ?_
      refine J_getI (pc := 14) K gf_SaltCloudsModel_115 hk0 rfl dX7_whole_14 ?_
      refine J_callVI (As := [.int (h k0 8)]) (rest := []) (pc := 17) K cs_SaltCloudsModel_118 (ok_X7_byteAt l ω hk0 (h k0 8) h) hk0 (by omega) rfl rfl (Nat.le_of_ble_eq_true rfl) dX7_whole_17 (fun r3 h4 => ?_)
      refine J_bipush (pc := 20) K (124) dX7_whole_20 (by decide) ?_
      refine J_icmp_ne (pc := 22) K 57 dX7_whole_22 (by decide) ?_ ?_
      · refine J_aload_n (pc := 25) K dX7_whole_25 0 rfl 0 rfl ?_
        refine J_dup (pc := 26) K dX7_whole_26 rfl ?_
        refine J_getI (pc := 27) K gf_SaltCloudsModel_115 hk0 rfl dX7_whole_27 ?_
        refine J_iconst (pc := 30) K (1) dX7_whole_30 (by decide) ?_
        refine J_iadd (pc := 31) K dX7_whole_31 ?_
        refine J_putI (pc := 32) K gf_SaltCloudsModel_115 hk0 (by decide) rfl dX7_whole_32 (fun h5 => ?_)
        refine J_aload_n (pc := 35) K dX7_whole_35 0 rfl 0 rfl ?_
        refine J_callVI (As := []) (rest := []) (pc := 36) K cs_SaltCloudsModel_160 (ok_X7_both l ω hq N hk0 h5) hk0 (by omega) rfl rfl (Nat.le_of_ble_eq_true rfl) dX7_whole_36 (fun r6 h7 => ?_)
        refine J_istore_n (pc := 39) K dX7_whole_39 2 rfl (by decide) [(2, .int r6), (0, .ref (ω.1 + k0)), (1, .int u1)] rfl ?_
        refine J_iload_n (pc := 40) K dX7_whole_40 1 rfl 2 rfl ?_
        refine J_if_ne (pc := 41) K 48 dX7_whole_41 (by decide) ?_ ?_
        · refine J_iload_n (pc := 44) K dX7_whole_44 2 rfl 0 rfl ?_
          refine J_if_eq (pc := 45) K 52 dX7_whole_45 (by decide) ?_ ?_
          · refine J_iconst (pc := 52) K (0) dX7_whole_52 (by decide) ?_
            refine J_istore_n (pc := 53) K dX7_whole_53 1 rfl (by decide) [(1, .int (0 : Int32)), (2, .int r6), (0, .ref (ω.1 + k0))] rfl ?_
            refine J_goto (pc := 54) K 5 dX7_whole_54 (by decide) ?_
            refine J_lv [2, 0] [(0, .ref (ω.1 + k0)), (1, .int (0 : Int32))] rfl ?_
            exact ih (0 : Int32) h7
          · refine J_iconst (pc := 48) K (1) dX7_whole_48 (by decide) ?_
            refine J_goto (pc := 49) K 53 dX7_whole_49 (by decide) ?_
            refine J_istore_n (pc := 53) K dX7_whole_53 1 rfl (by decide) [(1, .int (1 : Int32)), (2, .int r6), (0, .ref (ω.1 + k0))] rfl ?_
            refine J_goto (pc := 54) K 5 dX7_whole_54 (by decide) ?_
            refine J_lv [2, 0] [(0, .ref (ω.1 + k0)), (1, .int (1 : Int32))] rfl ?_
            exact ih (1 : Int32) h7
        · refine J_iconst (pc := 48) K (1) dX7_whole_48 (by decide) ?_
          refine J_goto (pc := 49) K 53 dX7_whole_49 (by decide) ?_
          refine J_istore_n (pc := 53) K dX7_whole_53 1 rfl (by decide) [(1, .int (1 : Int32)), (2, .int r6), (0, .ref (ω.1 + k0))] rfl ?_
          refine J_goto (pc := 54) K 5 dX7_whole_54 (by decide) ?_
          refine J_lv [2, 0] [(0, .ref (ω.1 + k0)), (1, .int (1 : Int32))] rfl ?_
          exact ih (1 : Int32) h7
      · refine J_lv [1] [(1, .int u1)] rfl ?_
        exact hK u1 h4
def F_X7_whole (oq : Nat → Mem → Option (Int32 × Mem)) (N : Nat) (k0 : Nat) (h : Mem) : Option (Int32 × Mem) :=
  (bnd (F_X7_both oq N k0 h) (fun r1 h2 =>
  (F_X7_whole_5 oq N k0 (fun (v8 : Int32) (h9 : Mem) =>
    (some (v8, h9))) N r1 h2)))
set_option maxRecDepth 10000 in
set_option maxHeartbeats 1000000 in
theorem ok_X7_whole (l : Launch) (ω : WX) {oq : Nat → Mem → Option (Int32 × Mem)} {dq : Nat} (hq : ∀ {k0 : Nat} (hk0 : lay k0 = 7) (h : Mem), MC rvI l ω yX7_factor cX7_factor 3 (some .int) dq [.ref (ω.1 + k0)] h (oq k0 h)) (N : Nat) {k0 : Nat} (hk0 : lay k0 = 7) (h : Mem) : MC rvI l ω yX7_whole cX7_whole 3 (some .int) (dq + 5) [.ref (ω.1 + k0)] h (F_X7_whole oq N k0 h) := by
  refine MC.of (by decide +kernel) [(0, .ref (ω.1 + k0))] rfl (Nat.le_of_ble_eq_true rfl) (fun χ K => ?_)
  have K : Kok ω χ "SaltCloudsModel" cX7_whole 3 (some .int) (dq + 5) := K
  unfold F_X7_whole
  refine J_aload_n (pc := 0) K dX7_whole_0 0 rfl 0 rfl ?_
  refine J_callVI (As := []) (rest := []) (pc := 1) K cs_SaltCloudsModel_160 (ok_X7_both l ω hq N hk0 h) hk0 (by omega) rfl rfl (Nat.le_of_ble_eq_true rfl) dX7_whole_1 (fun r1 h2 => ?_)
  refine J_istore_n (pc := 4) K dX7_whole_4 1 rfl (by decide) [(1, .int r1), (0, .ref (ω.1 + k0))] rfl ?_
  refine J_lv [1, 0] [(0, .ref (ω.1 + k0)), (1, .int r1)] rfl ?_
  refine okL_X7_whole_5 K hq (by omega) N hk0 (fun v8 h9 => ?_) _ _ _
  refine J_iload_n (pc := 57) K dX7_whole_57 1 rfl 0 rfl ?_
  exact J_iret (pc := 58) K dX7_whole_58
def F_X7_isDigit (x0 : Int32) (h : Mem) : Option (Int32 × Mem) :=
  (bnd (F_X7_in x0 (48 : Int32) (57 : Int32) h) (fun r1 h2 =>
  (gbo r1 (some (r1, h2)))))
set_option maxRecDepth 10000 in
set_option maxHeartbeats 1000000 in
theorem ok_X7_isDigit (l : Launch) (ω : WX) (x0 : Int32) (h : Mem) : MC rvI l ω yX7_isDigit cX7_isDigit 1 (some .boolean) 1 [.int x0] h (F_X7_isDigit x0 h) := by
  refine MC.of (by decide +kernel) [(0, .int x0)] rfl (Nat.le_of_ble_eq_true rfl) (fun χ K => ?_)
  have K : Kok ω χ "SaltCloudsModel" cX7_isDigit 1 (some .boolean) 1 := K
  unfold F_X7_isDigit
  refine J_iload_n (pc := 0) K dX7_isDigit_0 0 rfl 0 rfl ?_
  refine J_bipush (pc := 1) K (48) dX7_isDigit_1 (by decide) ?_
  refine J_bipush (pc := 3) K (57) dX7_isDigit_3 (by decide) ?_
  refine J_callTI (As := [.int x0, .int (48 : Int32), .int (57 : Int32)]) (rest := []) (pc := 5) K cs_SaltCloudsModel_41 (ok_X7_in l ω x0 (48 : Int32) (57 : Int32) h) (by decide) rfl rfl (Nat.le_of_ble_eq_true rfl) dX7_isDigit_5 (fun r1 h2 => ?_)
  exact J_zret (pc := 8) K dX7_isDigit_8
def F_X7_number_4 (N : Nat) (k0 : Nat) (kt : Int32 → Mem → Option (Int32 × Mem)) : Nat → Int32 → Int32 → Mem → Option (Int32 × Mem)
  | 0, _, _, _ => none
  | n + 1, u1, u2, h =>
    (if (4 : Int32) ≤ u2 then
      (kt u1 h)
    else
      (bnd (F_X7_byteAt k0 (h k0 8) h) (fun r1 h2 =>
      (bnd (F_X7_isDigit r1 h2) (fun r3 h4 =>
      (if r3 = 0 then
        (kt u1 h4)
      else
        (bnd (F_X7_byteAt k0 (h4 k0 8) h4) (fun r5 h6 =>
        (seqi ((((10 : Int32) * u1) + r5) - (48 : Int32)) (fun v7 =>
        (seqh (upm h6 k0 8 ((h6 k0 8) + (1 : Int32))) (fun h8 =>
        (F_X7_number_4 N k0 kt n v7 (u2 + 1) h8)))))))))))))
set_option maxRecDepth 10000 in
set_option maxHeartbeats 1000000 in
theorem okL_X7_number_4 {l : Launch} {ω : WX} {χ : KT} {d : Nat} (K : Kok ω χ "SaltCloudsModel" cX7_number 3 (some .int) d) (hd : 2 ≤ d) (N : Nat) {k0 : Nat} (hk0 : lay k0 = 7) {kt : Int32 → Mem → Option (Int32 × Mem)} (hK : ∀ (u1 : Int32) (h : Mem), J (ZM rvI ω χ) l ω χ 56 3 [(1, .int u1)] [] h (kt u1 h)) : ∀ (n : Nat) (u1 : Int32) (u2 : Int32) (h : Mem), J (ZM rvI ω χ) l ω χ 4 3 [(0, .ref (ω.1 + k0)), (1, .int u1), (2, .int u2)] [] h (F_X7_number_4 N k0 kt n u1 u2 h) := by
  intro n
  induction n with
  | zero =>
    intro u1 u2 h
    exact J_none rfl
  | succ n ih =>
    intro u1 u2 h
    rw [F_X7_number_4]
    refine J_iload_n (pc := 4) K dX7_number_4 2 rfl 2 rfl ?_
    refine J_iconst (pc := 5) K (4) dX7_number_5 (by decide) ?_
    refine J_icmp_ge (pc := 6) K 56 dX7_number_6 (by decide) ?_ ?_
    · refine J_lv [1] [(1, .int u1)] rfl ?_
      exact hK u1 h
    · refine J_aload_n (pc := 9) K dX7_number_9 0 rfl 0 rfl ?_
      refine J_aload_n (pc := 10) K dX7_number_10 0 rfl 0 rfl ?_
      refine J_getI (pc := 11) K gf_SaltCloudsModel_115 hk0 rfl dX7_number_11 ?_
      refine J_callVI (As := [.int (h k0 8)]) (rest := []) (pc := 14) K cs_SaltCloudsModel_118 (ok_X7_byteAt l ω hk0 (h k0 8) h) hk0 (by omega) rfl rfl (Nat.le_of_ble_eq_true rfl) dX7_number_14 (fun r1 h2 => ?_)
      refine J_callTI (As := [.int r1]) (rest := []) (pc := 17) K cs_SaltCloudsModel_121 (ok_X7_isDigit l ω r1 h2) (by omega) rfl rfl (Nat.le_of_ble_eq_true rfl) dX7_number_17 (fun r3 h4 => ?_)
      refine J_if_eq (pc := 20) K 56 dX7_number_20 (by decide) ?_ ?_
      · refine J_lv [1] [(1, .int u1)] rfl ?_
        exact hK u1 h4
      · refine J_bipush (pc := 23) K (10) dX7_number_23 (by decide) ?_
        refine J_iload_n (pc := 25) K dX7_number_25 1 rfl 1 rfl ?_
        refine J_imul (pc := 26) K dX7_number_26 ?_
        refine J_aload_n (pc := 27) K dX7_number_27 0 rfl 0 rfl ?_
        refine J_aload_n (pc := 28) K dX7_number_28 0 rfl 0 rfl ?_
        refine J_getI (pc := 29) K gf_SaltCloudsModel_115 hk0 rfl dX7_number_29 ?_
        refine J_callVI (As := [.int (h4 k0 8)]) (rest := [.int ((10 : Int32) * u1)]) (pc := 32) K cs_SaltCloudsModel_118 (ok_X7_byteAt l ω hk0 (h4 k0 8) h4) hk0 (by omega) rfl rfl (Nat.le_of_ble_eq_true rfl) dX7_number_32 (fun r5 h6 => ?_)
        refine J_iadd (pc := 35) K dX7_number_35 ?_
        refine J_bipush (pc := 36) K (48) dX7_number_36 (by decide) ?_
        refine J_isub (pc := 38) K dX7_number_38 ?_
        refine J_topi (fun v7 => ?_)
        refine J_istore_n (pc := 39) K dX7_number_39 1 rfl (by decide) [(1, .int v7), (0, .ref (ω.1 + k0)), (2, .int u2)] rfl ?_
        refine J_aload_n (pc := 40) K dX7_number_40 0 rfl 1 rfl ?_
        refine J_dup (pc := 41) K dX7_number_41 rfl ?_
        refine J_getI (pc := 42) K gf_SaltCloudsModel_115 hk0 rfl dX7_number_42 ?_
        refine J_iconst (pc := 45) K (1) dX7_number_45 (by decide) ?_
        refine J_iadd (pc := 46) K dX7_number_46 ?_
        refine J_putI (pc := 47) K gf_SaltCloudsModel_115 hk0 (by decide) rfl dX7_number_47 (fun h8 => ?_)
        refine J_iinc (pc := 50) K (1) dX7_number_50 2 rfl (by decide) (by decide) [(2, .int (u2 + 1)), (1, .int v7), (0, .ref (ω.1 + k0))] rfl ?_
        refine J_goto (pc := 53) K 4 dX7_number_53 (by decide) ?_
        refine J_lv [2, 1, 0] [(0, .ref (ω.1 + k0)), (1, .int v7), (2, .int (u2 + 1))] rfl ?_
        exact ih v7 (u2 + 1) h8
def F_X7_number (N : Nat) (k0 : Nat) (h : Mem) : Option (Int32 × Mem) :=
  (F_X7_number_4 N k0 (fun (v9 : Int32) (h10 : Mem) =>
    (some (v9, h10))) N (0 : Int32) (0 : Int32) h)
set_option maxRecDepth 10000 in
set_option maxHeartbeats 1000000 in
theorem ok_X7_number (l : Launch) (ω : WX) (N : Nat) {k0 : Nat} (hk0 : lay k0 = 7) (h : Mem) : MC rvI l ω yX7_number cX7_number 3 (some .int) 2 [.ref (ω.1 + k0)] h (F_X7_number N k0 h) := by
  refine MC.of (by decide +kernel) [(0, .ref (ω.1 + k0))] rfl (Nat.le_of_ble_eq_true rfl) (fun χ K => ?_)
  have K : Kok ω χ "SaltCloudsModel" cX7_number 3 (some .int) 2 := K
  unfold F_X7_number
  refine J_iconst (pc := 0) K (0) dX7_number_0 (by decide) ?_
  refine J_istore_n (pc := 1) K dX7_number_1 1 rfl (by decide) [(1, .int (0 : Int32)), (0, .ref (ω.1 + k0))] rfl ?_
  refine J_iconst (pc := 2) K (0) dX7_number_2 (by decide) ?_
  refine J_istore_n (pc := 3) K dX7_number_3 2 rfl (by decide) [(2, .int (0 : Int32)), (1, .int (0 : Int32)), (0, .ref (ω.1 + k0))] rfl ?_
  refine J_lv [2, 1, 0] [(0, .ref (ω.1 + k0)), (1, .int (0 : Int32)), (2, .int (0 : Int32))] rfl ?_
  refine okL_X7_number_4 K  (by decide) N hk0 (fun v9 h10 => ?_) _ _ _ _
  refine J_iload_n (pc := 56) K dX7_number_56 1 rfl 0 rfl ?_
  exact J_iret (pc := 57) K dX7_number_57
def F_X7_fails (k0 : Nat) (h : Mem) : Option (Int32 × Mem) :=
  (seqh (upm h k0 14 (0 : Int32)) (fun h1 =>
  (some ((0 : Int32), h1))))
set_option maxRecDepth 10000 in
set_option maxHeartbeats 1000000 in
theorem ok_X7_fails (l : Launch) (ω : WX) {k0 : Nat} (hk0 : lay k0 = 7) (h : Mem) : MC rvI l ω yX7_fails cX7_fails 1 (some .int) 0 [.ref (ω.1 + k0)] h (F_X7_fails k0 h) := by
  refine MC.of (by decide +kernel) [(0, .ref (ω.1 + k0))] rfl (Nat.le_of_ble_eq_true rfl) (fun χ K => ?_)
  have K : Kok ω χ "SaltCloudsModel" cX7_fails 1 (some .int) 0 := K
  unfold F_X7_fails
  refine J_aload_n (pc := 0) K dX7_fails_0 0 rfl 0 rfl ?_
  refine J_iconst (pc := 1) K (0) dX7_fails_1 (by decide) ?_
  refine J_putZc (pc := 2) K (Or.inl rfl) gf_SaltCloudsModel_111 hk0 (by decide) rfl dX7_fails_2 (fun h1 => ?_)
  refine J_iconst (pc := 5) K (0) dX7_fails_5 (by decide) ?_
  exact J_iret (pc := 6) K dX7_fails_6
def F_X7_named (k0 : Nat) (x1 : Int32) (h : Mem) : Option (Int32 × Mem) :=
  (jn (fun (s2 : Int32) (h3 : Mem) =>
    (jn (fun (s5 : Int32) (h6 : Mem) =>
      (jn (fun (s8 : Int32) (h9 : Mem) =>
        (jn (fun (s11 : Int32) (h12 : Mem) =>
          (jn (fun (s14 : Int32) (h15 : Mem) =>
            (jn (fun (s17 : Int32) (h18 : Mem) =>
              (jn (fun (h20 : Mem) =>
                (seqh (upm h20 k0 8 ((h20 k0 8) + (1 : Int32))) (fun h21 =>
                (if s5 = 0 then
                  (if s11 = 0 then
                    (some (h21 k0 13, h21))
                  else
                    (some (h21 k0 12, h21)))
                else
                  (some (h21 k0 11, h21)))))) (fun j19 =>
                (if s5 = 0 then
                  (if s11 = 0 then
                    (if s17 = 0 then
                      (bnd (F_X7_fails k0 h18) (fun r22 h23 =>
                      (some (r22, h23))))
                    else
                      (j19 h18))
                  else
                    (j19 h18))
                else
                  (j19 h18))))) (fun j16 =>
              (if x1 = s14 then
                (j16 (1 : Int32) h15)
              else
                (j16 (0 : Int32) h15))))) (fun j13 =>
            (if (h12 k0 7) = 0 then
              (j13 (115 : Int32) h12)
            else
              (j13 (104 : Int32) h12))))) (fun j10 =>
          (if x1 = s8 then
            (j10 (1 : Int32) h9)
          else
            (j10 (0 : Int32) h9))))) (fun j7 =>
        (if (h6 k0 7) = 0 then
          (j7 (119 : Int32) h6)
        else
          (j7 (98 : Int32) h6))))) (fun j4 =>
      (if x1 = s2 then
        (j4 (1 : Int32) h3)
      else
        (j4 (0 : Int32) h3))))) (fun j1 =>
    (if (h k0 7) = 0 then
      (j1 (116 : Int32) h)
    else
      (j1 (97 : Int32) h))))
set_option maxRecDepth 10000 in
set_option maxHeartbeats 1000000 in
theorem ok_X7_named (l : Launch) (ω : WX) {k0 : Nat} (hk0 : lay k0 = 7) (x1 : Int32) (h : Mem) : MC rvI l ω yX7_named cX7_named 5 (some .int) 1 [.ref (ω.1 + k0), .int x1] h (F_X7_named k0 x1 h) := by
  refine MC.of (by decide +kernel) [(0, .ref (ω.1 + k0)), (1, .int x1)] rfl (Nat.le_of_ble_eq_true rfl) (fun χ K => ?_)
  have K : Kok ω χ "SaltCloudsModel" cX7_named 5 (some .int) 1 := K
  unfold F_X7_named
  refine J_iload_n (pc := 0) K dX7_named_0 1 rfl 1 rfl ?_
  refine J_aload_n (pc := 1) K dX7_named_1 0 rfl 0 rfl ?_
  refine J_getI (pc := 2) K gf_SaltCloudsModel_108 hk0 rfl dX7_named_2 ?_
  refine J_jn (fun j1 => ∀ (s2 : Int32) (h3 : Mem), J (ZM rvI ω χ) l ω χ 15 5 [(0, .ref (ω.1 + k0)), (1, .int x1)] [.int s2, .int x1] h3 (j1 s2 h3)) ?_ ?_
  · intro s2 h3
    refine J_jn (fun j4 => ∀ (s5 : Int32) (h6 : Mem), J (ZM rvI ω χ) l ω χ 23 5 [(0, .ref (ω.1 + k0)), (1, .int x1)] [.int s5] h6 (j4 s5 h6)) ?_ ?_
    · intro s5 h6
      refine J_istore_n (pc := 23) K dX7_named_23 2 rfl (by decide) [(2, .int s5), (0, .ref (ω.1 + k0)), (1, .int x1)] rfl ?_
      refine J_iload_n (pc := 24) K dX7_named_24 1 rfl 2 rfl ?_
      refine J_aload_n (pc := 25) K dX7_named_25 0 rfl 1 rfl ?_
      refine J_getI (pc := 26) K gf_SaltCloudsModel_108 hk0 rfl dX7_named_26 ?_
      refine J_jn (fun j7 => ∀ (s8 : Int32) (h9 : Mem), J (ZM rvI ω χ) l ω χ 39 5 [(0, .ref (ω.1 + k0)), (1, .int x1), (2, .int s5)] [.int s8, .int x1] h9 (j7 s8 h9)) ?_ ?_
      · intro s8 h9
        refine J_jn (fun j10 => ∀ (s11 : Int32) (h12 : Mem), J (ZM rvI ω χ) l ω χ 47 5 [(0, .ref (ω.1 + k0)), (1, .int x1), (2, .int s5)] [.int s11] h12 (j10 s11 h12)) ?_ ?_
        · intro s11 h12
          refine J_istore_n (pc := 47) K dX7_named_47 3 rfl (by decide) [(3, .int s11), (0, .ref (ω.1 + k0)), (1, .int x1), (2, .int s5)] rfl ?_
          refine J_iload_n (pc := 48) K dX7_named_48 1 rfl 2 rfl ?_
          refine J_aload_n (pc := 49) K dX7_named_49 0 rfl 1 rfl ?_
          refine J_getI (pc := 50) K gf_SaltCloudsModel_108 hk0 rfl dX7_named_50 ?_
          refine J_jn (fun j13 => ∀ (s14 : Int32) (h15 : Mem), J (ZM rvI ω χ) l ω χ 63 5 [(0, .ref (ω.1 + k0)), (2, .int s5), (3, .int s11)] [.int s14, .int x1] h15 (j13 s14 h15)) ?_ ?_
          · intro s14 h15
            refine J_jn (fun j16 => ∀ (s17 : Int32) (h18 : Mem), J (ZM rvI ω χ) l ω χ 71 5 [(0, .ref (ω.1 + k0)), (2, .int s5), (3, .int s11)] [.int s17] h18 (j16 s17 h18)) ?_ ?_
            · intro s17 h18
              refine J_istore (pc := 71) K dX7_named_71 (by decide) [(4, .int s17), (0, .ref (ω.1 + k0)), (2, .int s5), (3, .int s11)] rfl ?_
              refine J_iload_n (pc := 73) K dX7_named_73 2 rfl 2 rfl ?_
              refine J_jn (fun j19 => ∀ (h20 : Mem), J (ZM rvI ω χ) l ω χ 91 5 [(0, .ref (ω.1 + k0)), (2, .int s5), (3, .int s11)] [] h20 (j19 h20)) ?_ ?_
              · intro h20
                refine J_aload_n (pc := 91) K dX7_named_91 0 rfl 0 rfl ?_
                refine J_dup (pc := 92) K dX7_named_92 rfl ?_
                refine J_getI (pc := 93) K gf_SaltCloudsModel_115 hk0 rfl dX7_named_93 ?_
                refine J_iconst (pc := 96) K (1) dX7_named_96 (by decide) ?_
                refine J_iadd (pc := 97) K dX7_named_97 ?_
                refine J_putI (pc := 98) K gf_SaltCloudsModel_115 hk0 (by decide) rfl dX7_named_98 (fun h21 => ?_)
                refine J_iload_n (pc := 101) K dX7_named_101 2 rfl 1 rfl ?_
                refine J_if_eq (pc := 102) K 112 dX7_named_102 (by decide) ?_ ?_
                · refine J_iload_n (pc := 112) K dX7_named_112 3 rfl 2 rfl ?_
                  refine J_if_eq (pc := 113) K 123 dX7_named_113 (by decide) ?_ ?_
                  · refine J_aload_n (pc := 123) K dX7_named_123 0 rfl 0 rfl ?_
                    refine J_getI (pc := 124) K gf_SaltCloudsModel_133 hk0 rfl dX7_named_124 ?_
                    exact J_iret (pc := 127) K dX7_named_127
                  · refine J_aload_n (pc := 116) K dX7_named_116 0 rfl 0 rfl ?_
                    refine J_getI (pc := 117) K gf_SaltCloudsModel_130 hk0 rfl dX7_named_117 ?_
                    refine J_goto (pc := 120) K 127 dX7_named_120 (by decide) ?_
                    exact J_iret (pc := 127) K dX7_named_127
                · refine J_aload_n (pc := 105) K dX7_named_105 0 rfl 0 rfl ?_
                  refine J_getI (pc := 106) K gf_SaltCloudsModel_127 hk0 rfl dX7_named_106 ?_
                  refine J_goto (pc := 109) K 127 dX7_named_109 (by decide) ?_
                  exact J_iret (pc := 127) K dX7_named_127
              · intro j19 hj19
                refine J_if_ne (pc := 74) K 91 dX7_named_74 (by decide) ?_ ?_
                · refine J_iload_n (pc := 77) K dX7_named_77 3 rfl 3 rfl ?_
                  refine J_if_ne (pc := 78) K 91 dX7_named_78 (by decide) ?_ ?_
                  · refine J_iload (pc := 81) K dX7_named_81 0 rfl ?_
                    refine J_if_ne (pc := 83) K 91 dX7_named_83 (by decide) ?_ ?_
                    · refine J_aload_n (pc := 86) K dX7_named_86 0 rfl 1 rfl ?_
                      refine J_callVI (As := []) (rest := []) (pc := 87) K cs_SaltCloudsModel_124 (ok_X7_fails l ω hk0 h18) hk0 (by decide) rfl rfl (Nat.le_of_ble_eq_true rfl) dX7_named_87 (fun r22 h23 => ?_)
                      exact J_iret (pc := 90) K dX7_named_90
                    · refine J_lv [1, 2, 3] [(0, .ref (ω.1 + k0)), (2, .int s5), (3, .int s11)] rfl ?_
                      exact hj19 h18
                  · refine J_lv [1, 2, 3] [(0, .ref (ω.1 + k0)), (2, .int s5), (3, .int s11)] rfl ?_
                    exact hj19 h18
                · refine J_lv [1, 2, 3] [(0, .ref (ω.1 + k0)), (2, .int s5), (3, .int s11)] rfl ?_
                  exact hj19 h18
            · intro j16 hj16
              refine J_icmp_ne (pc := 63) K 70 dX7_named_63 (by decide) ?_ ?_
              · refine J_iconst (pc := 66) K (1) dX7_named_66 (by decide) ?_
                refine J_goto (pc := 67) K 71 dX7_named_67 (by decide) ?_
                exact hj16 (1 : Int32) h15
              · refine J_iconst (pc := 70) K (0) dX7_named_70 (by decide) ?_
                exact hj16 (0 : Int32) h15
          · intro j13 hj13
            refine J_if_ne (pc := 53) K 61 dX7_named_53 (by decide) ?_ ?_
            · refine J_bipush (pc := 56) K (115) dX7_named_56 (by decide) ?_
              refine J_goto (pc := 58) K 63 dX7_named_58 (by decide) ?_
              refine J_lv [1, 3, 0] [(0, .ref (ω.1 + k0)), (2, .int s5), (3, .int s11)] rfl ?_
              exact hj13 (115 : Int32) h12
            · refine J_bipush (pc := 61) K (104) dX7_named_61 (by decide) ?_
              refine J_lv [1, 3, 0] [(0, .ref (ω.1 + k0)), (2, .int s5), (3, .int s11)] rfl ?_
              exact hj13 (104 : Int32) h12
        · intro j10 hj10
          refine J_icmp_ne (pc := 39) K 46 dX7_named_39 (by decide) ?_ ?_
          · refine J_iconst (pc := 42) K (1) dX7_named_42 (by decide) ?_
            refine J_goto (pc := 43) K 47 dX7_named_43 (by decide) ?_
            exact hj10 (1 : Int32) h9
          · refine J_iconst (pc := 46) K (0) dX7_named_46 (by decide) ?_
            exact hj10 (0 : Int32) h9
      · intro j7 hj7
        refine J_if_ne (pc := 29) K 37 dX7_named_29 (by decide) ?_ ?_
        · refine J_bipush (pc := 32) K (119) dX7_named_32 (by decide) ?_
          refine J_goto (pc := 34) K 39 dX7_named_34 (by decide) ?_
          refine J_lv [1, 2, 0] [(0, .ref (ω.1 + k0)), (1, .int x1), (2, .int s5)] rfl ?_
          exact hj7 (119 : Int32) h6
        · refine J_bipush (pc := 37) K (98) dX7_named_37 (by decide) ?_
          refine J_lv [1, 2, 0] [(0, .ref (ω.1 + k0)), (1, .int x1), (2, .int s5)] rfl ?_
          exact hj7 (98 : Int32) h6
    · intro j4 hj4
      refine J_icmp_ne (pc := 15) K 22 dX7_named_15 (by decide) ?_ ?_
      · refine J_iconst (pc := 18) K (1) dX7_named_18 (by decide) ?_
        refine J_goto (pc := 19) K 23 dX7_named_19 (by decide) ?_
        exact hj4 (1 : Int32) h3
      · refine J_iconst (pc := 22) K (0) dX7_named_22 (by decide) ?_
        exact hj4 (0 : Int32) h3
  · intro j1 hj1
    refine J_if_ne (pc := 5) K 13 dX7_named_5 (by decide) ?_ ?_
    · refine J_bipush (pc := 8) K (116) dX7_named_8 (by decide) ?_
      refine J_goto (pc := 10) K 15 dX7_named_10 (by decide) ?_
      exact hj1 (116 : Int32) h
    · refine J_bipush (pc := 13) K (97) dX7_named_13 (by decide) ?_
      exact hj1 (97 : Int32) h
def F_X7_factor (N : Nat) : Nat → Nat → Mem → Option (Int32 × Mem)
  | 0, _, _ => none
  | n + 1, k0, h =>
    (bnd (F_X7_byteAt k0 (h k0 8) h) (fun r1 h2 =>
    (bnd (F_X7_isDigit r1 h2) (fun r3 h4 =>
    (if r3 = 0 then
      (jn (fun (h6 : Mem) =>
        (if (h6 k0 10) = (5 : Int32) then
          (bnd (F_X7_fails k0 h6) (fun r7 h8 =>
          (some (r7, h8))))
        else
          (seqh (upm h6 k0 10 ((h6 k0 10) + (1 : Int32))) (fun h9 =>
          (seqh (upm h9 k0 8 ((h9 k0 8) + (1 : Int32))) (fun h10 =>
          (jn (fun (s12 : Int32) (h13 : Mem) =>
            (seqh (upm h13 k0 10 ((h13 k0 10) - (1 : Int32))) (fun h14 =>
            (if r1 = (33 : Int32) then
              (if s12 = 0 then
                (some ((1 : Int32), h14))
              else
                (some ((0 : Int32), h14)))
            else
              (if (h14 k0 14) = 0 then
                (bnd (F_X7_fails k0 h14) (fun r15 h16 =>
                (some (r15, h16))))
              else
                (bnd (F_X7_byteAt k0 (h14 k0 8) h14) (fun r17 h18 =>
                (if r17 = (41 : Int32) then
                  (seqh (upm h18 k0 8 ((h18 k0 8) + (1 : Int32))) (fun h19 =>
                  (some (s12, h19))))
                else
                  (bnd (F_X7_fails k0 h18) (fun r20 h21 =>
                  (some (r20, h21)))))))))))) (fun j11 =>
            (if r1 = (33 : Int32) then
              (bnd (F_X7_factor N n k0 h10) (fun r22 h23 =>
              (j11 r22 h23)))
            else
              (bnd (F_X7_whole (F_X7_factor N n) N k0 h10) (fun r24 h25 =>
              (j11 r24 h25)))))))))))) (fun j5 =>
        (if r1 = (33 : Int32) then
          (j5 h4)
        else
          (if r1 = (40 : Int32) then
            (j5 h4)
          else
            (bnd (F_X7_named k0 r1 h4) (fun r26 h27 =>
            (some (r26, h27))))))))
    else
      (bnd (F_X7_number N k0 h4) (fun r28 h29 =>
      (some (r28, h29)))))))))
set_option maxRecDepth 10000 in
set_option maxHeartbeats 1000000 in
theorem ok_X7_factor (l : Launch) (ω : WX) (N : Nat) : ∀ (n : Nat) {k0 : Nat} (hk0 : lay k0 = 7) (h : Mem), MC rvI l ω yX7_factor cX7_factor 3 (some .int) (3 + 6 * n) [.ref (ω.1 + k0)] h (F_X7_factor N n k0 h) := by
  intro n
  induction n with
  | zero =>
    intro k0 hk0 h r h1 e
    cases e
  | succ n ih =>
    intro k0 hk0 h
    rw [F_X7_factor]
    refine MC.of (by decide +kernel) [(0, .ref (ω.1 + k0))] rfl (Nat.le_of_ble_eq_true rfl) (fun χ K => ?_)
    have K : Kok ω χ "SaltCloudsModel" cX7_factor 3 (some .int) (3 + 6 * (n + 1)) := K
    refine J_aload_n (pc := 0) K dX7_factor_0 0 rfl 0 rfl ?_
    refine J_aload_n (pc := 1) K dX7_factor_1 0 rfl 0 rfl ?_
    refine J_getI (pc := 2) K gf_SaltCloudsModel_115 hk0 rfl dX7_factor_2 ?_
    refine J_callVI (As := [.int (h k0 8)]) (rest := []) (pc := 5) K cs_SaltCloudsModel_118 (ok_X7_byteAt l ω hk0 (h k0 8) h) hk0 (by omega) rfl rfl (Nat.le_of_ble_eq_true rfl) dX7_factor_5 (fun r1 h2 => ?_)
    refine J_istore_n (pc := 8) K dX7_factor_8 1 rfl (by decide) [(1, .int r1), (0, .ref (ω.1 + k0))] rfl ?_
    refine J_iload_n (pc := 9) K dX7_factor_9 1 rfl 0 rfl ?_
    refine J_callTI (As := [.int r1]) (rest := []) (pc := 10) K cs_SaltCloudsModel_121 (ok_X7_isDigit l ω r1 h2) (by omega) rfl rfl (Nat.le_of_ble_eq_true rfl) dX7_factor_10 (fun r3 h4 => ?_)
    refine J_if_eq (pc := 13) K 21 dX7_factor_13 (by decide) ?_ ?_
    · refine J_iload_n (pc := 21) K dX7_factor_21 1 rfl 0 rfl ?_
      refine J_bipush (pc := 22) K (33) dX7_factor_22 (by decide) ?_
      refine J_jn (fun j5 => ∀ (h6 : Mem), J (ZM rvI ω χ) l ω χ 39 3 [(0, .ref (ω.1 + k0)), (1, .int r1)] [] h6 (j5 h6)) ?_ ?_
      · intro h6
        refine J_aload_n (pc := 39) K dX7_factor_39 0 rfl 0 rfl ?_
        refine J_getI (pc := 40) K gf_SaltCloudsModel_142 hk0 rfl dX7_factor_40 ?_
        refine J_iconst (pc := 43) K (5) dX7_factor_43 (by decide) ?_
        refine J_icmp_ne (pc := 44) K 52 dX7_factor_44 (by decide) ?_ ?_
        · refine J_aload_n (pc := 47) K dX7_factor_47 0 rfl 0 rfl ?_
          refine J_callVI (As := []) (rest := []) (pc := 48) K cs_SaltCloudsModel_124 (ok_X7_fails l ω hk0 h6) hk0 (by omega) rfl rfl (Nat.le_of_ble_eq_true rfl) dX7_factor_48 (fun r7 h8 => ?_)
          exact J_iret (pc := 51) K dX7_factor_51
        · refine J_aload_n (pc := 52) K dX7_factor_52 0 rfl 0 rfl ?_
          refine J_dup (pc := 53) K dX7_factor_53 rfl ?_
          refine J_getI (pc := 54) K gf_SaltCloudsModel_142 hk0 rfl dX7_factor_54 ?_
          refine J_iconst (pc := 57) K (1) dX7_factor_57 (by decide) ?_
          refine J_iadd (pc := 58) K dX7_factor_58 ?_
          refine J_putI (pc := 59) K gf_SaltCloudsModel_142 hk0 (by decide) rfl dX7_factor_59 (fun h9 => ?_)
          refine J_aload_n (pc := 62) K dX7_factor_62 0 rfl 0 rfl ?_
          refine J_dup (pc := 63) K dX7_factor_63 rfl ?_
          refine J_getI (pc := 64) K gf_SaltCloudsModel_115 hk0 rfl dX7_factor_64 ?_
          refine J_iconst (pc := 67) K (1) dX7_factor_67 (by decide) ?_
          refine J_iadd (pc := 68) K dX7_factor_68 ?_
          refine J_putI (pc := 69) K gf_SaltCloudsModel_115 hk0 (by decide) rfl dX7_factor_69 (fun h10 => ?_)
          refine J_iload_n (pc := 72) K dX7_factor_72 1 rfl 1 rfl ?_
          refine J_bipush (pc := 73) K (33) dX7_factor_73 (by decide) ?_
          refine J_jn (fun j11 => ∀ (s12 : Int32) (h13 : Mem), J (ZM rvI ω χ) l ω χ 89 3 [(0, .ref (ω.1 + k0)), (1, .int r1)] [.int s12] h13 (j11 s12 h13)) ?_ ?_
          · intro s12 h13
            refine J_istore_n (pc := 89) K dX7_factor_89 2 rfl (by decide) [(2, .int s12), (0, .ref (ω.1 + k0)), (1, .int r1)] rfl ?_
            refine J_aload_n (pc := 90) K dX7_factor_90 0 rfl 1 rfl ?_
            refine J_dup (pc := 91) K dX7_factor_91 rfl ?_
            refine J_getI (pc := 92) K gf_SaltCloudsModel_142 hk0 rfl dX7_factor_92 ?_
            refine J_iconst (pc := 95) K (1) dX7_factor_95 (by decide) ?_
            refine J_isub (pc := 96) K dX7_factor_96 ?_
            refine J_putI (pc := 97) K gf_SaltCloudsModel_142 hk0 (by decide) rfl dX7_factor_97 (fun h14 => ?_)
            refine J_iload_n (pc := 100) K dX7_factor_100 1 rfl 2 rfl ?_
            refine J_bipush (pc := 101) K (33) dX7_factor_101 (by decide) ?_
            refine J_icmp_ne (pc := 103) K 116 dX7_factor_103 (by decide) ?_ ?_
            · refine J_iload_n (pc := 106) K dX7_factor_106 2 rfl 0 rfl ?_
              refine J_if_ne (pc := 107) K 114 dX7_factor_107 (by decide) ?_ ?_
              · refine J_iconst (pc := 110) K (1) dX7_factor_110 (by decide) ?_
                refine J_goto (pc := 111) K 115 dX7_factor_111 (by decide) ?_
                exact J_iret (pc := 115) K dX7_factor_115
              · refine J_iconst (pc := 114) K (0) dX7_factor_114 (by decide) ?_
                exact J_iret (pc := 115) K dX7_factor_115
            · refine J_aload_n (pc := 116) K dX7_factor_116 0 rfl 1 rfl ?_
              refine J_getI (pc := 117) K gf_SaltCloudsModel_111 hk0 rfl dX7_factor_117 ?_
              refine J_if_eq (pc := 120) K 148 dX7_factor_120 (by decide) ?_ ?_
              · refine J_aload_n (pc := 148) K dX7_factor_148 0 rfl 1 rfl ?_
                refine J_callVI (As := []) (rest := []) (pc := 149) K cs_SaltCloudsModel_124 (ok_X7_fails l ω hk0 h14) hk0 (by omega) rfl rfl (Nat.le_of_ble_eq_true rfl) dX7_factor_149 (fun r15 h16 => ?_)
                exact J_iret (pc := 152) K dX7_factor_152
              · refine J_aload_n (pc := 123) K dX7_factor_123 0 rfl 1 rfl ?_
                refine J_aload_n (pc := 124) K dX7_factor_124 0 rfl 1 rfl ?_
                refine J_getI (pc := 125) K gf_SaltCloudsModel_115 hk0 rfl dX7_factor_125 ?_
                refine J_callVI (As := [.int (h14 k0 8)]) (rest := []) (pc := 128) K cs_SaltCloudsModel_118 (ok_X7_byteAt l ω hk0 (h14 k0 8) h14) hk0 (by omega) rfl rfl (Nat.le_of_ble_eq_true rfl) dX7_factor_128 (fun r17 h18 => ?_)
                refine J_bipush (pc := 131) K (41) dX7_factor_131 (by decide) ?_
                refine J_icmp_ne (pc := 133) K 148 dX7_factor_133 (by decide) ?_ ?_
                · refine J_aload_n (pc := 136) K dX7_factor_136 0 rfl 1 rfl ?_
                  refine J_dup (pc := 137) K dX7_factor_137 rfl ?_
                  refine J_getI (pc := 138) K gf_SaltCloudsModel_115 hk0 rfl dX7_factor_138 ?_
                  refine J_iconst (pc := 141) K (1) dX7_factor_141 (by decide) ?_
                  refine J_iadd (pc := 142) K dX7_factor_142 ?_
                  refine J_putI (pc := 143) K gf_SaltCloudsModel_115 hk0 (by decide) rfl dX7_factor_143 (fun h19 => ?_)
                  refine J_iload_n (pc := 146) K dX7_factor_146 2 rfl 0 rfl ?_
                  exact J_iret (pc := 147) K dX7_factor_147
                · refine J_aload_n (pc := 148) K dX7_factor_148 0 rfl 1 rfl ?_
                  refine J_callVI (As := []) (rest := []) (pc := 149) K cs_SaltCloudsModel_124 (ok_X7_fails l ω hk0 h18) hk0 (by omega) rfl rfl (Nat.le_of_ble_eq_true rfl) dX7_factor_149 (fun r20 h21 => ?_)
                  exact J_iret (pc := 152) K dX7_factor_152
          · intro j11 hj11
            refine J_icmp_ne (pc := 75) K 85 dX7_factor_75 (by decide) ?_ ?_
            · refine J_aload_n (pc := 78) K dX7_factor_78 0 rfl 0 rfl ?_
              refine J_callVI (As := []) (rest := []) (pc := 79) K cs_SaltCloudsModel_145 (ih hk0 h10) hk0 (by omega) rfl rfl (Nat.le_of_ble_eq_true rfl) dX7_factor_79 (fun r22 h23 => ?_)
              refine J_goto (pc := 82) K 89 dX7_factor_82 (by decide) ?_
              exact hj11 r22 h23
            · refine J_aload_n (pc := 85) K dX7_factor_85 0 rfl 0 rfl ?_
              refine J_callVI (As := []) (rest := []) (pc := 86) K cs_SaltCloudsModel_148 (ok_X7_whole l ω ih N hk0 h10) hk0 (by omega) rfl rfl (Nat.le_of_ble_eq_true rfl) dX7_factor_86 (fun r24 h25 => ?_)
              exact hj11 r24 h25
      · intro j5 hj5
        refine J_icmp_eq (pc := 24) K 39 dX7_factor_24 (by decide) ?_ ?_
        · refine J_lv [1, 0] [(0, .ref (ω.1 + k0)), (1, .int r1)] rfl ?_
          exact hj5 h4
        · refine J_iload_n (pc := 27) K dX7_factor_27 1 rfl 0 rfl ?_
          refine J_bipush (pc := 28) K (40) dX7_factor_28 (by decide) ?_
          refine J_icmp_eq (pc := 30) K 39 dX7_factor_30 (by decide) ?_ ?_
          · refine J_lv [1, 0] [(0, .ref (ω.1 + k0)), (1, .int r1)] rfl ?_
            exact hj5 h4
          · refine J_aload_n (pc := 33) K dX7_factor_33 0 rfl 1 rfl ?_
            refine J_iload_n (pc := 34) K dX7_factor_34 1 rfl 0 rfl ?_
            refine J_callVI (As := [.int r1]) (rest := []) (pc := 35) K cs_SaltCloudsModel_139 (ok_X7_named l ω hk0 r1 h4) hk0 (by omega) rfl rfl (Nat.le_of_ble_eq_true rfl) dX7_factor_35 (fun r26 h27 => ?_)
            exact J_iret (pc := 38) K dX7_factor_38
    · refine J_aload_n (pc := 16) K dX7_factor_16 0 rfl 1 rfl ?_
      refine J_callVI (As := []) (rest := []) (pc := 17) K cs_SaltCloudsModel_136 (ok_X7_number l ω N hk0 h4) hk0 (by omega) rfl rfl (Nat.le_of_ble_eq_true rfl) dX7_factor_17 (fun r28 h29 => ?_)
      exact J_iret (pc := 20) K dX7_factor_20
