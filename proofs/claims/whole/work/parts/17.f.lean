/-! methods, by program: X7_passes, X7_oneHour, X7_nobodies, X7_drawn, X7_goes, X7_hours, X7_loose, X7_then, X7_pays, X7_allPay, X7_pay, X7_nobodyAt, X7_nobodyBy, X7_first, X7_bits, X7_thereOnes, X7_sumOf, X7_comes, X7_stays, X7_meets -/
def F_X7_passes (N : Nat) (k0 : Nat) (x1 : Int32) (x2 : Int32) (h : Mem) : Option (Unit × Mem) :=
  (bnd (F_X7_its k0 x1 (2 : Int32) h) (fun r1 h2 =>
  (bnd (F_X7_driftsBy k0 x1 x2 h2) (fun r3 h4 =>
  (gnz (12 : Int32)
  (bnd (F_X7_puts k0 x1 (2 : Int32) (irm ((r1 + r3) + (24 : Int32)) (12 : Int32)) h4) (fun _ h6 =>
  (bnd (F_X7_heightOf k0 x1 h6) (fun r7 h8 =>
  (if r7 ≤ 0 then
    (bnd (F_X7_its k0 x1 (1 : Int32) h8) (fun r9 h10 =>
    (gnz (2 : Int32)
    (if (irm r9 (2 : Int32)) = 0 then
      (bnd (F_X7_its k0 x1 (3 : Int32) h10) (fun r11 h12 =>
      (bnd (F_X7_held (r11 + (1 : Int32)) (0 : Int32) (999 : Int32) h12) (fun r13 h14 =>
      (bnd (F_X7_puts k0 x1 (3 : Int32) r13 h14) (fun _ h16 =>
      (some ((), h16))))))))
    else
      (some ((), h10))))))
  else
    (bnd (F_X7_heightOf k0 x1 h8) (fun r17 h18 =>
    (bnd (F_X7_rain N k0 x1 r17 h18) (fun _ h20 =>
    (some ((), h20))))))))))))))))
set_option maxRecDepth 10000 in
set_option maxHeartbeats 1000000 in
theorem ok_X7_passes (l : Launch) (ω : WX) (N : Nat) {k0 : Nat} (hk0 : lay k0 = 7) (x1 : Int32) (x2 : Int32) (h : Mem) : MC rvV l ω yX7_passes cX7_passes 3 none 3 [.ref (ω.1 + k0), .int x1, .int x2] h (F_X7_passes N k0 x1 x2 h) := by
  refine MC.of (by decide +kernel) [(0, .ref (ω.1 + k0)), (1, .int x1), (2, .int x2)] rfl (Nat.le_of_ble_eq_true rfl) (fun χ K => ?_)
  have K : Kok ω χ "SaltCloudsModel" cX7_passes 3 none 3 := K
  unfold F_X7_passes
  refine J_aload_n (pc := 0) K dX7_passes_0 0 rfl 0 rfl ?_
  refine J_iload_n (pc := 1) K dX7_passes_1 1 rfl 1 rfl ?_
  refine J_iconst (pc := 2) K (2) dX7_passes_2 (by decide) ?_
  refine J_aload_n (pc := 3) K dX7_passes_3 0 rfl 0 rfl ?_
  refine J_iload_n (pc := 4) K dX7_passes_4 1 rfl 1 rfl ?_
  refine J_iconst (pc := 5) K (2) dX7_passes_5 (by decide) ?_
  refine J_callVI (As := [.int x1, .int (2 : Int32)]) (rest := [.int (2 : Int32), .int x1, .ref (ω.1 + k0)]) (pc := 6) K cs_SaltCloudsModel_45 (ok_X7_its l ω hk0 x1 (2 : Int32) h) hk0 (by decide) rfl rfl (Nat.le_of_ble_eq_true rfl) dX7_passes_6 (fun r1 h2 => ?_)
  refine J_aload_n (pc := 9) K dX7_passes_9 0 rfl 0 rfl ?_
  refine J_iload_n (pc := 10) K dX7_passes_10 1 rfl 1 rfl ?_
  refine J_iload_n (pc := 11) K dX7_passes_11 2 rfl 2 rfl ?_
  refine J_callVI (As := [.int x1, .int x2]) (rest := [.int r1, .int (2 : Int32), .int x1, .ref (ω.1 + k0)]) (pc := 12) K cs_SaltCloudsModel_90 (ok_X7_driftsBy l ω hk0 x1 x2 h2) hk0 (by decide) rfl rfl (Nat.le_of_ble_eq_true rfl) dX7_passes_12 (fun r3 h4 => ?_)
  refine J_iadd (pc := 15) K dX7_passes_15 ?_
  refine J_bipush (pc := 16) K (24) dX7_passes_16 (by decide) ?_
  refine J_iadd (pc := 18) K dX7_passes_18 ?_
  refine J_bipush (pc := 19) K (12) dX7_passes_19 (by decide) ?_
  refine J_irem (pc := 21) K dX7_passes_21 ?_
  refine J_callVU (As := [.int x1, .int (2 : Int32), .int (irm ((r1 + r3) + (24 : Int32)) (12 : Int32))]) (rest := []) (pc := 22) K cs_SaltCloudsModel_59 (ok_X7_puts l ω hk0 x1 (2 : Int32) (irm ((r1 + r3) + (24 : Int32)) (12 : Int32)) h4) hk0 (by decide) rfl rfl (Nat.le_of_ble_eq_true rfl) dX7_passes_22 (fun _ h6 => ?_)
  refine J_aload_n (pc := 25) K dX7_passes_25 0 rfl 0 rfl ?_
  refine J_iload_n (pc := 26) K dX7_passes_26 1 rfl 1 rfl ?_
  refine J_callVI (As := [.int x1]) (rest := []) (pc := 27) K cs_SaltCloudsModel_93 (ok_X7_heightOf l ω hk0 x1 h6) hk0 (by decide) rfl rfl (Nat.le_of_ble_eq_true rfl) dX7_passes_27 (fun r7 h8 => ?_)
  refine J_if_le (pc := 30) K 46 dX7_passes_30 (by decide) ?_ ?_
  · refine J_aload_n (pc := 46) K dX7_passes_46 0 rfl 0 rfl ?_
    refine J_iload_n (pc := 47) K dX7_passes_47 1 rfl 1 rfl ?_
    refine J_iconst (pc := 48) K (1) dX7_passes_48 (by decide) ?_
    refine J_callVI (As := [.int x1, .int (1 : Int32)]) (rest := []) (pc := 49) K cs_SaltCloudsModel_45 (ok_X7_its l ω hk0 x1 (1 : Int32) h8) hk0 (by decide) rfl rfl (Nat.le_of_ble_eq_true rfl) dX7_passes_49 (fun r9 h10 => ?_)
    refine J_iconst (pc := 52) K (2) dX7_passes_52 (by decide) ?_
    refine J_irem (pc := 53) K dX7_passes_53 ?_
    refine J_if_ne (pc := 54) K 78 dX7_passes_54 (by decide) ?_ ?_
    · refine J_aload_n (pc := 57) K dX7_passes_57 0 rfl 0 rfl ?_
      refine J_iload_n (pc := 58) K dX7_passes_58 1 rfl 1 rfl ?_
      refine J_iconst (pc := 59) K (3) dX7_passes_59 (by decide) ?_
      refine J_aload_n (pc := 60) K dX7_passes_60 0 rfl 0 rfl ?_
      refine J_iload_n (pc := 61) K dX7_passes_61 1 rfl 1 rfl ?_
      refine J_iconst (pc := 62) K (3) dX7_passes_62 (by decide) ?_
      refine J_callVI (As := [.int x1, .int (3 : Int32)]) (rest := [.int (3 : Int32), .int x1, .ref (ω.1 + k0)]) (pc := 63) K cs_SaltCloudsModel_45 (ok_X7_its l ω hk0 x1 (3 : Int32) h10) hk0 (by decide) rfl rfl (Nat.le_of_ble_eq_true rfl) dX7_passes_63 (fun r11 h12 => ?_)
      refine J_iconst (pc := 66) K (1) dX7_passes_66 (by decide) ?_
      refine J_iadd (pc := 67) K dX7_passes_67 ?_
      refine J_iconst (pc := 68) K (0) dX7_passes_68 (by decide) ?_
      refine J_sipush (pc := 69) K (999) dX7_passes_69 (by decide) ?_
      refine J_callTI (As := [.int (r11 + (1 : Int32)), .int (0 : Int32), .int (999 : Int32)]) (rest := [.int (3 : Int32), .int x1, .ref (ω.1 + k0)]) (pc := 72) K cs_SaltCloudsModel_63 (ok_X7_held l ω (r11 + (1 : Int32)) (0 : Int32) (999 : Int32) h12) (by decide) rfl rfl (Nat.le_of_ble_eq_true rfl) dX7_passes_72 (fun r13 h14 => ?_)
      refine J_callVU (As := [.int x1, .int (3 : Int32), .int r13]) (rest := []) (pc := 75) K cs_SaltCloudsModel_59 (ok_X7_puts l ω hk0 x1 (3 : Int32) r13 h14) hk0 (by decide) rfl rfl (Nat.le_of_ble_eq_true rfl) dX7_passes_75 (fun _ h16 => ?_)
      exact J_vret (pc := 78) K dX7_passes_78
    · exact J_vret (pc := 78) K dX7_passes_78
  · refine J_aload_n (pc := 33) K dX7_passes_33 0 rfl 0 rfl ?_
    refine J_iload_n (pc := 34) K dX7_passes_34 1 rfl 1 rfl ?_
    refine J_aload_n (pc := 35) K dX7_passes_35 0 rfl 0 rfl ?_
    refine J_iload_n (pc := 36) K dX7_passes_36 1 rfl 1 rfl ?_
    refine J_callVI (As := [.int x1]) (rest := [.int x1, .ref (ω.1 + k0)]) (pc := 37) K cs_SaltCloudsModel_93 (ok_X7_heightOf l ω hk0 x1 h8) hk0 (by decide) rfl rfl (Nat.le_of_ble_eq_true rfl) dX7_passes_37 (fun r17 h18 => ?_)
    refine J_callVU (As := [.int x1, .int r17]) (rest := []) (pc := 40) K cs_SaltCloudsModel_177 (ok_X7_rain l ω N hk0 x1 r17 h18) hk0 (by decide) rfl rfl (Nat.le_of_ble_eq_true rfl) dX7_passes_40 (fun _ h20 => ?_)
    refine J_goto (pc := 43) K 78 dX7_passes_43 (by decide) ?_
    exact J_vret (pc := 78) K dX7_passes_78
def F_X7_oneHour_2 (N : Nat) (k0 : Nat) (w1 : Int32) (kt : Mem → Option (Unit × Mem)) : Nat → Int32 → Mem → Option (Unit × Mem)
  | 0, _, _ => none
  | n + 1, u2, h =>
    (gin (0 : Int32) 262
    (if (h (k0 + 1) (ix (0 : Int32))) ≤ u2 then
      (kt h)
    else
      (bnd (F_X7_isThere k0 u2 h) (fun r1 h2 =>
      (if r1 = 0 then
        (F_X7_oneHour_2 N k0 w1 kt n (u2 + 1) h2)
      else
        (bnd (F_X7_passes N k0 u2 w1 h2) (fun _ h4 =>
        (F_X7_oneHour_2 N k0 w1 kt n (u2 + 1) h4))))))))
set_option maxRecDepth 10000 in
set_option maxHeartbeats 1000000 in
theorem okL_X7_oneHour_2 {l : Launch} {ω : WX} {χ : KT} {d : Nat} (K : Kok ω χ "SaltCloudsModel" cX7_oneHour 3 none d) (hd : 4 ≤ d) (N : Nat) {k0 : Nat} (hk0 : lay k0 = 7) {w1 : Int32} {kt : Mem → Option (Unit × Mem)} (hK : ∀ (h : Mem), J (ZM rvV ω χ) l ω χ 32 3 [(0, .ref (ω.1 + k0))] [] h (kt h)) : ∀ (n : Nat) (u2 : Int32) (h : Mem), J (ZM rvV ω χ) l ω χ 2 3 [(0, .ref (ω.1 + k0)), (1, .int w1), (2, .int u2)] [] h (F_X7_oneHour_2 N k0 w1 kt n u2 h) := by
  intro n
  induction n with
  | zero =>
    intro u2 h
    exact J_none rfl
  | succ n ih =>
    intro u2 h
    rw [F_X7_oneHour_2]
    refine J_iload_n (pc := 2) K dX7_oneHour_2 2 rfl 2 rfl ?_
    refine J_aload_n (pc := 3) K dX7_oneHour_3 0 rfl 0 rfl ?_
    refine J_getR (pc := 4) K gf_SaltCloudsModel_7 hk0 1 rfl dX7_oneHour_4 ?_
    refine J_iconst (pc := 7) K (0) dX7_oneHour_7 (by decide) ?_
    refine J_iald (pc := 8) K (a := k0 + 1) (n := 262) (ty_7_1 hk0) dX7_oneHour_8 ?_
    refine J_icmp_ge (pc := 9) K 32 dX7_oneHour_9 (by decide) ?_ ?_
    · refine J_lv [0] [(0, .ref (ω.1 + k0))] rfl ?_
      exact hK h
    · refine J_aload_n (pc := 12) K dX7_oneHour_12 0 rfl 0 rfl ?_
      refine J_iload_n (pc := 13) K dX7_oneHour_13 2 rfl 2 rfl ?_
      refine J_callVI (As := [.int u2]) (rest := []) (pc := 14) K cs_SaltCloudsModel_77 (ok_X7_isThere l ω hk0 u2 h) hk0 (by omega) rfl rfl (Nat.le_of_ble_eq_true rfl) dX7_oneHour_14 (fun r1 h2 => ?_)
      refine J_if_eq (pc := 17) K 26 dX7_oneHour_17 (by decide) ?_ ?_
      · refine J_iinc (pc := 26) K (1) dX7_oneHour_26 2 rfl (by decide) (by decide) [(2, .int (u2 + 1)), (0, .ref (ω.1 + k0)), (1, .int w1)] rfl ?_
        refine J_goto (pc := 29) K 2 dX7_oneHour_29 (by decide) ?_
        refine J_lv [1, 2, 0] [(0, .ref (ω.1 + k0)), (1, .int w1), (2, .int (u2 + 1))] rfl ?_
        exact ih (u2 + 1) h2
      · refine J_aload_n (pc := 20) K dX7_oneHour_20 0 rfl 0 rfl ?_
        refine J_iload_n (pc := 21) K dX7_oneHour_21 2 rfl 2 rfl ?_
        refine J_iload_n (pc := 22) K dX7_oneHour_22 1 rfl 1 rfl ?_
        refine J_callVU (As := [.int u2, .int w1]) (rest := []) (pc := 23) K cs_SaltCloudsModel_181 (ok_X7_passes l ω N hk0 u2 w1 h2) hk0 (by omega) rfl rfl (Nat.le_of_ble_eq_true rfl) dX7_oneHour_23 (fun _ h4 => ?_)
        refine J_iinc (pc := 26) K (1) dX7_oneHour_26 2 rfl (by decide) (by decide) [(2, .int (u2 + 1)), (0, .ref (ω.1 + k0)), (1, .int w1)] rfl ?_
        refine J_goto (pc := 29) K 2 dX7_oneHour_29 (by decide) ?_
        refine J_lv [1, 2, 0] [(0, .ref (ω.1 + k0)), (1, .int w1), (2, .int (u2 + 1))] rfl ?_
        exact ih (u2 + 1) h4
def F_X7_oneHour (N : Nat) (k0 : Nat) (x1 : Int32) (h : Mem) : Option (Unit × Mem) :=
  (F_X7_oneHour_2 N k0 x1 (fun (h5 : Mem) =>
    (gin (1 : Int32) 262
    (gin (1 : Int32) 262 (seqh (upm h5 (k0 + 1) (ix (1 : Int32)) ((h5 (k0 + 1) (ix (1 : Int32))) + (1 : Int32))) (fun h6 =>
    (some ((), h6))))))) N (0 : Int32) h)
set_option maxRecDepth 10000 in
set_option maxHeartbeats 1000000 in
theorem ok_X7_oneHour (l : Launch) (ω : WX) (N : Nat) {k0 : Nat} (hk0 : lay k0 = 7) (x1 : Int32) (h : Mem) : MC rvV l ω yX7_oneHour cX7_oneHour 3 none 4 [.ref (ω.1 + k0), .int x1] h (F_X7_oneHour N k0 x1 h) := by
  refine MC.of (by decide +kernel) [(0, .ref (ω.1 + k0)), (1, .int x1)] rfl (Nat.le_of_ble_eq_true rfl) (fun χ K => ?_)
  have K : Kok ω χ "SaltCloudsModel" cX7_oneHour 3 none 4 := K
  unfold F_X7_oneHour
  refine J_iconst (pc := 0) K (0) dX7_oneHour_0 (by decide) ?_
  refine J_istore_n (pc := 1) K dX7_oneHour_1 2 rfl (by decide) [(2, .int (0 : Int32)), (0, .ref (ω.1 + k0)), (1, .int x1)] rfl ?_
  refine J_lv [1, 2, 0] [(0, .ref (ω.1 + k0)), (1, .int x1), (2, .int (0 : Int32))] rfl ?_
  refine okL_X7_oneHour_2 K  (by decide) N hk0 (fun h5 => ?_) _ _ _
  refine J_aload_n (pc := 32) K dX7_oneHour_32 0 rfl 0 rfl ?_
  refine J_getR (pc := 33) K gf_SaltCloudsModel_7 hk0 1 rfl dX7_oneHour_33 ?_
  refine J_iconst (pc := 36) K (1) dX7_oneHour_36 (by decide) ?_
  refine J_dup2 (pc := 37) K dX7_oneHour_37 rfl rfl ?_
  refine J_iald (pc := 38) K (a := k0 + 1) (n := 262) (ty_7_1 hk0) dX7_oneHour_38 ?_
  refine J_iconst (pc := 39) K (1) dX7_oneHour_39 (by decide) ?_
  refine J_iadd (pc := 40) K dX7_oneHour_40 ?_
  refine J_iast (pc := 41) K (a := k0 + 1) (n := 262) (ty_7_1 hk0) dX7_oneHour_41 (fun h6 => ?_)
  exact J_vret (pc := 42) K dX7_oneHour_42
def F_X7_nobodies_4 (N : Nat) (k0 : Nat) (kt : Int32 → Mem → Option (Int32 × Mem)) : Nat → Int32 → Int32 → Mem → Option (Int32 × Mem)
  | 0, _, _, _ => none
  | n + 1, u1, u2, h =>
    (gin (0 : Int32) 262
    (if (h (k0 + 1) (ix (0 : Int32))) ≤ u2 then
      (kt u1 h)
    else
      (bnd (F_X7_isNobody N k0 u2 h) (fun r1 h2 =>
      (if r1 = 0 then
        (seqi (u1 + (0 : Int32)) (fun v3 =>
        (F_X7_nobodies_4 N k0 kt n v3 (u2 + 1) h2)))
      else
        (seqi (u1 + (1 : Int32)) (fun v4 =>
        (F_X7_nobodies_4 N k0 kt n v4 (u2 + 1) h2))))))))
set_option maxRecDepth 10000 in
set_option maxHeartbeats 1000000 in
theorem okL_X7_nobodies_4 {l : Launch} {ω : WX} {χ : KT} {d : Nat} (K : Kok ω χ "SaltCloudsModel" cX7_nobodies 3 (some .int) d) (hd : 55 ≤ d) (N : Nat) {k0 : Nat} (hk0 : lay k0 = 7) {kt : Int32 → Mem → Option (Int32 × Mem)} (hK : ∀ (u1 : Int32) (h : Mem), J (ZM rvI ω χ) l ω χ 36 3 [(1, .int u1)] [] h (kt u1 h)) : ∀ (n : Nat) (u1 : Int32) (u2 : Int32) (h : Mem), J (ZM rvI ω χ) l ω χ 4 3 [(0, .ref (ω.1 + k0)), (1, .int u1), (2, .int u2)] [] h (F_X7_nobodies_4 N k0 kt n u1 u2 h) := by
  intro n
  induction n with
  | zero =>
    intro u1 u2 h
    exact J_none rfl
  | succ n ih =>
    intro u1 u2 h
    rw [F_X7_nobodies_4]
    refine J_iload_n (pc := 4) K dX7_nobodies_4 2 rfl 2 rfl ?_
    refine J_aload_n (pc := 5) K dX7_nobodies_5 0 rfl 0 rfl ?_
    refine J_getR (pc := 6) K gf_SaltCloudsModel_7 hk0 1 rfl dX7_nobodies_6 ?_
    refine J_iconst (pc := 9) K (0) dX7_nobodies_9 (by decide) ?_
    refine J_iald (pc := 10) K (a := k0 + 1) (n := 262) (ty_7_1 hk0) dX7_nobodies_10 ?_
    refine J_icmp_ge (pc := 11) K 36 dX7_nobodies_11 (by decide) ?_ ?_
    · refine J_lv [1] [(1, .int u1)] rfl ?_
      exact hK u1 h
    · refine J_iload_n (pc := 14) K dX7_nobodies_14 1 rfl 1 rfl ?_
      refine J_aload_n (pc := 15) K dX7_nobodies_15 0 rfl 0 rfl ?_
      refine J_iload_n (pc := 16) K dX7_nobodies_16 2 rfl 2 rfl ?_
      refine J_callVI (As := [.int u2]) (rest := [.int u1]) (pc := 17) K cs_SaltCloudsModel_184 (ok_X7_isNobody l ω N hk0 u2 h) hk0 (by omega) rfl rfl (Nat.le_of_ble_eq_true rfl) dX7_nobodies_17 (fun r1 h2 => ?_)
      refine J_if_eq (pc := 20) K 27 dX7_nobodies_20 (by decide) ?_ ?_
      · refine J_iconst (pc := 27) K (0) dX7_nobodies_27 (by decide) ?_
        refine J_iadd (pc := 28) K dX7_nobodies_28 ?_
        refine J_topi (fun v3 => ?_)
        refine J_istore_n (pc := 29) K dX7_nobodies_29 1 rfl (by decide) [(1, .int v3), (0, .ref (ω.1 + k0)), (2, .int u2)] rfl ?_
        refine J_iinc (pc := 30) K (1) dX7_nobodies_30 2 rfl (by decide) (by decide) [(2, .int (u2 + 1)), (1, .int v3), (0, .ref (ω.1 + k0))] rfl ?_
        refine J_goto (pc := 33) K 4 dX7_nobodies_33 (by decide) ?_
        refine J_lv [2, 1, 0] [(0, .ref (ω.1 + k0)), (1, .int v3), (2, .int (u2 + 1))] rfl ?_
        exact ih v3 (u2 + 1) h2
      · refine J_iconst (pc := 23) K (1) dX7_nobodies_23 (by decide) ?_
        refine J_goto (pc := 24) K 28 dX7_nobodies_24 (by decide) ?_
        refine J_iadd (pc := 28) K dX7_nobodies_28 ?_
        refine J_topi (fun v4 => ?_)
        refine J_istore_n (pc := 29) K dX7_nobodies_29 1 rfl (by decide) [(1, .int v4), (0, .ref (ω.1 + k0)), (2, .int u2)] rfl ?_
        refine J_iinc (pc := 30) K (1) dX7_nobodies_30 2 rfl (by decide) (by decide) [(2, .int (u2 + 1)), (1, .int v4), (0, .ref (ω.1 + k0))] rfl ?_
        refine J_goto (pc := 33) K 4 dX7_nobodies_33 (by decide) ?_
        refine J_lv [2, 1, 0] [(0, .ref (ω.1 + k0)), (1, .int v4), (2, .int (u2 + 1))] rfl ?_
        exact ih v4 (u2 + 1) h2
def F_X7_nobodies (N : Nat) (k0 : Nat) (h : Mem) : Option (Int32 × Mem) :=
  (F_X7_nobodies_4 N k0 (fun (v5 : Int32) (h6 : Mem) =>
    (some (v5, h6))) N (0 : Int32) (0 : Int32) h)
set_option maxRecDepth 10000 in
set_option maxHeartbeats 1000000 in
theorem ok_X7_nobodies (l : Launch) (ω : WX) (N : Nat) {k0 : Nat} (hk0 : lay k0 = 7) (h : Mem) : MC rvI l ω yX7_nobodies cX7_nobodies 3 (some .int) 55 [.ref (ω.1 + k0)] h (F_X7_nobodies N k0 h) := by
  refine MC.of (by decide +kernel) [(0, .ref (ω.1 + k0))] rfl (Nat.le_of_ble_eq_true rfl) (fun χ K => ?_)
  have K : Kok ω χ "SaltCloudsModel" cX7_nobodies 3 (some .int) 55 := K
  unfold F_X7_nobodies
  refine J_iconst (pc := 0) K (0) dX7_nobodies_0 (by decide) ?_
  refine J_istore_n (pc := 1) K dX7_nobodies_1 1 rfl (by decide) [(1, .int (0 : Int32)), (0, .ref (ω.1 + k0))] rfl ?_
  refine J_iconst (pc := 2) K (0) dX7_nobodies_2 (by decide) ?_
  refine J_istore_n (pc := 3) K dX7_nobodies_3 2 rfl (by decide) [(2, .int (0 : Int32)), (1, .int (0 : Int32)), (0, .ref (ω.1 + k0))] rfl ?_
  refine J_lv [2, 1, 0] [(0, .ref (ω.1 + k0)), (1, .int (0 : Int32)), (2, .int (0 : Int32))] rfl ?_
  refine okL_X7_nobodies_4 K  (by decide) N hk0 (fun v5 h6 => ?_) _ _ _ _
  refine J_iload_n (pc := 36) K dX7_nobodies_36 1 rfl 0 rfl ?_
  exact J_iret (pc := 37) K dX7_nobodies_37
def F_X7_drawn (k0 : Nat) (x1 : Int32) (h : Mem) : Option (Int32 × Mem) :=
  (gin (3 : Int32) 262
  (gin (3 : Int32) 262 (seqh (upm h (k0 + 1) (ix (3 : Int32)) (((h (k0 + 1) (ix (3 : Int32))) * (1103515245 : Int32)) + (12345 : Int32))) (fun h1 =>
  (gin (3 : Int32) 262
  (gnz x1
  (some (irm (iush (h1 (k0 + 1) (ix (3 : Int32))) (8 : Int32)) x1, h1))))))))
set_option maxRecDepth 10000 in
set_option maxHeartbeats 1000000 in
theorem ok_X7_drawn (l : Launch) (ω : WX) {k0 : Nat} (hk0 : lay k0 = 7) (x1 : Int32) (h : Mem) : MC rvI l ω yX7_drawn cX7_drawn 2 (some .int) 0 [.ref (ω.1 + k0), .int x1] h (F_X7_drawn k0 x1 h) := by
  refine MC.of (by decide +kernel) [(0, .ref (ω.1 + k0)), (1, .int x1)] rfl (Nat.le_of_ble_eq_true rfl) (fun χ K => ?_)
  have K : Kok ω χ "SaltCloudsModel" cX7_drawn 2 (some .int) 0 := K
  unfold F_X7_drawn
  refine J_aload_n (pc := 0) K dX7_drawn_0 0 rfl 0 rfl ?_
  refine J_getR (pc := 1) K gf_SaltCloudsModel_7 hk0 1 rfl dX7_drawn_1 ?_
  refine J_iconst (pc := 4) K (3) dX7_drawn_4 (by decide) ?_
  refine J_aload_n (pc := 5) K dX7_drawn_5 0 rfl 0 rfl ?_
  refine J_getR (pc := 6) K gf_SaltCloudsModel_7 hk0 1 rfl dX7_drawn_6 ?_
  refine J_iconst (pc := 9) K (3) dX7_drawn_9 (by decide) ?_
  refine J_iald (pc := 10) K (a := k0 + 1) (n := 262) (ty_7_1 hk0) dX7_drawn_10 ?_
  refine J_ldc (pc := 11) K kc_SaltCloudsModel_187 dX7_drawn_11 ?_
  refine J_imul (pc := 13) K dX7_drawn_13 ?_
  refine J_sipush (pc := 14) K (12345) dX7_drawn_14 (by decide) ?_
  refine J_iadd (pc := 17) K dX7_drawn_17 ?_
  refine J_iast (pc := 18) K (a := k0 + 1) (n := 262) (ty_7_1 hk0) dX7_drawn_18 (fun h1 => ?_)
  refine J_aload_n (pc := 19) K dX7_drawn_19 0 rfl 0 rfl ?_
  refine J_getR (pc := 20) K gf_SaltCloudsModel_7 hk0 1 rfl dX7_drawn_20 ?_
  refine J_iconst (pc := 23) K (3) dX7_drawn_23 (by decide) ?_
  refine J_iald (pc := 24) K (a := k0 + 1) (n := 262) (ty_7_1 hk0) dX7_drawn_24 ?_
  refine J_bipush (pc := 25) K (8) dX7_drawn_25 (by decide) ?_
  refine J_iushr (pc := 27) K dX7_drawn_27 ?_
  refine J_iload_n (pc := 28) K dX7_drawn_28 1 rfl 1 rfl ?_
  refine J_irem (pc := 29) K dX7_drawn_29 ?_
  exact J_iret (pc := 30) K dX7_drawn_30
def F_X7_goes_41 (N : Nat) (k0 : Nat) (w1 : Int32) (w2 : Int32) (kt : Mem → Option (Int32 × Mem)) : Nat → Int32 → Mem → Option (Int32 × Mem)
  | 0, _, _ => none
  | n + 1, u3, h =>
    (if w1 ≤ u3 then
      (kt h)
    else
      (if w2 = 0 then
        (bnd (F_X7_windNow k0 h) (fun r5 h6 =>
        (bnd (F_X7_oneHour N k0 r5 h6) (fun _ h8 =>
        (F_X7_goes_41 N k0 w1 w2 kt n (u3 + 1) h8)))))
      else
        (bnd (F_X7_drawn k0 (7 : Int32) h) (fun r9 h10 =>
        (bnd (F_X7_oneHour N k0 (r9 - (3 : Int32)) h10) (fun _ h12 =>
        (F_X7_goes_41 N k0 w1 w2 kt n (u3 + 1) h12)))))))
set_option maxRecDepth 10000 in
set_option maxHeartbeats 1000000 in
theorem okL_X7_goes_41 {l : Launch} {ω : WX} {χ : KT} {d : Nat} (K : Kok ω χ "SaltCloudsModel" cX7_goes 4 (some .int) d) (hd : 5 ≤ d) (N : Nat) {k0 : Nat} (hk0 : lay k0 = 7) {w1 : Int32} {w2 : Int32} {kt : Mem → Option (Int32 × Mem)} (hK : ∀ (h : Mem), J (ZM rvI ω χ) l ω χ 75 4 [(0, .ref (ω.1 + k0))] [] h (kt h)) : ∀ (n : Nat) (u3 : Int32) (h : Mem), J (ZM rvI ω χ) l ω χ 41 4 [(0, .ref (ω.1 + k0)), (1, .int w1), (2, .int w2), (3, .int u3)] [] h (F_X7_goes_41 N k0 w1 w2 kt n u3 h) := by
  intro n
  induction n with
  | zero =>
    intro u3 h
    exact J_none rfl
  | succ n ih =>
    intro u3 h
    rw [F_X7_goes_41]
    refine J_iload_n (pc := 41) K dX7_goes_41 3 rfl 3 rfl ?_
    refine J_iload_n (pc := 42) K dX7_goes_42 1 rfl 1 rfl ?_
    refine J_icmp_ge (pc := 43) K 75 dX7_goes_43 (by decide) ?_ ?_
    · refine J_lv [0] [(0, .ref (ω.1 + k0))] rfl ?_
      exact hK h
    · refine J_aload_n (pc := 46) K dX7_goes_46 0 rfl 0 rfl ?_
      refine J_iload_n (pc := 47) K dX7_goes_47 2 rfl 2 rfl ?_
      refine J_if_eq (pc := 48) K 62 dX7_goes_48 (by decide) ?_ ?_
      · refine J_aload_n (pc := 62) K dX7_goes_62 0 rfl 0 rfl ?_
        refine J_callVI (As := []) (rest := [.ref (ω.1 + k0)]) (pc := 63) K cs_SaltCloudsModel_86 (ok_X7_windNow l ω hk0 h) hk0 (by omega) rfl rfl (Nat.le_of_ble_eq_true rfl) dX7_goes_63 (fun r5 h6 => ?_)
        refine J_callVU (As := [.int r5]) (rest := []) (pc := 66) K cs_SaltCloudsModel_191 (ok_X7_oneHour l ω N hk0 r5 h6) hk0 (by omega) rfl rfl (Nat.le_of_ble_eq_true rfl) dX7_goes_66 (fun _ h8 => ?_)
        refine J_iinc (pc := 69) K (1) dX7_goes_69 3 rfl (by decide) (by decide) [(3, .int (u3 + 1)), (0, .ref (ω.1 + k0)), (1, .int w1), (2, .int w2)] rfl ?_
        refine J_goto (pc := 72) K 41 dX7_goes_72 (by decide) ?_
        refine J_lv [1, 2, 3, 0] [(0, .ref (ω.1 + k0)), (1, .int w1), (2, .int w2), (3, .int (u3 + 1))] rfl ?_
        exact ih (u3 + 1) h8
      · refine J_aload_n (pc := 51) K dX7_goes_51 0 rfl 0 rfl ?_
        refine J_bipush (pc := 52) K (7) dX7_goes_52 (by decide) ?_
        refine J_callVI (As := [.int (7 : Int32)]) (rest := [.ref (ω.1 + k0)]) (pc := 54) K cs_SaltCloudsModel_188 (ok_X7_drawn l ω hk0 (7 : Int32) h) hk0 (by omega) rfl rfl (Nat.le_of_ble_eq_true rfl) dX7_goes_54 (fun r9 h10 => ?_)
        refine J_iconst (pc := 57) K (3) dX7_goes_57 (by decide) ?_
        refine J_isub (pc := 58) K dX7_goes_58 ?_
        refine J_goto (pc := 59) K 66 dX7_goes_59 (by decide) ?_
        refine J_callVU (As := [.int (r9 - (3 : Int32))]) (rest := []) (pc := 66) K cs_SaltCloudsModel_191 (ok_X7_oneHour l ω N hk0 (r9 - (3 : Int32)) h10) hk0 (by omega) rfl rfl (Nat.le_of_ble_eq_true rfl) dX7_goes_66 (fun _ h12 => ?_)
        refine J_iinc (pc := 69) K (1) dX7_goes_69 3 rfl (by decide) (by decide) [(3, .int (u3 + 1)), (0, .ref (ω.1 + k0)), (1, .int w1), (2, .int w2)] rfl ?_
        refine J_goto (pc := 72) K 41 dX7_goes_72 (by decide) ?_
        refine J_lv [1, 2, 3, 0] [(0, .ref (ω.1 + k0)), (1, .int w1), (2, .int w2), (3, .int (u3 + 1))] rfl ?_
        exact ih (u3 + 1) h12
def F_X7_goes (N : Nat) (k0 : Nat) (x1 : Int32) (x2 : Int32) (h : Mem) : Option (Int32 × Mem) :=
  (bnd (F_X7_in x1 (1 : Int32) (200 : Int32) h) (fun r1 h2 =>
  (if r1 = 0 then
    (bnd (F_X7_errs k0 (-1000000001 : Int32) h2) (fun r3 h4 =>
    (some (r3, h4))))
  else
    (gin (1 : Int32) 262
    (if ((h2 (k0 + 1) (ix (1 : Int32))) + x1) ≤ (9999 : Int32) then
      (F_X7_goes_41 N k0 x1 x2 (fun (h13 : Mem) =>
        (bnd (F_X7_nobodies N k0 h13) (fun r14 h15 =>
        (some (r14, h15))))) N (0 : Int32) h2)
    else
      (bnd (F_X7_errs k0 (-1000000003 : Int32) h2) (fun r16 h17 =>
      (some (r16, h17)))))))))
set_option maxRecDepth 10000 in
set_option maxHeartbeats 1000000 in
theorem ok_X7_goes (l : Launch) (ω : WX) (N : Nat) {k0 : Nat} (hk0 : lay k0 = 7) (x1 : Int32) (x2 : Int32) (h : Mem) : MC rvI l ω yX7_goes cX7_goes 4 (some .int) 56 [.ref (ω.1 + k0), .int x1, .int x2] h (F_X7_goes N k0 x1 x2 h) := by
  refine MC.of (by decide +kernel) [(0, .ref (ω.1 + k0)), (1, .int x1), (2, .int x2)] rfl (Nat.le_of_ble_eq_true rfl) (fun χ K => ?_)
  have K : Kok ω χ "SaltCloudsModel" cX7_goes 4 (some .int) 56 := K
  unfold F_X7_goes
  refine J_iload_n (pc := 0) K dX7_goes_0 1 rfl 1 rfl ?_
  refine J_iconst (pc := 1) K (1) dX7_goes_1 (by decide) ?_
  refine J_sipush (pc := 2) K (200) dX7_goes_2 (by decide) ?_
  refine J_callTI (As := [.int x1, .int (1 : Int32), .int (200 : Int32)]) (rest := []) (pc := 5) K cs_SaltCloudsModel_41 (ok_X7_in l ω x1 (1 : Int32) (200 : Int32) h) (by decide) rfl rfl (Nat.le_of_ble_eq_true rfl) dX7_goes_5 (fun r1 h2 => ?_)
  refine J_if_ne (pc := 8) K 18 dX7_goes_8 (by decide) ?_ ?_
  · refine J_aload_n (pc := 11) K dX7_goes_11 0 rfl 0 rfl ?_
    refine J_ldc (pc := 12) K kc_SaltCloudsModel_53 dX7_goes_12 ?_
    refine J_callVI (As := [.int (-1000000001 : Int32)]) (rest := []) (pc := 14) K cs_SaltCloudsModel_54 (ok_X7_errs l ω hk0 (-1000000001 : Int32) h2) hk0 (by decide) rfl rfl (Nat.le_of_ble_eq_true rfl) dX7_goes_14 (fun r3 h4 => ?_)
    exact J_iret (pc := 17) K dX7_goes_17
  · refine J_aload_n (pc := 18) K dX7_goes_18 0 rfl 0 rfl ?_
    refine J_getR (pc := 19) K gf_SaltCloudsModel_7 hk0 1 rfl dX7_goes_19 ?_
    refine J_iconst (pc := 22) K (1) dX7_goes_22 (by decide) ?_
    refine J_iald (pc := 23) K (a := k0 + 1) (n := 262) (ty_7_1 hk0) dX7_goes_23 ?_
    refine J_iload_n (pc := 24) K dX7_goes_24 1 rfl 1 rfl ?_
    refine J_iadd (pc := 25) K dX7_goes_25 ?_
    refine J_sipush (pc := 26) K (9999) dX7_goes_26 (by decide) ?_
    refine J_icmp_le (pc := 29) K 39 dX7_goes_29 (by decide) ?_ ?_
    · refine J_iconst (pc := 39) K (0) dX7_goes_39 (by decide) ?_
      refine J_istore_n (pc := 40) K dX7_goes_40 3 rfl (by decide) [(3, .int (0 : Int32)), (0, .ref (ω.1 + k0)), (1, .int x1), (2, .int x2)] rfl ?_
      refine J_lv [1, 2, 3, 0] [(0, .ref (ω.1 + k0)), (1, .int x1), (2, .int x2), (3, .int (0 : Int32))] rfl ?_
      refine okL_X7_goes_41 K  (by decide) N hk0 (fun h13 => ?_) _ _ _
      refine J_aload_n (pc := 75) K dX7_goes_75 0 rfl 0 rfl ?_
      refine J_callVI (As := []) (rest := []) (pc := 76) K cs_SaltCloudsModel_195 (ok_X7_nobodies l ω N hk0 h13) hk0 (by decide) rfl rfl (Nat.le_of_ble_eq_true rfl) dX7_goes_76 (fun r14 h15 => ?_)
      exact J_iret (pc := 79) K dX7_goes_79
    · refine J_aload_n (pc := 32) K dX7_goes_32 0 rfl 0 rfl ?_
      refine J_ldc (pc := 33) K kc_SaltCloudsModel_103 dX7_goes_33 ?_
      refine J_callVI (As := [.int (-1000000003 : Int32)]) (rest := []) (pc := 35) K cs_SaltCloudsModel_54 (ok_X7_errs l ω hk0 (-1000000003 : Int32) h2) hk0 (by decide) rfl rfl (Nat.le_of_ble_eq_true rfl) dX7_goes_35 (fun r16 h17 => ?_)
      exact J_iret (pc := 38) K dX7_goes_38
def F_X7_hours (N : Nat) (k0 : Nat) (x1 : Int32) (h : Mem) : Option (Int32 × Mem) :=
  (bnd (F_X7_goes N k0 x1 (0 : Int32) h) (fun r1 h2 =>
  (some (r1, h2))))
set_option maxRecDepth 10000 in
set_option maxHeartbeats 1000000 in
theorem ok_X7_hours (l : Launch) (ω : WX) (N : Nat) {k0 : Nat} (hk0 : lay k0 = 7) (x1 : Int32) (h : Mem) : MC rvI l ω yX7_hours cX7_hours 2 (some .int) 57 [.ref (ω.1 + k0), .int x1] h (F_X7_hours N k0 x1 h) := by
  refine MC.of (by decide +kernel) [(0, .ref (ω.1 + k0)), (1, .int x1)] rfl (Nat.le_of_ble_eq_true rfl) (fun χ K => ?_)
  have K : Kok ω χ "SaltCloudsModel" cX7_hours 2 (some .int) 57 := K
  unfold F_X7_hours
  refine J_aload_n (pc := 0) K dX7_hours_0 0 rfl 0 rfl ?_
  refine J_iload_n (pc := 1) K dX7_hours_1 1 rfl 1 rfl ?_
  refine J_iconst (pc := 2) K (0) dX7_hours_2 (by decide) ?_
  refine J_callVI (As := [.int x1, .int (0 : Int32)]) (rest := []) (pc := 3) K cs_SaltCloudsModel_198 (ok_X7_goes l ω N hk0 x1 (0 : Int32) h) hk0 (by decide) rfl rfl (Nat.le_of_ble_eq_true rfl) dX7_hours_3 (fun r1 h2 => ?_)
  exact J_iret (pc := 6) K dX7_hours_6
def F_X7_loose (N : Nat) (k0 : Nat) (x1 : Int32) (h : Mem) : Option (Int32 × Mem) :=
  (bnd (F_X7_goes N k0 x1 (1 : Int32) h) (fun r1 h2 =>
  (some (r1, h2))))
set_option maxRecDepth 10000 in
set_option maxHeartbeats 1000000 in
theorem ok_X7_loose (l : Launch) (ω : WX) (N : Nat) {k0 : Nat} (hk0 : lay k0 = 7) (x1 : Int32) (h : Mem) : MC rvI l ω yX7_loose cX7_loose 2 (some .int) 57 [.ref (ω.1 + k0), .int x1] h (F_X7_loose N k0 x1 h) := by
  refine MC.of (by decide +kernel) [(0, .ref (ω.1 + k0)), (1, .int x1)] rfl (Nat.le_of_ble_eq_true rfl) (fun χ K => ?_)
  have K : Kok ω χ "SaltCloudsModel" cX7_loose 2 (some .int) 57 := K
  unfold F_X7_loose
  refine J_aload_n (pc := 0) K dX7_loose_0 0 rfl 0 rfl ?_
  refine J_iload_n (pc := 1) K dX7_loose_1 1 rfl 1 rfl ?_
  refine J_iconst (pc := 2) K (1) dX7_loose_2 (by decide) ?_
  refine J_callVI (As := [.int x1, .int (1 : Int32)]) (rest := []) (pc := 3) K cs_SaltCloudsModel_198 (ok_X7_goes l ω N hk0 x1 (1 : Int32) h) hk0 (by decide) rfl rfl (Nat.le_of_ble_eq_true rfl) dX7_loose_3 (fun r1 h2 => ?_)
  exact J_iret (pc := 6) K dX7_loose_6
def F_X7_then_57 (N : Nat) (k0 : Nat) (w1 : Int32) (w2 : Int32) (w3 : Int32) (kt : Mem → Option (Int32 × Mem)) : Nat → Int32 → Mem → Option (Int32 × Mem)
  | 0, _, _ => none
  | n + 1, u4, h =>
    (if w1 ≤ u4 then
      (kt h)
    else
      (bnd (F_X7_windNow k0 h) (fun r15 h16 =>
      (bnd (F_X7_oneHour N k0 r15 h16) (fun _ h18 =>
      (F_X7_then_57 N k0 w1 w2 w3 kt n (u4 + 1) h18))))))
set_option maxRecDepth 10000 in
set_option maxHeartbeats 1000000 in
theorem okL_X7_then_57 {l : Launch} {ω : WX} {χ : KT} {d : Nat} (K : Kok ω χ "SaltCloudsModel" cX7_then 5 (some .int) d) (hd : 5 ≤ d) (N : Nat) {k0 : Nat} (hk0 : lay k0 = 7) {w1 : Int32} {w2 : Int32} {w3 : Int32} {kt : Mem → Option (Int32 × Mem)} (hK : ∀ (h : Mem), J (ZM rvI ω χ) l ω χ 77 5 [(0, .ref (ω.1 + k0)), (2, .int w2), (3, .int w3)] [] h (kt h)) : ∀ (n : Nat) (u4 : Int32) (h : Mem), J (ZM rvI ω χ) l ω χ 57 5 [(0, .ref (ω.1 + k0)), (1, .int w1), (2, .int w2), (3, .int w3), (4, .int u4)] [] h (F_X7_then_57 N k0 w1 w2 w3 kt n u4 h) := by
  intro n
  induction n with
  | zero =>
    intro u4 h
    exact J_none rfl
  | succ n ih =>
    intro u4 h
    rw [F_X7_then_57]
    refine J_iload (pc := 57) K dX7_then_57 4 rfl ?_
    refine J_iload_n (pc := 59) K dX7_then_59 1 rfl 1 rfl ?_
    refine J_icmp_ge (pc := 60) K 77 dX7_then_60 (by decide) ?_ ?_
    · refine J_lv [0, 2, 3] [(0, .ref (ω.1 + k0)), (2, .int w2), (3, .int w3)] rfl ?_
      exact hK h
    · refine J_aload_n (pc := 63) K dX7_then_63 0 rfl 0 rfl ?_
      refine J_aload_n (pc := 64) K dX7_then_64 0 rfl 0 rfl ?_
      refine J_callVI (As := []) (rest := [.ref (ω.1 + k0)]) (pc := 65) K cs_SaltCloudsModel_86 (ok_X7_windNow l ω hk0 h) hk0 (by omega) rfl rfl (Nat.le_of_ble_eq_true rfl) dX7_then_65 (fun r15 h16 => ?_)
      refine J_callVU (As := [.int r15]) (rest := []) (pc := 68) K cs_SaltCloudsModel_191 (ok_X7_oneHour l ω N hk0 r15 h16) hk0 (by omega) rfl rfl (Nat.le_of_ble_eq_true rfl) dX7_then_68 (fun _ h18 => ?_)
      refine J_iinc (pc := 71) K (1) dX7_then_71 4 rfl (by decide) (by decide) [(4, .int (u4 + 1)), (0, .ref (ω.1 + k0)), (1, .int w1), (2, .int w2), (3, .int w3)] rfl ?_
      refine J_goto (pc := 74) K 57 dX7_then_74 (by decide) ?_
      refine J_lv [1, 2, 3, 4, 0] [(0, .ref (ω.1 + k0)), (1, .int w1), (2, .int w2), (3, .int w3), (4, .int (u4 + 1))] rfl ?_
      exact ih (u4 + 1) h18
def F_X7_then (N : Nat) (k0 : Nat) (x1 : Int32) (x2 : Int32) (x3 : Int32) (h : Mem) : Option (Int32 × Mem) :=
  (bnd (F_X7_in x1 (0 : Int32) (200 : Int32) h) (fun r1 h2 =>
  (if r1 = 0 then
    (bnd (F_X7_errs k0 (-1000000001 : Int32) h2) (fun r3 h4 =>
    (some (r3, h4))))
  else
    (bnd (F_X7_isCloud k0 x2 h2) (fun r5 h6 =>
    (if r5 = 0 then
      (bnd (F_X7_errs k0 (-1000000001 : Int32) h6) (fun r7 h8 =>
      (some (r7, h8))))
    else
      (bnd (F_X7_in x3 (2 : Int32) (6 : Int32) h6) (fun r9 h10 =>
      (jn (fun (h12 : Mem) =>
        (bnd (F_X7_moveAll N k0 (k0 + 1) 262 (k0 + 3) 262 h12) (fun _ h14 =>
        (F_X7_then_57 N k0 x1 x2 x3 (fun (h19 : Mem) =>
          (jn (fun (s21 : Int32) (h22 : Mem) =>
            (bnd (F_X7_moveAll N k0 (k0 + 3) 262 (k0 + 1) 262 h22) (fun _ h24 =>
            (some (s21, h24))))) (fun j20 =>
            (if x3 = (8 : Int32) then
              (bnd (F_X7_tasteOf k0 x2 h19) (fun r25 h26 =>
              (j20 r25 h26)))
            else
              (bnd (F_X7_its k0 x2 x3 h19) (fun r27 h28 =>
              (j20 r27 h28))))))) N (0 : Int32) h14)))) (fun j11 =>
        (if r9 = 0 then
          (if x3 = (8 : Int32) then
            (j11 h10)
          else
            (bnd (F_X7_errs k0 (-1000000001 : Int32) h10) (fun r29 h30 =>
            (some (r29, h30)))))
        else
          (j11 h10))))))))))))
set_option maxRecDepth 10000 in
set_option maxHeartbeats 1000000 in
theorem ok_X7_then (l : Launch) (ω : WX) (N : Nat) {k0 : Nat} (hk0 : lay k0 = 7) (x1 : Int32) (x2 : Int32) (x3 : Int32) (h : Mem) : MC rvI l ω yX7_then cX7_then 5 (some .int) 5 [.ref (ω.1 + k0), .int x1, .int x2, .int x3] h (F_X7_then N k0 x1 x2 x3 h) := by
  refine MC.of (by decide +kernel) [(0, .ref (ω.1 + k0)), (1, .int x1), (2, .int x2), (3, .int x3)] rfl (Nat.le_of_ble_eq_true rfl) (fun χ K => ?_)
  have K : Kok ω χ "SaltCloudsModel" cX7_then 5 (some .int) 5 := K
  unfold F_X7_then
  refine J_iload_n (pc := 0) K dX7_then_0 1 rfl 1 rfl ?_
  refine J_iconst (pc := 1) K (0) dX7_then_1 (by decide) ?_
  refine J_sipush (pc := 2) K (200) dX7_then_2 (by decide) ?_
  refine J_callTI (As := [.int x1, .int (0 : Int32), .int (200 : Int32)]) (rest := []) (pc := 5) K cs_SaltCloudsModel_41 (ok_X7_in l ω x1 (0 : Int32) (200 : Int32) h) (by decide) rfl rfl (Nat.le_of_ble_eq_true rfl) dX7_then_5 (fun r1 h2 => ?_)
  refine J_if_eq (pc := 8) K 35 dX7_then_8 (by decide) ?_ ?_
  · refine J_aload_n (pc := 35) K dX7_then_35 0 rfl 0 rfl ?_
    refine J_ldc (pc := 36) K kc_SaltCloudsModel_53 dX7_then_36 ?_
    refine J_callVI (As := [.int (-1000000001 : Int32)]) (rest := []) (pc := 38) K cs_SaltCloudsModel_54 (ok_X7_errs l ω hk0 (-1000000001 : Int32) h2) hk0 (by decide) rfl rfl (Nat.le_of_ble_eq_true rfl) dX7_then_38 (fun r3 h4 => ?_)
    exact J_iret (pc := 41) K dX7_then_41
  · refine J_aload_n (pc := 11) K dX7_then_11 0 rfl 0 rfl ?_
    refine J_iload_n (pc := 12) K dX7_then_12 2 rfl 2 rfl ?_
    refine J_callVI (As := [.int x2]) (rest := []) (pc := 13) K cs_SaltCloudsModel_83 (ok_X7_isCloud l ω hk0 x2 h2) hk0 (by decide) rfl rfl (Nat.le_of_ble_eq_true rfl) dX7_then_13 (fun r5 h6 => ?_)
    refine J_if_eq (pc := 16) K 35 dX7_then_16 (by decide) ?_ ?_
    · refine J_aload_n (pc := 35) K dX7_then_35 0 rfl 0 rfl ?_
      refine J_ldc (pc := 36) K kc_SaltCloudsModel_53 dX7_then_36 ?_
      refine J_callVI (As := [.int (-1000000001 : Int32)]) (rest := []) (pc := 38) K cs_SaltCloudsModel_54 (ok_X7_errs l ω hk0 (-1000000001 : Int32) h6) hk0 (by decide) rfl rfl (Nat.le_of_ble_eq_true rfl) dX7_then_38 (fun r7 h8 => ?_)
      exact J_iret (pc := 41) K dX7_then_41
    · refine J_iload_n (pc := 19) K dX7_then_19 3 rfl 3 rfl ?_
      refine J_iconst (pc := 20) K (2) dX7_then_20 (by decide) ?_
      refine J_bipush (pc := 21) K (6) dX7_then_21 (by decide) ?_
      refine J_callTI (As := [.int x3, .int (2 : Int32), .int (6 : Int32)]) (rest := []) (pc := 23) K cs_SaltCloudsModel_41 (ok_X7_in l ω x3 (2 : Int32) (6 : Int32) h6) (by decide) rfl rfl (Nat.le_of_ble_eq_true rfl) dX7_then_23 (fun r9 h10 => ?_)
      refine J_jn (fun j11 => ∀ (h12 : Mem), J (ZM rvI ω χ) l ω χ 42 5 [(0, .ref (ω.1 + k0)), (1, .int x1), (2, .int x2), (3, .int x3)] [] h12 (j11 h12)) ?_ ?_
      · intro h12
        refine J_aload_n (pc := 42) K dX7_then_42 0 rfl 0 rfl ?_
        refine J_aload_n (pc := 43) K dX7_then_43 0 rfl 0 rfl ?_
        refine J_getR (pc := 44) K gf_SaltCloudsModel_7 hk0 1 rfl dX7_then_44 ?_
        refine J_aload_n (pc := 47) K dX7_then_47 0 rfl 0 rfl ?_
        refine J_getR (pc := 48) K gf_SaltCloudsModel_16 hk0 3 rfl dX7_then_48 ?_
        refine J_callVU (As := [.ref (ω.1 + (k0 + 1)), .ref (ω.1 + (k0 + 3))]) (rest := []) (pc := 51) K cs_SaltCloudsModel_168 (ok_X7_moveAll l ω N hk0 (n1 := 262) (ty_7_1 hk0) (n2 := 262) (ty_7_3 hk0) h12) hk0 (by decide) rfl rfl (Nat.le_of_ble_eq_true rfl) dX7_then_51 (fun _ h14 => ?_)
        refine J_iconst (pc := 54) K (0) dX7_then_54 (by decide) ?_
        refine J_istore (pc := 55) K dX7_then_55 (by decide) [(4, .int (0 : Int32)), (0, .ref (ω.1 + k0)), (1, .int x1), (2, .int x2), (3, .int x3)] rfl ?_
        refine J_lv [1, 2, 3, 4, 0] [(0, .ref (ω.1 + k0)), (1, .int x1), (2, .int x2), (3, .int x3), (4, .int (0 : Int32))] rfl ?_
        refine okL_X7_then_57 K  (by decide) N hk0 (fun h19 => ?_) _ _ _
        refine J_iload_n (pc := 77) K dX7_then_77 3 rfl 2 rfl ?_
        refine J_bipush (pc := 78) K (8) dX7_then_78 (by decide) ?_
        refine J_jn (fun j20 => ∀ (s21 : Int32) (h22 : Mem), J (ZM rvI ω χ) l ω χ 97 5 [(0, .ref (ω.1 + k0))] [.int s21] h22 (j20 s21 h22)) ?_ ?_
        · intro s21 h22
          refine J_istore (pc := 97) K dX7_then_97 (by decide) [(4, .int s21), (0, .ref (ω.1 + k0))] rfl ?_
          refine J_aload_n (pc := 99) K dX7_then_99 0 rfl 1 rfl ?_
          refine J_aload_n (pc := 100) K dX7_then_100 0 rfl 1 rfl ?_
          refine J_getR (pc := 101) K gf_SaltCloudsModel_16 hk0 3 rfl dX7_then_101 ?_
          refine J_aload_n (pc := 104) K dX7_then_104 0 rfl 1 rfl ?_
          refine J_getR (pc := 105) K gf_SaltCloudsModel_7 hk0 1 rfl dX7_then_105 ?_
          refine J_callVU (As := [.ref (ω.1 + (k0 + 3)), .ref (ω.1 + (k0 + 1))]) (rest := []) (pc := 108) K cs_SaltCloudsModel_168 (ok_X7_moveAll l ω N hk0 (n1 := 262) (ty_7_3 hk0) (n2 := 262) (ty_7_1 hk0) h22) hk0 (by decide) rfl rfl (Nat.le_of_ble_eq_true rfl) dX7_then_108 (fun _ h24 => ?_)
          refine J_iload (pc := 111) K dX7_then_111 0 rfl ?_
          exact J_iret (pc := 113) K dX7_then_113
        · intro j20 hj20
          refine J_icmp_ne (pc := 80) K 91 dX7_then_80 (by decide) ?_ ?_
          · refine J_aload_n (pc := 83) K dX7_then_83 0 rfl 0 rfl ?_
            refine J_iload_n (pc := 84) K dX7_then_84 2 rfl 1 rfl ?_
            refine J_callVI (As := [.int x2]) (rest := []) (pc := 85) K cs_SaltCloudsModel_70 (ok_X7_tasteOf l ω hk0 x2 h19) hk0 (by decide) rfl rfl (Nat.le_of_ble_eq_true rfl) dX7_then_85 (fun r25 h26 => ?_)
            refine J_goto (pc := 88) K 97 dX7_then_88 (by decide) ?_
            refine J_lv [0] [(0, .ref (ω.1 + k0))] rfl ?_
            exact hj20 r25 h26
          · refine J_aload_n (pc := 91) K dX7_then_91 0 rfl 0 rfl ?_
            refine J_iload_n (pc := 92) K dX7_then_92 2 rfl 1 rfl ?_
            refine J_iload_n (pc := 93) K dX7_then_93 3 rfl 2 rfl ?_
            refine J_callVI (As := [.int x2, .int x3]) (rest := []) (pc := 94) K cs_SaltCloudsModel_45 (ok_X7_its l ω hk0 x2 x3 h19) hk0 (by decide) rfl rfl (Nat.le_of_ble_eq_true rfl) dX7_then_94 (fun r27 h28 => ?_)
            refine J_lv [0] [(0, .ref (ω.1 + k0))] rfl ?_
            exact hj20 r27 h28
      · intro j11 hj11
        refine J_if_ne (pc := 26) K 42 dX7_then_26 (by decide) ?_ ?_
        · refine J_iload_n (pc := 29) K dX7_then_29 3 rfl 3 rfl ?_
          refine J_bipush (pc := 30) K (8) dX7_then_30 (by decide) ?_
          refine J_icmp_eq (pc := 32) K 42 dX7_then_32 (by decide) ?_ ?_
          · exact hj11 h10
          · refine J_aload_n (pc := 35) K dX7_then_35 0 rfl 0 rfl ?_
            refine J_ldc (pc := 36) K kc_SaltCloudsModel_53 dX7_then_36 ?_
            refine J_callVI (As := [.int (-1000000001 : Int32)]) (rest := []) (pc := 38) K cs_SaltCloudsModel_54 (ok_X7_errs l ω hk0 (-1000000001 : Int32) h10) hk0 (by decide) rfl rfl (Nat.le_of_ble_eq_true rfl) dX7_then_38 (fun r29 h30 => ?_)
            exact J_iret (pc := 41) K dX7_then_41
        · exact hj11 h10
def F_X7_pays (N : Nat) (k0 : Nat) (x1 : Int32) (x2 : Int32) (h : Mem) : Option (Int32 × Mem) :=
  (bnd (F_X7_nameOf N k0 x1 h) (fun r1 h2 =>
  (bnd (F_X7_nameOf N k0 x2 h2) (fun r3 h4 =>
  (bnd (F_X7_heightOf k0 x1 h4) (fun r5 h6 =>
  (bnd (F_X7_lawOf N k0 (1 : Int32) r1 r3 r5 h6) (fun r7 h8 =>
  (bnd (F_X7_its k0 x1 (3 : Int32) h8) (fun r9 h10 =>
  (jn (fun (s12 : Int32) (h13 : Mem) =>
    (bnd (F_X7_its k0 x1 (3 : Int32) h13) (fun r14 h15 =>
    (bnd (F_X7_puts k0 x1 (3 : Int32) (r14 - s12) h15) (fun _ h17 =>
    (bnd (F_X7_its k0 x2 (3 : Int32) h17) (fun r18 h19 =>
    (bnd (F_X7_held (r18 + s12) (0 : Int32) (999 : Int32) h19) (fun r20 h21 =>
    (bnd (F_X7_puts k0 x2 (3 : Int32) r20 h21) (fun _ h23 =>
    (some (s12, h23))))))))))))) (fun j11 =>
    (if r9 ≤ r7 then
      (bnd (F_X7_its k0 x1 (3 : Int32) h10) (fun r24 h25 =>
      (j11 r24 h25)))
    else
      (j11 r7 h10))))))))))))))
set_option maxRecDepth 10000 in
set_option maxHeartbeats 1000000 in
theorem ok_X7_pays (l : Launch) (ω : WX) (N : Nat) {k0 : Nat} (hk0 : lay k0 = 7) (x1 : Int32) (x2 : Int32) (h : Mem) : MC rvI l ω yX7_pays cX7_pays 5 (some .int) 54 [.ref (ω.1 + k0), .int x1, .int x2] h (F_X7_pays N k0 x1 x2 h) := by
  refine MC.of (by decide +kernel) [(0, .ref (ω.1 + k0)), (1, .int x1), (2, .int x2)] rfl (Nat.le_of_ble_eq_true rfl) (fun χ K => ?_)
  have K : Kok ω χ "SaltCloudsModel" cX7_pays 5 (some .int) 54 := K
  unfold F_X7_pays
  refine J_aload_n (pc := 0) K dX7_pays_0 0 rfl 0 rfl ?_
  refine J_iconst (pc := 1) K (1) dX7_pays_1 (by decide) ?_
  refine J_aload_n (pc := 2) K dX7_pays_2 0 rfl 0 rfl ?_
  refine J_iload_n (pc := 3) K dX7_pays_3 1 rfl 1 rfl ?_
  refine J_callVI (As := [.int x1]) (rest := [.int (1 : Int32), .ref (ω.1 + k0)]) (pc := 4) K cs_SaltCloudsModel_80 (ok_X7_nameOf l ω N hk0 x1 h) hk0 (by decide) rfl rfl (Nat.le_of_ble_eq_true rfl) dX7_pays_4 (fun r1 h2 => ?_)
  refine J_aload_n (pc := 7) K dX7_pays_7 0 rfl 0 rfl ?_
  refine J_iload_n (pc := 8) K dX7_pays_8 2 rfl 2 rfl ?_
  refine J_callVI (As := [.int x2]) (rest := [.int r1, .int (1 : Int32), .ref (ω.1 + k0)]) (pc := 9) K cs_SaltCloudsModel_80 (ok_X7_nameOf l ω N hk0 x2 h2) hk0 (by decide) rfl rfl (Nat.le_of_ble_eq_true rfl) dX7_pays_9 (fun r3 h4 => ?_)
  refine J_aload_n (pc := 12) K dX7_pays_12 0 rfl 0 rfl ?_
  refine J_iload_n (pc := 13) K dX7_pays_13 1 rfl 1 rfl ?_
  refine J_callVI (As := [.int x1]) (rest := [.int r3, .int r1, .int (1 : Int32), .ref (ω.1 + k0)]) (pc := 14) K cs_SaltCloudsModel_93 (ok_X7_heightOf l ω hk0 x1 h4) hk0 (by decide) rfl rfl (Nat.le_of_ble_eq_true rfl) dX7_pays_14 (fun r5 h6 => ?_)
  refine J_callVI (As := [.int (1 : Int32), .int r1, .int r3, .int r5]) (rest := []) (pc := 17) K cs_SaltCloudsModel_73 (ok_X7_lawOf l ω N hk0 (1 : Int32) r1 r3 r5 h6) hk0 (by decide) rfl rfl (Nat.le_of_ble_eq_true rfl) dX7_pays_17 (fun r7 h8 => ?_)
  refine J_istore_n (pc := 20) K dX7_pays_20 3 rfl (by decide) [(3, .int r7), (0, .ref (ω.1 + k0)), (1, .int x1), (2, .int x2)] rfl ?_
  refine J_iload_n (pc := 21) K dX7_pays_21 3 rfl 0 rfl ?_
  refine J_aload_n (pc := 22) K dX7_pays_22 0 rfl 1 rfl ?_
  refine J_iload_n (pc := 23) K dX7_pays_23 1 rfl 2 rfl ?_
  refine J_iconst (pc := 24) K (3) dX7_pays_24 (by decide) ?_
  refine J_callVI (As := [.int x1, .int (3 : Int32)]) (rest := [.int r7]) (pc := 25) K cs_SaltCloudsModel_45 (ok_X7_its l ω hk0 x1 (3 : Int32) h8) hk0 (by decide) rfl rfl (Nat.le_of_ble_eq_true rfl) dX7_pays_25 (fun r9 h10 => ?_)
  refine J_jn (fun j11 => ∀ (s12 : Int32) (h13 : Mem), J (ZM rvI ω χ) l ω χ 41 5 [(0, .ref (ω.1 + k0)), (1, .int x1), (2, .int x2)] [.int s12] h13 (j11 s12 h13)) ?_ ?_
  · intro s12 h13
    refine J_istore (pc := 41) K dX7_pays_41 (by decide) [(4, .int s12), (0, .ref (ω.1 + k0)), (1, .int x1), (2, .int x2)] rfl ?_
    refine J_aload_n (pc := 43) K dX7_pays_43 0 rfl 1 rfl ?_
    refine J_iload_n (pc := 44) K dX7_pays_44 1 rfl 2 rfl ?_
    refine J_iconst (pc := 45) K (3) dX7_pays_45 (by decide) ?_
    refine J_aload_n (pc := 46) K dX7_pays_46 0 rfl 1 rfl ?_
    refine J_iload_n (pc := 47) K dX7_pays_47 1 rfl 2 rfl ?_
    refine J_iconst (pc := 48) K (3) dX7_pays_48 (by decide) ?_
    refine J_callVI (As := [.int x1, .int (3 : Int32)]) (rest := [.int (3 : Int32), .int x1, .ref (ω.1 + k0)]) (pc := 49) K cs_SaltCloudsModel_45 (ok_X7_its l ω hk0 x1 (3 : Int32) h13) hk0 (by decide) rfl rfl (Nat.le_of_ble_eq_true rfl) dX7_pays_49 (fun r14 h15 => ?_)
    refine J_iload (pc := 52) K dX7_pays_52 0 rfl ?_
    refine J_isub (pc := 54) K dX7_pays_54 ?_
    refine J_callVU (As := [.int x1, .int (3 : Int32), .int (r14 - s12)]) (rest := []) (pc := 55) K cs_SaltCloudsModel_59 (ok_X7_puts l ω hk0 x1 (3 : Int32) (r14 - s12) h15) hk0 (by decide) rfl rfl (Nat.le_of_ble_eq_true rfl) dX7_pays_55 (fun _ h17 => ?_)
    refine J_aload_n (pc := 58) K dX7_pays_58 0 rfl 1 rfl ?_
    refine J_iload_n (pc := 59) K dX7_pays_59 2 rfl 3 rfl ?_
    refine J_iconst (pc := 60) K (3) dX7_pays_60 (by decide) ?_
    refine J_aload_n (pc := 61) K dX7_pays_61 0 rfl 1 rfl ?_
    refine J_iload_n (pc := 62) K dX7_pays_62 2 rfl 3 rfl ?_
    refine J_iconst (pc := 63) K (3) dX7_pays_63 (by decide) ?_
    refine J_callVI (As := [.int x2, .int (3 : Int32)]) (rest := [.int (3 : Int32), .int x2, .ref (ω.1 + k0)]) (pc := 64) K cs_SaltCloudsModel_45 (ok_X7_its l ω hk0 x2 (3 : Int32) h17) hk0 (by decide) rfl rfl (Nat.le_of_ble_eq_true rfl) dX7_pays_64 (fun r18 h19 => ?_)
    refine J_iload (pc := 67) K dX7_pays_67 0 rfl ?_
    refine J_iadd (pc := 69) K dX7_pays_69 ?_
    refine J_iconst (pc := 70) K (0) dX7_pays_70 (by decide) ?_
    refine J_sipush (pc := 71) K (999) dX7_pays_71 (by decide) ?_
    refine J_callTI (As := [.int (r18 + s12), .int (0 : Int32), .int (999 : Int32)]) (rest := [.int (3 : Int32), .int x2, .ref (ω.1 + k0)]) (pc := 74) K cs_SaltCloudsModel_63 (ok_X7_held l ω (r18 + s12) (0 : Int32) (999 : Int32) h19) (by decide) rfl rfl (Nat.le_of_ble_eq_true rfl) dX7_pays_74 (fun r20 h21 => ?_)
    refine J_callVU (As := [.int x2, .int (3 : Int32), .int r20]) (rest := []) (pc := 77) K cs_SaltCloudsModel_59 (ok_X7_puts l ω hk0 x2 (3 : Int32) r20 h21) hk0 (by decide) rfl rfl (Nat.le_of_ble_eq_true rfl) dX7_pays_77 (fun _ h23 => ?_)
    refine J_iload (pc := 80) K dX7_pays_80 0 rfl ?_
    exact J_iret (pc := 82) K dX7_pays_82
  · intro j11 hj11
    refine J_icmp_ge (pc := 28) K 35 dX7_pays_28 (by decide) ?_ ?_
    · refine J_aload_n (pc := 35) K dX7_pays_35 0 rfl 1 rfl ?_
      refine J_iload_n (pc := 36) K dX7_pays_36 1 rfl 2 rfl ?_
      refine J_iconst (pc := 37) K (3) dX7_pays_37 (by decide) ?_
      refine J_callVI (As := [.int x1, .int (3 : Int32)]) (rest := []) (pc := 38) K cs_SaltCloudsModel_45 (ok_X7_its l ω hk0 x1 (3 : Int32) h10) hk0 (by decide) rfl rfl (Nat.le_of_ble_eq_true rfl) dX7_pays_38 (fun r24 h25 => ?_)
      refine J_lv [1, 2, 3] [(0, .ref (ω.1 + k0)), (1, .int x1), (2, .int x2)] rfl ?_
      exact hj11 r24 h25
    · refine J_iload_n (pc := 31) K dX7_pays_31 3 rfl 0 rfl ?_
      refine J_goto (pc := 32) K 41 dX7_pays_32 (by decide) ?_
      refine J_lv [1, 2, 3] [(0, .ref (ω.1 + k0)), (1, .int x1), (2, .int x2)] rfl ?_
      exact hj11 r7 h10
def F_X7_allPay_16 (N : Nat) (k0 : Nat) (w2 : Int32) (kt : Int32 → Mem → Option (Int32 × Mem)) : Nat → Int32 → Int32 → Mem → Option (Int32 × Mem)
  | 0, _, _, _ => none
  | n + 1, u1, u3, h =>
    (gin (0 : Int32) 262
    (if (h (k0 + 1) (ix (0 : Int32))) ≤ u3 then
      (kt u1 h)
    else
      (if w2 = u3 then
        (seqi (u1 + (0 : Int32)) (fun v1 =>
        (F_X7_allPay_16 N k0 w2 kt n v1 (u3 + 1) h)))
      else
        (bnd (F_X7_isThere k0 w2 h) (fun r2 h3 =>
        (if r2 = 0 then
          (seqi (u1 + (0 : Int32)) (fun v4 =>
          (F_X7_allPay_16 N k0 w2 kt n v4 (u3 + 1) h3)))
        else
          (bnd (F_X7_isThere k0 u3 h3) (fun r5 h6 =>
          (if r5 = 0 then
            (seqi (u1 + (0 : Int32)) (fun v7 =>
            (F_X7_allPay_16 N k0 w2 kt n v7 (u3 + 1) h6)))
          else
            (bnd (F_X7_its k0 w2 (2 : Int32) h6) (fun r8 h9 =>
            (bnd (F_X7_its k0 u3 (2 : Int32) h9) (fun r10 h11 =>
            (if r8 = r10 then
              (bnd (F_X7_pays N k0 w2 u3 h11) (fun r12 h13 =>
              (seqi (u1 + r12) (fun v14 =>
              (F_X7_allPay_16 N k0 w2 kt n v14 (u3 + 1) h13)))))
            else
              (seqi (u1 + (0 : Int32)) (fun v15 =>
              (F_X7_allPay_16 N k0 w2 kt n v15 (u3 + 1) h11)))))))))))))))))
set_option maxRecDepth 10000 in
set_option maxHeartbeats 1000000 in
theorem okL_X7_allPay_16 {l : Launch} {ω : WX} {χ : KT} {d : Nat} (K : Kok ω χ "SaltCloudsModel" cX7_allPay 4 (some .int) d) (hd : 55 ≤ d) (N : Nat) {k0 : Nat} (hk0 : lay k0 = 7) {w2 : Int32} {kt : Int32 → Mem → Option (Int32 × Mem)} (hK : ∀ (u1 : Int32) (h : Mem), J (ZM rvI ω χ) l ω χ 81 4 [(0, .ref (ω.1 + k0)), (1, .int u1), (2, .int w2)] [] h (kt u1 h)) : ∀ (n : Nat) (u1 : Int32) (u3 : Int32) (h : Mem), J (ZM rvI ω χ) l ω χ 16 4 [(0, .ref (ω.1 + k0)), (1, .int u1), (2, .int w2), (3, .int u3)] [] h (F_X7_allPay_16 N k0 w2 kt n u1 u3 h) := by
  intro n
  induction n with
  | zero =>
    intro u1 u3 h
    exact J_none rfl
  | succ n ih =>
    intro u1 u3 h
    rw [F_X7_allPay_16]
    refine J_iload_n (pc := 16) K dX7_allPay_16 3 rfl 3 rfl ?_
    refine J_aload_n (pc := 17) K dX7_allPay_17 0 rfl 0 rfl ?_
    refine J_getR (pc := 18) K gf_SaltCloudsModel_7 hk0 1 rfl dX7_allPay_18 ?_
    refine J_iconst (pc := 21) K (0) dX7_allPay_21 (by decide) ?_
    refine J_iald (pc := 22) K (a := k0 + 1) (n := 262) (ty_7_1 hk0) dX7_allPay_22 ?_
    refine J_icmp_ge (pc := 23) K 81 dX7_allPay_23 (by decide) ?_ ?_
    · refine J_lv [0, 1, 2] [(0, .ref (ω.1 + k0)), (1, .int u1), (2, .int w2)] rfl ?_
      exact hK u1 h
    · refine J_iload_n (pc := 26) K dX7_allPay_26 1 rfl 1 rfl ?_
      refine J_iload_n (pc := 27) K dX7_allPay_27 2 rfl 2 rfl ?_
      refine J_iload_n (pc := 28) K dX7_allPay_28 3 rfl 3 rfl ?_
      refine J_icmp_eq (pc := 29) K 72 dX7_allPay_29 (by decide) ?_ ?_
      · refine J_iconst (pc := 72) K (0) dX7_allPay_72 (by decide) ?_
        refine J_iadd (pc := 73) K dX7_allPay_73 ?_
        refine J_topi (fun v1 => ?_)
        refine J_istore_n (pc := 74) K dX7_allPay_74 1 rfl (by decide) [(1, .int v1), (0, .ref (ω.1 + k0)), (2, .int w2), (3, .int u3)] rfl ?_
        refine J_iinc (pc := 75) K (1) dX7_allPay_75 3 rfl (by decide) (by decide) [(3, .int (u3 + 1)), (1, .int v1), (0, .ref (ω.1 + k0)), (2, .int w2)] rfl ?_
        refine J_goto (pc := 78) K 16 dX7_allPay_78 (by decide) ?_
        refine J_lv [2, 1, 3, 0] [(0, .ref (ω.1 + k0)), (1, .int v1), (2, .int w2), (3, .int (u3 + 1))] rfl ?_
        exact ih v1 (u3 + 1) h
      · refine J_aload_n (pc := 32) K dX7_allPay_32 0 rfl 0 rfl ?_
        refine J_iload_n (pc := 33) K dX7_allPay_33 2 rfl 2 rfl ?_
        refine J_callVI (As := [.int w2]) (rest := [.int u1]) (pc := 34) K cs_SaltCloudsModel_77 (ok_X7_isThere l ω hk0 w2 h) hk0 (by omega) rfl rfl (Nat.le_of_ble_eq_true rfl) dX7_allPay_34 (fun r2 h3 => ?_)
        refine J_if_eq (pc := 37) K 72 dX7_allPay_37 (by decide) ?_ ?_
        · refine J_iconst (pc := 72) K (0) dX7_allPay_72 (by decide) ?_
          refine J_iadd (pc := 73) K dX7_allPay_73 ?_
          refine J_topi (fun v4 => ?_)
          refine J_istore_n (pc := 74) K dX7_allPay_74 1 rfl (by decide) [(1, .int v4), (0, .ref (ω.1 + k0)), (2, .int w2), (3, .int u3)] rfl ?_
          refine J_iinc (pc := 75) K (1) dX7_allPay_75 3 rfl (by decide) (by decide) [(3, .int (u3 + 1)), (1, .int v4), (0, .ref (ω.1 + k0)), (2, .int w2)] rfl ?_
          refine J_goto (pc := 78) K 16 dX7_allPay_78 (by decide) ?_
          refine J_lv [2, 1, 3, 0] [(0, .ref (ω.1 + k0)), (1, .int v4), (2, .int w2), (3, .int (u3 + 1))] rfl ?_
          exact ih v4 (u3 + 1) h3
        · refine J_aload_n (pc := 40) K dX7_allPay_40 0 rfl 0 rfl ?_
          refine J_iload_n (pc := 41) K dX7_allPay_41 3 rfl 3 rfl ?_
          refine J_callVI (As := [.int u3]) (rest := [.int u1]) (pc := 42) K cs_SaltCloudsModel_77 (ok_X7_isThere l ω hk0 u3 h3) hk0 (by omega) rfl rfl (Nat.le_of_ble_eq_true rfl) dX7_allPay_42 (fun r5 h6 => ?_)
          refine J_if_eq (pc := 45) K 72 dX7_allPay_45 (by decide) ?_ ?_
          · refine J_iconst (pc := 72) K (0) dX7_allPay_72 (by decide) ?_
            refine J_iadd (pc := 73) K dX7_allPay_73 ?_
            refine J_topi (fun v7 => ?_)
            refine J_istore_n (pc := 74) K dX7_allPay_74 1 rfl (by decide) [(1, .int v7), (0, .ref (ω.1 + k0)), (2, .int w2), (3, .int u3)] rfl ?_
            refine J_iinc (pc := 75) K (1) dX7_allPay_75 3 rfl (by decide) (by decide) [(3, .int (u3 + 1)), (1, .int v7), (0, .ref (ω.1 + k0)), (2, .int w2)] rfl ?_
            refine J_goto (pc := 78) K 16 dX7_allPay_78 (by decide) ?_
            refine J_lv [2, 1, 3, 0] [(0, .ref (ω.1 + k0)), (1, .int v7), (2, .int w2), (3, .int (u3 + 1))] rfl ?_
            exact ih v7 (u3 + 1) h6
          · refine J_aload_n (pc := 48) K dX7_allPay_48 0 rfl 0 rfl ?_
            refine J_iload_n (pc := 49) K dX7_allPay_49 2 rfl 2 rfl ?_
            refine J_iconst (pc := 50) K (2) dX7_allPay_50 (by decide) ?_
            refine J_callVI (As := [.int w2, .int (2 : Int32)]) (rest := [.int u1]) (pc := 51) K cs_SaltCloudsModel_45 (ok_X7_its l ω hk0 w2 (2 : Int32) h6) hk0 (by omega) rfl rfl (Nat.le_of_ble_eq_true rfl) dX7_allPay_51 (fun r8 h9 => ?_)
            refine J_aload_n (pc := 54) K dX7_allPay_54 0 rfl 0 rfl ?_
            refine J_iload_n (pc := 55) K dX7_allPay_55 3 rfl 3 rfl ?_
            refine J_iconst (pc := 56) K (2) dX7_allPay_56 (by decide) ?_
            refine J_callVI (As := [.int u3, .int (2 : Int32)]) (rest := [.int r8, .int u1]) (pc := 57) K cs_SaltCloudsModel_45 (ok_X7_its l ω hk0 u3 (2 : Int32) h9) hk0 (by omega) rfl rfl (Nat.le_of_ble_eq_true rfl) dX7_allPay_57 (fun r10 h11 => ?_)
            refine J_icmp_ne (pc := 60) K 72 dX7_allPay_60 (by decide) ?_ ?_
            · refine J_aload_n (pc := 63) K dX7_allPay_63 0 rfl 0 rfl ?_
              refine J_iload_n (pc := 64) K dX7_allPay_64 2 rfl 2 rfl ?_
              refine J_iload_n (pc := 65) K dX7_allPay_65 3 rfl 3 rfl ?_
              refine J_callVI (As := [.int w2, .int u3]) (rest := [.int u1]) (pc := 66) K cs_SaltCloudsModel_202 (ok_X7_pays l ω N hk0 w2 u3 h11) hk0 (by omega) rfl rfl (Nat.le_of_ble_eq_true rfl) dX7_allPay_66 (fun r12 h13 => ?_)
              refine J_goto (pc := 69) K 73 dX7_allPay_69 (by decide) ?_
              refine J_iadd (pc := 73) K dX7_allPay_73 ?_
              refine J_topi (fun v14 => ?_)
              refine J_istore_n (pc := 74) K dX7_allPay_74 1 rfl (by decide) [(1, .int v14), (0, .ref (ω.1 + k0)), (2, .int w2), (3, .int u3)] rfl ?_
              refine J_iinc (pc := 75) K (1) dX7_allPay_75 3 rfl (by decide) (by decide) [(3, .int (u3 + 1)), (1, .int v14), (0, .ref (ω.1 + k0)), (2, .int w2)] rfl ?_
              refine J_goto (pc := 78) K 16 dX7_allPay_78 (by decide) ?_
              refine J_lv [2, 1, 3, 0] [(0, .ref (ω.1 + k0)), (1, .int v14), (2, .int w2), (3, .int (u3 + 1))] rfl ?_
              exact ih v14 (u3 + 1) h13
            · refine J_iconst (pc := 72) K (0) dX7_allPay_72 (by decide) ?_
              refine J_iadd (pc := 73) K dX7_allPay_73 ?_
              refine J_topi (fun v15 => ?_)
              refine J_istore_n (pc := 74) K dX7_allPay_74 1 rfl (by decide) [(1, .int v15), (0, .ref (ω.1 + k0)), (2, .int w2), (3, .int u3)] rfl ?_
              refine J_iinc (pc := 75) K (1) dX7_allPay_75 3 rfl (by decide) (by decide) [(3, .int (u3 + 1)), (1, .int v15), (0, .ref (ω.1 + k0)), (2, .int w2)] rfl ?_
              refine J_goto (pc := 78) K 16 dX7_allPay_78 (by decide) ?_
              refine J_lv [2, 1, 3, 0] [(0, .ref (ω.1 + k0)), (1, .int v15), (2, .int w2), (3, .int (u3 + 1))] rfl ?_
              exact ih v15 (u3 + 1) h11
def F_X7_allPay_4 (N : Nat) (k0 : Nat) (kt : Int32 → Mem → Option (Int32 × Mem)) : Nat → Int32 → Int32 → Mem → Option (Int32 × Mem)
  | 0, _, _, _ => none
  | n + 1, u1, u2, h =>
    (gin (0 : Int32) 262
    (if (h (k0 + 1) (ix (0 : Int32))) ≤ u2 then
      (kt u1 h)
    else
      (F_X7_allPay_16 N k0 u2 (fun (v16 : Int32) (h17 : Mem) =>
        (F_X7_allPay_4 N k0 kt n v16 (u2 + 1) h17)) N u1 (0 : Int32) h)))
set_option maxRecDepth 10000 in
set_option maxHeartbeats 1000000 in
theorem okL_X7_allPay_4 {l : Launch} {ω : WX} {χ : KT} {d : Nat} (K : Kok ω χ "SaltCloudsModel" cX7_allPay 4 (some .int) d) (hd : 55 ≤ d) (N : Nat) {k0 : Nat} (hk0 : lay k0 = 7) {kt : Int32 → Mem → Option (Int32 × Mem)} (hK : ∀ (u1 : Int32) (h : Mem), J (ZM rvI ω χ) l ω χ 87 4 [(1, .int u1)] [] h (kt u1 h)) : ∀ (n : Nat) (u1 : Int32) (u2 : Int32) (h : Mem), J (ZM rvI ω χ) l ω χ 4 4 [(0, .ref (ω.1 + k0)), (1, .int u1), (2, .int u2)] [] h (F_X7_allPay_4 N k0 kt n u1 u2 h) := by
  intro n
  induction n with
  | zero =>
    intro u1 u2 h
    exact J_none rfl
  | succ n ih =>
    intro u1 u2 h
    rw [F_X7_allPay_4]
    refine J_iload_n (pc := 4) K dX7_allPay_4 2 rfl 2 rfl ?_
    refine J_aload_n (pc := 5) K dX7_allPay_5 0 rfl 0 rfl ?_
    refine J_getR (pc := 6) K gf_SaltCloudsModel_7 hk0 1 rfl dX7_allPay_6 ?_
    refine J_iconst (pc := 9) K (0) dX7_allPay_9 (by decide) ?_
    refine J_iald (pc := 10) K (a := k0 + 1) (n := 262) (ty_7_1 hk0) dX7_allPay_10 ?_
    refine J_icmp_ge (pc := 11) K 87 dX7_allPay_11 (by decide) ?_ ?_
    · refine J_lv [1] [(1, .int u1)] rfl ?_
      exact hK u1 h
    · refine J_iconst (pc := 14) K (0) dX7_allPay_14 (by decide) ?_
      refine J_istore_n (pc := 15) K dX7_allPay_15 3 rfl (by decide) [(3, .int (0 : Int32)), (0, .ref (ω.1 + k0)), (1, .int u1), (2, .int u2)] rfl ?_
      refine J_lv [1, 2, 3, 0] [(0, .ref (ω.1 + k0)), (1, .int u1), (2, .int u2), (3, .int (0 : Int32))] rfl ?_
      refine okL_X7_allPay_16 K  (by omega) N hk0 (fun v16 h17 => ?_) _ _ _ _
      refine J_iinc (pc := 81) K (1) dX7_allPay_81 2 rfl (by decide) (by decide) [(2, .int (u2 + 1)), (0, .ref (ω.1 + k0)), (1, .int v16)] rfl ?_
      refine J_goto (pc := 84) K 4 dX7_allPay_84 (by decide) ?_
      refine J_lv [1, 2, 0] [(0, .ref (ω.1 + k0)), (1, .int v16), (2, .int (u2 + 1))] rfl ?_
      exact ih v16 (u2 + 1) h17
def F_X7_allPay (N : Nat) (k0 : Nat) (h : Mem) : Option (Int32 × Mem) :=
  (F_X7_allPay_4 N k0 (fun (v18 : Int32) (h19 : Mem) =>
    (some (v18, h19))) N (0 : Int32) (0 : Int32) h)
set_option maxRecDepth 10000 in
set_option maxHeartbeats 1000000 in
theorem ok_X7_allPay (l : Launch) (ω : WX) (N : Nat) {k0 : Nat} (hk0 : lay k0 = 7) (h : Mem) : MC rvI l ω yX7_allPay cX7_allPay 4 (some .int) 55 [.ref (ω.1 + k0)] h (F_X7_allPay N k0 h) := by
  refine MC.of (by decide +kernel) [(0, .ref (ω.1 + k0))] rfl (Nat.le_of_ble_eq_true rfl) (fun χ K => ?_)
  have K : Kok ω χ "SaltCloudsModel" cX7_allPay 4 (some .int) 55 := K
  unfold F_X7_allPay
  refine J_iconst (pc := 0) K (0) dX7_allPay_0 (by decide) ?_
  refine J_istore_n (pc := 1) K dX7_allPay_1 1 rfl (by decide) [(1, .int (0 : Int32)), (0, .ref (ω.1 + k0))] rfl ?_
  refine J_iconst (pc := 2) K (0) dX7_allPay_2 (by decide) ?_
  refine J_istore_n (pc := 3) K dX7_allPay_3 2 rfl (by decide) [(2, .int (0 : Int32)), (1, .int (0 : Int32)), (0, .ref (ω.1 + k0))] rfl ?_
  refine J_lv [2, 1, 0] [(0, .ref (ω.1 + k0)), (1, .int (0 : Int32)), (2, .int (0 : Int32))] rfl ?_
  refine okL_X7_allPay_4 K  (by decide) N hk0 (fun v18 h19 => ?_) _ _ _ _
  refine J_iload_n (pc := 87) K dX7_allPay_87 1 rfl 0 rfl ?_
  exact J_iret (pc := 88) K dX7_allPay_88
def F_X7_pay (N : Nat) (k0 : Nat) (h : Mem) : Option (Int32 × Mem) :=
  (bnd (F_X7_allPay N k0 h) (fun r1 h2 =>
  (some (r1, h2))))
set_option maxRecDepth 10000 in
set_option maxHeartbeats 1000000 in
theorem ok_X7_pay (l : Launch) (ω : WX) (N : Nat) {k0 : Nat} (hk0 : lay k0 = 7) (h : Mem) : MC rvI l ω yX7_pay cX7_pay 1 (some .int) 56 [.ref (ω.1 + k0)] h (F_X7_pay N k0 h) := by
  refine MC.of (by decide +kernel) [(0, .ref (ω.1 + k0))] rfl (Nat.le_of_ble_eq_true rfl) (fun χ K => ?_)
  have K : Kok ω χ "SaltCloudsModel" cX7_pay 1 (some .int) 56 := K
  unfold F_X7_pay
  refine J_aload_n (pc := 0) K dX7_pay_0 0 rfl 0 rfl ?_
  refine J_callVI (As := []) (rest := []) (pc := 1) K cs_SaltCloudsModel_205 (ok_X7_allPay l ω N hk0 h) hk0 (by decide) rfl rfl (Nat.le_of_ble_eq_true rfl) dX7_pay_1 (fun r1 h2 => ?_)
  exact J_iret (pc := 4) K dX7_pay_4
def F_X7_nobodyAt_14 (N : Nat) (k0 : Nat) (w1 : Int32) (kt : Int32 → Mem → Option (Int32 × Mem)) : Nat → Int32 → Mem → Option (Int32 × Mem)
  | 0, _, _ => none
  | n + 1, u2, h =>
    (if (200 : Int32) < u2 then
      (kt u2 h)
    else
      (bnd (F_X7_isNobody N k0 w1 h) (fun r3 h4 =>
      (if r3 = 0 then
        (bnd (F_X7_windNow k0 h4) (fun r5 h6 =>
        (bnd (F_X7_oneHour N k0 r5 h6) (fun _ h8 =>
        (F_X7_nobodyAt_14 N k0 w1 kt n (u2 + 1) h8)))))
      else
        (kt u2 h4)))))
set_option maxRecDepth 10000 in
set_option maxHeartbeats 1000000 in
theorem okL_X7_nobodyAt_14 {l : Launch} {ω : WX} {χ : KT} {d : Nat} (K : Kok ω χ "SaltCloudsModel" cX7_nobodyAt 3 (some .int) d) (hd : 55 ≤ d) (N : Nat) {k0 : Nat} (hk0 : lay k0 = 7) {w1 : Int32} {kt : Int32 → Mem → Option (Int32 × Mem)} (hK : ∀ (u2 : Int32) (h : Mem), J (ZM rvI ω χ) l ω χ 43 3 [(0, .ref (ω.1 + k0)), (2, .int u2)] [] h (kt u2 h)) : ∀ (n : Nat) (u2 : Int32) (h : Mem), J (ZM rvI ω χ) l ω χ 14 3 [(0, .ref (ω.1 + k0)), (1, .int w1), (2, .int u2)] [] h (F_X7_nobodyAt_14 N k0 w1 kt n u2 h) := by
  intro n
  induction n with
  | zero =>
    intro u2 h
    exact J_none rfl
  | succ n ih =>
    intro u2 h
    rw [F_X7_nobodyAt_14]
    refine J_iload_n (pc := 14) K dX7_nobodyAt_14 2 rfl 2 rfl ?_
    refine J_sipush (pc := 15) K (200) dX7_nobodyAt_15 (by decide) ?_
    refine J_icmp_gt (pc := 18) K 43 dX7_nobodyAt_18 (by decide) ?_ ?_
    · refine J_lv [0, 2] [(0, .ref (ω.1 + k0)), (2, .int u2)] rfl ?_
      exact hK u2 h
    · refine J_aload_n (pc := 21) K dX7_nobodyAt_21 0 rfl 0 rfl ?_
      refine J_iload_n (pc := 22) K dX7_nobodyAt_22 1 rfl 1 rfl ?_
      refine J_callVI (As := [.int w1]) (rest := []) (pc := 23) K cs_SaltCloudsModel_184 (ok_X7_isNobody l ω N hk0 w1 h) hk0 (by omega) rfl rfl (Nat.le_of_ble_eq_true rfl) dX7_nobodyAt_23 (fun r3 h4 => ?_)
      refine J_if_ne (pc := 26) K 43 dX7_nobodyAt_26 (by decide) ?_ ?_
      · refine J_aload_n (pc := 29) K dX7_nobodyAt_29 0 rfl 0 rfl ?_
        refine J_aload_n (pc := 30) K dX7_nobodyAt_30 0 rfl 0 rfl ?_
        refine J_callVI (As := []) (rest := [.ref (ω.1 + k0)]) (pc := 31) K cs_SaltCloudsModel_86 (ok_X7_windNow l ω hk0 h4) hk0 (by omega) rfl rfl (Nat.le_of_ble_eq_true rfl) dX7_nobodyAt_31 (fun r5 h6 => ?_)
        refine J_callVU (As := [.int r5]) (rest := []) (pc := 34) K cs_SaltCloudsModel_191 (ok_X7_oneHour l ω N hk0 r5 h6) hk0 (by omega) rfl rfl (Nat.le_of_ble_eq_true rfl) dX7_nobodyAt_34 (fun _ h8 => ?_)
        refine J_iinc (pc := 37) K (1) dX7_nobodyAt_37 2 rfl (by decide) (by decide) [(2, .int (u2 + 1)), (0, .ref (ω.1 + k0)), (1, .int w1)] rfl ?_
        refine J_goto (pc := 40) K 14 dX7_nobodyAt_40 (by decide) ?_
        refine J_lv [1, 2, 0] [(0, .ref (ω.1 + k0)), (1, .int w1), (2, .int (u2 + 1))] rfl ?_
        exact ih (u2 + 1) h8
      · refine J_lv [0, 2] [(0, .ref (ω.1 + k0)), (2, .int u2)] rfl ?_
        exact hK u2 h4
def F_X7_nobodyAt (N : Nat) (k0 : Nat) (x1 : Int32) (h : Mem) : Option (Int32 × Mem) :=
  (bnd (F_X7_moveAll N k0 (k0 + 1) 262 (k0 + 3) 262 h) (fun _ h2 =>
  (F_X7_nobodyAt_14 N k0 x1 (fun (v9 : Int32) (h10 : Mem) =>
    (bnd (F_X7_moveAll N k0 (k0 + 3) 262 (k0 + 1) 262 h10) (fun _ h12 =>
    (some (v9, h12))))) N (0 : Int32) h2)))
set_option maxRecDepth 10000 in
set_option maxHeartbeats 1000000 in
theorem ok_X7_nobodyAt (l : Launch) (ω : WX) (N : Nat) {k0 : Nat} (hk0 : lay k0 = 7) (x1 : Int32) (h : Mem) : MC rvI l ω yX7_nobodyAt cX7_nobodyAt 3 (some .int) 55 [.ref (ω.1 + k0), .int x1] h (F_X7_nobodyAt N k0 x1 h) := by
  refine MC.of (by decide +kernel) [(0, .ref (ω.1 + k0)), (1, .int x1)] rfl (Nat.le_of_ble_eq_true rfl) (fun χ K => ?_)
  have K : Kok ω χ "SaltCloudsModel" cX7_nobodyAt 3 (some .int) 55 := K
  unfold F_X7_nobodyAt
  refine J_aload_n (pc := 0) K dX7_nobodyAt_0 0 rfl 0 rfl ?_
  refine J_aload_n (pc := 1) K dX7_nobodyAt_1 0 rfl 0 rfl ?_
  refine J_getR (pc := 2) K gf_SaltCloudsModel_7 hk0 1 rfl dX7_nobodyAt_2 ?_
  refine J_aload_n (pc := 5) K dX7_nobodyAt_5 0 rfl 0 rfl ?_
  refine J_getR (pc := 6) K gf_SaltCloudsModel_16 hk0 3 rfl dX7_nobodyAt_6 ?_
  refine J_callVU (As := [.ref (ω.1 + (k0 + 1)), .ref (ω.1 + (k0 + 3))]) (rest := []) (pc := 9) K cs_SaltCloudsModel_168 (ok_X7_moveAll l ω N hk0 (n1 := 262) (ty_7_1 hk0) (n2 := 262) (ty_7_3 hk0) h) hk0 (by decide) rfl rfl (Nat.le_of_ble_eq_true rfl) dX7_nobodyAt_9 (fun _ h2 => ?_)
  refine J_iconst (pc := 12) K (0) dX7_nobodyAt_12 (by decide) ?_
  refine J_istore_n (pc := 13) K dX7_nobodyAt_13 2 rfl (by decide) [(2, .int (0 : Int32)), (0, .ref (ω.1 + k0)), (1, .int x1)] rfl ?_
  refine J_lv [1, 2, 0] [(0, .ref (ω.1 + k0)), (1, .int x1), (2, .int (0 : Int32))] rfl ?_
  refine okL_X7_nobodyAt_14 K  (by decide) N hk0 (fun v9 h10 => ?_) _ _ _
  refine J_aload_n (pc := 43) K dX7_nobodyAt_43 0 rfl 0 rfl ?_
  refine J_aload_n (pc := 44) K dX7_nobodyAt_44 0 rfl 0 rfl ?_
  refine J_getR (pc := 45) K gf_SaltCloudsModel_16 hk0 3 rfl dX7_nobodyAt_45 ?_
  refine J_aload_n (pc := 48) K dX7_nobodyAt_48 0 rfl 0 rfl ?_
  refine J_getR (pc := 49) K gf_SaltCloudsModel_7 hk0 1 rfl dX7_nobodyAt_49 ?_
  refine J_callVU (As := [.ref (ω.1 + (k0 + 3)), .ref (ω.1 + (k0 + 1))]) (rest := []) (pc := 52) K cs_SaltCloudsModel_168 (ok_X7_moveAll l ω N hk0 (n1 := 262) (ty_7_3 hk0) (n2 := 262) (ty_7_1 hk0) h10) hk0 (by decide) rfl rfl (Nat.le_of_ble_eq_true rfl) dX7_nobodyAt_52 (fun _ h12 => ?_)
  refine J_iload_n (pc := 55) K dX7_nobodyAt_55 2 rfl 1 rfl ?_
  exact J_iret (pc := 56) K dX7_nobodyAt_56
def F_X7_nobodyBy (N : Nat) (k0 : Nat) (x1 : Int32) (h : Mem) : Option (Int32 × Mem) :=
  (bnd (F_X7_isCloud k0 x1 h) (fun r1 h2 =>
  (if r1 = 0 then
    (bnd (F_X7_errs k0 (-1000000001 : Int32) h2) (fun r3 h4 =>
    (some (r3, h4))))
  else
    (bnd (F_X7_nobodyAt N k0 x1 h2) (fun r5 h6 =>
    (if r5 ≤ (200 : Int32) then
      (some (r5, h6))
    else
      (bnd (F_X7_errs k0 (-1000000002 : Int32) h6) (fun r7 h8 =>
      (some (r7, h8))))))))))
set_option maxRecDepth 10000 in
set_option maxHeartbeats 1000000 in
theorem ok_X7_nobodyBy (l : Launch) (ω : WX) (N : Nat) {k0 : Nat} (hk0 : lay k0 = 7) (x1 : Int32) (h : Mem) : MC rvI l ω yX7_nobodyBy cX7_nobodyBy 3 (some .int) 56 [.ref (ω.1 + k0), .int x1] h (F_X7_nobodyBy N k0 x1 h) := by
  refine MC.of (by decide +kernel) [(0, .ref (ω.1 + k0)), (1, .int x1)] rfl (Nat.le_of_ble_eq_true rfl) (fun χ K => ?_)
  have K : Kok ω χ "SaltCloudsModel" cX7_nobodyBy 3 (some .int) 56 := K
  unfold F_X7_nobodyBy
  refine J_aload_n (pc := 0) K dX7_nobodyBy_0 0 rfl 0 rfl ?_
  refine J_iload_n (pc := 1) K dX7_nobodyBy_1 1 rfl 1 rfl ?_
  refine J_callVI (As := [.int x1]) (rest := []) (pc := 2) K cs_SaltCloudsModel_83 (ok_X7_isCloud l ω hk0 x1 h) hk0 (by decide) rfl rfl (Nat.le_of_ble_eq_true rfl) dX7_nobodyBy_2 (fun r1 h2 => ?_)
  refine J_if_ne (pc := 5) K 15 dX7_nobodyBy_5 (by decide) ?_ ?_
  · refine J_aload_n (pc := 8) K dX7_nobodyBy_8 0 rfl 0 rfl ?_
    refine J_ldc (pc := 9) K kc_SaltCloudsModel_53 dX7_nobodyBy_9 ?_
    refine J_callVI (As := [.int (-1000000001 : Int32)]) (rest := []) (pc := 11) K cs_SaltCloudsModel_54 (ok_X7_errs l ω hk0 (-1000000001 : Int32) h2) hk0 (by decide) rfl rfl (Nat.le_of_ble_eq_true rfl) dX7_nobodyBy_11 (fun r3 h4 => ?_)
    exact J_iret (pc := 14) K dX7_nobodyBy_14
  · refine J_aload_n (pc := 15) K dX7_nobodyBy_15 0 rfl 0 rfl ?_
    refine J_iload_n (pc := 16) K dX7_nobodyBy_16 1 rfl 1 rfl ?_
    refine J_callVI (As := [.int x1]) (rest := []) (pc := 17) K cs_SaltCloudsModel_208 (ok_X7_nobodyAt l ω N hk0 x1 h2) hk0 (by decide) rfl rfl (Nat.le_of_ble_eq_true rfl) dX7_nobodyBy_17 (fun r5 h6 => ?_)
    refine J_istore_n (pc := 20) K dX7_nobodyBy_20 2 rfl (by decide) [(2, .int r5), (0, .ref (ω.1 + k0)), (1, .int x1)] rfl ?_
    refine J_iload_n (pc := 21) K dX7_nobodyBy_21 2 rfl 0 rfl ?_
    refine J_sipush (pc := 22) K (200) dX7_nobodyBy_22 (by decide) ?_
    refine J_icmp_le (pc := 25) K 37 dX7_nobodyBy_25 (by decide) ?_ ?_
    · refine J_iload_n (pc := 37) K dX7_nobodyBy_37 2 rfl 0 rfl ?_
      exact J_iret (pc := 38) K dX7_nobodyBy_38
    · refine J_aload_n (pc := 28) K dX7_nobodyBy_28 0 rfl 1 rfl ?_
      refine J_ldc (pc := 29) K kc_SaltCloudsModel_211 dX7_nobodyBy_29 ?_
      refine J_callVI (As := [.int (-1000000002 : Int32)]) (rest := []) (pc := 31) K cs_SaltCloudsModel_54 (ok_X7_errs l ω hk0 (-1000000002 : Int32) h6) hk0 (by decide) rfl rfl (Nat.le_of_ble_eq_true rfl) dX7_nobodyBy_31 (fun r7 h8 => ?_)
      refine J_goto (pc := 34) K 38 dX7_nobodyBy_34 (by decide) ?_
      exact J_iret (pc := 38) K dX7_nobodyBy_38
def F_X7_first_8 (N : Nat) (k0 : Nat) (kt : Int32 → Mem → Option (Int32 × Mem)) : Nat → Int32 → Int32 → Int32 → Mem → Option (Int32 × Mem)
  | 0, _, _, _, _ => none
  | n + 1, u1, u2, u3, h =>
    (gin (0 : Int32) 262
    (if (h (k0 + 1) (ix (0 : Int32))) ≤ u3 then
      (kt u1 h)
    else
      (bnd (F_X7_isThere k0 u3 h) (fun r1 h2 =>
      (jn (fun (v4 v5 v6 s7 : Int32) (h8 : Mem) =>
        (jn (fun (v10 v11 s12 : Int32) (h13 : Mem) =>
          (if v10 ≤ s7 then
            (F_X7_first_8 N k0 kt n s12 v10 (v11 + 1) h13)
          else
            (F_X7_first_8 N k0 kt n s12 s7 (v11 + 1) h13))) (fun j9 =>
          (if v5 ≤ s7 then
            (j9 v5 v6 v4 h8)
          else
            (j9 v5 v6 v6 h8))))) (fun j3 =>
        (if r1 = 0 then
          (j3 u1 u2 u3 (201 : Int32) h2)
        else
          (bnd (F_X7_nobodyAt N k0 u3 h2) (fun r14 h15 =>
          (j3 u1 u2 u3 r14 h15))))))))))
set_option maxRecDepth 10000 in
set_option maxHeartbeats 1000000 in
theorem okL_X7_first_8 {l : Launch} {ω : WX} {χ : KT} {d : Nat} (K : Kok ω χ "SaltCloudsModel" cX7_first 5 (some .int) d) (hd : 56 ≤ d) (N : Nat) {k0 : Nat} (hk0 : lay k0 = 7) {kt : Int32 → Mem → Option (Int32 × Mem)} (hK : ∀ (u1 : Int32) (h : Mem), J (ZM rvI ω χ) l ω χ 70 5 [(0, .ref (ω.1 + k0)), (1, .int u1)] [] h (kt u1 h)) : ∀ (n : Nat) (u1 : Int32) (u2 : Int32) (u3 : Int32) (h : Mem), J (ZM rvI ω χ) l ω χ 8 5 [(0, .ref (ω.1 + k0)), (1, .int u1), (2, .int u2), (3, .int u3)] [] h (F_X7_first_8 N k0 kt n u1 u2 u3 h) := by
  intro n
  induction n with
  | zero =>
    intro u1 u2 u3 h
    exact J_none rfl
  | succ n ih =>
    intro u1 u2 u3 h
    rw [F_X7_first_8]
    refine J_iload_n (pc := 8) K dX7_first_8 3 rfl 3 rfl ?_
    refine J_aload_n (pc := 9) K dX7_first_9 0 rfl 0 rfl ?_
    refine J_getR (pc := 10) K gf_SaltCloudsModel_7 hk0 1 rfl dX7_first_10 ?_
    refine J_iconst (pc := 13) K (0) dX7_first_13 (by decide) ?_
    refine J_iald (pc := 14) K (a := k0 + 1) (n := 262) (ty_7_1 hk0) dX7_first_14 ?_
    refine J_icmp_ge (pc := 15) K 70 dX7_first_15 (by decide) ?_ ?_
    · refine J_lv [0, 1] [(0, .ref (ω.1 + k0)), (1, .int u1)] rfl ?_
      exact hK u1 h
    · refine J_aload_n (pc := 18) K dX7_first_18 0 rfl 0 rfl ?_
      refine J_iload_n (pc := 19) K dX7_first_19 3 rfl 3 rfl ?_
      refine J_callVI (As := [.int u3]) (rest := []) (pc := 20) K cs_SaltCloudsModel_77 (ok_X7_isThere l ω hk0 u3 h) hk0 (by omega) rfl rfl (Nat.le_of_ble_eq_true rfl) dX7_first_20 (fun r1 h2 => ?_)
      refine J_jn (fun j3 => ∀ (v4 v5 v6 s7 : Int32) (h8 : Mem), J (ZM rvI ω χ) l ω χ 37 5 [(0, .ref (ω.1 + k0)), (1, .int v4), (2, .int v5), (3, .int v6)] [.int s7] h8 (j3 v4 v5 v6 s7 h8)) ?_ ?_
      · intro v4 v5 v6 s7 h8
        refine J_istore (pc := 37) K dX7_first_37 (by decide) [(4, .int s7), (0, .ref (ω.1 + k0)), (1, .int v4), (2, .int v5), (3, .int v6)] rfl ?_
        refine J_iload (pc := 39) K dX7_first_39 0 rfl ?_
        refine J_iload_n (pc := 41) K dX7_first_41 2 rfl 3 rfl ?_
        refine J_jn (fun j9 => ∀ (v10 v11 s12 : Int32) (h13 : Mem), J (ZM rvI ω χ) l ω χ 50 5 [(0, .ref (ω.1 + k0)), (2, .int v10), (3, .int v11), (4, .int s7)] [.int s12] h13 (j9 v10 v11 s12 h13)) ?_ ?_
        · intro v10 v11 s12 h13
          refine J_istore_n (pc := 50) K dX7_first_50 1 rfl (by decide) [(1, .int s12), (0, .ref (ω.1 + k0)), (2, .int v10), (3, .int v11), (4, .int s7)] rfl ?_
          refine J_iload (pc := 51) K dX7_first_51 4 rfl ?_
          refine J_iload_n (pc := 53) K dX7_first_53 2 rfl 2 rfl ?_
          refine J_icmp_ge (pc := 54) K 62 dX7_first_54 (by decide) ?_ ?_
          · refine J_iload_n (pc := 62) K dX7_first_62 2 rfl 2 rfl ?_
            refine J_istore_n (pc := 63) K dX7_first_63 2 rfl (by decide) [(2, .int v10), (1, .int s12), (0, .ref (ω.1 + k0)), (3, .int v11), (4, .int s7)] rfl ?_
            refine J_iinc (pc := 64) K (1) dX7_first_64 3 rfl (by decide) (by decide) [(3, .int (v11 + 1)), (2, .int v10), (1, .int s12), (0, .ref (ω.1 + k0)), (4, .int s7)] rfl ?_
            refine J_goto (pc := 67) K 8 dX7_first_67 (by decide) ?_
            refine J_lv [3, 2, 1, 0] [(0, .ref (ω.1 + k0)), (1, .int s12), (2, .int v10), (3, .int (v11 + 1))] rfl ?_
            exact ih s12 v10 (v11 + 1) h13
          · refine J_iload (pc := 57) K dX7_first_57 4 rfl ?_
            refine J_goto (pc := 59) K 63 dX7_first_59 (by decide) ?_
            refine J_istore_n (pc := 63) K dX7_first_63 2 rfl (by decide) [(2, .int s7), (1, .int s12), (0, .ref (ω.1 + k0)), (3, .int v11), (4, .int s7)] rfl ?_
            refine J_iinc (pc := 64) K (1) dX7_first_64 3 rfl (by decide) (by decide) [(3, .int (v11 + 1)), (2, .int s7), (1, .int s12), (0, .ref (ω.1 + k0)), (4, .int s7)] rfl ?_
            refine J_goto (pc := 67) K 8 dX7_first_67 (by decide) ?_
            refine J_lv [3, 2, 1, 0] [(0, .ref (ω.1 + k0)), (1, .int s12), (2, .int s7), (3, .int (v11 + 1))] rfl ?_
            exact ih s12 s7 (v11 + 1) h13
        · intro j9 hj9
          refine J_icmp_ge (pc := 42) K 49 dX7_first_42 (by decide) ?_ ?_
          · refine J_iload_n (pc := 49) K dX7_first_49 1 rfl 2 rfl ?_
            refine J_lv [1, 3, 4, 0] [(0, .ref (ω.1 + k0)), (2, .int v5), (3, .int v6), (4, .int s7)] rfl ?_
            exact hj9 v5 v6 v4 h8
          · refine J_iload_n (pc := 45) K dX7_first_45 3 rfl 4 rfl ?_
            refine J_goto (pc := 46) K 50 dX7_first_46 (by decide) ?_
            refine J_lv [1, 3, 4, 0] [(0, .ref (ω.1 + k0)), (2, .int v5), (3, .int v6), (4, .int s7)] rfl ?_
            exact hj9 v5 v6 v6 h8
      · intro j3 hj3
        refine J_if_eq (pc := 23) K 34 dX7_first_23 (by decide) ?_ ?_
        · refine J_sipush (pc := 34) K (201) dX7_first_34 (by decide) ?_
          exact hj3 u1 u2 u3 (201 : Int32) h2
        · refine J_aload_n (pc := 26) K dX7_first_26 0 rfl 0 rfl ?_
          refine J_iload_n (pc := 27) K dX7_first_27 3 rfl 3 rfl ?_
          refine J_callVI (As := [.int u3]) (rest := []) (pc := 28) K cs_SaltCloudsModel_208 (ok_X7_nobodyAt l ω N hk0 u3 h2) hk0 (by omega) rfl rfl (Nat.le_of_ble_eq_true rfl) dX7_first_28 (fun r14 h15 => ?_)
          refine J_goto (pc := 31) K 37 dX7_first_31 (by decide) ?_
          exact hj3 u1 u2 u3 r14 h15
def F_X7_first (N : Nat) (k0 : Nat) (h : Mem) : Option (Int32 × Mem) :=
  (F_X7_first_8 N k0 (fun (v16 : Int32) (h17 : Mem) =>
    (if 0 ≤ v16 then
      (some (v16, h17))
    else
      (bnd (F_X7_errs k0 (-1000000002 : Int32) h17) (fun r18 h19 =>
      (some (r18, h19)))))) N (-1 : Int32) (201 : Int32) (0 : Int32) h)
set_option maxRecDepth 10000 in
set_option maxHeartbeats 1000000 in
theorem ok_X7_first (l : Launch) (ω : WX) (N : Nat) {k0 : Nat} (hk0 : lay k0 = 7) (h : Mem) : MC rvI l ω yX7_first cX7_first 5 (some .int) 56 [.ref (ω.1 + k0)] h (F_X7_first N k0 h) := by
  refine MC.of (by decide +kernel) [(0, .ref (ω.1 + k0))] rfl (Nat.le_of_ble_eq_true rfl) (fun χ K => ?_)
  have K : Kok ω χ "SaltCloudsModel" cX7_first 5 (some .int) 56 := K
  unfold F_X7_first
  refine J_iconst (pc := 0) K (-1) dX7_first_0 (by decide) ?_
  refine J_istore_n (pc := 1) K dX7_first_1 1 rfl (by decide) [(1, .int (-1 : Int32)), (0, .ref (ω.1 + k0))] rfl ?_
  refine J_sipush (pc := 2) K (201) dX7_first_2 (by decide) ?_
  refine J_istore_n (pc := 5) K dX7_first_5 2 rfl (by decide) [(2, .int (201 : Int32)), (1, .int (-1 : Int32)), (0, .ref (ω.1 + k0))] rfl ?_
  refine J_iconst (pc := 6) K (0) dX7_first_6 (by decide) ?_
  refine J_istore_n (pc := 7) K dX7_first_7 3 rfl (by decide) [(3, .int (0 : Int32)), (2, .int (201 : Int32)), (1, .int (-1 : Int32)), (0, .ref (ω.1 + k0))] rfl ?_
  refine J_lv [3, 2, 1, 0] [(0, .ref (ω.1 + k0)), (1, .int (-1 : Int32)), (2, .int (201 : Int32)), (3, .int (0 : Int32))] rfl ?_
  refine okL_X7_first_8 K  (by decide) N hk0 (fun v16 h17 => ?_) _ _ _ _ _
  refine J_iload_n (pc := 70) K dX7_first_70 1 rfl 1 rfl ?_
  refine J_if_ge (pc := 71) K 83 dX7_first_71 (by decide) ?_ ?_
  · refine J_iload_n (pc := 83) K dX7_first_83 1 rfl 1 rfl ?_
    exact J_iret (pc := 84) K dX7_first_84
  · refine J_aload_n (pc := 74) K dX7_first_74 0 rfl 0 rfl ?_
    refine J_ldc (pc := 75) K kc_SaltCloudsModel_211 dX7_first_75 ?_
    refine J_callVI (As := [.int (-1000000002 : Int32)]) (rest := []) (pc := 77) K cs_SaltCloudsModel_54 (ok_X7_errs l ω hk0 (-1000000002 : Int32) h17) hk0 (by decide) rfl rfl (Nat.le_of_ble_eq_true rfl) dX7_first_77 (fun r18 h19 => ?_)
    refine J_goto (pc := 80) K 84 dX7_first_80 (by decide) ?_
    exact J_iret (pc := 84) K dX7_first_84
def F_X7_bits_4 (N : Nat) (w0 : Int32) (kt : Int32 → Mem → Option (Int32 × Mem)) : Nat → Int32 → Int32 → Mem → Option (Int32 × Mem)
  | 0, _, _, _ => none
  | n + 1, u1, u2, h =>
    (if (8 : Int32) ≤ u2 then
      (kt u1 h)
    else
      (seqi (u1 + ((w0 >>> (u2 &&& 31)) &&& (1 : Int32))) (fun v1 =>
      (F_X7_bits_4 N w0 kt n v1 (u2 + 1) h))))
set_option maxRecDepth 10000 in
set_option maxHeartbeats 1000000 in
theorem okL_X7_bits_4 {l : Launch} {ω : WX} {χ : KT} {d : Nat} (K : Kok ω χ "SaltCloudsModel" cX7_bits 3 (some .int) d) (hd : 0 ≤ d) (N : Nat) {w0 : Int32} {kt : Int32 → Mem → Option (Int32 × Mem)} (hK : ∀ (u1 : Int32) (h : Mem), J (ZM rvI ω χ) l ω χ 24 3 [(1, .int u1)] [] h (kt u1 h)) : ∀ (n : Nat) (u1 : Int32) (u2 : Int32) (h : Mem), J (ZM rvI ω χ) l ω χ 4 3 [(0, .int w0), (1, .int u1), (2, .int u2)] [] h (F_X7_bits_4 N w0 kt n u1 u2 h) := by
  intro n
  induction n with
  | zero =>
    intro u1 u2 h
    exact J_none rfl
  | succ n ih =>
    intro u1 u2 h
    rw [F_X7_bits_4]
    refine J_iload_n (pc := 4) K dX7_bits_4 2 rfl 2 rfl ?_
    refine J_bipush (pc := 5) K (8) dX7_bits_5 (by decide) ?_
    refine J_icmp_ge (pc := 7) K 24 dX7_bits_7 (by decide) ?_ ?_
    · refine J_lv [1] [(1, .int u1)] rfl ?_
      exact hK u1 h
    · refine J_iload_n (pc := 10) K dX7_bits_10 1 rfl 1 rfl ?_
      refine J_iload_n (pc := 11) K dX7_bits_11 0 rfl 0 rfl ?_
      refine J_iload_n (pc := 12) K dX7_bits_12 2 rfl 2 rfl ?_
      refine J_ishr (pc := 13) K dX7_bits_13 ?_
      refine J_iconst (pc := 14) K (1) dX7_bits_14 (by decide) ?_
      refine J_iand (pc := 15) K dX7_bits_15 ?_
      refine J_iadd (pc := 16) K dX7_bits_16 ?_
      refine J_topi (fun v1 => ?_)
      refine J_istore_n (pc := 17) K dX7_bits_17 1 rfl (by decide) [(1, .int v1), (0, .int w0), (2, .int u2)] rfl ?_
      refine J_iinc (pc := 18) K (1) dX7_bits_18 2 rfl (by decide) (by decide) [(2, .int (u2 + 1)), (1, .int v1), (0, .int w0)] rfl ?_
      refine J_goto (pc := 21) K 4 dX7_bits_21 (by decide) ?_
      refine J_lv [2, 1, 0] [(0, .int w0), (1, .int v1), (2, .int (u2 + 1))] rfl ?_
      exact ih v1 (u2 + 1) h
def F_X7_bits (N : Nat) (x0 : Int32) (h : Mem) : Option (Int32 × Mem) :=
  (F_X7_bits_4 N x0 (fun (v2 : Int32) (h3 : Mem) =>
    (some (v2, h3))) N (0 : Int32) (0 : Int32) h)
set_option maxRecDepth 10000 in
set_option maxHeartbeats 1000000 in
theorem ok_X7_bits (l : Launch) (ω : WX) (N : Nat) (x0 : Int32) (h : Mem) : MC rvI l ω yX7_bits cX7_bits 3 (some .int) 0 [.int x0] h (F_X7_bits N x0 h) := by
  refine MC.of (by decide +kernel) [(0, .int x0)] rfl (Nat.le_of_ble_eq_true rfl) (fun χ K => ?_)
  have K : Kok ω χ "SaltCloudsModel" cX7_bits 3 (some .int) 0 := K
  unfold F_X7_bits
  refine J_iconst (pc := 0) K (0) dX7_bits_0 (by decide) ?_
  refine J_istore_n (pc := 1) K dX7_bits_1 1 rfl (by decide) [(1, .int (0 : Int32)), (0, .int x0)] rfl ?_
  refine J_iconst (pc := 2) K (0) dX7_bits_2 (by decide) ?_
  refine J_istore_n (pc := 3) K dX7_bits_3 2 rfl (by decide) [(2, .int (0 : Int32)), (1, .int (0 : Int32)), (0, .int x0)] rfl ?_
  refine J_lv [2, 1, 0] [(0, .int x0), (1, .int (0 : Int32)), (2, .int (0 : Int32))] rfl ?_
  refine okL_X7_bits_4 K  (by decide) N  (fun v2 h3 => ?_) _ _ _ _
  refine J_iload_n (pc := 24) K dX7_bits_24 1 rfl 0 rfl ?_
  exact J_iret (pc := 25) K dX7_bits_25
def F_X7_thereOnes_4 (N : Nat) (k0 : Nat) (kt : Int32 → Mem → Option (Int32 × Mem)) : Nat → Int32 → Int32 → Mem → Option (Int32 × Mem)
  | 0, _, _, _ => none
  | n + 1, u1, u2, h =>
    (gin (0 : Int32) 262
    (if (h (k0 + 1) (ix (0 : Int32))) ≤ u2 then
      (kt u1 h)
    else
      (bnd (F_X7_its k0 u2 (7 : Int32) h) (fun r1 h2 =>
      (seqi (u1 ||| (r1 <<< (u2 &&& 31))) (fun v3 =>
      (F_X7_thereOnes_4 N k0 kt n v3 (u2 + 1) h2)))))))
set_option maxRecDepth 10000 in
set_option maxHeartbeats 1000000 in
theorem okL_X7_thereOnes_4 {l : Launch} {ω : WX} {χ : KT} {d : Nat} (K : Kok ω χ "SaltCloudsModel" cX7_thereOnes 3 (some .int) d) (hd : 1 ≤ d) (N : Nat) {k0 : Nat} (hk0 : lay k0 = 7) {kt : Int32 → Mem → Option (Int32 × Mem)} (hK : ∀ (u1 : Int32) (h : Mem), J (ZM rvI ω χ) l ω χ 32 3 [(1, .int u1)] [] h (kt u1 h)) : ∀ (n : Nat) (u1 : Int32) (u2 : Int32) (h : Mem), J (ZM rvI ω χ) l ω χ 4 3 [(0, .ref (ω.1 + k0)), (1, .int u1), (2, .int u2)] [] h (F_X7_thereOnes_4 N k0 kt n u1 u2 h) := by
  intro n
  induction n with
  | zero =>
    intro u1 u2 h
    exact J_none rfl
  | succ n ih =>
    intro u1 u2 h
    rw [F_X7_thereOnes_4]
    refine J_iload_n (pc := 4) K dX7_thereOnes_4 2 rfl 2 rfl ?_
    refine J_aload_n (pc := 5) K dX7_thereOnes_5 0 rfl 0 rfl ?_
    refine J_getR (pc := 6) K gf_SaltCloudsModel_7 hk0 1 rfl dX7_thereOnes_6 ?_
    refine J_iconst (pc := 9) K (0) dX7_thereOnes_9 (by decide) ?_
    refine J_iald (pc := 10) K (a := k0 + 1) (n := 262) (ty_7_1 hk0) dX7_thereOnes_10 ?_
    refine J_icmp_ge (pc := 11) K 32 dX7_thereOnes_11 (by decide) ?_ ?_
    · refine J_lv [1] [(1, .int u1)] rfl ?_
      exact hK u1 h
    · refine J_iload_n (pc := 14) K dX7_thereOnes_14 1 rfl 1 rfl ?_
      refine J_aload_n (pc := 15) K dX7_thereOnes_15 0 rfl 0 rfl ?_
      refine J_iload_n (pc := 16) K dX7_thereOnes_16 2 rfl 2 rfl ?_
      refine J_bipush (pc := 17) K (7) dX7_thereOnes_17 (by decide) ?_
      refine J_callVI (As := [.int u2, .int (7 : Int32)]) (rest := [.int u1]) (pc := 19) K cs_SaltCloudsModel_45 (ok_X7_its l ω hk0 u2 (7 : Int32) h) hk0 (by omega) rfl rfl (Nat.le_of_ble_eq_true rfl) dX7_thereOnes_19 (fun r1 h2 => ?_)
      refine J_iload_n (pc := 22) K dX7_thereOnes_22 2 rfl 2 rfl ?_
      refine J_ishl (pc := 23) K dX7_thereOnes_23 ?_
      refine J_ior (pc := 24) K dX7_thereOnes_24 ?_
      refine J_topi (fun v3 => ?_)
      refine J_istore_n (pc := 25) K dX7_thereOnes_25 1 rfl (by decide) [(1, .int v3), (0, .ref (ω.1 + k0)), (2, .int u2)] rfl ?_
      refine J_iinc (pc := 26) K (1) dX7_thereOnes_26 2 rfl (by decide) (by decide) [(2, .int (u2 + 1)), (1, .int v3), (0, .ref (ω.1 + k0))] rfl ?_
      refine J_goto (pc := 29) K 4 dX7_thereOnes_29 (by decide) ?_
      refine J_lv [2, 1, 0] [(0, .ref (ω.1 + k0)), (1, .int v3), (2, .int (u2 + 1))] rfl ?_
      exact ih v3 (u2 + 1) h2
def F_X7_thereOnes (N : Nat) (k0 : Nat) (h : Mem) : Option (Int32 × Mem) :=
  (F_X7_thereOnes_4 N k0 (fun (v4 : Int32) (h5 : Mem) =>
    (some (v4, h5))) N (0 : Int32) (0 : Int32) h)
set_option maxRecDepth 10000 in
set_option maxHeartbeats 1000000 in
theorem ok_X7_thereOnes (l : Launch) (ω : WX) (N : Nat) {k0 : Nat} (hk0 : lay k0 = 7) (h : Mem) : MC rvI l ω yX7_thereOnes cX7_thereOnes 3 (some .int) 1 [.ref (ω.1 + k0)] h (F_X7_thereOnes N k0 h) := by
  refine MC.of (by decide +kernel) [(0, .ref (ω.1 + k0))] rfl (Nat.le_of_ble_eq_true rfl) (fun χ K => ?_)
  have K : Kok ω χ "SaltCloudsModel" cX7_thereOnes 3 (some .int) 1 := K
  unfold F_X7_thereOnes
  refine J_iconst (pc := 0) K (0) dX7_thereOnes_0 (by decide) ?_
  refine J_istore_n (pc := 1) K dX7_thereOnes_1 1 rfl (by decide) [(1, .int (0 : Int32)), (0, .ref (ω.1 + k0))] rfl ?_
  refine J_iconst (pc := 2) K (0) dX7_thereOnes_2 (by decide) ?_
  refine J_istore_n (pc := 3) K dX7_thereOnes_3 2 rfl (by decide) [(2, .int (0 : Int32)), (1, .int (0 : Int32)), (0, .ref (ω.1 + k0))] rfl ?_
  refine J_lv [2, 1, 0] [(0, .ref (ω.1 + k0)), (1, .int (0 : Int32)), (2, .int (0 : Int32))] rfl ?_
  refine okL_X7_thereOnes_4 K  (by decide) N hk0 (fun v4 h5 => ?_) _ _ _ _
  refine J_iload_n (pc := 32) K dX7_thereOnes_32 1 rfl 0 rfl ?_
  exact J_iret (pc := 33) K dX7_thereOnes_33
def F_X7_sumOf_5 (N : Nat) (k0 : Nat) (w1 : Int32) (w2 : Int32) (kt : Int32 → Mem → Option (Int32 × Mem)) : Nat → Int32 → Int32 → Mem → Option (Int32 × Mem)
  | 0, _, _, _ => none
  | n + 1, u3, u4, h =>
    (gin (0 : Int32) 262
    (if (h (k0 + 1) (ix (0 : Int32))) ≤ u4 then
      (kt u3 h)
    else
      (bnd (F_X7_its k0 u4 w2 h) (fun r1 h2 =>
      (seqi (u3 + (((w1 >>> (u4 &&& 31)) &&& (1 : Int32)) * r1)) (fun v3 =>
      (F_X7_sumOf_5 N k0 w1 w2 kt n v3 (u4 + 1) h2)))))))
set_option maxRecDepth 10000 in
set_option maxHeartbeats 1000000 in
theorem okL_X7_sumOf_5 {l : Launch} {ω : WX} {χ : KT} {d : Nat} (K : Kok ω χ "SaltCloudsModel" cX7_sumOf 5 (some .int) d) (hd : 1 ≤ d) (N : Nat) {k0 : Nat} (hk0 : lay k0 = 7) {w1 : Int32} {w2 : Int32} {kt : Int32 → Mem → Option (Int32 × Mem)} (hK : ∀ (u3 : Int32) (h : Mem), J (ZM rvI ω χ) l ω χ 39 5 [(3, .int u3)] [] h (kt u3 h)) : ∀ (n : Nat) (u3 : Int32) (u4 : Int32) (h : Mem), J (ZM rvI ω χ) l ω χ 5 5 [(0, .ref (ω.1 + k0)), (1, .int w1), (2, .int w2), (3, .int u3), (4, .int u4)] [] h (F_X7_sumOf_5 N k0 w1 w2 kt n u3 u4 h) := by
  intro n
  induction n with
  | zero =>
    intro u3 u4 h
    exact J_none rfl
  | succ n ih =>
    intro u3 u4 h
    rw [F_X7_sumOf_5]
    refine J_iload (pc := 5) K dX7_sumOf_5 4 rfl ?_
    refine J_aload_n (pc := 7) K dX7_sumOf_7 0 rfl 0 rfl ?_
    refine J_getR (pc := 8) K gf_SaltCloudsModel_7 hk0 1 rfl dX7_sumOf_8 ?_
    refine J_iconst (pc := 11) K (0) dX7_sumOf_11 (by decide) ?_
    refine J_iald (pc := 12) K (a := k0 + 1) (n := 262) (ty_7_1 hk0) dX7_sumOf_12 ?_
    refine J_icmp_ge (pc := 13) K 39 dX7_sumOf_13 (by decide) ?_ ?_
    · refine J_lv [3] [(3, .int u3)] rfl ?_
      exact hK u3 h
    · refine J_iload_n (pc := 16) K dX7_sumOf_16 3 rfl 3 rfl ?_
      refine J_iload_n (pc := 17) K dX7_sumOf_17 1 rfl 1 rfl ?_
      refine J_iload (pc := 18) K dX7_sumOf_18 4 rfl ?_
      refine J_ishr (pc := 20) K dX7_sumOf_20 ?_
      refine J_iconst (pc := 21) K (1) dX7_sumOf_21 (by decide) ?_
      refine J_iand (pc := 22) K dX7_sumOf_22 ?_
      refine J_aload_n (pc := 23) K dX7_sumOf_23 0 rfl 0 rfl ?_
      refine J_iload (pc := 24) K dX7_sumOf_24 4 rfl ?_
      refine J_iload_n (pc := 26) K dX7_sumOf_26 2 rfl 2 rfl ?_
      refine J_callVI (As := [.int u4, .int w2]) (rest := [.int ((w1 >>> (u4 &&& 31)) &&& (1 : Int32)), .int u3]) (pc := 27) K cs_SaltCloudsModel_45 (ok_X7_its l ω hk0 u4 w2 h) hk0 (by omega) rfl rfl (Nat.le_of_ble_eq_true rfl) dX7_sumOf_27 (fun r1 h2 => ?_)
      refine J_imul (pc := 30) K dX7_sumOf_30 ?_
      refine J_iadd (pc := 31) K dX7_sumOf_31 ?_
      refine J_topi (fun v3 => ?_)
      refine J_istore_n (pc := 32) K dX7_sumOf_32 3 rfl (by decide) [(3, .int v3), (0, .ref (ω.1 + k0)), (1, .int w1), (2, .int w2), (4, .int u4)] rfl ?_
      refine J_iinc (pc := 33) K (1) dX7_sumOf_33 4 rfl (by decide) (by decide) [(4, .int (u4 + 1)), (3, .int v3), (0, .ref (ω.1 + k0)), (1, .int w1), (2, .int w2)] rfl ?_
      refine J_goto (pc := 36) K 5 dX7_sumOf_36 (by decide) ?_
      refine J_lv [2, 3, 4, 1, 0] [(0, .ref (ω.1 + k0)), (1, .int w1), (2, .int w2), (3, .int v3), (4, .int (u4 + 1))] rfl ?_
      exact ih v3 (u4 + 1) h2
def F_X7_sumOf (N : Nat) (k0 : Nat) (x1 : Int32) (x2 : Int32) (h : Mem) : Option (Int32 × Mem) :=
  (F_X7_sumOf_5 N k0 x1 x2 (fun (v4 : Int32) (h5 : Mem) =>
    (some (v4, h5))) N (0 : Int32) (0 : Int32) h)
set_option maxRecDepth 10000 in
set_option maxHeartbeats 1000000 in
theorem ok_X7_sumOf (l : Launch) (ω : WX) (N : Nat) {k0 : Nat} (hk0 : lay k0 = 7) (x1 : Int32) (x2 : Int32) (h : Mem) : MC rvI l ω yX7_sumOf cX7_sumOf 5 (some .int) 1 [.ref (ω.1 + k0), .int x1, .int x2] h (F_X7_sumOf N k0 x1 x2 h) := by
  refine MC.of (by decide +kernel) [(0, .ref (ω.1 + k0)), (1, .int x1), (2, .int x2)] rfl (Nat.le_of_ble_eq_true rfl) (fun χ K => ?_)
  have K : Kok ω χ "SaltCloudsModel" cX7_sumOf 5 (some .int) 1 := K
  unfold F_X7_sumOf
  refine J_iconst (pc := 0) K (0) dX7_sumOf_0 (by decide) ?_
  refine J_istore_n (pc := 1) K dX7_sumOf_1 3 rfl (by decide) [(3, .int (0 : Int32)), (0, .ref (ω.1 + k0)), (1, .int x1), (2, .int x2)] rfl ?_
  refine J_iconst (pc := 2) K (0) dX7_sumOf_2 (by decide) ?_
  refine J_istore (pc := 3) K dX7_sumOf_3 (by decide) [(4, .int (0 : Int32)), (3, .int (0 : Int32)), (0, .ref (ω.1 + k0)), (1, .int x1), (2, .int x2)] rfl ?_
  refine J_lv [2, 3, 4, 1, 0] [(0, .ref (ω.1 + k0)), (1, .int x1), (2, .int x2), (3, .int (0 : Int32)), (4, .int (0 : Int32))] rfl ?_
  refine okL_X7_sumOf_5 K  (by decide) N hk0 (fun v4 h5 => ?_) _ _ _ _
  refine J_iload_n (pc := 39) K dX7_sumOf_39 3 rfl 0 rfl ?_
  exact J_iret (pc := 40) K dX7_sumOf_40
def F_X7_comes_38 (N : Nat) (k0 : Nat) (w1 : Int32) (w2 : Int32) (w3 : Int32) (kt : Int32 → Mem → Option (Int32 × Mem)) : Nat → Int32 → Int32 → Mem → Option (Int32 × Mem)
  | 0, _, _, _ => none
  | n + 1, u4, u5, h =>
    (gin (0 : Int32) 262
    (if ((1 : Int32) <<< ((h (k0 + 1) (ix (0 : Int32))) &&& 31)) ≤ u5 then
      (kt u4 h)
    else
      (jn (fun (v12 v13 s14 : Int32) (h15 : Mem) =>
        (if s14 = 0 then
          (F_X7_comes_38 N k0 w1 w2 w3 kt n v12 (v13 + 1) h15)
        else
          (bnd (F_X7_sumOf N k0 v13 (4 : Int32) h15) (fun r16 h17 =>
          (bnd (F_X7_sumOf N k0 v13 (5 : Int32) h17) (fun r18 h19 =>
          (bnd (F_X7_sumOf N k0 v13 (6 : Int32) h19) (fun r20 h21 =>
          (bnd (F_X7_sumOf N k0 v13 (3 : Int32) h21) (fun r22 h23 =>
          (bnd (F_X7_taste ((r16 + r18) + r20) r22 h23) (fun r24 h25 =>
          (if r24 = w1 then
            (F_X7_comes_38 N k0 w1 w2 w3 kt n v13 (v13 + 1) h25)
          else
            (F_X7_comes_38 N k0 w1 w2 w3 kt n v12 (v13 + 1) h25)))))))))))))) (fun j11 =>
        (if (u5 &&& (w3 ^^^ (-1 : Int32))) = 0 then
          (if u4 = 0 then
            (j11 u4 u5 (1 : Int32) h)
          else
            (bnd (F_X7_bits N u5 h) (fun r26 h27 =>
            (bnd (F_X7_bits N u4 h27) (fun r28 h29 =>
            (if r28 ≤ r26 then
              (j11 u4 u5 (0 : Int32) h29)
            else
              (j11 u4 u5 (1 : Int32) h29)))))))
        else
          (j11 u4 u5 (0 : Int32) h))))))
set_option maxRecDepth 10000 in
set_option maxHeartbeats 1000000 in
theorem okL_X7_comes_38 {l : Launch} {ω : WX} {χ : KT} {d : Nat} (K : Kok ω χ "SaltCloudsModel" cX7_comes 7 (some .int) d) (hd : 2 ≤ d) (N : Nat) {k0 : Nat} (hk0 : lay k0 = 7) {w1 : Int32} {w2 : Int32} {w3 : Int32} {kt : Int32 → Mem → Option (Int32 × Mem)} (hK : ∀ (u4 : Int32) (h : Mem), J (ZM rvI ω χ) l ω χ 143 7 [(0, .ref (ω.1 + k0)), (2, .int w2), (4, .int u4)] [] h (kt u4 h)) : ∀ (n : Nat) (u4 : Int32) (u5 : Int32) (h : Mem), J (ZM rvI ω χ) l ω χ 38 7 [(0, .ref (ω.1 + k0)), (1, .int w1), (2, .int w2), (3, .int w3), (4, .int u4), (5, .int u5)] [] h (F_X7_comes_38 N k0 w1 w2 w3 kt n u4 u5 h) := by
  intro n
  induction n with
  | zero =>
    intro u4 u5 h
    exact J_none rfl
  | succ n ih =>
    intro u4 u5 h
    rw [F_X7_comes_38]
    refine J_iload (pc := 38) K dX7_comes_38 5 rfl ?_
    refine J_iconst (pc := 40) K (1) dX7_comes_40 (by decide) ?_
    refine J_aload_n (pc := 41) K dX7_comes_41 0 rfl 0 rfl ?_
    refine J_getR (pc := 42) K gf_SaltCloudsModel_7 hk0 1 rfl dX7_comes_42 ?_
    refine J_iconst (pc := 45) K (0) dX7_comes_45 (by decide) ?_
    refine J_iald (pc := 46) K (a := k0 + 1) (n := 262) (ty_7_1 hk0) dX7_comes_46 ?_
    refine J_ishl (pc := 47) K dX7_comes_47 ?_
    refine J_icmp_ge (pc := 48) K 143 dX7_comes_48 (by decide) ?_ ?_
    · refine J_lv [0, 2, 4] [(0, .ref (ω.1 + k0)), (2, .int w2), (4, .int u4)] rfl ?_
      exact hK u4 h
    · refine J_iload (pc := 51) K dX7_comes_51 5 rfl ?_
      refine J_iload_n (pc := 53) K dX7_comes_53 3 rfl 3 rfl ?_
      refine J_iconst (pc := 54) K (-1) dX7_comes_54 (by decide) ?_
      refine J_ixor (pc := 55) K dX7_comes_55 ?_
      refine J_iand (pc := 56) K dX7_comes_56 ?_
      refine J_jn (fun j11 => ∀ (v12 v13 s14 : Int32) (h15 : Mem), J (ZM rvI ω χ) l ω χ 83 7 [(0, .ref (ω.1 + k0)), (1, .int w1), (2, .int w2), (3, .int w3), (4, .int v12), (5, .int v13)] [.int s14] h15 (j11 v12 v13 s14 h15)) ?_ ?_
      · intro v12 v13 s14 h15
        refine J_istore (pc := 83) K dX7_comes_83 (by decide) [(6, .int s14), (0, .ref (ω.1 + k0)), (1, .int w1), (2, .int w2), (3, .int w3), (4, .int v12), (5, .int v13)] rfl ?_
        refine J_iload (pc := 85) K dX7_comes_85 0 rfl ?_
        refine J_if_eq (pc := 87) K 133 dX7_comes_87 (by decide) ?_ ?_
        · refine J_iload (pc := 133) K dX7_comes_133 5 rfl ?_
          refine J_istore (pc := 135) K dX7_comes_135 (by decide) [(4, .int v12), (6, .int s14), (0, .ref (ω.1 + k0)), (1, .int w1), (2, .int w2), (3, .int w3), (5, .int v13)] rfl ?_
          refine J_iinc (pc := 137) K (1) dX7_comes_137 6 rfl (by decide) (by decide) [(5, .int (v13 + 1)), (4, .int v12), (6, .int s14), (0, .ref (ω.1 + k0)), (1, .int w1), (2, .int w2), (3, .int w3)] rfl ?_
          refine J_goto (pc := 140) K 38 dX7_comes_140 (by decide) ?_
          refine J_lv [3, 4, 5, 6, 1, 0] [(0, .ref (ω.1 + k0)), (1, .int w1), (2, .int w2), (3, .int w3), (4, .int v12), (5, .int (v13 + 1))] rfl ?_
          exact ih v12 (v13 + 1) h15
        · refine J_aload_n (pc := 90) K dX7_comes_90 0 rfl 1 rfl ?_
          refine J_iload (pc := 91) K dX7_comes_91 6 rfl ?_
          refine J_iconst (pc := 93) K (4) dX7_comes_93 (by decide) ?_
          refine J_callVI (As := [.int v13, .int (4 : Int32)]) (rest := []) (pc := 94) K cs_SaltCloudsModel_218 (ok_X7_sumOf l ω N hk0 v13 (4 : Int32) h15) hk0 (by omega) rfl rfl (Nat.le_of_ble_eq_true rfl) dX7_comes_94 (fun r16 h17 => ?_)
          refine J_aload_n (pc := 97) K dX7_comes_97 0 rfl 1 rfl ?_
          refine J_iload (pc := 98) K dX7_comes_98 6 rfl ?_
          refine J_iconst (pc := 100) K (5) dX7_comes_100 (by decide) ?_
          refine J_callVI (As := [.int v13, .int (5 : Int32)]) (rest := [.int r16]) (pc := 101) K cs_SaltCloudsModel_218 (ok_X7_sumOf l ω N hk0 v13 (5 : Int32) h17) hk0 (by omega) rfl rfl (Nat.le_of_ble_eq_true rfl) dX7_comes_101 (fun r18 h19 => ?_)
          refine J_iadd (pc := 104) K dX7_comes_104 ?_
          refine J_aload_n (pc := 105) K dX7_comes_105 0 rfl 1 rfl ?_
          refine J_iload (pc := 106) K dX7_comes_106 6 rfl ?_
          refine J_bipush (pc := 108) K (6) dX7_comes_108 (by decide) ?_
          refine J_callVI (As := [.int v13, .int (6 : Int32)]) (rest := [.int (r16 + r18)]) (pc := 110) K cs_SaltCloudsModel_218 (ok_X7_sumOf l ω N hk0 v13 (6 : Int32) h19) hk0 (by omega) rfl rfl (Nat.le_of_ble_eq_true rfl) dX7_comes_110 (fun r20 h21 => ?_)
          refine J_iadd (pc := 113) K dX7_comes_113 ?_
          refine J_aload_n (pc := 114) K dX7_comes_114 0 rfl 1 rfl ?_
          refine J_iload (pc := 115) K dX7_comes_115 6 rfl ?_
          refine J_iconst (pc := 117) K (3) dX7_comes_117 (by decide) ?_
          refine J_callVI (As := [.int v13, .int (3 : Int32)]) (rest := [.int ((r16 + r18) + r20)]) (pc := 118) K cs_SaltCloudsModel_218 (ok_X7_sumOf l ω N hk0 v13 (3 : Int32) h21) hk0 (by omega) rfl rfl (Nat.le_of_ble_eq_true rfl) dX7_comes_118 (fun r22 h23 => ?_)
          refine J_callTI (As := [.int ((r16 + r18) + r20), .int r22]) (rest := []) (pc := 121) K cs_SaltCloudsModel_67 (ok_X7_taste l ω ((r16 + r18) + r20) r22 h23) (by omega) rfl rfl (Nat.le_of_ble_eq_true rfl) dX7_comes_121 (fun r24 h25 => ?_)
          refine J_iload_n (pc := 124) K dX7_comes_124 1 rfl 2 rfl ?_
          refine J_icmp_ne (pc := 125) K 133 dX7_comes_125 (by decide) ?_ ?_
          · refine J_iload (pc := 128) K dX7_comes_128 6 rfl ?_
            refine J_goto (pc := 130) K 135 dX7_comes_130 (by decide) ?_
            refine J_istore (pc := 135) K dX7_comes_135 (by decide) [(4, .int v13), (6, .int s14), (0, .ref (ω.1 + k0)), (1, .int w1), (2, .int w2), (3, .int w3), (5, .int v13)] rfl ?_
            refine J_iinc (pc := 137) K (1) dX7_comes_137 6 rfl (by decide) (by decide) [(5, .int (v13 + 1)), (4, .int v13), (6, .int s14), (0, .ref (ω.1 + k0)), (1, .int w1), (2, .int w2), (3, .int w3)] rfl ?_
            refine J_goto (pc := 140) K 38 dX7_comes_140 (by decide) ?_
            refine J_lv [3, 4, 5, 6, 1, 0] [(0, .ref (ω.1 + k0)), (1, .int w1), (2, .int w2), (3, .int w3), (4, .int v13), (5, .int (v13 + 1))] rfl ?_
            exact ih v13 (v13 + 1) h25
          · refine J_iload (pc := 133) K dX7_comes_133 5 rfl ?_
            refine J_istore (pc := 135) K dX7_comes_135 (by decide) [(4, .int v12), (6, .int s14), (0, .ref (ω.1 + k0)), (1, .int w1), (2, .int w2), (3, .int w3), (5, .int v13)] rfl ?_
            refine J_iinc (pc := 137) K (1) dX7_comes_137 6 rfl (by decide) (by decide) [(5, .int (v13 + 1)), (4, .int v12), (6, .int s14), (0, .ref (ω.1 + k0)), (1, .int w1), (2, .int w2), (3, .int w3)] rfl ?_
            refine J_goto (pc := 140) K 38 dX7_comes_140 (by decide) ?_
            refine J_lv [3, 4, 5, 6, 1, 0] [(0, .ref (ω.1 + k0)), (1, .int w1), (2, .int w2), (3, .int w3), (4, .int v12), (5, .int (v13 + 1))] rfl ?_
            exact ih v12 (v13 + 1) h25
      · intro j11 hj11
        refine J_if_ne (pc := 57) K 82 dX7_comes_57 (by decide) ?_ ?_
        · refine J_iload (pc := 60) K dX7_comes_60 4 rfl ?_
          refine J_if_eq (pc := 62) K 78 dX7_comes_62 (by decide) ?_ ?_
          · refine J_iconst (pc := 78) K (1) dX7_comes_78 (by decide) ?_
            refine J_goto (pc := 79) K 83 dX7_comes_79 (by decide) ?_
            exact hj11 u4 u5 (1 : Int32) h
          · refine J_iload (pc := 65) K dX7_comes_65 5 rfl ?_
            refine J_callTI (As := [.int u5]) (rest := []) (pc := 67) K cs_SaltCloudsModel_215 (ok_X7_bits l ω N u5 h) (by omega) rfl rfl (Nat.le_of_ble_eq_true rfl) dX7_comes_67 (fun r26 h27 => ?_)
            refine J_iload (pc := 70) K dX7_comes_70 4 rfl ?_
            refine J_callTI (As := [.int u4]) (rest := [.int r26]) (pc := 72) K cs_SaltCloudsModel_215 (ok_X7_bits l ω N u4 h27) (by omega) rfl rfl (Nat.le_of_ble_eq_true rfl) dX7_comes_72 (fun r28 h29 => ?_)
            refine J_icmp_ge (pc := 75) K 82 dX7_comes_75 (by decide) ?_ ?_
            · refine J_iconst (pc := 82) K (0) dX7_comes_82 (by decide) ?_
              exact hj11 u4 u5 (0 : Int32) h29
            · refine J_iconst (pc := 78) K (1) dX7_comes_78 (by decide) ?_
              refine J_goto (pc := 79) K 83 dX7_comes_79 (by decide) ?_
              exact hj11 u4 u5 (1 : Int32) h29
        · refine J_iconst (pc := 82) K (0) dX7_comes_82 (by decide) ?_
          exact hj11 u4 u5 (0 : Int32) h
def F_X7_comes (N : Nat) (k0 : Nat) (x1 : Int32) (x2 : Int32) (h : Mem) : Option (Int32 × Mem) :=
  (bnd (F_X7_in x1 (0 : Int32) (9999 : Int32) h) (fun r1 h2 =>
  (if r1 = 0 then
    (bnd (F_X7_errs k0 (-1000000001 : Int32) h2) (fun r3 h4 =>
    (some (r3, h4))))
  else
    (bnd (F_X7_in x2 (0 : Int32) (1 : Int32) h2) (fun r5 h6 =>
    (if r5 = 0 then
      (bnd (F_X7_errs k0 (-1000000001 : Int32) h6) (fun r7 h8 =>
      (some (r7, h8))))
    else
      (bnd (F_X7_thereOnes N k0 h6) (fun r9 h10 =>
      (F_X7_comes_38 N k0 x1 x2 r9 (fun (v30 : Int32) (h31 : Mem) =>
        (if v30 = 0 then
          (bnd (F_X7_errs k0 (-1000000002 : Int32) h31) (fun r32 h33 =>
          (some (r32, h33))))
        else
          (if x2 = 0 then
            (some (v30, h31))
          else
            (bnd (F_X7_bits N v30 h31) (fun r34 h35 =>
            (some (r34, h35))))))) N (0 : Int32) (1 : Int32) h10)))))))))
set_option maxRecDepth 10000 in
set_option maxHeartbeats 1000000 in
theorem ok_X7_comes (l : Launch) (ω : WX) (N : Nat) {k0 : Nat} (hk0 : lay k0 = 7) (x1 : Int32) (x2 : Int32) (h : Mem) : MC rvI l ω yX7_comes cX7_comes 7 (some .int) 2 [.ref (ω.1 + k0), .int x1, .int x2] h (F_X7_comes N k0 x1 x2 h) := by
  refine MC.of (by decide +kernel) [(0, .ref (ω.1 + k0)), (1, .int x1), (2, .int x2)] rfl (Nat.le_of_ble_eq_true rfl) (fun χ K => ?_)
  have K : Kok ω χ "SaltCloudsModel" cX7_comes 7 (some .int) 2 := K
  unfold F_X7_comes
  refine J_iload_n (pc := 0) K dX7_comes_0 1 rfl 1 rfl ?_
  refine J_iconst (pc := 1) K (0) dX7_comes_1 (by decide) ?_
  refine J_sipush (pc := 2) K (9999) dX7_comes_2 (by decide) ?_
  refine J_callTI (As := [.int x1, .int (0 : Int32), .int (9999 : Int32)]) (rest := []) (pc := 5) K cs_SaltCloudsModel_41 (ok_X7_in l ω x1 (0 : Int32) (9999 : Int32) h) (by decide) rfl rfl (Nat.le_of_ble_eq_true rfl) dX7_comes_5 (fun r1 h2 => ?_)
  refine J_if_eq (pc := 8) K 20 dX7_comes_8 (by decide) ?_ ?_
  · refine J_aload_n (pc := 20) K dX7_comes_20 0 rfl 0 rfl ?_
    refine J_ldc (pc := 21) K kc_SaltCloudsModel_53 dX7_comes_21 ?_
    refine J_callVI (As := [.int (-1000000001 : Int32)]) (rest := []) (pc := 23) K cs_SaltCloudsModel_54 (ok_X7_errs l ω hk0 (-1000000001 : Int32) h2) hk0 (by decide) rfl rfl (Nat.le_of_ble_eq_true rfl) dX7_comes_23 (fun r3 h4 => ?_)
    exact J_iret (pc := 26) K dX7_comes_26
  · refine J_iload_n (pc := 11) K dX7_comes_11 2 rfl 2 rfl ?_
    refine J_iconst (pc := 12) K (0) dX7_comes_12 (by decide) ?_
    refine J_iconst (pc := 13) K (1) dX7_comes_13 (by decide) ?_
    refine J_callTI (As := [.int x2, .int (0 : Int32), .int (1 : Int32)]) (rest := []) (pc := 14) K cs_SaltCloudsModel_41 (ok_X7_in l ω x2 (0 : Int32) (1 : Int32) h2) (by decide) rfl rfl (Nat.le_of_ble_eq_true rfl) dX7_comes_14 (fun r5 h6 => ?_)
    refine J_if_ne (pc := 17) K 27 dX7_comes_17 (by decide) ?_ ?_
    · refine J_aload_n (pc := 20) K dX7_comes_20 0 rfl 0 rfl ?_
      refine J_ldc (pc := 21) K kc_SaltCloudsModel_53 dX7_comes_21 ?_
      refine J_callVI (As := [.int (-1000000001 : Int32)]) (rest := []) (pc := 23) K cs_SaltCloudsModel_54 (ok_X7_errs l ω hk0 (-1000000001 : Int32) h6) hk0 (by decide) rfl rfl (Nat.le_of_ble_eq_true rfl) dX7_comes_23 (fun r7 h8 => ?_)
      exact J_iret (pc := 26) K dX7_comes_26
    · refine J_aload_n (pc := 27) K dX7_comes_27 0 rfl 0 rfl ?_
      refine J_callVI (As := []) (rest := []) (pc := 28) K cs_SaltCloudsModel_212 (ok_X7_thereOnes l ω N hk0 h6) hk0 (by decide) rfl rfl (Nat.le_of_ble_eq_true rfl) dX7_comes_28 (fun r9 h10 => ?_)
      refine J_istore_n (pc := 31) K dX7_comes_31 3 rfl (by decide) [(3, .int r9), (0, .ref (ω.1 + k0)), (1, .int x1), (2, .int x2)] rfl ?_
      refine J_iconst (pc := 32) K (0) dX7_comes_32 (by decide) ?_
      refine J_istore (pc := 33) K dX7_comes_33 (by decide) [(4, .int (0 : Int32)), (3, .int r9), (0, .ref (ω.1 + k0)), (1, .int x1), (2, .int x2)] rfl ?_
      refine J_iconst (pc := 35) K (1) dX7_comes_35 (by decide) ?_
      refine J_istore (pc := 36) K dX7_comes_36 (by decide) [(5, .int (1 : Int32)), (4, .int (0 : Int32)), (3, .int r9), (0, .ref (ω.1 + k0)), (1, .int x1), (2, .int x2)] rfl ?_
      refine J_lv [3, 4, 5, 2, 1, 0] [(0, .ref (ω.1 + k0)), (1, .int x1), (2, .int x2), (3, .int r9), (4, .int (0 : Int32)), (5, .int (1 : Int32))] rfl ?_
      refine okL_X7_comes_38 K  (by decide) N hk0 (fun v30 h31 => ?_) _ _ _ _
      refine J_iload (pc := 143) K dX7_comes_143 2 rfl ?_
      refine J_if_ne (pc := 145) K 155 dX7_comes_145 (by decide) ?_ ?_
      · refine J_aload_n (pc := 148) K dX7_comes_148 0 rfl 0 rfl ?_
        refine J_ldc (pc := 149) K kc_SaltCloudsModel_211 dX7_comes_149 ?_
        refine J_callVI (As := [.int (-1000000002 : Int32)]) (rest := []) (pc := 151) K cs_SaltCloudsModel_54 (ok_X7_errs l ω hk0 (-1000000002 : Int32) h31) hk0 (by decide) rfl rfl (Nat.le_of_ble_eq_true rfl) dX7_comes_151 (fun r32 h33 => ?_)
        exact J_iret (pc := 154) K dX7_comes_154
      · refine J_iload_n (pc := 155) K dX7_comes_155 2 rfl 1 rfl ?_
        refine J_if_ne (pc := 156) K 164 dX7_comes_156 (by decide) ?_ ?_
        · refine J_iload (pc := 159) K dX7_comes_159 2 rfl ?_
          refine J_goto (pc := 161) K 169 dX7_comes_161 (by decide) ?_
          exact J_iret (pc := 169) K dX7_comes_169
        · refine J_iload (pc := 164) K dX7_comes_164 2 rfl ?_
          refine J_callTI (As := [.int v30]) (rest := []) (pc := 166) K cs_SaltCloudsModel_215 (ok_X7_bits l ω N v30 h31) (by decide) rfl rfl (Nat.le_of_ble_eq_true rfl) dX7_comes_166 (fun r34 h35 => ?_)
          exact J_iret (pc := 169) K dX7_comes_169
def F_X7_stays (N : Nat) (k0 : Nat) (x1 : Int32) (h : Mem) : Option (Int32 × Mem) :=
  (bnd (F_X7_in x1 (0 : Int32) (3 : Int32) h) (fun r1 h2 =>
  (if r1 = 0 then
    (bnd (F_X7_errs k0 (-1000000001 : Int32) h2) (fun r3 h4 =>
    (some (r3, h4))))
  else
    (bnd (F_X7_thereOnes N k0 h2) (fun r5 h6 =>
    (bnd (F_X7_sumOf N k0 r5 ((3 : Int32) + x1) h6) (fun r7 h8 =>
    (some (r7, h8)))))))))
set_option maxRecDepth 10000 in
set_option maxHeartbeats 1000000 in
theorem ok_X7_stays (l : Launch) (ω : WX) (N : Nat) {k0 : Nat} (hk0 : lay k0 = 7) (x1 : Int32) (h : Mem) : MC rvI l ω yX7_stays cX7_stays 2 (some .int) 2 [.ref (ω.1 + k0), .int x1] h (F_X7_stays N k0 x1 h) := by
  refine MC.of (by decide +kernel) [(0, .ref (ω.1 + k0)), (1, .int x1)] rfl (Nat.le_of_ble_eq_true rfl) (fun χ K => ?_)
  have K : Kok ω χ "SaltCloudsModel" cX7_stays 2 (some .int) 2 := K
  unfold F_X7_stays
  refine J_iload_n (pc := 0) K dX7_stays_0 1 rfl 1 rfl ?_
  refine J_iconst (pc := 1) K (0) dX7_stays_1 (by decide) ?_
  refine J_iconst (pc := 2) K (3) dX7_stays_2 (by decide) ?_
  refine J_callTI (As := [.int x1, .int (0 : Int32), .int (3 : Int32)]) (rest := []) (pc := 3) K cs_SaltCloudsModel_41 (ok_X7_in l ω x1 (0 : Int32) (3 : Int32) h) (by decide) rfl rfl (Nat.le_of_ble_eq_true rfl) dX7_stays_3 (fun r1 h2 => ?_)
  refine J_if_eq (pc := 6) K 23 dX7_stays_6 (by decide) ?_ ?_
  · refine J_aload_n (pc := 23) K dX7_stays_23 0 rfl 0 rfl ?_
    refine J_ldc (pc := 24) K kc_SaltCloudsModel_53 dX7_stays_24 ?_
    refine J_callVI (As := [.int (-1000000001 : Int32)]) (rest := []) (pc := 26) K cs_SaltCloudsModel_54 (ok_X7_errs l ω hk0 (-1000000001 : Int32) h2) hk0 (by decide) rfl rfl (Nat.le_of_ble_eq_true rfl) dX7_stays_26 (fun r3 h4 => ?_)
    exact J_iret (pc := 29) K dX7_stays_29
  · refine J_aload_n (pc := 9) K dX7_stays_9 0 rfl 0 rfl ?_
    refine J_aload_n (pc := 10) K dX7_stays_10 0 rfl 0 rfl ?_
    refine J_callVI (As := []) (rest := [.ref (ω.1 + k0)]) (pc := 11) K cs_SaltCloudsModel_212 (ok_X7_thereOnes l ω N hk0 h2) hk0 (by decide) rfl rfl (Nat.le_of_ble_eq_true rfl) dX7_stays_11 (fun r5 h6 => ?_)
    refine J_iconst (pc := 14) K (3) dX7_stays_14 (by decide) ?_
    refine J_iload_n (pc := 15) K dX7_stays_15 1 rfl 1 rfl ?_
    refine J_iadd (pc := 16) K dX7_stays_16 ?_
    refine J_callVI (As := [.int r5, .int ((3 : Int32) + x1)]) (rest := []) (pc := 17) K cs_SaltCloudsModel_218 (ok_X7_sumOf l ω N hk0 r5 ((3 : Int32) + x1) h6) hk0 (by decide) rfl rfl (Nat.le_of_ble_eq_true rfl) dX7_stays_17 (fun r7 h8 => ?_)
    refine J_goto (pc := 20) K 29 dX7_stays_20 (by decide) ?_
    exact J_iret (pc := 29) K dX7_stays_29
def F_X7_meets_65 (N : Nat) (k0 : Nat) (w1 : Int32) (w2 : Int32) (kt : Int32 → Mem → Option (Int32 × Mem)) : Nat → Int32 → Mem → Option (Int32 × Mem)
  | 0, _, _ => none
  | n + 1, u3, h =>
    (if (200 : Int32) < u3 then
      (kt u3 h)
    else
      (bnd (F_X7_its k0 w1 (2 : Int32) h) (fun r21 h22 =>
      (bnd (F_X7_its k0 w2 (2 : Int32) h22) (fun r23 h24 =>
      (if r21 = r23 then
        (kt u3 h24)
      else
        (bnd (F_X7_windNow k0 h24) (fun r25 h26 =>
        (bnd (F_X7_oneHour N k0 r25 h26) (fun _ h28 =>
        (F_X7_meets_65 N k0 w1 w2 kt n (u3 + 1) h28)))))))))))
set_option maxRecDepth 10000 in
set_option maxHeartbeats 1000000 in
theorem okL_X7_meets_65 {l : Launch} {ω : WX} {χ : KT} {d : Nat} (K : Kok ω χ "SaltCloudsModel" cX7_meets 4 (some .int) d) (hd : 5 ≤ d) (N : Nat) {k0 : Nat} (hk0 : lay k0 = 7) {w1 : Int32} {w2 : Int32} {kt : Int32 → Mem → Option (Int32 × Mem)} (hK : ∀ (u3 : Int32) (h : Mem), J (ZM rvI ω χ) l ω χ 101 4 [(0, .ref (ω.1 + k0)), (3, .int u3)] [] h (kt u3 h)) : ∀ (n : Nat) (u3 : Int32) (h : Mem), J (ZM rvI ω χ) l ω χ 65 4 [(0, .ref (ω.1 + k0)), (1, .int w1), (2, .int w2), (3, .int u3)] [] h (F_X7_meets_65 N k0 w1 w2 kt n u3 h) := by
  intro n
  induction n with
  | zero =>
    intro u3 h
    exact J_none rfl
  | succ n ih =>
    intro u3 h
    rw [F_X7_meets_65]
    refine J_iload_n (pc := 65) K dX7_meets_65 3 rfl 3 rfl ?_
    refine J_sipush (pc := 66) K (200) dX7_meets_66 (by decide) ?_
    refine J_icmp_gt (pc := 69) K 101 dX7_meets_69 (by decide) ?_ ?_
    · refine J_lv [0, 3] [(0, .ref (ω.1 + k0)), (3, .int u3)] rfl ?_
      exact hK u3 h
    · refine J_aload_n (pc := 72) K dX7_meets_72 0 rfl 0 rfl ?_
      refine J_iload_n (pc := 73) K dX7_meets_73 1 rfl 1 rfl ?_
      refine J_iconst (pc := 74) K (2) dX7_meets_74 (by decide) ?_
      refine J_callVI (As := [.int w1, .int (2 : Int32)]) (rest := []) (pc := 75) K cs_SaltCloudsModel_45 (ok_X7_its l ω hk0 w1 (2 : Int32) h) hk0 (by omega) rfl rfl (Nat.le_of_ble_eq_true rfl) dX7_meets_75 (fun r21 h22 => ?_)
      refine J_aload_n (pc := 78) K dX7_meets_78 0 rfl 0 rfl ?_
      refine J_iload_n (pc := 79) K dX7_meets_79 2 rfl 2 rfl ?_
      refine J_iconst (pc := 80) K (2) dX7_meets_80 (by decide) ?_
      refine J_callVI (As := [.int w2, .int (2 : Int32)]) (rest := [.int r21]) (pc := 81) K cs_SaltCloudsModel_45 (ok_X7_its l ω hk0 w2 (2 : Int32) h22) hk0 (by omega) rfl rfl (Nat.le_of_ble_eq_true rfl) dX7_meets_81 (fun r23 h24 => ?_)
      refine J_icmp_eq (pc := 84) K 101 dX7_meets_84 (by decide) ?_ ?_
      · refine J_lv [0, 3] [(0, .ref (ω.1 + k0)), (3, .int u3)] rfl ?_
        exact hK u3 h24
      · refine J_aload_n (pc := 87) K dX7_meets_87 0 rfl 0 rfl ?_
        refine J_aload_n (pc := 88) K dX7_meets_88 0 rfl 0 rfl ?_
        refine J_callVI (As := []) (rest := [.ref (ω.1 + k0)]) (pc := 89) K cs_SaltCloudsModel_86 (ok_X7_windNow l ω hk0 h24) hk0 (by omega) rfl rfl (Nat.le_of_ble_eq_true rfl) dX7_meets_89 (fun r25 h26 => ?_)
        refine J_callVU (As := [.int r25]) (rest := []) (pc := 92) K cs_SaltCloudsModel_191 (ok_X7_oneHour l ω N hk0 r25 h26) hk0 (by omega) rfl rfl (Nat.le_of_ble_eq_true rfl) dX7_meets_92 (fun _ h28 => ?_)
        refine J_iinc (pc := 95) K (1) dX7_meets_95 3 rfl (by decide) (by decide) [(3, .int (u3 + 1)), (0, .ref (ω.1 + k0)), (1, .int w1), (2, .int w2)] rfl ?_
        refine J_goto (pc := 98) K 65 dX7_meets_98 (by decide) ?_
        refine J_lv [1, 2, 3, 0] [(0, .ref (ω.1 + k0)), (1, .int w1), (2, .int w2), (3, .int (u3 + 1))] rfl ?_
        exact ih (u3 + 1) h28
def F_X7_meets (N : Nat) (k0 : Nat) (x1 : Int32) (x2 : Int32) (h : Mem) : Option (Int32 × Mem) :=
  (bnd (F_X7_isCloud k0 x1 h) (fun r1 h2 =>
  (if r1 = 0 then
    (bnd (F_X7_errs k0 (-1000000001 : Int32) h2) (fun r3 h4 =>
    (some (r3, h4))))
  else
    (bnd (F_X7_isCloud k0 x2 h2) (fun r5 h6 =>
    (if r5 = 0 then
      (bnd (F_X7_errs k0 (-1000000001 : Int32) h6) (fun r7 h8 =>
      (some (r7, h8))))
    else
      (if x1 = x2 then
        (bnd (F_X7_errs k0 (-1000000001 : Int32) h6) (fun r9 h10 =>
        (some (r9, h10))))
      else
        (bnd (F_X7_isThere k0 x1 h6) (fun r11 h12 =>
        (if r11 = 0 then
          (bnd (F_X7_errs k0 (-1000000003 : Int32) h12) (fun r13 h14 =>
          (some (r13, h14))))
        else
          (bnd (F_X7_isThere k0 x2 h12) (fun r15 h16 =>
          (if r15 = 0 then
            (bnd (F_X7_errs k0 (-1000000003 : Int32) h16) (fun r17 h18 =>
            (some (r17, h18))))
          else
            (bnd (F_X7_moveAll N k0 (k0 + 1) 262 (k0 + 3) 262 h16) (fun _ h20 =>
            (F_X7_meets_65 N k0 x1 x2 (fun (v29 : Int32) (h30 : Mem) =>
              (bnd (F_X7_moveAll N k0 (k0 + 3) 262 (k0 + 1) 262 h30) (fun _ h32 =>
              (if v29 ≤ (200 : Int32) then
                (some (v29, h32))
              else
                (bnd (F_X7_errs k0 (-1000000002 : Int32) h32) (fun r33 h34 =>
                (some (r33, h34)))))))) N (0 : Int32) h20))))))))))))))))
set_option maxRecDepth 10000 in
set_option maxHeartbeats 1000000 in
theorem ok_X7_meets (l : Launch) (ω : WX) (N : Nat) {k0 : Nat} (hk0 : lay k0 = 7) (x1 : Int32) (x2 : Int32) (h : Mem) : MC rvI l ω yX7_meets cX7_meets 4 (some .int) 5 [.ref (ω.1 + k0), .int x1, .int x2] h (F_X7_meets N k0 x1 x2 h) := by
  refine MC.of (by decide +kernel) [(0, .ref (ω.1 + k0)), (1, .int x1), (2, .int x2)] rfl (Nat.le_of_ble_eq_true rfl) (fun χ K => ?_)
  have K : Kok ω χ "SaltCloudsModel" cX7_meets 4 (some .int) 5 := K
  unfold F_X7_meets
  refine J_aload_n (pc := 0) K dX7_meets_0 0 rfl 0 rfl ?_
  refine J_iload_n (pc := 1) K dX7_meets_1 1 rfl 1 rfl ?_
  refine J_callVI (As := [.int x1]) (rest := []) (pc := 2) K cs_SaltCloudsModel_83 (ok_X7_isCloud l ω hk0 x1 h) hk0 (by decide) rfl rfl (Nat.le_of_ble_eq_true rfl) dX7_meets_2 (fun r1 h2 => ?_)
  refine J_if_eq (pc := 5) K 21 dX7_meets_5 (by decide) ?_ ?_
  · refine J_aload_n (pc := 21) K dX7_meets_21 0 rfl 0 rfl ?_
    refine J_ldc (pc := 22) K kc_SaltCloudsModel_53 dX7_meets_22 ?_
    refine J_callVI (As := [.int (-1000000001 : Int32)]) (rest := []) (pc := 24) K cs_SaltCloudsModel_54 (ok_X7_errs l ω hk0 (-1000000001 : Int32) h2) hk0 (by decide) rfl rfl (Nat.le_of_ble_eq_true rfl) dX7_meets_24 (fun r3 h4 => ?_)
    exact J_iret (pc := 27) K dX7_meets_27
  · refine J_aload_n (pc := 8) K dX7_meets_8 0 rfl 0 rfl ?_
    refine J_iload_n (pc := 9) K dX7_meets_9 2 rfl 2 rfl ?_
    refine J_callVI (As := [.int x2]) (rest := []) (pc := 10) K cs_SaltCloudsModel_83 (ok_X7_isCloud l ω hk0 x2 h2) hk0 (by decide) rfl rfl (Nat.le_of_ble_eq_true rfl) dX7_meets_10 (fun r5 h6 => ?_)
    refine J_if_eq (pc := 13) K 21 dX7_meets_13 (by decide) ?_ ?_
    · refine J_aload_n (pc := 21) K dX7_meets_21 0 rfl 0 rfl ?_
      refine J_ldc (pc := 22) K kc_SaltCloudsModel_53 dX7_meets_22 ?_
      refine J_callVI (As := [.int (-1000000001 : Int32)]) (rest := []) (pc := 24) K cs_SaltCloudsModel_54 (ok_X7_errs l ω hk0 (-1000000001 : Int32) h6) hk0 (by decide) rfl rfl (Nat.le_of_ble_eq_true rfl) dX7_meets_24 (fun r7 h8 => ?_)
      exact J_iret (pc := 27) K dX7_meets_27
    · refine J_iload_n (pc := 16) K dX7_meets_16 1 rfl 1 rfl ?_
      refine J_iload_n (pc := 17) K dX7_meets_17 2 rfl 2 rfl ?_
      refine J_icmp_ne (pc := 18) K 28 dX7_meets_18 (by decide) ?_ ?_
      · refine J_aload_n (pc := 21) K dX7_meets_21 0 rfl 0 rfl ?_
        refine J_ldc (pc := 22) K kc_SaltCloudsModel_53 dX7_meets_22 ?_
        refine J_callVI (As := [.int (-1000000001 : Int32)]) (rest := []) (pc := 24) K cs_SaltCloudsModel_54 (ok_X7_errs l ω hk0 (-1000000001 : Int32) h6) hk0 (by decide) rfl rfl (Nat.le_of_ble_eq_true rfl) dX7_meets_24 (fun r9 h10 => ?_)
        exact J_iret (pc := 27) K dX7_meets_27
      · refine J_aload_n (pc := 28) K dX7_meets_28 0 rfl 0 rfl ?_
        refine J_iload_n (pc := 29) K dX7_meets_29 1 rfl 1 rfl ?_
        refine J_callVI (As := [.int x1]) (rest := []) (pc := 30) K cs_SaltCloudsModel_77 (ok_X7_isThere l ω hk0 x1 h6) hk0 (by decide) rfl rfl (Nat.le_of_ble_eq_true rfl) dX7_meets_30 (fun r11 h12 => ?_)
        refine J_if_eq (pc := 33) K 44 dX7_meets_33 (by decide) ?_ ?_
        · refine J_aload_n (pc := 44) K dX7_meets_44 0 rfl 0 rfl ?_
          refine J_ldc (pc := 45) K kc_SaltCloudsModel_103 dX7_meets_45 ?_
          refine J_callVI (As := [.int (-1000000003 : Int32)]) (rest := []) (pc := 47) K cs_SaltCloudsModel_54 (ok_X7_errs l ω hk0 (-1000000003 : Int32) h12) hk0 (by decide) rfl rfl (Nat.le_of_ble_eq_true rfl) dX7_meets_47 (fun r13 h14 => ?_)
          exact J_iret (pc := 50) K dX7_meets_50
        · refine J_aload_n (pc := 36) K dX7_meets_36 0 rfl 0 rfl ?_
          refine J_iload_n (pc := 37) K dX7_meets_37 2 rfl 2 rfl ?_
          refine J_callVI (As := [.int x2]) (rest := []) (pc := 38) K cs_SaltCloudsModel_77 (ok_X7_isThere l ω hk0 x2 h12) hk0 (by decide) rfl rfl (Nat.le_of_ble_eq_true rfl) dX7_meets_38 (fun r15 h16 => ?_)
          refine J_if_ne (pc := 41) K 51 dX7_meets_41 (by decide) ?_ ?_
          · refine J_aload_n (pc := 44) K dX7_meets_44 0 rfl 0 rfl ?_
            refine J_ldc (pc := 45) K kc_SaltCloudsModel_103 dX7_meets_45 ?_
            refine J_callVI (As := [.int (-1000000003 : Int32)]) (rest := []) (pc := 47) K cs_SaltCloudsModel_54 (ok_X7_errs l ω hk0 (-1000000003 : Int32) h16) hk0 (by decide) rfl rfl (Nat.le_of_ble_eq_true rfl) dX7_meets_47 (fun r17 h18 => ?_)
            exact J_iret (pc := 50) K dX7_meets_50
          · refine J_aload_n (pc := 51) K dX7_meets_51 0 rfl 0 rfl ?_
            refine J_aload_n (pc := 52) K dX7_meets_52 0 rfl 0 rfl ?_
            refine J_getR (pc := 53) K gf_SaltCloudsModel_7 hk0 1 rfl dX7_meets_53 ?_
            refine J_aload_n (pc := 56) K dX7_meets_56 0 rfl 0 rfl ?_
            refine J_getR (pc := 57) K gf_SaltCloudsModel_16 hk0 3 rfl dX7_meets_57 ?_
            refine J_callVU (As := [.ref (ω.1 + (k0 + 1)), .ref (ω.1 + (k0 + 3))]) (rest := []) (pc := 60) K cs_SaltCloudsModel_168 (ok_X7_moveAll l ω N hk0 (n1 := 262) (ty_7_1 hk0) (n2 := 262) (ty_7_3 hk0) h16) hk0 (by decide) rfl rfl (Nat.le_of_ble_eq_true rfl) dX7_meets_60 (fun _ h20 => ?_)
            refine J_iconst (pc := 63) K (0) dX7_meets_63 (by decide) ?_
            refine J_istore_n (pc := 64) K dX7_meets_64 3 rfl (by decide) [(3, .int (0 : Int32)), (0, .ref (ω.1 + k0)), (1, .int x1), (2, .int x2)] rfl ?_
            refine J_lv [1, 2, 3, 0] [(0, .ref (ω.1 + k0)), (1, .int x1), (2, .int x2), (3, .int (0 : Int32))] rfl ?_
            refine okL_X7_meets_65 K  (by decide) N hk0 (fun v29 h30 => ?_) _ _ _
            refine J_aload_n (pc := 101) K dX7_meets_101 0 rfl 0 rfl ?_
            refine J_aload_n (pc := 102) K dX7_meets_102 0 rfl 0 rfl ?_
            refine J_getR (pc := 103) K gf_SaltCloudsModel_16 hk0 3 rfl dX7_meets_103 ?_
            refine J_aload_n (pc := 106) K dX7_meets_106 0 rfl 0 rfl ?_
            refine J_getR (pc := 107) K gf_SaltCloudsModel_7 hk0 1 rfl dX7_meets_107 ?_
            refine J_callVU (As := [.ref (ω.1 + (k0 + 3)), .ref (ω.1 + (k0 + 1))]) (rest := []) (pc := 110) K cs_SaltCloudsModel_168 (ok_X7_moveAll l ω N hk0 (n1 := 262) (ty_7_3 hk0) (n2 := 262) (ty_7_1 hk0) h30) hk0 (by decide) rfl rfl (Nat.le_of_ble_eq_true rfl) dX7_meets_110 (fun _ h32 => ?_)
            refine J_iload_n (pc := 113) K dX7_meets_113 3 rfl 1 rfl ?_
            refine J_sipush (pc := 114) K (200) dX7_meets_114 (by decide) ?_
            refine J_icmp_le (pc := 117) K 129 dX7_meets_117 (by decide) ?_ ?_
            · refine J_iload_n (pc := 129) K dX7_meets_129 3 rfl 1 rfl ?_
              exact J_iret (pc := 130) K dX7_meets_130
            · refine J_aload_n (pc := 120) K dX7_meets_120 0 rfl 0 rfl ?_
              refine J_ldc (pc := 121) K kc_SaltCloudsModel_211 dX7_meets_121 ?_
              refine J_callVI (As := [.int (-1000000002 : Int32)]) (rest := []) (pc := 123) K cs_SaltCloudsModel_54 (ok_X7_errs l ω hk0 (-1000000002 : Int32) h32) hk0 (by decide) rfl rfl (Nat.le_of_ble_eq_true rfl) dX7_meets_123 (fun r33 h34 => ?_)
              refine J_goto (pc := 126) K 130 dX7_meets_126 (by decide) ?_
              exact J_iret (pc := 130) K dX7_meets_130
