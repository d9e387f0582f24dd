/-! LEVEL 2: the law, call by call -/
section LW
variable {L : Nat} {xs : Nat → Int32}
theorem PR.go {A : Mem → Option (Int32 × Mem)} {B : Mem → Option (Int32 × Mem)} {h : Mem} {k n : Nat} {u : Int32} (H : RR h h k) (P : ∀ c m, RR c m k → PR (A c) (B m) c m k) (K : ∀ h2, RR h2 h2 (k + 1) → ∃ h', F_L_law 4000 L xs 0 102 n u h2 = some ((), h')) : ∃ h', bnd (A h) (fun r h1 => bnd (B h1) (fun r2 h2 => if r = r2 then F_L_law 4000 L xs 0 102 n u h2 else none)) = some ((), h') := by
  obtain ⟨r, h1, h2, a, b, R⟩ := PR.one H P
  obtain ⟨h', e⟩ := K h2 R
  refine ⟨h', ?_⟩
  rw [a, bnd_s, b, bnd_s, if_pos rfl]
  exact e
theorem law_lt {L i : Nat} (hL : L ≤ 3072) (hi : i ≤ 600) : (L < 6 * i + 6 → (nI L) - (6 : Int32) < nI (6 * i)) ∧ (¬ L < 6 * i + 6 → ¬ (nI L) - (6 : Int32) < nI (6 * i)) := by
  have e1 : ((nI L) - (6 : Int32)).toInt = (L : Int) - 6 := pk_sub_toInt (a := L) (b := 6) (by omega) (by omega)
  have e2 : (nI (6 * i)).toInt = ((6 * i : Nat) : Int) := nI_toInt (by omega)
  rw [Int32.lt_iff_toInt_lt, e1, e2]
  omega
theorem law_go (hL : L ≤ 3072) : ∀ (dd i n : Nat) (h : Mem), L < 6 * i + 6 * dd + 6 → 6 * i ≤ L + 6 → dd < n → RR h h i → ∃ h', F_L_law 4000 L xs 0 102 n (nI (6 * i)) h = some ((), h') := by
  intro dd
  induction dd with
  | zero =>
    intro i n h h1 h2 h3 H
    obtain ⟨n, rfl⟩ : ∃ q, n = q + 1 := ⟨n - 1, by omega⟩
    exact ⟨h, by rw [F_L_law, if_pos ((law_lt hL (by omega)).1 (by omega))]⟩
  | succ dd ih =>
    intro i n h h1 h2 h3 H
    obtain ⟨n, rfl⟩ : ∃ q, n = q + 1 := ⟨n - 1, by omega⟩
    by_cases z : L < 6 * i + 6
    · exact ⟨h, by rw [F_L_law, if_pos ((law_lt hL (by omega)).1 z)]⟩
    have K : ∀ h2, RR h2 h2 (i + 1) → ∃ h', F_L_law 4000 L xs 0 102 n (nI (6 * i + 6)) h2 = some ((), h') := fun h2 R => by
      have e := ih (i + 1) n h2 (by omega) (by omega) (by omega) R
      rw [show 6 * (i + 1) = 6 * i + 6 by omega] at e
      exact e
    have a1 : nI (6 * i) + 1 = nI (6 * i + 1) := nI_1 _
    have a2 : nI (6 * i) + 2 = nI (6 * i + 2) := nI_add _ 2
    have a3 : nI (6 * i) + 3 = nI (6 * i + 3) := nI_add _ 3
    have a4 : nI (6 * i) + 4 = nI (6 * i + 4) := nI_add _ 4
    have a5 : nI (6 * i) + 5 = nI (6 * i + 5) := nI_add _ 5
    have a6 : nI (6 * i) + 6 = nI (6 * i + 6) := nI_add _ 6
    have g1 : ∀ o : Option (Unit × Mem), gin (nI (6 * i + 1)) L o = o := fun o => gin_n o (by omega) (by omega)
    have g2 : ∀ o : Option (Unit × Mem), gin (nI (6 * i + 2)) L o = o := fun o => gin_n o (by omega) (by omega)
    have g3 : ∀ o : Option (Unit × Mem), gin (nI (6 * i + 3)) L o = o := fun o => gin_n o (by omega) (by omega)
    have g4 : ∀ o : Option (Unit × Mem), gin (nI (6 * i + 4)) L o = o := fun o => gin_n o (by omega) (by omega)
    have g5 : ∀ o : Option (Unit × Mem), gin (nI (6 * i + 5)) L o = o := fun o => gin_n o (by omega) (by omega)
    have hk : i < 2000 := by omega
    have h4 : 1000 ≤ 4000 := by omega
    rw [F_L_law, if_neg ((law_lt hL (by omega)).2 z), gin_n _ (by omega) (by omega), sq_i]
    generalize xs (ix (nI (6 * i))) &&& (63 : Int32) = v1
    by_cases q0 : v1 = 0
    · rw [if_pos q0]
      simp only [sq_i, a1, a2, a3, a4, a5, a6, g1, g2, g3, g4, g5]
      exact PR.go H (fun c m R => P_cloud h4 R _ _ _) K
    rw [if_neg q0]
    by_cases q1 : v1 = 1
    · rw [if_pos q1]
      simp only [sq_i, a1, a2, a3, a4, a5, a6, g1, g2, g3, g4, g5]
      exact PR.go H (fun c m R => P_ofCloud h4 R _ _) K
    rw [if_neg q1]
    by_cases q2 : v1 = 2
    · rw [if_pos q2]
      simp only [sq_i, a1, a2, a3, a4, a5, a6, g1, g2, g3, g4, g5]
      exact PR.go H (fun c m R => P_become R _ _) K
    rw [if_neg q2]
    by_cases q3 : v1 = 3
    · rw [if_pos q3]
      simp only [sq_i, a1, a2, a3, a4, a5, a6, g1, g2, g3, g4, g5]
      exact PR.go H (fun c m R => P_as h4 R _ _) K
    rw [if_neg q3]
    by_cases q4 : v1 = 4
    · rw [if_pos q4]
      simp only [sq_i, a1, a2, a3, a4, a5, a6, g1, g2, g3, g4, g5]
      exact PR.go H (fun c m R => P_set R _ _ _) K
    rw [if_neg q4]
    by_cases q5 : v1 = 5
    · rw [if_pos q5]
      simp only [sq_i, a1, a2, a3, a4, a5, a6, g1, g2, g3, g4, g5]
      exact PR.go H (fun c m R => P_hill R _ _) K
    rw [if_neg q5]
    by_cases q6 : v1 = 6
    · rw [if_pos q6]
      simp only [sq_i, a1, a2, a3, a4, a5, a6, g1, g2, g3, g4, g5]
      exact PR.go H (fun c m R => P_wind R _ _) K
    rw [if_neg q6]
    by_cases q7 : v1 = 7
    · rw [if_pos q7]
      simp only [sq_i, a1, a2, a3, a4, a5, a6, g1, g2, g3, g4, g5]
      exact PR.go H (fun c m R => P_join h4 R _ _) K
    rw [if_neg q7]
    by_cases q8 : v1 = 8
    · rw [if_pos q8]
      simp only [sq_i, a1, a2, a3, a4, a5, a6, g1, g2, g3, g4, g5]
      exact PR.go H (fun c m R => P_part h4 R _ _) K
    rw [if_neg q8]
    by_cases q9 : v1 = 9
    · rw [if_pos q9]
      simp only [sq_i, a1, a2, a3, a4, a5, a6, g1, g2, g3, g4, g5]
      exact PR.go H (fun c m R => P_feed h4 R _ _) K
    rw [if_neg q9]
    by_cases q10 : v1 = 10
    · rw [if_pos q10]
      simp only [sq_i, a1, a2, a3, a4, a5, a6, g1, g2, g3, g4, g5]
      exact PR.go H (fun c m R => P_text h4 R _) K
    rw [if_neg q10]
    by_cases q11 : v1 = 11
    · rw [if_pos q11]
      simp only [sq_i, a1, a2, a3, a4, a5, a6, g1, g2, g3, g4, g5]
      exact PR.go H (fun c m R => P_law h4 R _ _ _ _) K
    rw [if_neg q11]
    by_cases q12 : v1 = 12
    · rw [if_pos q12]
      simp only [sq_i, a1, a2, a3, a4, a5, a6, g1, g2, g3, g4, g5]
      exact PR.go H (fun c m R => P_hours h4 R _) K
    rw [if_neg q12]
    by_cases q13 : v1 = 13
    · rw [if_pos q13]
      simp only [sq_i, a1, a2, a3, a4, a5, a6, g1, g2, g3, g4, g5]
      exact PR.go H (fun c m R => P_loose h4 R _) K
    rw [if_neg q13]
    by_cases q14 : v1 = 14
    · rw [if_pos q14]
      simp only [sq_i, a1, a2, a3, a4, a5, a6, g1, g2, g3, g4, g5]
      exact PR.go H (fun c m R => P_then h4 R _ _ _) K
    rw [if_neg q14]
    by_cases q15 : v1 = 15
    · rw [if_pos q15]
      simp only [sq_i, a1, a2, a3, a4, a5, a6, g1, g2, g3, g4, g5]
      exact PR.go H (fun c m R => P_pay h4 R) K
    rw [if_neg q15]
    by_cases q16 : v1 = 16
    · rw [if_pos q16]
      simp only [sq_i, a1, a2, a3, a4, a5, a6, g1, g2, g3, g4, g5]
      exact PR.go H (fun c m R => P_nobodyBy h4 R _) K
    rw [if_neg q16]
    by_cases q17 : v1 = 17
    · rw [if_pos q17]
      simp only [sq_i, a1, a2, a3, a4, a5, a6, g1, g2, g3, g4, g5]
      exact PR.go H (fun c m R => P_first h4 R) K
    rw [if_neg q17]
    by_cases q18 : v1 = 18
    · rw [if_pos q18]
      simp only [sq_i, a1, a2, a3, a4, a5, a6, g1, g2, g3, g4, g5]
      exact PR.go H (fun c m R => P_comes h4 R _ _) K
    rw [if_neg q18]
    by_cases q19 : v1 = 19
    · rw [if_pos q19]
      simp only [sq_i, a1, a2, a3, a4, a5, a6, g1, g2, g3, g4, g5]
      exact PR.go H (fun c m R => P_stays h4 R _) K
    rw [if_neg q19]
    by_cases q20 : v1 = 20
    · rw [if_pos q20]
      simp only [sq_i, a1, a2, a3, a4, a5, a6, g1, g2, g3, g4, g5]
      exact PR.go H (fun c m R => P_meets h4 R _ _) K
    rw [if_neg q20]
    by_cases q21 : v1 = 21
    · rw [if_pos q21]
      simp only [sq_i, a1, a2, a3, a4, a5, a6, g1, g2, g3, g4, g5]
      exact PR.go H (fun c m R => P_storm h4 R _ _) K
    rw [if_neg q21]
    by_cases q22 : v1 = 22
    · rw [if_pos q22]
      simp only [sq_i, a1, a2, a3, a4, a5, a6, g1, g2, g3, g4, g5]
      exact PR.go H (fun c m R => P_paid h4 R) K
    rw [if_neg q22]
    by_cases q23 : v1 = 23
    · rw [if_pos q23]
      simp only [sq_i, a1, a2, a3, a4, a5, a6, g1, g2, g3, g4, g5]
      exact PR.go H (fun c m R => P_sun h4 R _ _ _) K
    rw [if_neg q23]
    by_cases q24 : v1 = 24
    · rw [if_pos q24]
      simp only [sq_i, a1, a2, a3, a4, a5, a6, g1, g2, g3, g4, g5]
      exact PR.go H (fun c m R => P_winds h4 R _ _ _) K
    rw [if_neg q24]
    by_cases q25 : v1 = 25
    · rw [if_pos q25]
      simp only [sq_i, a1, a2, a3, a4, a5, a6, g1, g2, g3, g4, g5]
      exact PR.go H (fun c m R => P_seed R _) K
    rw [if_neg q25]
    by_cases q26 : v1 = 26
    · rw [if_pos q26]
      simp only [sq_i, a1, a2, a3, a4, a5, a6, g1, g2, g3, g4, g5]
      exact PR.go H (fun c m R => P_voice h4 R _ _ _) K
    rw [if_neg q26]
    by_cases q27 : v1 = 27
    · rw [if_pos q27]
      simp only [sq_i, a1, a2, a3, a4, a5, a6, g1, g2, g3, g4, g5]
      exact PR.go H (fun c m R => P_trace R _) K
    rw [if_neg q27]
    by_cases q28 : v1 = 28
    · rw [if_pos q28]
      simp only [sq_i, a1, a2, a3, a4, a5, a6, g1, g2, g3, g4, g5]
      exact PR.go H (fun c m R => P_sheet h4 R _ _ _) K
    rw [if_neg q28]
    by_cases q29 : v1 = 29
    · rw [if_pos q29]
      simp only [sq_i, a1, a2, a3, a4, a5, a6, g1, g2, g3, g4, g5]
      exact PR.go H (fun c m R => P_put R _ _ _) K
    rw [if_neg q29]
    by_cases q30 : v1 = 30
    · rw [if_pos q30]
      simp only [sq_i, a1, a2, a3, a4, a5, a6, g1, g2, g3, g4, g5]
      exact PR.go H (fun c m R => P_move h4 R _ _ _ _ _) K
    rw [if_neg q30]
    by_cases q31 : v1 = 31
    · rw [if_pos q31]
      simp only [sq_i, a1, a2, a3, a4, a5, a6, g1, g2, g3, g4, g5]
      exact PR.go H (fun c m R => P_hills h4 R _) K
    rw [if_neg q31]
    by_cases q32 : v1 = 32
    · rw [if_pos q32]
      simp only [sq_i, a1, a2, a3, a4, a5, a6, g1, g2, g3, g4, g5]
      exact PR.go H (fun c m R => P_judge h4 R _) K
    rw [if_neg q32]
    by_cases q33 : v1 = 33
    · rw [if_pos q33]
      simp only [sq_i, a1, a2, a3, a4, a5, a6, g1, g2, g3, g4, g5]
      exact PR.go H (fun c m R => P_image h4 hk R) K
    rw [if_neg q33]
    by_cases q34 : v1 = 34
    · rw [if_pos q34]
      simp only [sq_i, a1, a2, a3, a4, a5, a6, g1, g2, g3, g4, g5]
      exact PR.go H (fun c m R => P_restore h4 hk R) K
    rw [if_neg q34]
    by_cases q35 : v1 = 35
    · rw [if_pos q35]
      simp only [sq_i, a1, a2, a3, a4, a5, a6, g1, g2, g3, g4, g5]
      exact PR.go H (fun c m R => P_tell R _) K
    rw [if_neg q35]
    by_cases q36 : v1 = 36
    · rw [if_pos q36]
      simp only [sq_i, a1, a2, a3, a4, a5, a6, g1, g2, g3, g4, g5]
      exact PR.go H (fun c m R => P_check h4 R) K
    rw [if_neg q36]
    by_cases q37 : v1 = 37
    · rw [if_pos q37]
      simp only [sq_i, a1, a2, a3, a4, a5, a6, g1, g2, g3, g4, g5]
      exact PR.go H (fun c m R => P_count h4 R _) K
    rw [if_neg q37]
    by_cases q38 : v1 = 38
    · rw [if_pos q38]
      simp only [sq_i, a1, a2, a3, a4, a5, a6, g1, g2, g3, g4, g5]
      exact PR.go H (fun c m R => P_told R _) K
    rw [if_neg q38]
    rw [a6]
    exact K h H.up
end LW
/-- LEVEL 2 -/
theorem l2_law (L : Nat) (hL : L ≤ 3072) (xs : Nat → Int32) : ∃ h' : Mem, F_L_law 4000 L xs 0 102 4000 0 h0 = some ((), h') := law_go hL 600 0 4000 h0 (by omega) (by omega) (by omega) rr_0
