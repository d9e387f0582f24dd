section P8
variable {c m S : Mem} {k N : Nat}
theorem fh_st {p : Mem → Bool} : ∀ n, n ≤ 201 → (∀ t, t < n → ¬ p (s_hrs S t) = true) → fh S p 0 201 = fh S p n (201 - n) := by
  intro n
  induction n with
  | zero => intro _ _; rfl
  | succ n ih =>
    intro hn h
    rw [ih (by omega) (fun t ht => h t (by omega)), show 201 - n = 201 - (n + 1) + 1 by omega, fh, if_neg (h n (by omega))]
def s_V (S : Mem) (i : Nat) : Nat := if S i 7 = 1 then fh S (nobP i) 0 201 else 201
theorem C_least {g T : Mem} {q M : Nat} (hN : 1000 ≤ N) (R : SkyR g q T) (hW : WS T) (hM : M ≤ 8) (e0 : T 8 0 = nI M) : ∃ v g', F_X2_leastNobodyThere N q g = some (v, g') ∧ FK q g g' ∧ ((v = -1 ∧ ∀ i, i < M → T i 7 = 1 → ¬ nobP i T = true) ∨ ∃ i, i < M ∧ v = nI i ∧ T i 7 = 1 ∧ nobP i T = true ∧ ∀ j, j < i → T j 7 = 1 → ¬ nobP j T = true) := by
  have key : ∀ (d n mc : Nat) (g1 : Mem), n + d = M → d < mc → FK q g g1 → (∀ j, j < n → T j 7 = 1 → ¬ nobP j T = true) → ∃ v g', F_X2_leastNobodyThere_2 N q (fun h4 => some (-1, h4)) mc (nI n) g1 = some (v, g') ∧ FK q g g' ∧ ((v = -1 ∧ ∀ i, i < M → T i 7 = 1 → ¬ nobP i T = true) ∨ ∃ i, i < M ∧ v = nI i ∧ T i 7 = 1 ∧ nobP i T = true ∧ ∀ j, j < i → T j 7 = 1 → ¬ nobP j T = true) := by
    intro d
    induction d with
    | zero =>
      intro n mc g1 hn hm F hA
      obtain ⟨mc, rfl⟩ : ∃ q, mc = q + 1 := ⟨mc - 1, by omega⟩
      have hnM : n = M := by omega
      subst hnM
      rw [F_X2_leastNobodyThere_2, C_made (R.fk F).1, e0, if_pos (nI_le (Nat.le_refl n) (by omega))]
      exact ⟨-1, g1, rfl, F, Or.inl ⟨rfl, hA⟩⟩
    | succ d ih =>
      intro n mc g1 hn hm F hA
      obtain ⟨mc, rfl⟩ : ∃ q, mc = q + 1 := ⟨mc - 1, by omega⟩
      have hC := hW.2.2.2.2.2 n (by omega)
      rw [F_X2_leastNobodyThere_2, C_made (R.fk F).1, e0, if_neg (nI_ge (by omega) (by omega)), gin_n _ (show n < 8 by omega) (by omega), ca_eq _ _ (by omega), C_7 (R.fk F).1 (by omega), nI_1]
      by_cases q7 : T n 7 = 1
      · rw [if_neg (by rw [q7]; decide)]
        obtain ⟨g2, a1, a2⟩ := C_isNobody hN (R.fk F) (show n < 8 by omega) hC
        rw [a1, bnd_s]
        by_cases q0 : s_nob T n = 0
        · rw [if_pos q0]
          exact ih (n + 1) mc g2 (by omega) (by omega) (F.tr a2) (fun j hj => by
            by_cases z : j = n
            · subst z; exact fun _ => nob_f q0
            · exact hA j (by omega))
        · rw [if_neg q0]
          exact ⟨nI n, g2, rfl, F.tr a2, Or.inr ⟨n, by omega, rfl, q7, nob_t q0, hA⟩⟩
      · rw [if_pos (by unfold WC at hC; grind)]
        exact ih (n + 1) mc g1 (by omega) (by omega) F (fun j hj => by
          by_cases z : j = n
          · subst z; exact fun z7 => absurd z7 q7
          · exact hA j (by omega))
  unfold F_X2_leastNobodyThere
  exact key M 0 N g (by omega) (by omega) FK.rf (fun _ h => by omega)
theorem C_first13 (hN : 1000 ≤ N) (hW : WS S) (hh : S 8 1 ≤ 10000) {M : Nat} (hM : M ≤ 8) (e0 : S 8 0 = nI M) : ∀ (d n mc : Nat) (g : Mem), n + d = 201 → d < mc → SkyR g 57 (s_hrs S n) → (∀ i, i < M → S i 7 = 1 → ∀ t, t < n → ¬ nobP i (s_hrs S t) = true) → ∃ g', FS 57 g g' ∧ (((∀ kt, F_X6_first_13 N 0 kt mc (nI n) g = kt g') ∧ ∀ i, i < M → s_V S i = 201) ∨ ∃ i, i < M ∧ (∀ kt, F_X6_first_13 N 0 kt mc (nI n) g = some (nI i, g')) ∧ s_V S i ≤ 200 ∧ (∀ j, j < M → s_V S i ≤ s_V S j) ∧ ∀ j, j < i → s_V S i < s_V S j) := by
  intro d
  induction d with
  | zero =>
    intro n mc g hn hm R hA
    obtain ⟨mc, rfl⟩ : ∃ q, mc = q + 1 := ⟨mc - 1, by omega⟩
    have hn8 : n = 201 := by omega
    subst hn8
    refine ⟨g, FS.rf, Or.inl ⟨fun kt => by rw [F_X6_first_13, if_pos (by decide)], fun i hi => ?_⟩⟩
    unfold s_V
    split
    · rename_i q7
      rw [fh_st 201 (by omega) (hA i hi q7)]
      rfl
    · rfl
  | succ d ih =>
    intro n mc g hn hm R hA
    obtain ⟨mc, rfl⟩ : ∃ q, mc = q + 1 := ⟨mc - 1, by omega⟩
    obtain ⟨w1, w2, w3⟩ := hW.hrs hh n (by omega)
    have w7 := hrs_7 hW hh n (by omega)
    have hle : ¬ (200 : Int32) < nI n := Int32.not_lt.mpr (nI_le (b := 200) (by omega) (by omega))
    obtain ⟨v, g1, a1, a2, a3⟩ := C_least hN R w1 hM (by rw [w3 8 0 (by omega) (by omega) (by omega)]; exact e0)
    rcases a3 with ⟨rfl, a3⟩ | ⟨i, hi, rfl, a7, a8, a9⟩
    · obtain ⟨g2, b1, b2, b3⟩ := C_hr1 hN hW hh (by omega) (R.fk a2)
      obtain ⟨g3, c1, c2⟩ := ih (n + 1) mc g2 (by omega) (by omega) b2 (fun i hi q7 t ht => by
        by_cases z : t = n
        · subst z; exact a3 i hi (by rw [w7 i (by omega)]; exact q7)
        · exact hA i hi q7 t (by omega))
      have e : ∀ kt, F_X6_first_13 N 0 kt (mc + 1) (nI n) g = F_X6_first_13 N 0 kt mc (nI (n + 1)) g2 := fun kt => by
        rw [F_X6_first_13, if_neg hle, show F_X2_leastNobodyThere N (0 + 57) g = _ from a1, bnd_s, if_pos (by decide), b1, bnd_s, nI_1]
      refine ⟨g3, a2.FS.tr (b3.tr c1), ?_⟩
      rcases c2 with ⟨c2, c3⟩ | ⟨i, hi, c2, c3⟩
      · exact Or.inl ⟨fun kt => (e kt).trans (c2 kt), c3⟩
      · exact Or.inr ⟨i, hi, fun kt => (e kt).trans (c2 kt), c3⟩
    · refine ⟨g1, a2.FS, Or.inr ⟨i, hi, fun kt => by rw [F_X6_first_13, if_neg hle, show F_X2_leastNobodyThere N (0 + 57) g = _ from a1, bnd_s, if_neg (nI_pos (by omega))], ?_⟩⟩
      have hV : ∀ j, j < M → S j 7 = 1 → s_V S j = fh S (nobP j) n (201 - n) := fun j hj q7 => by
        unfold s_V
        rw [if_pos q7, fh_st n (by omega) (hA j hj q7)]
      have hVi : s_V S i = n := by
        rw [hV i hi (by rw [← w7 i (by omega)]; exact a7), show 201 - n = d + 1 by omega, fh, if_pos a8]
      rw [hVi]
      refine ⟨by omega, fun j hj => ?_, fun j hj => ?_⟩
      · by_cases q7 : S j 7 = 1
        · rw [hV j hj q7]
          exact (fh_ge _ _).1
        · unfold s_V
          rw [if_neg q7]
          omega
      · by_cases q7 : S j 7 = 1
        · rw [hV j (by omega) q7, show 201 - n = d + 1 by omega, fh, if_neg (a9 j hj (by rw [w7 j (by omega)]; exact q7))]
          have := (fh_ge (S := S) (p := nobP j) d (n + 1)).1
          omega
        · unfold s_V
          rw [if_neg q7]
          omega
theorem M_first8 (hN : 1000 ≤ N) {hc : Mem} {q : Nat} (hT : SkyR hc q S) (hW : WS S) (hh : S 8 1 ≤ 10000) {M : Nat} (hM : M ≤ 8) (e0 : S 8 0 = nI M) : ∀ (d n mc : Nat) (g : Mem) (u1 u2 : Int32), n + d = M → d < mc → RowR (g 103) S → ((u1 = -1 ∧ u2 = nI 201 ∧ ∀ j, j < n → s_V S j = 201) ∨ ∃ i, i < n ∧ u1 = nI i ∧ u2 = nI (s_V S i) ∧ s_V S i ≤ 200 ∧ (∀ j, j < n → s_V S i ≤ s_V S j) ∧ ∀ j, j < i → s_V S i < s_V S j) → ∃ g' v, (∀ kt, F_X7_first_8 N 102 kt mc u1 u2 (nI n) g = kt v g') ∧ RowR (g' 103) S ∧ MF g g' ∧ ((v = -1 ∧ ∀ j, j < M → s_V S j = 201) ∨ ∃ i, i < M ∧ v = nI i ∧ s_V S i ≤ 200 ∧ (∀ j, j < M → s_V S i ≤ s_V S j) ∧ ∀ j, j < i → s_V S i < s_V S j) := by
  have hVle : ∀ i, s_V S i ≤ 201 := fun i => by
    unfold s_V
    split
    · exact (fh_ge 201 0).2
    · omega
  intro d
  induction d with
  | zero =>
    intro n mc g u1 u2 hn hm R hA
    obtain ⟨mc, rfl⟩ : ∃ q, mc = q + 1 := ⟨mc - 1, by omega⟩
    have hnM : n = M := by omega
    subst hnM
    refine ⟨g, u1, fun kt => ?_, R, MF.rf, ?_⟩
    · rw [F_X7_first_8, gin_d _ (by decide), ro_0 R, e0, if_pos (nI_le (Nat.le_refl n) (by omega))]
    · rcases hA with ⟨h1, _, h2⟩ | ⟨i, hi, h1, _, h2⟩
      · exact Or.inl ⟨h1, h2⟩
      · exact Or.inr ⟨i, hi, h1, h2⟩
  | succ d ih =>
    intro n mc g u1 u2 hn hm R hA
    obtain ⟨mc, rfl⟩ : ∃ q, mc = q + 1 := ⟨mc - 1, by omega⟩
    obtain ⟨g1, a1, a2, a3⟩ : ∃ g1, (∀ kt, F_X7_first_8 N 102 kt (mc + 1) u1 u2 (nI n) g = if u2 ≤ nI (s_V S n) then F_X7_first_8 N 102 kt mc u1 u2 (nI (n + 1)) g1 else F_X7_first_8 N 102 kt mc (nI n) (nI (s_V S n)) (nI (n + 1)) g1) ∧ RowR (g1 103) S ∧ MF g g1 := by
      by_cases q7 : S n 7 = 1
      · obtain ⟨g1, b1, b2, b3⟩ := M_nobodyAt hN hT hW hh (show n < 8 by omega) R
        refine ⟨g1, fun kt => ?_, b2, b3⟩
        have hv : fh S (nobP n) 0 201 = s_V S n := by
          unfold s_V
          rw [if_pos q7]
        rw [F_X7_first_8, gin_d _ (by decide), ro_0 R, e0, if_neg (nI_ge (by omega) (by omega)), M_isThere R (by omega), bnd_s, jn_e, if_pos q7, if_neg (by decide), b1, bnd_s, hv]
        by_cases z : u2 ≤ nI (s_V S n)
        · simp only [jn_e, if_pos z, nI_1]
        · simp only [jn_e, if_neg z, nI_1]
      · refine ⟨g, fun kt => ?_, R, MF.rf⟩
        have hv : (201 : Int32) = nI (s_V S n) := by
          unfold s_V
          rw [if_neg q7]
          rfl
        rw [F_X7_first_8, gin_d _ (by decide), ro_0 R, e0, if_neg (nI_ge (by omega) (by omega)), M_isThere R (by omega), bnd_s, jn_e, if_neg q7, if_pos rfl, hv]
        by_cases z : u2 ≤ nI (s_V S n)
        · simp only [jn_e, if_pos z, nI_1]
        · simp only [jn_e, if_neg z, nI_1]
    have hVn := hVle n
    by_cases z : u2 ≤ nI (s_V S n)
    · obtain ⟨g2, v, c1, c2, c3, c4⟩ := ih (n + 1) mc g1 u1 u2 (by omega) (by omega) a2 (by
        rcases hA with ⟨h1, h2, h3⟩ | ⟨i, hi, h1, h2, h3, h4, h5⟩
        · refine Or.inl ⟨h1, h2, fun j hj => ?_⟩
          by_cases y : j = n
          · subst y
            rw [h2] at z
            have : ¬ s_V S j < 201 := fun y2 => nI_ge y2 (by omega) z
            omega
          · exact h3 j (by omega)
        · refine Or.inr ⟨i, by omega, h1, h2, h3, fun j hj => ?_, h5⟩
          by_cases y : j = n
          · subst y
            rw [h2] at z
            have : ¬ s_V S j < s_V S i := fun y2 => nI_ge y2 (by omega) z
            omega
          · exact h4 j (by omega))
      exact ⟨g2, v, fun kt => by rw [a1, if_pos z, c1], c2, a3.tr c3, c4⟩
    · obtain ⟨g2, v, c1, c2, c3, c4⟩ := ih (n + 1) mc g1 (nI n) (nI (s_V S n)) (by omega) (by omega) a2 (by
        have hlt : ∀ j, j < n → s_V S n < s_V S j := fun j hj => by
          rcases hA with ⟨h1, h2, h3⟩ | ⟨i, hi, h1, h2, h3, h4, h5⟩
          · rw [h3 j hj]
            rw [h2] at z
            exact Nat.lt_of_not_le (fun y => z (nI_le y (by omega)))
          · have h6 := h4 j hj
            rw [h2] at z
            have : s_V S n < s_V S i := Nat.lt_of_not_le (fun y => z (nI_le y (by omega)))
            omega
        refine Or.inr ⟨n, by omega, rfl, rfl, ?_, fun j hj => ?_, hlt⟩
        · rcases hA with ⟨h1, h2, h3⟩ | ⟨i, hi, h1, h2, h3, h4, h5⟩
          · rw [h2] at z
            have : s_V S n < 201 := Nat.lt_of_not_le (fun y => z (nI_le y (by omega)))
            omega
          · have := hlt i hi
            omega
        · by_cases y : j = n
          · subst y; omega
          · have := hlt j (by omega)
            omega)
      exact ⟨g2, v, fun kt => by rw [a1, if_neg z, c1], c2, a3.tr c3, c4⟩
theorem P_first (hN : 1000 ≤ N) (H : RR c m k) : PR (F_X6_first N 0 c) (F_X7_first N 102 m) c m k := by
  obtain ⟨⟨S, s⟩, O⟩ := H
  unfold F_X6_first F_X7_first
  obtain ⟨M, hM, e0, ex0⟩ := made_of s.2.2.1
  obtain ⟨c1, a1, a2, a2', a3⟩ := C_there hN s.1 s.2.2.1
  obtain ⟨c2, b1, b2⟩ := C_first13 hN s.2.2.1 s.2.2.2.1 hM e0 201 0 N c1 (by omega) (by omega) a2 (fun _ _ _ t ht => by omega)
  obtain ⟨m2, v, e1, e2, e3, e4⟩ := M_first8 hN s.1 s.2.2.1 s.2.2.2.1 hM e0 M 0 N m (-1) (nI 201) (by omega) (by omega) s.2.1 (Or.inl ⟨rfl, rfl, fun _ h => by omega⟩)
  have e1' : ∀ kt, F_X7_first_8 N 102 kt N (-1) 201 0 m = _ := e1
  have s2 : RS c2 m2 S := ⟨a2'.off57 b1, e2, s.2.2⟩
  rw [a1, bnd_s, e1']
  rcases b2 with ⟨b2, b3⟩ | ⟨i, hi, b2, b3, b4, b5⟩
  · have b2' : ∀ kt, F_X6_first_13 N 0 kt N 0 c1 = _ := b2
    rcases e4 with ⟨rfl, _⟩ | ⟨j, hj, rfl, f1, f2, f3⟩
    · rw [b2', if_neg (by decide)]
      simp only [bnd_id]
      exact PR.er O (Or.inr (Or.inl rfl)) s2 ((CF.of57 a3).tr (CF.of57 b1)) e3 rfl rfl
    · have := b3 j hj
      omega
  · have b2' : ∀ kt, F_X6_first_13 N 0 kt N 0 c1 = _ := b2
    rcases e4 with ⟨rfl, f0⟩ | ⟨j, hj, rfl, f1, f2, f3⟩
    · have := f0 i hi
      omega
    · have hij : i = j := by
        have h1 := b4 j hj
        have h2 := f2 i hi
        rcases Nat.lt_trichotomy i j with z | z | z
        · have := f3 i z
          omega
        · exact z
        · have := b5 j z
          omega
      subst hij
      rw [b2', if_pos (nI_pos' (by omega))]
      exact PR.ok O rfl rfl s2 ((CF.of57 a3).tr (CF.of57 b1)) e3
end P8
