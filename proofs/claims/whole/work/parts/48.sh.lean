section SHS
variable {c m S : Mem} {k N : Nat}
theorem PR.sh {A B : Option (Int32 × Mem)} {c m c' m' S' : Mem} {k : Nat} {r : Int32} (O : RO c m k) (a : A = some (r, c')) (b : B = some (r, m')) (s : RS c m S') (hc : ∀ q, ¬ (94 ≤ q ∧ q < 102) → c' q = c q) (hm : ∀ q, ¬ (108 ≤ q ∧ q < 112) → m' q = m q) (h : SH c' m') : PR A B c m k := by
  refine ⟨r, c', m', a, b, ⟨⟨S', s.1.cg (fun q h1 h2 => hc q (by omega)), by rw [hm 103 (by omega)]; exact s.2.1, s.2.2⟩, ?_, ?_, h, ?_⟩, fun q hq => hc q (by omega), fun q hq => hm q (by omega)⟩
  · obtain ⟨⟨K, n, hn, k1, k2, k3, k4⟩, _⟩ := O
    refine ⟨K, n, by omega, by rw [hc 0 (by omega)]; exact k1, by rw [hm 102 (by omega)]; exact k2, by rw [hm 102 (by omega)]; exact k3, fun q => ?_⟩
    obtain ⟨q1, q2, q3⟩ := k4 q
    exact ⟨q1.cg (fun q h1 h2 => hc q (by omega)), by rw [hm 104 (by omega)]; exact q2, q3⟩
  · intro j hj
    rw [hc 93 (by omega), hm 107 (by omega)]
    exact O.2.1 j hj
  · obtain ⟨n2, hn2, t1, t2, t3⟩ := O.2.2.2
    exact ⟨n2, hn2, by rw [hc 91 (by omega)]; exact t1, by rw [hm 102 (by omega)]; exact t2, fun j hj => by rw [hc 92 (by omega), hm 112 (by omega)]; exact t3 j hj⟩
/-- a sheet's cell -/
theorem cs_eq (s : Nat) (hs : s < 2 ^ 31) : (0 + 85) + 9 + 2 * ix (nI s) = 94 + 2 * s := by rw [ix_n hs]
theorem C_zero {x : Nat} (N : Nat) : ∀ (d n mc : Nat) (g : Mem), n + d = 40 → d < mc → ∃ g', (∀ kt, F_X1_lay_12 N x kt mc (nI n) g = kt g') ∧ (∀ j, n ≤ j → j < 40 → g' (x + 1) j = 0) ∧ (∀ j, j < n → g' (x + 1) j = g (x + 1) j) ∧ ∀ q, q ≠ x + 1 → g' q = g q := by
  intro d
  induction d with
  | zero =>
    intro n mc g hn hm
    obtain ⟨mc, rfl⟩ : ∃ q, mc = q + 1 := ⟨mc - 1, by omega⟩
    have hn8 : n = 40 := by omega
    subst hn8
    exact ⟨g, fun kt => by rw [F_X1_lay_12, if_pos (by decide)], fun j h1 h2 => by omega, fun _ _ => rfl, fun _ _ => rfl⟩
  | succ d ih =>
    intro n mc g hn hm
    obtain ⟨mc, rfl⟩ : ∃ q, mc = q + 1 := ⟨mc - 1, by omega⟩
    obtain ⟨g', a1, a2, a3, a4⟩ := ih (n + 1) mc (upm g (x + 1) n 0) (by omega) (by omega)
    refine ⟨g', fun kt => ?_, fun j h1 h2 => ?_, fun j hj => ?_, fun q hq => ?_⟩
    · rw [F_X1_lay_12, if_neg (nI_ge (by omega) (by omega)), gin_n _ (by omega) (by omega), sq_h, ix_n (by omega), nI_1, a1]
    · by_cases z : j = n
      · subst z
        rw [a3 j (by omega)]
        simp [upm]
      · exact a2 j (by omega) h2
    · rw [a3 j (by omega)]
      simp [upm, show j ≠ n by omega]
    · rw [a4 q hq, upm_off q hq]
theorem e_sh (s n : Nat) : ((40 : Int32) * nI s) + nI n = nI (40 * s + n) := by
  rw [show (40 : Int32) = nI 40 from rfl, pk_mul, nI_add]
theorem M_zero {s : Nat} (hs : s < 4) (N : Nat) : ∀ (d n mc : Nat) (g : Mem), n + d = 40 → d < mc → ∃ g', (∀ kt, F_X7_sheet_93 N 102 (nI s) kt mc (nI n) g = kt g') ∧ (∀ j, n ≤ j → j < 40 → g' 110 (40 * s + j) = 0) ∧ (∀ j, ¬ (40 * s + n ≤ j ∧ j < 40 * s + 40) → g' 110 j = g 110 j) ∧ ∀ q, q ≠ 110 → g' q = g q := by
  intro d
  induction d with
  | zero =>
    intro n mc g hn hm
    obtain ⟨mc, rfl⟩ : ∃ q, mc = q + 1 := ⟨mc - 1, by omega⟩
    have hn8 : n = 40 := by omega
    subst hn8
    exact ⟨g, fun kt => by rw [F_X7_sheet_93, if_pos (by decide)], fun j h1 h2 => by omega, fun _ _ => rfl, fun _ _ => rfl⟩
  | succ d ih =>
    intro n mc g hn hm
    obtain ⟨mc, rfl⟩ : ∃ q, mc = q + 1 := ⟨mc - 1, by omega⟩
    obtain ⟨g', a1, a2, a3, a4⟩ := ih (n + 1) mc (upm g 110 (40 * s + n) 0) (by omega) (by omega)
    refine ⟨g', fun kt => ?_, fun j h1 h2 => ?_, fun j hj => ?_, fun q hq => ?_⟩
    · rw [F_X7_sheet_93, if_neg (show ¬ (40 : Int32) ≤ nI n from nI_ge (b := 40) (by omega) (by omega)), e_sh, gin_n _ (by omega) (by omega), sq_h, ix_n (by omega), nI_1, a1]
    · by_cases z : j = n
      · subst z
        rw [a3 _ (by omega)]
        simp [upm]
      · exact a2 j (by omega) h2
    · rw [a3 j (by omega)]
      simp only [upm]
      rw [if_neg (by omega)]
    · rw [a4 q hq, upm_off q hq]
theorem SH.nw {c m c' m' : Mem} {s : Nat} (hs : s < 4) (h : SH c m) (hc : ∀ q, q ≠ 94 + 2 * s → q ≠ 95 + 2 * s → c' q = c q) (hb : ∀ t, t ≠ s → m' 108 t = m 108 t ∧ m' 109 t = m 109 t) (hr : ∀ j, ¬ (40 * s ≤ j ∧ j < 40 * s + 40) → m' 110 j = m 110 j) (hn : c' (94 + 2 * s) 0 = m' 108 s ∧ c' (94 + 2 * s) 1 = m' 109 s ∧ (m' 108 s = 0 ∨ m' 108 s = 8 ∨ m' 108 s = 16 ∨ m' 108 s = 32) ∧ 0 ≤ m' 109 s ∧ m' 109 s ≤ 40 ∧ ∀ j, j < 40 → c' (95 + 2 * s) j = m' 110 (40 * s + j)) : SH c' m' := by
  intro t ht
  by_cases z : t = s
  · subst z; exact hn
  · obtain ⟨h1, h2, h3, h4, h5, h6⟩ := h t ht
    rw [hc (94 + 2 * t) (by omega) (by omega), hc (95 + 2 * t) (by omega) (by omega), (hb t z).1, (hb t z).2]
    exact ⟨h1, h2, h3, h4, h5, fun j hj => by rw [hr _ (by omega)]; exact h6 j hj⟩
theorem P_sheet (hN : 1000 ≤ N) (H : RR c m k) (x1 x2 x3 : Int32) : PR (F_X6_sheet N 0 x1 x2 x3 c) (F_X7_sheet N 102 x1 x2 x3 m) c m k := by
  obtain ⟨⟨S, s⟩, O⟩ := H
  unfold F_X6_sheet F_X7_sheet
  -- what both do when all is well
  have good : ∀ (j : Nat) (b z : Int32), j < 4 → (b = 0 ∨ b = 8 ∨ b = 16 ∨ b = 32) → 0 ≤ z → z ≤ 40 → ∃ c' m', F_X1_lay N (94 + 2 * j) b z c = some ((), c') ∧ (∀ kt, F_X7_sheet_93 N 102 (nI j) kt N 0 (upm (upm m 108 j b) 109 j z) = kt m') ∧ (∀ q, ¬ (94 ≤ q ∧ q < 102) → c' q = c q) ∧ (∀ q, ¬ (108 ≤ q ∧ q < 112) → m' q = m q) ∧ SH c' m' := by
    intro j b z hj hb hz1 hz2
    obtain ⟨g, a1, a2, a3, a4⟩ := C_zero (x := 94 + 2 * j) N 40 0 N (upm (upm c (94 + 2 * j) 0 b) (94 + 2 * j) 1 z) (by omega) (by omega)
    obtain ⟨h, b1, b2, b3, b4⟩ := M_zero hj N 40 0 N (upm (upm m 108 j b) 109 j z) (by omega) (by omega)
    have a1' : ∀ kt, F_X1_lay_12 N (94 + 2 * j) kt N 0 _ = _ := a1
    refine ⟨g, h, ?_, b1, fun q hq => ?_, fun q hq => ?_, ?_⟩
    · unfold F_X1_lay
      rw [sq_h, sq_h, a1']
    · rw [a4 q (by omega), upm_off q (by omega), upm_off q (by omega)]
    · rw [b4 q (by omega), upm_off q (by omega), upm_off q (by omega)]
    · refine O.2.2.1.nw hj (fun q q1 q2 => ?_) (fun t ht => ?_) (fun i hi => ?_) ⟨?_, ?_, ?_, ?_, ?_, fun i hi => ?_⟩
      · rw [a4 q (by omega), upm_off q (by omega), upm_off q (by omega)]
      · rw [b4 108 (by omega), b4 109 (by omega)]
        simp [upm, ht]
      · rw [b3 i (by omega), upm_off 110 (by omega), upm_off 110 (by omega)]
      · rw [a4 _ (by omega), b4 108 (by omega)]
        simp [upm]
      · rw [a4 _ (by omega), b4 109 (by omega)]
        simp [upm]
      · rw [b4 108 (by omega)]
        simp [upm]
        exact hb
      · rw [b4 109 (by omega)]
        simpa [upm] using hz1
      · rw [b4 109 (by omega)]
        simpa [upm] using hz2
      · rw [b2 i (by omega) hi, show 95 + 2 * j = 94 + 2 * j + 1 by omega]
        exact a2 i (by omega) hi
  rcases sh_cs x1 with ⟨⟨j, hj, rfl⟩, e1, e2⟩ | ⟨q, e1, e2⟩
  · simp only [e1, e2, bnd_s, i10, if_false, bnd_id, jn_e, gin_n _ hj (show 4 < 2 ^ 31 by omega), cs_eq j (by omega), ix_n (show j < 2 ^ 31 by omega), sq_h]
    by_cases hb : x2 = 0 ∨ x2 = 8 ∨ x2 = 16 ∨ x2 = 32
    · by_cases h0 : x2 = 0
      · subst h0
        obtain ⟨c', m', g1, g2, g3, g4, g5⟩ := good j 0 0 hj (Or.inl rfl) (by decide) (by decide)
        simp only [if_true, i10, if_false]
        rw [g1, bnd_s]
        exact PR.sh O rfl (g2 _) s g3 g4 g5
      · have e8 : ∀ A B : Option (Int32 × Mem), (if x2 = 0 then A else if x2 = 8 then A else if x2 = 16 then A else if x2 = 32 then A else B) = A := fun A B => by
          rcases hb with z | z | z | z
          · exact absurd z h0
          · subst z; rfl
          · subst z; rfl
          · subst z; rfl
        rw [e8, e8]
        simp only [if_neg h0, i10, if_false]
        by_cases q1 : 0 ≤ x3
        · simp only [if_pos q1]
          by_cases q2 : x3 ≤ 40
          · simp only [if_pos q2]
            obtain ⟨c', m', g1, g2, g3, g4, g5⟩ := good j x2 x3 hj hb q1 q2
            rw [g1, bnd_s]
            exact PR.sh O rfl (g2 _) s g3 g4 g5
          · simp only [if_neg q2]
            exact PR.er O (Or.inl rfl) s CF.rf MF.rf rfl rfl
        · simp only [if_neg q1]
          exact PR.er O (Or.inr (Or.inr (Or.inl rfl))) s CF.rf MF.rf rfl rfl
    · have h0 : ¬ x2 = 0 := fun z => hb (Or.inl z)
      have h8 : ¬ x2 = 8 := fun z => hb (Or.inr (Or.inl z))
      have h16 : ¬ x2 = 16 := fun z => hb (Or.inr (Or.inr (Or.inl z)))
      have h32 : ¬ x2 = 32 := fun z => hb (Or.inr (Or.inr (Or.inr z)))
      simp only [if_neg h0, if_neg h8, if_neg h16, if_neg h32, if_true]
      exact PR.er O (Or.inl rfl) s CF.rf MF.rf rfl rfl
  · simp only [e1, e2, bnd_s, bnd_id, if_true, jn_e]
    refine PR.er O (Or.inl rfl) s CF.rf MF.rf ?_ rfl
    repeat' split
    all_goals rfl
end SHS
