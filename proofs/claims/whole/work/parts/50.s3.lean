section S3S
variable {c m S : Mem} {k N : Nat}
theorem P_hills (hN : 1000 ≤ N) (H : RR c m k) (x1 : Int32) : PR (F_X6_hills N 0 x1 c) (F_X7_hills N 102 x1 m) c m k := by
  obtain ⟨⟨S, s⟩, O⟩ := H
  unfold F_X6_hills F_X7_hills
  rcases sh_cs x1 with ⟨⟨j, hj, rfl⟩, e1, e2⟩ | ⟨q, e1, e2⟩
  · have hH := O.2.2.1
    obtain ⟨n, hn, n1, n2⟩ := hH.sz hj
    simp only [e1, e2, bnd_s, i10, if_false, bnd_id, gin_n _ hj (show 4 < 2 ^ 31 by omega), cs_eq j (by omega), ix_n (show j < 2 ^ 31 by omega), C_miss hH hj]
    by_cases hb : m 108 j = 0
    · rw [if_pos hb, if_neg (show ¬ (1 : Int32) = 0 by decide), if_pos (show m (102 + 6) j = 0 from hb)]
      exact PR.er O (Or.inr (Or.inl rfl)) s CF.rf MF.rf rfl rfl
    · rw [if_neg hb, if_pos (show (0 : Int32) = 0 from rfl), if_neg (show ¬ m (102 + 6) j = 0 from hb), n2, C_min, bnd_s]
      have emin : (if nI n < 12 then nI n else 12) = nI (min n 12) := by
        by_cases z : n < 12
        · rw [if_pos (show nI n < 12 from Int32.not_le.mp (nI_ge (a := n) (b := 12) z (by omega))), Nat.min_eq_left (by omega)]
        · rw [if_neg (show ¬ nI n < 12 from Int32.not_lt.mpr (nI_le (a := 12) (by omega) (by omega))), Nat.min_eq_right (by omega)]
          rfl
      rw [emin]
      have lp : ∀ (d i mc mm : Nat) (g h T : Mem), i + d = min n 12 → d < mc → d < mm → FT 1 c g → E103 m h → RS g h T → ∃ v g' h' T', (∀ kt, F_X6_hills_50 N 0 (nI j) (nI (min n 12)) kt mc (nI i) g = kt v g') ∧ (∀ kt, F_X7_hills_32 N 102 (nI j) kt mm (nI i) h = kt v h') ∧ FT 1 c g' ∧ E103 m h' ∧ RS g' h' T' := by
        intro d
        induction d with
        | zero =>
          intro i mc mm g h T hi h1 h2 F E R
          obtain ⟨mc, rfl⟩ : ∃ q, mc = q + 1 := ⟨mc - 1, by omega⟩
          obtain ⟨mm, rfl⟩ : ∃ q, mm = q + 1 := ⟨mm - 1, by omega⟩
          refine ⟨nI i, g, h, T, fun kt => ?_, fun kt => ?_, F, E, R⟩
          · rw [F_X6_hills_50, if_pos (nI_le (by omega) (by omega))]
          · rw [F_X7_hills_32, gin_n _ hj (by omega), ix_n (by omega), show h (102 + 7) j = nI n by rw [E 109 (by omega)]; exact n1]
            by_cases z : n ≤ i
            · rw [if_pos (nI_le z (by omega))]
            · rw [if_neg (nI_ge (by omega) (by omega)), if_pos (show (12 : Int32) ≤ nI i from nI_le (a := 12) (by omega) (by omega))]
        | succ d ih =>
          intro i mc mm g h T hi h1 h2 F E R
          obtain ⟨mc, rfl⟩ : ∃ q, mc = q + 1 := ⟨mc - 1, by omega⟩
          obtain ⟨mm, rfl⟩ : ∃ q, mm = q + 1 := ⟨mm - 1, by omega⟩
          have hw : g (95 + 2 * j) i = m 110 (40 * j + i) := by
            rw [F (95 + 2 * j) (by omega)]
            exact (hH j hj).2.2.2.2.2 i (by omega)
          have hm8 : h (102 + 8) (40 * j + i) = m 110 (40 * j + i) := by
            show h 110 _ = _
            rw [E 110 (by omega)]
          have hm7 : h (102 + 7) j = nI n := by
            show h 109 _ = _
            rw [E 109 (by omega)]; exact n1
          generalize hx : m 110 (40 * j + i) = x at hw hm8
          have hlt1 : ¬ nI (min n 12) ≤ nI i := nI_ge (by omega) (by omega)
          have hlt2 : ¬ nI n ≤ nI i := nI_ge (by omega) (by omega)
          have hlt3 : ¬ (12 : Int32) ≤ nI i := nI_ge (b := 12) (by omega) (by omega)
          rcases in_cs x 0 9 with ⟨q, e1, e2⟩ | ⟨q, e1, e2⟩
          · obtain ⟨u1, u2, u3⟩ := R.up (x := x) (v_10 (f := i) (by omega)) cp_10 (J := 16 + i) (by omega) (rp_10 (by omega)) (R.2.2.mk2 (R.2.2.1.upg (by omega) (fun q => by omega) (fun q => by omega) (fun q => by omega) (fun q => by omega) (fun _ => q)) (by omega))
            obtain ⟨v, g', h', T', i1, i2, i3⟩ := ih (i + 1) mc mm _ _ _ (by omega) (by omega) (by omega) (F.tr (FT.up (by omega))) (E.tr E103.up) u1
            refine ⟨v, g', h', T', fun kt => ?_, fun kt => ?_, i3⟩
            · rw [F_X6_hills_50, if_neg hlt1, gin_n _ hj (by omega), gin_n _ (show i < 40 by omega) (by omega), ws_eq j (by omega), ix_n (show i < 2 ^ 31 by omega), hw, e1, bnd_s, if_neg (show ¬ (1 : Int32) = 0 by decide), gin_n _ hj (by omega), gin_n _ (show i < 40 by omega) (by omega), gin_n _ (show i < 12 by omega) (by omega), sq_h, hw, nI_1]
              exact i1 kt
            · rw [F_X7_hills_32, gin_n _ hj (by omega), ix_n (show j < 2 ^ 31 by omega), hm7, if_neg hlt2, if_neg hlt3, e_sh, sq_i, gin_n _ (by omega) (by omega), ix_n (show 40 * j + i < 2 ^ 31 by omega), hm8, e2, bnd_s, if_neg (show ¬ (1 : Int32) = 0 by decide), sq_i, gin_n _ (by omega) (by omega), show (16 : Int32) = nI 16 from rfl, nI_add, gin_n _ (by omega) (by omega), sq_h, ix_n (show 40 * j + i < 2 ^ 31 by omega), hm8, ix_n (show 16 + i < 2 ^ 31 by omega), nI_1]
              exact i2 kt
          · refine ⟨nI i, g, h, T, fun kt => ?_, fun kt => ?_, F, E, R⟩
            · rw [F_X6_hills_50, if_neg hlt1, gin_n _ hj (by omega), gin_n _ (show i < 40 by omega) (by omega), ws_eq j (by omega), ix_n (show i < 2 ^ 31 by omega), hw, e1, bnd_s, if_pos (show (0 : Int32) = 0 from rfl)]
            · rw [F_X7_hills_32, gin_n _ hj (by omega), ix_n (show j < 2 ^ 31 by omega), hm7, if_neg hlt2, if_neg hlt3, e_sh, sq_i, gin_n _ (by omega) (by omega), ix_n (show 40 * j + i < 2 ^ 31 by omega), hm8, e2, bnd_s, if_pos (show (0 : Int32) = 0 from rfl)]
      obtain ⟨v, g', h', T', i1, i2, i3, i4, i5⟩ := lp (min n 12) 0 N N c m S (by omega) (by omega) (by omega) FT.rf E103.rf s
      have i1' : ∀ kt, F_X6_hills_50 N 0 (nI j) (nI (min n 12)) kt N 0 c = _ := i1
      have i2' : ∀ kt, F_X7_hills_32 N 102 (nI j) kt N 0 m = _ := i2
      rw [i1', i2']
      exact PR.ok O rfl rfl i5 (CF.of1 i3.FS) (MF.of103 i4)
  · simp only [e1, e2, bnd_s, bnd_id, if_true]
    exact PR.er O (Or.inl rfl) s CF.rf MF.rf rfl rfl
theorem M_mv1 {j a l : Nat} (hj : j < 4) (hal : a + l ≤ 40) (N : Nat) (x3 x4 : Int32) : ∀ (d n mc : Nat) (g : Mem), n + d = l → d < mc → (∀ i, i < n → g 111 i = g 110 (40 * j + a + i)) → ∃ g', (∀ kt, F_X7_move_119 N 102 (nI j) (nI a) x3 x4 (nI l) kt mc (nI n) g = kt g') ∧ (∀ i, i < l → g' 111 i = g 110 (40 * j + a + i)) ∧ ∀ q, q ≠ 111 → g' q = g q := by
  intro d
  induction d with
  | zero =>
    intro n mc g hn hm hA
    obtain ⟨mc, rfl⟩ : ∃ q, mc = q + 1 := ⟨mc - 1, by omega⟩
    exact ⟨g, fun kt => by rw [F_X7_move_119, if_pos (nI_le (by omega) (by omega))], fun i hi => hA i (by omega), fun _ _ => rfl⟩
  | succ d ih =>
    intro n mc g hn hm hA
    obtain ⟨mc, rfl⟩ : ∃ q, mc = q + 1 := ⟨mc - 1, by omega⟩
    obtain ⟨g', a1, a2, a3⟩ := ih (n + 1) mc (upm g 111 n (g 110 (40 * j + a + n))) (by omega) (by omega) (fun i hi => by
      rw [upm_off 110 (by omega)]
      by_cases z : i = n
      · subst z
        simp [upm]
      · simp only [upm]
        rw [if_neg (by omega)]
        exact hA i (by omega))
    refine ⟨g', fun kt => ?_, fun i hi => ?_, fun q hq => ?_⟩
    · rw [F_X7_move_119, if_neg (nI_ge (by omega) (by omega)), e_sh, nI_add, sq_i, gin_n _ (by omega) (by omega), gin_n _ (show n < 40 by omega) (by omega), sq_h, ix_n (show n < 2 ^ 31 by omega), ix_n (show 40 * j + a + n < 2 ^ 31 by omega), nI_1]
      exact a1 kt
    · rw [a2 i hi, upm_off 110 (by omega)]
    · rw [a3 q hq, upm_off q hq]
theorem M_mv2 {j b l : Nat} (hj : j < 4) (hbl : b + l ≤ 40) (N : Nat) : ∀ (d n mc : Nat) (g : Mem), n + d = l → d < mc → ∃ g', (∀ kt, F_X7_move_156 N 102 (nI j) (nI b) (nI l) kt mc (nI n) g = kt g') ∧ (∀ i, n ≤ i → i < l → g' 110 (40 * j + b + i) = g 111 i) ∧ (∀ t, ¬ (40 * j + b + n ≤ t ∧ t < 40 * j + b + l) → g' 110 t = g 110 t) ∧ ∀ q, q ≠ 110 → g' q = g q := by
  intro d
  induction d with
  | zero =>
    intro n mc g hn hm
    obtain ⟨mc, rfl⟩ : ∃ q, mc = q + 1 := ⟨mc - 1, by omega⟩
    exact ⟨g, fun kt => by rw [F_X7_move_156, if_pos (nI_le (by omega) (by omega))], fun i h1 h2 => by omega, fun _ _ => rfl, fun _ _ => rfl⟩
  | succ d ih =>
    intro n mc g hn hm
    obtain ⟨mc, rfl⟩ : ∃ q, mc = q + 1 := ⟨mc - 1, by omega⟩
    obtain ⟨g', a1, a2, a3, a4⟩ := ih (n + 1) mc (upm g 110 (40 * j + b + n) (g 111 n)) (by omega) (by omega)
    refine ⟨g', fun kt => ?_, fun i h1 h2 => ?_, fun t ht => ?_, fun q hq => ?_⟩
    · rw [F_X7_move_156, if_neg (nI_ge (by omega) (by omega)), gin_n _ (show n < 40 by omega) (by omega), e_sh, nI_add, gin_n _ (by omega) (by omega), sq_h, ix_n (show n < 2 ^ 31 by omega), ix_n (show 40 * j + b + n < 2 ^ 31 by omega), nI_1]
      exact a1 kt
    · by_cases z : i = n
      · subst z
        rw [a3 _ (by omega)]
        simp [upm]
      · rw [a2 i (by omega) h2, upm_off 111 (by omega)]
    · rw [a3 t (by omega)]
      simp only [upm]
      rw [if_neg (by omega)]
    · rw [a4 q hq, upm_off q hq]
theorem C_run {g : Mem} {x n : Nat} (hn : n ≤ 40) (e : g x 1 = nI n) (a l : Int32) : F_X1_hasRun x a l g = some (if 0 ≤ l ∧ 0 ≤ a ∧ a ≤ nI n - l then 1 else 0, g) := by
  have hn40 : nI n ≤ 40 := nI_le (b := 40) hn (by omega)
  have hn0 : 0 ≤ nI n := nI_pos' (by omega)
  unfold F_X1_hasRun
  rw [e]
  generalize nI n = z at *
  by_cases q1 : l < 0
  · rw [if_pos q1, if_neg (by grind)]
  · rw [if_neg q1]
    by_cases q2 : a < 0
    · rw [if_pos q2, if_neg (by grind)]
    · rw [if_neg q2]
      by_cases q3 : z < l
      · rw [if_pos q3, if_neg (by grind)]
      · rw [if_neg q3]
        by_cases q4 : z - l < a
        · rw [if_pos q4, if_neg (by grind)]
        · rw [if_neg q4, if_pos (by grind)]
theorem nat_run {n : Nat} {a l : Int32} (hn : n ≤ 40) (h : 0 ≤ l ∧ 0 ≤ a ∧ a ≤ nI n - l) : ∃ i r, i + r ≤ n ∧ a = nI i ∧ l = nI r := by
  have hn40 : nI n ≤ 40 := nI_le (b := 40) hn (by omega)
  have hn0 : 0 ≤ nI n := nI_pos' (by omega)
  have h1 : l ≤ 40 := by grind
  have h2 : a ≤ 40 := by grind
  have h3 : a + l ≤ nI n := by grind
  obtain ⟨i, hi, rfl⟩ := nat_of (n := 40) (by decide) h.2.1 h2
  obtain ⟨r, hr, rfl⟩ := nat_of (n := 40) (by decide) h.1 h1
  rw [nI_add] at h3
  exact ⟨i, r, Nat.le_of_not_lt (fun z => nI_ge z (by omega) h3), rfl, rfl⟩
theorem P_move (hN : 1000 ≤ N) (H : RR c m k) (x1 x2 x3 x4 x5 : Int32) : PR (F_X6_move 0 x1 x2 x3 x4 x5 c) (F_X7_move N 102 x1 x2 x3 x4 x5 m) c m k := by
  obtain ⟨⟨S, s⟩, O⟩ := H
  unfold F_X6_move F_X7_move
  have hH := O.2.2.1
  rcases sh_cs x1 with ⟨⟨j, hj, rfl⟩, e1, e2⟩ | ⟨q, e1, e2⟩
  · rcases sh_cs x3 with ⟨⟨t, ht, rfl⟩, e3, e4⟩ | ⟨q, e3, e4⟩
    · obtain ⟨n, hn, n1, n2⟩ := hH.sz hj
      obtain ⟨p, hp, p1, p2⟩ := hH.sz ht
      simp only [e1, e2, e3, e4, bnd_s, i10, if_false, bnd_id, gin_n _ hj (show 4 < 2 ^ 31 by omega), gin_n _ ht (show 4 < 2 ^ 31 by omega), cs_eq j (by omega), cs_eq t (by omega), ix_n (show j < 2 ^ 31 by omega), ix_n (show t < 2 ^ 31 by omega), C_miss hH hj]
      by_cases hb : m 108 j = 0
      · rw [if_pos hb, if_neg (show ¬ (1 : Int32) = 0 by decide), if_pos (show m (102 + 6) j = 0 from hb)]
        exact PR.er O (Or.inr (Or.inl rfl)) s CF.rf MF.rf rfl rfl
      · rw [if_neg hb, if_pos (show (0 : Int32) = 0 from rfl), if_neg (show ¬ m (102 + 6) j = 0 from hb)]
        simp only [C_miss hH ht, bnd_s]
        by_cases hb2 : m 108 t = 0
        · rw [if_pos hb2, if_neg (show ¬ (1 : Int32) = 0 by decide), if_pos (show m (102 + 6) t = 0 from hb2)]
          exact PR.er O (Or.inr (Or.inl rfl)) s CF.rf MF.rf rfl rfl
        · rw [if_neg hb2, if_pos (show (0 : Int32) = 0 from rfl), if_neg (show ¬ m (102 + 6) t = 0 from hb2), (hH j hj).1, (hH t ht).1]
          by_cases q : m 108 j = m 108 t
          · rw [if_pos q, if_pos (show m (102 + 6) j = m (102 + 6) t from q), show m (102 + 7) j = nI n from n1, show m (102 + 7) t = nI p from p1]
            rw [C_run hn n2, bnd_s]
            by_cases r1 : 0 ≤ x5 ∧ 0 ≤ x2 ∧ x2 ≤ nI n - x5
            · rw [if_pos r1, if_neg (show ¬ (1 : Int32) = 0 by decide), C_run hp p2, bnd_s]
              by_cases r2 : 0 ≤ x5 ∧ 0 ≤ x4 ∧ x4 ≤ nI p - x5
              · rw [if_pos r2, if_neg (show ¬ (1 : Int32) = 0 by decide), if_neg (Int32.not_lt.mpr r1.1), if_neg (Int32.not_lt.mpr r1.2.1), if_neg (Int32.not_lt.mpr r2.2.1), if_neg (Int32.not_lt.mpr r1.2.2), if_pos r2.2.2]
                obtain ⟨a, l, hal, rfl, rfl⟩ := nat_run hn r1
                obtain ⟨b, l', hbl, rfl, hl'⟩ := nat_run hp r2
                have hll : l = l' := by have := congrArg ix hl'; rw [ix_n (by omega), ix_n (by omega)] at this; exact this
                subst hll
                obtain ⟨m1, a1, a2, a3⟩ := M_mv1 (a := a) (l := l) hj (by omega) N (nI t) (nI b) l 0 N m (by omega) (by omega) (fun _ h => by omega)
                obtain ⟨m2, b1, b2, b3, b4⟩ := M_mv2 (b := b) (l := l) ht (by omega) N l 0 N m1 (by omega) (by omega)
                have a1' : ∀ kt, F_X7_move_119 N 102 (nI j) (nI a) (nI t) (nI b) (nI l) kt N 0 m = _ := a1
                have b1' : ∀ kt, F_X7_move_156 N 102 (nI t) (nI b) (nI l) kt N 0 m1 = _ := b1
                rw [a1', b1', gcp_d _ ⟨nI_pos (by omega), nI_pos (by omega), nI_pos (by omega), by rw [ix_n (by omega), ix_n (by omega)]; omega, by rw [ix_n (by omega), ix_n (by omega)]; omega⟩, ix_n (show a < 2 ^ 31 by omega), ix_n (show b < 2 ^ 31 by omega), ix_n (show l < 2 ^ 31 by omega)]
                refine PR.sh O rfl rfl s (fun q hq => rwm_off q (by omega)) (fun q hq => by rw [b4 q (by omega), a3 q (by omega)]) (hH.nw ht (fun q h1 h2 => rwm_off q (by omega)) (fun w hw => ⟨by rw [b4 108 (by omega), a3 108 (by omega)], by rw [b4 109 (by omega), a3 109 (by omega)]⟩) (fun w hw => by rw [b3 w (by omega), a3 110 (by omega)]) ?_)
                obtain ⟨h1, h2, h3, h4, h5, h6⟩ := hH t ht
                rw [rwm_off (94 + 2 * t) (by omega), b4 108 (by omega), a3 108 (by omega), b4 109 (by omega), a3 109 (by omega), show 94 + 2 * t + 1 = 95 + 2 * t by omega, rwm_row]
                refine ⟨h1, h2, h3, h4, h5, fun w hw => ?_⟩
                unfold va_cpy
                by_cases z : b ≤ w ∧ w < b + l
                · rw [if_pos z, show 40 * t + w = 40 * t + b + (w - b) by omega, b2 (w - b) (by omega) (by omega), a2 (w - b) (by omega), show 94 + 2 * j + 1 = 95 + 2 * j by omega, (hH j hj).2.2.2.2.2 _ (by omega), Nat.add_assoc]
                · rw [if_neg z, b3 _ (by omega), a3 110 (by omega)]
                  exact h6 w hw
              · rw [if_neg r2, if_pos (show (0 : Int32) = 0 from rfl), if_neg (Int32.not_lt.mpr r1.1), if_neg (Int32.not_lt.mpr r1.2.1)]
                refine PR.er O (Or.inl rfl) s CF.rf MF.rf rfl ?_
                by_cases z4 : x4 < 0
                · rw [if_pos z4]
                · rw [if_neg z4, if_neg (Int32.not_lt.mpr r1.2.2), if_neg (fun z => r2 ⟨r1.1, Int32.not_lt.mp z4, z⟩)]
            · rw [if_neg r1, if_pos (show (0 : Int32) = 0 from rfl)]
              refine PR.er O (Or.inl rfl) s CF.rf MF.rf rfl ?_
              by_cases z5 : x5 < 0
              · rw [if_pos z5]
              · rw [if_neg z5]
                by_cases z2 : x2 < 0
                · rw [if_pos z2]
                · rw [if_neg z2]
                  by_cases z4 : x4 < 0
                  · rw [if_pos z4]
                  · rw [if_neg z4, if_pos (Int32.not_le.mp (fun z => r1 ⟨Int32.not_lt.mp z5, Int32.not_lt.mp z2, z⟩))]
          · rw [if_neg q, if_neg (show ¬ m (102 + 6) j = m (102 + 6) t from q)]
            exact PR.er O (Or.inr (Or.inr (Or.inr (Or.inr rfl)))) s CF.rf MF.rf rfl rfl
    · simp only [e1, e2, e3, e4, bnd_s, bnd_id, if_true, i10, if_false]
      exact PR.er O (Or.inl rfl) s CF.rf MF.rf rfl rfl
  · simp only [e1, e2, bnd_s, bnd_id, if_true]
    exact PR.er O (Or.inl rfl) s CF.rf MF.rf rfl rfl
end S3S
