/-! THE MODEL's side: reads -/
theorem e_its (i f : Nat) : ((28 : Int32) + (8 : Int32) * nI i) + nI f = nI (28 + 8 * i + f) := by
  rw [show (28 : Int32) = nI 28 from rfl, show (8 : Int32) = nI 8 from rfl, pk_mul, nI_add, nI_add]
theorem M_its {S h : Mem} {i f : Nat} (hR : RowR (h 103) S) (hi : i < 8) (hf : f < 8) : F_X7_its 102 (nI i) (nI f) h = some (S i f, h) := by
  unfold F_X7_its
  rw [sq_i, e_its, gin_n _ (by omega) (by omega), ix_n (by omega)]
  show some (h 103 _, h) = _
  rw [hR _ (by omega), ro_c hi hf]
theorem M_puts {S h : Mem} {i f : Nat} (hR : RowR (h 103) S) (hi : i < 8) (hf : f < 8) (x : Int32) : ∃ h', F_X7_puts 102 (nI i) (nI f) x h = some ((), h') ∧ RowR (h' 103) (upm S i f x) ∧ E103 h h' := by
  unfold F_X7_puts
  rw [e_its, gin_n _ (by omega) (by omega), ix_n (by omega), sq_h]
  refine ⟨_, rfl, ?_, E103.up⟩
  show RowR (upm h 103 _ x 103) _
  rw [upm_103]
  exact hR.up (by omega) (rp_c hi hf)
theorem M_row {S h : Mem} {j : Nat} (hR : RowR (h 103) S) (hj : j < 262) : h (102 + 1) (ix (nI j)) = S (rpl j).1 (rpl j).2 := by
  rw [ix_n (by omega)]
  show h 103 j = _
  rw [hR j hj, ro_pl]
theorem M_up {S h : Mem} {j a b : Nat} (hR : RowR (h 103) S) (hj : j < 262) (e : rpl j = (a, b)) (x : Int32) : RowR (upm h (102 + 1) (ix (nI j)) x 103) (upm S a b x) ∧ E103 h (upm h (102 + 1) (ix (nI j)) x) := by
  rw [ix_n (by omega)]
  show RowR (upm h 103 j x 103) _ ∧ _
  rw [upm_103]
  exact ⟨hR.up hj e, E103.up⟩
theorem M_isThere {S h : Mem} {i : Nat} (hR : RowR (h 103) S) (hi : i < 8) : F_X7_isThere 102 (nI i) h = some (if S i 7 = 1 then 1 else 0, h) := by
  unfold F_X7_isThere
  rw [show F_X7_its 102 (nI i) (7 : Int32) h = _ from M_its (f := 7) hR hi (by omega), bnd_s]
  split <;> rfl
theorem M_drift {S h : Mem} {i : Nat} (hR : RowR (h 103) S) (hi : i < 8) (wind : Int32) : F_X7_driftsBy 102 (nI i) wind h = some (s_drift (S i 0) (S i 1) wind, h) := by
  unfold F_X7_driftsBy s_drift
  rw [show F_X7_its 102 (nI i) (0 : Int32) h = _ from M_its (f := 0) hR hi (by omega), bnd_s]
  rw [show F_X7_its 102 (nI i) (1 : Int32) h = _ from M_its (f := 1) hR hi (by omega), bnd_s]
  simp only [gnz_n _ (show ¬ (2 : Int32) = 0 by decide)]
  repeat' split
  all_goals rfl
theorem M_held (x a b : Int32) (h : Mem) : F_X7_held x a b h = some (hld x a b, h) := by
  unfold F_X7_held hld
  repeat' split
  all_goals rfl
theorem M_rains {S h : Mem} {i : Nat} (hR : RowR (h 103) S) (hi : i < 8) (t : Int32) : F_X7_rainsAt 102 (nI i) t h = some (s_rains S i t, h) := by
  unfold F_X7_rainsAt s_rains s_rainv
  rw [show F_X7_its 102 (nI i) (0 : Int32) h = _ from M_its (f := 0) hR hi (by omega), bnd_s]
  rw [show F_X7_its 102 (nI i) (1 : Int32) h = _ from M_its (f := 1) hR hi (by omega), bnd_s]
  rw [sq_i, jn_e]
  simp only [show F_X7_its 102 (nI i) (3 : Int32) h = _ from M_its (f := 3) hR hi (by omega), bnd_s, M_held]
  repeat' split
  all_goals rfl
theorem M_keeps {S h : Mem} {i : Nat} (hR : RowR (h 103) S) (hi : i < 8) (s : Int32) : F_X7_keeps 102 (nI i) s h = some (s_keep (S i 0) s, h) := by
  unfold F_X7_keeps s_keep
  rw [show F_X7_its 102 (nI i) (0 : Int32) h = _ from M_its (f := 0) hR hi (by omega), bnd_s]
  repeat' split
  all_goals rfl
theorem M_taste (x y : Int32) (h : Mem) : F_X7_taste x y h = some (s_tst x y, h) := by
  unfold F_X7_taste s_tst
  split
  · rfl
  · rename_i q
    rw [gnz_n _ q, M_held, bnd_s]
theorem M_tasteOf {S h : Mem} {i : Nat} (hR : RowR (h 103) S) (hi : i < 8) : F_X7_tasteOf 102 (nI i) h = some (s_taste S i, h) := by
  unfold F_X7_tasteOf s_taste
  rw [show F_X7_its 102 (nI i) (4 : Int32) h = _ from M_its (f := 4) hR hi (by omega), bnd_s]
  rw [show F_X7_its 102 (nI i) (5 : Int32) h = _ from M_its (f := 5) hR hi (by omega), bnd_s]
  rw [show F_X7_its 102 (nI i) (6 : Int32) h = _ from M_its (f := 6) hR hi (by omega), bnd_s]
  rw [show F_X7_its 102 (nI i) (3 : Int32) h = _ from M_its (f := 3) hR hi (by omega), bnd_s]
  rw [M_taste, bnd_s]
/-- a number between 0 and a small bound -/
theorem nat_of {x m : Int32} {n : Nat} (hm : m.toInt = n) (h0 : 0 ≤ x) (h1 : x ≤ m) : ∃ j, j ≤ n ∧ x = nI j := nI_of2 hm (Int32.not_lt.mpr h0) h1
theorem irm8 {x : Int32} (h0 : 0 ≤ x) (h1 : x ≤ 20000) : ∃ j, j < 8 ∧ irm x 8 = nI j := by
  obtain ⟨n, hn, rfl⟩ := nat_of (n := 20000) (by decide) h0 h1
  refine ⟨n % 8, by omega, ?_⟩
  exact pk_rem (d := 8) (by omega) (by omega) (by omega)
theorem M_wind {S h : Mem} (hR : RowR (h 103) S) (hW : WS S) : F_X7_windNow 102 h = some (s_wind S, h) := by
  unfold F_X7_windNow s_wind
  obtain ⟨j, hj, ej⟩ := irm8 hW.2.1.1 hW.2.1.2
  have e1 : h (102 + 1) (ix (1 : Int32)) = S 8 1 := M_row (j := 1) hR (by omega)
  rw [show (1 : Int32) = nI 1 from rfl, gin_n _ (by omega) (by omega), gnz_n _ (by decide), sq_i]
  rw [show h (102 + 1) (ix (nI 1)) = S 8 1 from M_row (j := 1) hR (by omega), ej, show (8 : Int32) = nI 8 from rfl, nI_add, gin_n _ (by omega) (by omega), M_row hR (by omega), rp_9 hj, ix_n (by omega)]
theorem M_height {S h : Mem} {i : Nat} (hR : RowR (h 103) S) (hi : i < 8) (h0 : 0 ≤ S i 2) (h1 : S i 2 ≤ 11) : F_X7_heightOf 102 (nI i) h = some (s_height S i, h) := by
  unfold F_X7_heightOf s_height
  obtain ⟨j, hj, ej⟩ := nat_of (n := 11) (by decide) h0 h1
  rw [show F_X7_its 102 (nI i) (2 : Int32) h = _ from M_its (f := 2) hR hi (by omega), bnd_s, sq_i, ej, show (16 : Int32) = nI 16 from rfl, nI_add, gin_n _ (by omega) (by omega), M_row hR (by omega), rp_10 (by omega), ix_n (by omega)]
/-! an hour -/
theorem M_rain {S h : Mem} {i : Nat} {N : Nat} (hN : 10 ≤ N) (hR : RowR (h 103) S) (hi : i < 8) (t : Int32) : ∃ h', F_X7_rain N 102 (nI i) t h = some ((), h') ∧ RowR (h' 103) (s_rain S i t) ∧ E103 h h' := by
  unfold F_X7_rain
  rw [M_rains hR hi, bnd_s]
  rw [show F_X7_its 102 (nI i) (3 : Int32) h = _ from M_its (f := 3) hR hi (by omega), bnd_s]
  obtain ⟨h1, e1, hR1, hE1⟩ := M_puts hR hi (f := 3) (by omega) (S i 3 - s_rains S i t)
  rw [show F_X7_puts 102 (nI i) (3 : Int32) (S i 3 - s_rains S i t) h = _ from e1, bnd_s]
  rw [show (2 : Int32) = nI 2 from rfl, gin_n _ (by omega) (by omega), M_held, bnd_s, gin_n _ (by omega) (by omega), sq_h]
  rw [M_row hR1 (by omega), show rpl 2 = (8, 2) from rfl]
  generalize hz : hld (upm S i 3 (S i 3 - s_rains S i t) (8, 2).1 (8, 2).2 + s_rains S i t) 0 999999 = z
  have hu := M_up hR1 (j := 2) (by omega) (e := rfl) z
  generalize hh2 : upm h1 (102 + 1) (ix (nI 2)) z = h2 at hu ⊢
  obtain ⟨hR2, hE2⟩ := hu
  have hE : E103 h h2 := hE1.tr hE2
  generalize hS2 : upm (upm S i 3 (S i 3 - s_rains S i t)) 8 2 z = S2 at hR2
  have hsp : s_rain S i t = if s_rains S i t ≤ 0 then S2 else s_salt (s_salt (s_salt S2 i 0) i 1) i 2 := by
    unfold s_rain
    simp only [← hS2, ← hz]
  rw [hsp]
  clear hsp
  obtain ⟨n, rfl⟩ : ∃ n, N = n + 10 := ⟨N - 10, by omega⟩
  generalize s_rains S i t = r
  -- the loop
  by_cases hr : r ≤ 0
  · rw [if_pos hr]
    rw [show (n + 10) = (n + 9) + 1 from rfl, F_X7_rain_44, if_neg (by decide), if_pos hr]
    exact ⟨h2, rfl, hR2, hE⟩
  · rw [if_neg hr]
    have step : ∀ (m : Nat) (s : Nat) (T g : Mem), s < 3 → RowR (g 103) T → ∃ g', F_X7_rain_44 (n + 10) 102 (nI i) r (fun h18 => some ((), h18)) (m + 1) (nI s) g = F_X7_rain_44 (n + 10) 102 (nI i) r (fun h18 => some ((), h18)) m (nI (s + 1)) g' ∧ RowR (g' 103) (s_salt T i s) ∧ E103 g g' := by
      intro m s T g hs hT
      rw [F_X7_rain_44, if_neg (show ¬ (3 : Int32) ≤ nI s from nI_ge (a := s) (b := 3) hs (by omega)), if_neg hr]
      rw [show (4 : Int32) = nI 4 from rfl, nI_add, M_its hT hi (by omega), bnd_s, M_keeps hT hi, bnd_s]
      unfold s_salt
      split
      · rw [gnz_n _ (by decide)]
        obtain ⟨g', e', hT', hE'⟩ := M_puts hT hi (f := 4 + s) (by omega) (T i (4 + s) - T i (4 + s) / 10)
        rw [e', bnd_s, nI_1]
        exact ⟨g', rfl, hT', hE'⟩
      · obtain ⟨g', e', hT', hE'⟩ := M_puts hT hi (f := 4 + s) (by omega) (T i (4 + s))
        rw [e', bnd_s, nI_1]
        exact ⟨g', rfl, hT', hE'⟩
    obtain ⟨g1, a1, b1, c1⟩ := step (n + 9) 0 S2 h2 (by omega) hR2
    obtain ⟨g2, a2, b2, c2⟩ := step (n + 8) 1 _ g1 (by omega) b1
    obtain ⟨g3, a3, b3, c3⟩ := step (n + 7) 2 _ g2 (by omega) b2
    rw [show (0 : Int32) = nI 0 from rfl, show n + 10 = n + 9 + 1 from rfl, a1, a2, a3]
    refine ⟨g3, ?_, b3, hE.tr (c1.tr (c2.tr c3))⟩
    rw [F_X7_rain_44, if_pos (show (3 : Int32) ≤ nI (2 + 1) from nI_le (a := 3) (b := 3) (by omega) (by omega))]

/-! what an hour keeps -/
theorem irm_toInt (x y : Int32) : (irm x y).toInt = x.toInt.tmod y.toInt := rem_toInt x y
theorem hld_in {x a b : Int32} (h : a ≤ b) : a ≤ hld x a b ∧ hld x a b ≤ b := by
  unfold hld
  repeat' split
  all_goals grind
theorem drift_in {k m wind : Int32} (hk : 0 ≤ k ∧ k ≤ 6) (hm : 0 ≤ m ∧ m ≤ 9) (hw : -3 ≤ wind ∧ wind ≤ 3) : -6 ≤ s_drift k m wind ∧ s_drift k m wind ≤ 6 := by
  have hd : ∀ a, a < 10 → ∀ b, b < 7 → -6 ≤ (nI b - 3) / 2 + irm (nI a) 2 ∧ (nI b - 3) / 2 + irm (nI a) 2 ≤ 6 ∧ -6 ≤ (nI b - 3) / 2 ∧ (nI b - 3) / 2 ≤ 6 ∧ -6 ≤ 2 * (nI b - 3) ∧ 2 * (nI b - 3) ≤ 6 := by decide +kernel
  obtain ⟨a, ha, rfl⟩ := nat_of (n := 9) (by decide) hm.1 hm.2
  obtain ⟨b, hb, eb⟩ := nat_of (x := wind + 3) (m := 6) (n := 6) (by decide) (by grind) (by grind)
  have e : wind = nI b - 3 := by grind
  subst e
  obtain ⟨d1, d2, d3, d4, d5, d6⟩ := hd a (by omega) b (by omega)
  unfold s_drift
  repeat' split
  all_goals first | exact ⟨d1, d2⟩ | exact ⟨d3, d4⟩ | exact ⟨d5, d6⟩ | (constructor <;> decide) | grind
theorem place_in {p d : Int32} (hp : 0 ≤ p ∧ p ≤ 11) (hd : -6 ≤ d ∧ d ≤ 6) : 0 ≤ irm (p + d + 24) 12 ∧ irm (p + d + 24) 12 ≤ 11 := by
  have h : ∀ a, a < 60 → 0 ≤ irm (nI a) 12 ∧ irm (nI a) 12 ≤ 11 := by decide +kernel
  obtain ⟨a, ha, ea⟩ := nat_of (x := p + d + 24) (m := 41) (n := 41) (by decide) (by grind) (by grind)
  rw [ea]
  exact h a (by omega)
theorem tenth_in {x : Int32} (h0 : 0 ≤ x) (h1 : x ≤ 99) : 0 ≤ x - x / 10 ∧ x - x / 10 ≤ 99 := by
  have h : ∀ a, a < 100 → 0 ≤ nI a - nI a / 10 ∧ nI a - nI a / 10 ≤ 99 := by decide +kernel
  obtain ⟨a, ha, rfl⟩ := nat_of (n := 99) (by decide) h0 h1
  exact h a (by omega)
theorem WC.of {S T : Mem} {i : Nat} (h : WC S i) (e : ∀ f, f < 8 → T i f = S i f) : WC T i := by
  unfold WC at *
  rw [e 0 (by omega), e 1 (by omega), e 2 (by omega), e 3 (by omega), e 4 (by omega), e 5 (by omega), e 6 (by omega), e 7 (by omega)]
  exact h
/-- one number of a cloud's row changes -/
theorem WS.upc {S : Mem} {i f : Nat} {x : Int32} (hW : WS S) (hi : i < 8) (hc : WC (upm S i f x) i) : WS (upm S i f x) := by
  obtain ⟨h1, h2, h3, h4, h5, h6⟩ := hW
  have e : ∀ a b, a ≠ i → upm S i f x a b = S a b := fun a b ha => by simp [upm, ha]
  refine ⟨?_, ?_, ?_, fun j hj => ?_, fun j hj => ?_, fun j hj => ?_⟩
  · rw [e 8 0 (by omega)]; exact h1
  · rw [e 8 1 (by omega)]; exact h2
  · rw [e 8 2 (by omega)]; exact h3
  · rw [e 9 j (by omega)]; exact h4 j hj
  · rw [e 10 j (by omega)]; exact h5 j hj
  · by_cases hji : j = i
    · subst hji; exact hc
    · exact (h6 j hj).of (fun f9 _ => e j f9 hji)
/-- one of the other numbers changes -/
theorem WS.upg {S : Mem} {a f : Nat} {x : Int32} (hW : WS S) (ha : 8 ≤ a) (h1 : a = 8 → f = 0 → 0 ≤ x ∧ x ≤ 8) (h2 : a = 8 → f = 1 → 0 ≤ x ∧ x ≤ 20000) (h3 : a = 8 → f = 2 → 0 ≤ x ∧ x ≤ 999999) (h4 : a = 9 → -3 ≤ x ∧ x ≤ 3) (h5 : a = 10 → 0 ≤ x ∧ x ≤ 9) : WS (upm S a f x) := by
  obtain ⟨g1, g2, g3, g4, g5, g6⟩ := hW
  refine ⟨?_, ?_, ?_, fun j hj => ?_, fun j hj => ?_, fun j hj => (g6 j hj).of (fun f9 _ => by simp [upm, show j ≠ a by omega])⟩
  · simp only [upm]
    split
    · rename_i q; exact h1 q.1.symm q.2.symm
    · exact g1
  · simp only [upm]
    split
    · rename_i q; exact h2 q.1.symm q.2.symm
    · exact g2
  · simp only [upm]
    split
    · rename_i q; exact h3 q.1.symm q.2.symm
    · exact g3
  · simp only [upm]
    split
    · rename_i q; exact h4 q.1.symm
    · exact g4 j hj
  · simp only [upm]
    split
    · rename_i q; exact h5 q.1.symm
    · exact g5 j hj
theorem rains_in {S : Mem} {i : Nat} (t : Int32) (h : WC S i) : 0 ≤ s_rains S i t ∧ s_rains S i t ≤ S i 3 := hld_in (by unfold WC at h; exact h.2.2.2.2.2.2.1)
theorem WS.salt {S : Mem} {i s : Nat} (hW : WS S) (hi : i < 8) (hs : s < 3) : WS (s_salt S i s) := by
  have hc := hW.2.2.2.2.2 i hi
  unfold s_salt
  refine hW.upc hi ?_
  unfold WC at *
  have t4 := tenth_in hc.2.2.2.2.2.2.2.2.1 hc.2.2.2.2.2.2.2.2.2.1
  have t5 := tenth_in hc.2.2.2.2.2.2.2.2.2.2.1 hc.2.2.2.2.2.2.2.2.2.2.2.1
  have t6 := tenth_in hc.2.2.2.2.2.2.2.2.2.2.2.2.1 hc.2.2.2.2.2.2.2.2.2.2.2.2.2.1
  have z : ∀ x : Int32, x = 0 → x - x / 10 = 0 := fun x hx => by subst hx; decide
  have z4 := z (S i 4)
  have z5 := z (S i 5)
  have z6 := z (S i 6)
  clear z
  rcases (show s = 0 ∨ s = 1 ∨ s = 2 by omega) with rfl | rfl | rfl
  all_goals simp [upm]
  all_goals split
  all_goals grind
theorem WS.rain {S : Mem} {i : Nat} (hW : WS S) (hi : i < 8) (t : Int32) : WS (s_rain S i t) := by
  have hc := hW.2.2.2.2.2 i hi
  have hr := rains_in t hc
  have h1 : WS (upm S i 3 (S i 3 - s_rains S i t)) := by
    refine hW.upc hi ?_
    unfold WC at *
    simp [upm]
    grind
  have h2 := h1.upg (a := 8) (f := 2) (x := hld (upm S i 3 (S i 3 - s_rains S i t) 8 2 + s_rains S i t) 0 999999) (by omega) (fun _ q => by omega) (fun _ q => by omega) (fun _ _ => hld_in (by decide)) (fun q => by omega) (fun q => by omega)
  unfold s_rain
  simp only
  split
  · exact h2
  · exact ((h2.salt hi (by omega)).salt hi (by omega)).salt hi (by omega)
theorem WS.pass {S : Mem} {i : Nat} {wind : Int32} (hW : WS S) (hi : i < 8) (hw : -3 ≤ wind ∧ wind ≤ 3) (ht : S i 7 = 1) : WS (s_pass S i wind) := by
  have hc := hW.2.2.2.2.2 i hi
  have hp := place_in (p := S i 2) (d := s_drift (S i 0) (S i 1) wind) (by unfold WC at hc; exact ⟨hc.2.2.2.2.1, hc.2.2.2.2.2.1⟩) (drift_in (by unfold WC at hc; exact ⟨hc.1, hc.2.1⟩) (by unfold WC at hc; exact ⟨hc.2.2.1, hc.2.2.2.1⟩) hw)
  have h1 : WS (upm S i 2 (irm (S i 2 + s_drift (S i 0) (S i 1) wind + 24) 12)) := by
    refine hW.upc hi ?_
    unfold WC at *
    simp [upm]
    grind
  unfold s_pass
  simp only
  split
  · split
    · refine h1.upc hi ?_
      have hc1 := h1.2.2.2.2.2 i hi
      have h9 := hld_in (x := upm S i 2 (irm (S i 2 + s_drift (S i 0) (S i 1) wind + 24) 12) i 3 + 1) (a := 0) (b := 999) (by decide)
      have e7 : upm S i 2 (irm (S i 2 + s_drift (S i 0) (S i 1) wind + 24) 12) i 7 = 1 := by simp [upm, ht]
      generalize upm S i 2 (irm (S i 2 + s_drift (S i 0) (S i 1) wind + 24) 12) = S1 at *
      unfold WC at *
      simp [upm]
      grind
    · exact h1
  · exact h1.rain hi _

theorem WS.wind {S : Mem} (hW : WS S) : -3 ≤ s_wind S ∧ s_wind S ≤ 3 := by
  unfold s_wind
  obtain ⟨j, hj, ej⟩ := irm8 hW.2.1.1 hW.2.1.2
  rw [ej, ix_n (by omega)]
  exact hW.2.2.2.1 j hj
theorem rain_keeps {S : Mem} {i : Nat} (hi : i < 8) (t : Int32) : (∀ a f, (a ≠ i → ¬ (a = 8 ∧ f = 2) → s_rain S i t a f = S a f)) ∧ s_rain S i t i 7 = S i 7 := by
  unfold s_rain s_salt
  split
  · exact ⟨fun a f h1 h2 => by simp [upm, h1, h2], by simp [upm]⟩
  · refine ⟨fun a f h1 h2 => by simp [upm, h1, h2], by simp [upm]⟩
theorem pass_keeps {S : Mem} {i : Nat} (hi : i < 8) (wind : Int32) : (∀ a f, (a ≠ i → ¬ (a = 8 ∧ f = 2) → s_pass S i wind a f = S a f)) ∧ s_pass S i wind i 7 = S i 7 := by
  unfold s_pass
  split
  · split
    · exact ⟨fun a f h1 h2 => by simp [upm, h1], by simp [upm]⟩
    · exact ⟨fun a f h1 h2 => by simp [upm, h1], by simp [upm]⟩
  · obtain ⟨h1, h2⟩ := rain_keeps (S := upm S i 2 (irm (S i 2 + s_drift (S i 0) (S i 1) wind + 24) 12)) hi (s_height (upm S i 2 (irm (S i 2 + s_drift (S i 0) (S i 1) wind + 24) 12)) i)
    exact ⟨fun a f q1 q2 => by rw [h1 a f q1 q2]; simp [upm, q1], by rw [h2]; simp [upm]⟩
theorem WS.hourL {S : Mem} {wind : Int32} (hW : WS S) (hw : -3 ≤ wind ∧ wind ≤ 3) : ∀ n, n ≤ 8 → WS (s_hourL S wind n) ∧ ∀ a f, ¬ a < n → ¬ (a = 8 ∧ f = 2) → s_hourL S wind n a f = S a f := by
  intro n
  induction n with
  | zero => intro _; exact ⟨hW, fun _ _ _ _ => rfl⟩
  | succ n ih =>
    intro hn
    obtain ⟨h1, h2⟩ := ih (by omega)
    unfold s_hourL
    split
    · rename_i q
      refine ⟨h1.pass (by omega) hw q, fun a f ha hf => ?_⟩
      rw [(pass_keeps (by omega) wind).1 a f (by omega) hf]
      exact h2 a f (by omega) hf
    · exact ⟨h1, fun a f ha hf => h2 a f (by omega) hf⟩
theorem made_of {S : Mem} (hW : WS S) : ∃ M, M ≤ 8 ∧ S 8 0 = nI M ∧ ix (S 8 0) = M := by
  obtain ⟨M, hM, e⟩ := nat_of (n := 8) (by decide) hW.1.1 hW.1.2
  exact ⟨M, hM, e, by rw [e, ix_n (by omega)]⟩
theorem M_pass {S h : Mem} {i N : Nat} {wind : Int32} (hN : 10 ≤ N) (hR : RowR (h 103) S) (hW : WS S) (hi : i < 8) (hw : -3 ≤ wind ∧ wind ≤ 3) (ht : S i 7 = 1) : ∃ h', F_X7_passes N 102 (nI i) wind h = some ((), h') ∧ RowR (h' 103) (s_pass S i wind) ∧ E103 h h' := by
  have hc := hW.2.2.2.2.2 i hi
  have hp := place_in (p := S i 2) (d := s_drift (S i 0) (S i 1) wind) (by unfold WC at hc; exact ⟨hc.2.2.2.2.1, hc.2.2.2.2.2.1⟩) (drift_in (by unfold WC at hc; exact ⟨hc.1, hc.2.1⟩) (by unfold WC at hc; exact ⟨hc.2.2.1, hc.2.2.2.1⟩) hw)
  unfold F_X7_passes s_pass
  rw [show F_X7_its 102 (nI i) (2 : Int32) h = _ from M_its (f := 2) hR hi (by omega), bnd_s, M_drift hR hi, bnd_s, gnz_n _ (by decide)]
  generalize irm (S i 2 + s_drift (S i 0) (S i 1) wind + 24) 12 = P at hp ⊢
  obtain ⟨h1, e1, hR1, hE1⟩ := M_puts hR hi (f := 2) (by omega) P
  rw [show F_X7_puts 102 (nI i) (2 : Int32) P h = _ from e1, bnd_s]
  have e2 : upm S i 2 P i 2 = P := by simp [upm]
  rw [M_height hR1 hi (by rw [e2]; exact hp.1) (by rw [e2]; exact hp.2), bnd_s]
  simp only
  generalize upm S i 2 P = S1 at *
  split
  · rw [show F_X7_its 102 (nI i) (1 : Int32) h1 = _ from M_its (f := 1) hR1 hi (by omega), bnd_s, gnz_n _ (by decide)]
    split
    · rw [show F_X7_its 102 (nI i) (3 : Int32) h1 = _ from M_its (f := 3) hR1 hi (by omega), bnd_s, M_held, bnd_s]
      obtain ⟨h2, e3, hR2, hE2⟩ := M_puts hR1 hi (f := 3) (by omega) (hld (S1 i 3 + 1) 0 999)
      rw [show F_X7_puts 102 (nI i) (3 : Int32) (hld (S1 i 3 + 1) 0 999) h1 = _ from e3, bnd_s]
      exact ⟨h2, rfl, hR2, hE1.tr hE2⟩
    · exact ⟨h1, rfl, hR1, hE1⟩
  · rw [M_height hR1 hi (by rw [e2]; exact hp.1) (by rw [e2]; exact hp.2), bnd_s]
    obtain ⟨h2, e3, hR2, hE2⟩ := M_rain hN hR1 hi (s_height S1 i)
    rw [e3, bnd_s]
    exact ⟨h2, rfl, hR2, hE1.tr hE2⟩
theorem M_hour {S h : Mem} {N : Nat} {wind : Int32} (hN : 10 ≤ N) (hR : RowR (h 103) S) (hW : WS S) (hw : -3 ≤ wind ∧ wind ≤ 3) : ∃ h', F_X7_oneHour N 102 wind h = some ((), h') ∧ RowR (h' 103) (s_hour S wind) ∧ E103 h h' := by
  obtain ⟨M, hM, e0, ex0⟩ := made_of hW
  have key : ∀ (d n m : Nat) (g : Mem) (kt : Mem → Option (Unit × Mem)), n + d = M → d < m → RowR (g 103) (s_hourL S wind n) → E103 h g → ∃ g', F_X7_oneHour_2 N 102 wind kt m (nI n) g = kt g' ∧ RowR (g' 103) (s_hourL S wind M) ∧ E103 h g' := by
    intro d
    induction d with
    | zero =>
      intro n m g kt hn hm hRg hEg
      obtain ⟨m, rfl⟩ : ∃ q, m = q + 1 := ⟨m - 1, by omega⟩
      have hnM : n = M := by omega
      subst hnM
      rw [F_X7_oneHour_2, show (0 : Int32) = nI 0 from rfl, gin_n _ (by omega) (by omega), M_row hRg (by omega)]
      have e8 : s_hourL S wind n (rpl 0).1 (rpl 0).2 = nI n := by
        show s_hourL S wind n 8 0 = _
        rw [(hW.hourL hw n hM).2 8 0 (by omega) (by omega), e0]
      rw [e8, if_pos (nI_le (Nat.le_refl n) (by omega))]
      exact ⟨g, rfl, hRg, hEg⟩
    | succ d ih =>
      intro n m g kt hn hm hRg hEg
      obtain ⟨m, rfl⟩ : ∃ q, m = q + 1 := ⟨m - 1, by omega⟩
      rw [F_X7_oneHour_2, show (0 : Int32) = nI 0 from rfl, gin_n _ (by omega) (by omega), M_row hRg (by omega)]
      have hL := hW.hourL hw n (by omega)
      have e8 : s_hourL S wind n (rpl 0).1 (rpl 0).2 = nI M := by
        show s_hourL S wind n 8 0 = _
        rw [hL.2 8 0 (by omega) (by omega), e0]
      rw [e8, if_neg (nI_ge (by omega) (by omega)), M_isThere hRg (by omega), bnd_s, nI_1]
      by_cases q : s_hourL S wind n n 7 = 1
      · rw [if_pos q, if_neg (by decide)]
        obtain ⟨g', e', hR', hE'⟩ := M_pass (i := n) hN hRg hL.1 (by omega) hw q
        rw [e', bnd_s]
        refine ih (n + 1) m g' kt (by omega) (by omega) ?_ (hEg.tr hE')
        rw [s_hourL, if_pos q]
        exact hR'
      · rw [if_neg q, if_pos (show (0 : Int32) = nI 0 from rfl)]
        refine ih (n + 1) m g kt (by omega) (by omega) ?_ hEg
        rw [s_hourL, if_neg q]
        exact hRg
  unfold F_X7_oneHour
  obtain ⟨g, eg, hRg, hEg⟩ := key M 0 N h (fun h5 => gin 1 262 (gin 1 262 (seqh (upm h5 (102 + 1) (ix 1) (h5 (102 + 1) (ix 1) + 1)) fun h6 => some ((), h6)))) (by omega) (by omega) hR E103.rf
  rw [show (0 : Int32) = nI 0 from rfl, eg]
  rw [show (1 : Int32) = nI 1 from rfl, gin_n _ (by omega) (by omega), gin_n _ (by omega) (by omega), sq_h, M_row hRg (by omega)]
  have hu := M_up hRg (j := 1) (by omega) (e := rfl) (s_hourL S wind M 8 1 + nI 1)
  refine ⟨_, rfl, ?_, hEg.tr hu.2⟩
  unfold s_hour
  rw [ex0]
  exact hu.1
