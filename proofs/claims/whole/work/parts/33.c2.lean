/-! THE CLASS's side: an hour -/
theorem upm_self {S : Mem} {a f : Nat} : upm S a f (S a f) = S := by
  funext k j
  unfold upm
  split
  · rename_i q
    rw [q.1, q.2]
  · rfl
theorem salt_sea {S : Mem} {i s : Nat} {x : Int32} (hi : i < 8) : s_salt (upm S 8 2 x) i s = upm (s_salt S i s) 8 2 x := by
  have e : ∀ f, upm S 8 2 x i f = S i f := fun f => by simp [upm, show i ≠ 8 by omega]
  unfold s_salt
  simp only [e]
  funext k j
  simp only [upm]
  repeat' split
  all_goals first | rfl | omega
section C2
variable {h S : Mem} {c i : Nat}
theorem C_allSalts (R : SkyN h c S) (hi : i < 8) : F_X0_allSalts (ca c i) h = some (S i 4 + S i 5 + S i 6, h) := by
  unfold F_X0_allSalts
  rw [show (0 : Int32) = nI 0 from rfl, show (1 : Int32) = nI 1 from rfl, show (2 : Int32) = nI 2 from rfl, gin_n _ (by omega) (by omega), gin_n _ (by omega) (by omega), gin_n _ (by omega) (by omega), ix_n (by omega), ix_n (by omega), ix_n (by omega), C_s R hi (by omega), C_s R hi (by omega), C_s R hi (by omega)]
theorem tst_in {x y : Int32} (hx : 0 ≤ x ∧ x ≤ 200000) (hy : 0 < y ∧ y ≤ 10000) : 0 ≤ 100 * x / y := by
  obtain ⟨a, ha, rfl⟩ := nat_of (n := 200000) (by decide) hx.1 hx.2
  obtain ⟨b, hb, rfl⟩ := nat_of (n := 10000) (by decide) (show 0 ≤ y by grind) hy.2
  rw [show (100 : Int32) = nI 100 from rfl, pk_mul, pk_div (by omega) (Nat.pos_of_ne_zero (fun q => by subst q; exact absurd hy.1 (by decide))) (by omega)]
  exact Int32.not_lt.mp (nI_pos (Nat.lt_of_le_of_lt (Nat.div_le_self _ _) (by omega)))
theorem C_tasteBy {x y : Int32} (h : Mem) (hx : 0 ≤ x ∧ x ≤ 200000) (hy : 0 ≤ y ∧ y ≤ 10000) : F_X6_tasteBy x y h = some (s_tst x y, h) := by
  unfold F_X6_tasteBy s_tst
  by_cases q : y = 0
  · subst q
    rfl
  · rw [if_neg q, if_pos (by grind), gnz_n _ q, C_min, bnd_s]
    have := tst_in hx (y := y) (by grind)
    unfold hld
    congr 2
    grind
theorem C_taste (R : SkyN h c S) (hi : i < 8) (hC : WC S i) : F_X0_taste (ca c i) h = some (s_taste S i, h) := by
  unfold F_X0_taste s_taste
  rw [C_allSalts R hi, bnd_s, C_3 R hi, C_tasteBy h (by unfold WC at hC; grind) (by unfold WC at hC; grind), bnd_s]
theorem C_floor8 {x : Int32} (h : Mem) (h0 : 0 ≤ x) : F_J9_floorMod_7cf53 x 8 h = some (irm x 8, h) := by
  unfold F_J9_floorMod_7cf53
  rw [gnz_n _ (by decide), sq_i, if_pos]
  have e1 : x < 0 ↔ (x.toBitVec.slt 0#32) = true := Iff.rfl
  have e2 : x ^^^ 8 < 0 ↔ ((x.toBitVec ^^^ 8#32).slt 0#32) = true := Iff.rfl
  have hx : ¬ x < 0 := by grind
  refine Int32.not_lt.mp (fun q => hx ?_)
  rw [e2, BitVec.slt_zero_eq_msb, BitVec.msb_xor] at q
  rw [e1, BitVec.slt_zero_eq_msb]
  have e3 : (8#32).msb = false := by decide
  rw [e3] at q
  simpa using q
theorem C_windNow (R : SkyN h c S) (hW : WS S) : F_X2_windNow c h = some (s_wind S, h) := by
  unfold F_X2_windNow s_wind
  obtain ⟨j, hj, ej⟩ := irm8 hW.2.1.1 hW.2.1.2
  rw [C_hour R, C_floor8 h hW.2.1.1, bnd_s, ej, gin_n _ hj (by omega), ix_n (by omega), R.at (v_9 hj) cp_9]
theorem C_in {x a b : Int32} (h : Mem) (hx : a ≤ x ∧ x ≤ b) : F_X6_within x a b h = some (1, h) := by
  unfold F_X6_within
  rw [if_neg (by grind), if_neg (by grind)]
theorem C_isPlace {x : Int32} (h : Mem) (hx : 0 ≤ x ∧ x ≤ 11) : F_X6_isPlace x h = some (1, h) := by
  unfold F_X6_isPlace
  rw [C_in h hx, bnd_s, gbo_n _ (Or.inr rfl)]
theorem C_height (R : SkyN h c S) (hi : i < 8) (h0 : 0 ≤ S i 2) (h1 : S i 2 ≤ 11) : F_X2_heightUnder c (ca c i) h = some (s_height S i, h) := by
  unfold F_X2_heightUnder s_height
  rw [C_2 R hi, C_isPlace h ⟨h0, h1⟩, bnd_s, if_neg (by decide)]
  obtain ⟨j, hj, ej⟩ := nat_of (n := 11) (by decide) h0 h1
  rw [sq_i, C_2 R hi, ej, gin_n _ (by omega) (by omega), ix_n (by omega), R.at (v_10 (by omega)) cp_10]
theorem C_placeBy (R : SkyN h c S) (hi : i < 8) {p wind : Int32} (hC : WC S i) (hp : 0 ≤ p ∧ p ≤ 11) (hw : -3 ≤ wind ∧ wind ≤ 3) : F_X0_placeBy (ca c i) p wind h = some (irm (p + s_drift (S i 0) (S i 1) wind + 24) 12, h) := by
  unfold F_X0_placeBy
  rw [C_drift R hi, bnd_s, C_floor12 h hp (drift_in (by unfold WC at hC; exact ⟨hC.1, hC.2.1⟩) (by unfold WC at hC; exact ⟨hC.2.2.1, hC.2.2.2.1⟩) hw), bnd_s]
/-- a cell of a cloud changes -/
theorem C_up0 (R : SkyN h c S) (hi : i < 8) {f : Nat} (hf : f < 4) (x : Int32) : SkyN (upm h (ca c i) f x) c (upm S i f x) ∧ FT c h (upm h (ca c i) f x) := ⟨R.up (v_c hi (by omega)) (cp_0 hi hf) x, FT.up (by unfold ca; omega)⟩
theorem C_up7 (R : SkyN h c S) (hi : i < 8) (x : Int32) : SkyN (upm h (ca c i) 4 x) c (upm S i 7 x) ∧ FT c h (upm h (ca c i) 4 x) := ⟨R.up (v_c hi (by omega)) (cp_7 hi) x, FT.up (by unfold ca; omega)⟩
theorem C_ups (R : SkyN h c S) (hi : i < 8) {s : Nat} (hs : s < 3) (x : Int32) : SkyN (upm h (ca c i + 1) s x) c (upm S i (4 + s) x) ∧ FT c h (upm h (ca c i + 1) s x) := ⟨R.up (v_c hi (by omega)) (cp_s hi hs) x, FT.up (by unfold ca; omega)⟩
theorem C_rain {N : Nat} (hN : 10 ≤ N) (R : SkyN h c S) (hi : i < 8) {t : Int32} (hC : WC S i) (ht : 0 < t ∧ t ≤ 9) : ∃ h', F_X0_rainOverHill N (ca c i) t h = some (s_rains S i t, h') ∧ SkyN h' c (if s_rains S i t ≤ 0 then upm S i 3 (S i 3 - s_rains S i t) else s_salt (s_salt (s_salt (upm S i 3 (S i 3 - s_rains S i t)) i 0) i 1) i 2) ∧ FT c h h' := by
  unfold F_X0_rainOverHill
  rw [C_rainAt R hi hC ht, bnd_s, sq_h, C_3 R hi]
  obtain ⟨R1, E1⟩ := C_up0 R hi (f := 3) (by omega) (S i 3 - s_rains S i t)
  revert R1 E1
  generalize upm h (ca c i) 3 (S i 3 - s_rains S i t) = h1
  generalize upm S i 3 (S i 3 - s_rains S i t) = S1
  generalize s_rains S i t = r
  intro R1 E1
  obtain ⟨n, rfl⟩ : ∃ n, N = n + 10 := ⟨N - 10, by omega⟩
  by_cases hr : r ≤ 0
  · rw [if_pos hr, show (n + 10) = (n + 9) + 1 from rfl, F_X0_rainOverHill_18, if_neg (by decide), if_pos hr]
    exact ⟨h1, rfl, R1, E1⟩
  · rw [if_neg hr]
    have step : ∀ (m s : Nat) (T g : Mem), s < 3 → SkyN g c T → ∃ g', F_X0_rainOverHill_18 (n + 10) (ca c i) r (fun h7 => some (r, h7)) (m + 1) (nI s) g = F_X0_rainOverHill_18 (n + 10) (ca c i) r (fun h7 => some (r, h7)) m (nI (s + 1)) g' ∧ SkyN g' c (s_salt T i s) ∧ FT c g g' := by
      intro m s T g hs hT
      rw [F_X0_rainOverHill_18, if_neg (show ¬ (3 : Int32) ≤ nI s from nI_ge (a := s) (b := 3) hs (by omega)), if_neg hr, C_keeps hT hi, bnd_s, nI_1]
      unfold s_salt
      split
      · rw [gin_n _ hs (by omega), gin_n _ hs (by omega), gnz_n _ (by decide), gin_n _ hs (by omega), sq_h, ix_n (by omega), C_s hT hi hs]
        obtain ⟨h2, h3⟩ := C_ups hT hi hs (T i (4 + s) - T i (4 + s) / 10)
        exact ⟨_, rfl, h2, h3⟩
      · rw [upm_self]
        exact ⟨g, rfl, hT, FT.rf⟩
    obtain ⟨g1, a1, b1, c1⟩ := step (n + 9) 0 S1 h1 (by omega) R1
    obtain ⟨g2, a2, b2, c2⟩ := step (n + 8) 1 _ g1 (by omega) b1
    obtain ⟨g3, a3, b3, c3⟩ := step (n + 7) 2 _ g2 (by omega) b2
    rw [show (0 : Int32) = nI 0 from rfl, show n + 10 = n + 9 + 1 from rfl, a1, a2, a3]
    refine ⟨g3, ?_, b3, E1.tr (c1.tr (c2.tr c3))⟩
    rw [F_X0_rainOverHill_18, if_pos (show (3 : Int32) ≤ nI (2 + 1) from nI_le (a := 3) (b := 3) (by omega) (by omega))]
theorem C_pass {N : Nat} {wind : Int32} (hN : 10 ≤ N) (R : SkyN h c S) (hW : WS S) (hi : i < 8) (hw : -3 ≤ wind ∧ wind ≤ 3) : ∃ h', F_X2_moveOne N c (ca c i) wind h = some ((), h') ∧ SkyN h' c (s_pass S i wind) ∧ FT c h h' := by
  have hc := hW.2.2.2.2.2 i hi
  have hpl : 0 ≤ S i 2 ∧ S i 2 ≤ 11 := by unfold WC at hc; exact ⟨hc.2.2.2.2.1, hc.2.2.2.2.2.1⟩
  have hp := place_in (p := S i 2) (d := s_drift (S i 0) (S i 1) wind) hpl (drift_in (by unfold WC at hc; exact ⟨hc.1, hc.2.1⟩) (by unfold WC at hc; exact ⟨hc.2.2.1, hc.2.2.2.1⟩) hw)
  unfold F_X2_moveOne s_pass
  rw [C_2 R hi, C_placeBy R hi hc hpl hw, bnd_s]
  have hc1 : WC (upm S i 2 (irm (S i 2 + s_drift (S i 0) (S i 1) wind + 24) 12)) i := by
    unfold WC at *
    simp [upm]
    grind
  generalize irm (S i 2 + s_drift (S i 0) (S i 1) wind + 24) 12 = P at hp hc1 ⊢
  obtain ⟨R1, E1⟩ := C_up0 R hi (f := 2) (by omega) P
  have e2 : upm S i 2 P i 2 = P := by simp [upm]
  have hh : ∀ j, j < 12 → 0 ≤ upm S i 2 P 10 j ∧ upm S i 2 P 10 j ≤ 9 := fun j hj => by
    have := hW.2.2.2.2.1 j hj
    simp [upm, show 10 ≠ i by omega]
    exact this
  have hsea : 0 ≤ upm S i 2 P 8 2 ∧ upm S i 2 P 8 2 ≤ 999999 := by
    have := hW.2.2.1
    simp [upm, show 8 ≠ i by omega]
    exact this
  rw [sq_h, C_height R1 hi (by rw [e2]; exact hp.1) (by rw [e2]; exact hp.2), bnd_s]
  have hht : s_height (upm S i 2 P) i ≤ 9 := by
    obtain ⟨j, hj, ej⟩ := nat_of (x := P) (n := 11) (by decide) hp.1 hp.2
    unfold s_height
    rw [e2, ej, ix_n (by omega)]
    rw [ej] at hh
    exact (hh j (by omega)).2
  simp only
  clear hh
  generalize upm h (ca c i) 2 P = h1 at *
  generalize upm S i 2 P = S1 at *
  split
  · unfold F_X0_drinkFromSea
    rw [gnz_n _ (by decide), C_m R1 hi, C_3 R1 hi]
    split
    · rw [C_min, bnd_s, sq_h, bnd_s]
      obtain ⟨R2, E2⟩ := C_up0 R1 hi (f := 3) (by omega) (if S1 i 3 + 1 < 999 then S1 i 3 + 1 else 999)
      refine ⟨_, rfl, ?_, E1.tr E2⟩
      have e : (if S1 i 3 + 1 < 999 then S1 i 3 + 1 else 999) = hld (S1 i 3 + 1) 0 999 := by
        unfold hld
        unfold WC at hc1
        grind
      rw [← e]
      exact R2
    · rw [bnd_s]
      exact ⟨h1, rfl, R1, E1⟩
  · rename_i q
    obtain ⟨h2, e3, R2, E2⟩ := C_rain hN R1 hi hc1 (t := s_height S1 i) ⟨by grind, hht⟩
    rw [e3, bnd_s, C_min, bnd_s, sq_h, C_sea R1]
    have hr := rains_in (s_height S1 i) hc1
    have e9 : (if S1 8 2 + s_rains S1 i (s_height S1 i) < 999999 then S1 8 2 + s_rains S1 i (s_height S1 i) else 999999) = hld (S1 8 2 + s_rains S1 i (s_height S1 i)) 0 999999 := by
      unfold hld
      unfold WC at hc1
      grind
    rw [e9]
    refine ⟨_, rfl, ?_, (E1.tr E2).tr (FT.up (by omega))⟩
    have R3 := R2.up (v_8 (f := 2) (by omega)) rfl (hld (S1 8 2 + s_rains S1 i (s_height S1 i)) 0 999999)
    have e8 : upm S1 i 3 (S1 i 3 - s_rains S1 i (s_height S1 i)) 8 2 = S1 8 2 := by simp [upm, show 8 ≠ i by omega]
    have e7 : s_rain S1 i (s_height S1 i) = upm (if s_rains S1 i (s_height S1 i) ≤ 0 then upm S1 i 3 (S1 i 3 - s_rains S1 i (s_height S1 i)) else s_salt (s_salt (s_salt (upm S1 i 3 (S1 i 3 - s_rains S1 i (s_height S1 i))) i 0) i 1) i 2) 8 2 (hld (S1 8 2 + s_rains S1 i (s_height S1 i)) 0 999999) := by
      unfold s_rain
      simp only [e8]
      split
      · rfl
      · rw [salt_sea hi, salt_sea hi, salt_sea hi]
    rw [e7]
    exact R3
theorem ca_eq (c i : Nat) (hi : i < 2 ^ 31) : (c + 1) + 11 + 2 * ix (nI i) = ca c i := by
  rw [ix_n hi]
  rfl
theorem C_hourL {N : Nat} {wind : Int32} (hN : 10 ≤ N) (R : SkyN h c S) (hW : WS S) (hw : -3 ≤ wind ∧ wind ≤ 3) : ∃ h', F_X2_passHour N c wind h = some ((), h') ∧ SkyN h' c (s_hour S wind) ∧ FT c h h' := by
  obtain ⟨M, hM, e0, ex0⟩ := made_of hW
  have key : ∀ (d n m : Nat) (g : Mem) (kt : Mem → Option (Unit × Mem)), n + d = M → d < m → SkyN g c (s_hourL S wind n) → FT c h g → ∃ g', F_X2_passHour_2 N c wind kt m (nI n) g = kt g' ∧ SkyN g' c (s_hourL S wind M) ∧ FT c h g' := by
    intro d
    induction d with
    | zero =>
      intro n m g kt hn hm hRg hEg
      obtain ⟨m, rfl⟩ : ∃ q, m = q + 1 := ⟨m - 1, by omega⟩
      have hnM : n = M := by omega
      subst hnM
      rw [F_X2_passHour_2, C_made hRg, (hW.hourL hw n hM).2 8 0 (by omega) (by omega), e0, if_pos (nI_le (Nat.le_refl n) (by omega))]
      exact ⟨g, rfl, hRg, hEg⟩
    | succ d ih =>
      intro n m g kt hn hm hRg hEg
      obtain ⟨m, rfl⟩ : ∃ q, m = q + 1 := ⟨m - 1, by omega⟩
      have hL := hW.hourL hw n (by omega)
      rw [F_X2_passHour_2, C_made hRg, hL.2 8 0 (by omega) (by omega), e0, if_neg (nI_ge (by omega) (by omega)), gin_n _ (show n < 8 by omega) (by omega), ca_eq c n (by omega), C_7 hRg (by omega), nI_1]
      have h7 := hL.1.2.2.2.2.2 n (by omega)
      by_cases q : s_hourL S wind n n 7 = 1
      · rw [if_neg (by rw [q]; decide), gin_n _ (show n < 8 by omega) (by omega)]
        obtain ⟨g', e', hR', hE'⟩ := C_pass (i := n) hN hRg hL.1 (by omega) hw
        rw [e', bnd_s]
        refine ih (n + 1) m g' kt (by omega) (by omega) ?_ (hEg.tr hE')
        rw [s_hourL, if_pos q]
        exact hR'
      · rw [if_pos (by unfold WC at h7; grind)]
        refine ih (n + 1) m g kt (by omega) (by omega) ?_ hEg
        rw [s_hourL, if_neg q]
        exact hRg
  unfold F_X2_passHour
  obtain ⟨g, eg, hRg, hEg⟩ := key M 0 N h (fun h5 => seqh (upm h5 c 4 ((h5 c 4) + (1 : Int32))) (fun h6 => some ((), h6))) (by omega) (by omega) R FT.rf
  rw [show (0 : Int32) = nI 0 from rfl, eg, sq_h, C_hour hRg]
  refine ⟨_, rfl, ?_, hEg.tr (FT.up (by omega))⟩
  unfold s_hour
  rw [ex0]
  exact hRg.up (v_8 (f := 1) (by omega)) rfl _
end C2
