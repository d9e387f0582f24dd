/-! HOURS -/
theorem gin_d {α : Type} {i : Int32} {n : Nat} (o : Option α) (h : ¬ (i < 0 ∨ n ≤ i.toNatClampNeg)) : gin i n o = o := gin_v o h
theorem hour_keeps {S : Mem} {w : Int32} (hW : WS S) (hw : -3 ≤ w ∧ w ≤ 3) : ∀ a f, ¬ a < 8 → ¬ (a = 8 ∧ f = 2) → ¬ (a = 8 ∧ f = 1) → s_hour S w a f = S a f := by
  intro a f h1 h2 h3
  obtain ⟨M, hM, e0, ex0⟩ := made_of hW
  unfold s_hour
  rw [ex0]
  have := (hW.hourL hw M hM).2 a f (by omega) h2
  simp only [upm]
  rw [if_neg (by omega), this]
theorem WS.hour {S : Mem} {w : Int32} (hW : WS S) (hw : -3 ≤ w ∧ w ≤ 3) (hh : S 8 1 ≤ 19999) : WS (s_hour S w) ∧ s_hour S w 8 1 = S 8 1 + 1 := by
  obtain ⟨M, hM, e0, ex0⟩ := made_of hW
  unfold s_hour
  rw [ex0]
  obtain ⟨h1, h2⟩ := hW.hourL hw M hM
  have e1 := h2 8 1 (by omega) (by omega)
  rw [e1]
  refine ⟨h1.upg (by omega) (fun _ q => by omega) (fun _ _ => ?_) (fun _ q => by omega) (fun q => by omega) (fun q => by omega), by simp [upm]⟩
  have := hW.2.1
  grind
def s_hrs (S : Mem) : Nat → Mem
  | 0 => S
  | n + 1 => s_hour (s_hrs S n) (s_wind (s_hrs S n))
theorem WS.hrs {S : Mem} (hW : WS S) (hh : S 8 1 ≤ 10000) : ∀ n, n ≤ 1000 → WS (s_hrs S n) ∧ s_hrs S n 8 1 = S 8 1 + nI n ∧ ∀ a f, ¬ a < 8 → ¬ (a = 8 ∧ f = 2) → ¬ (a = 8 ∧ f = 1) → s_hrs S n a f = S a f := by
  intro n
  induction n with
  | zero =>
    intro _
    refine ⟨hW, ?_, fun _ _ _ _ _ => rfl⟩
    show S 8 1 = S 8 1 + 0
    grind
  | succ n ih =>
    intro hn
    obtain ⟨h1, h2, h3⟩ := ih (by omega)
    have hw := h1.wind
    obtain ⟨m, hm, em⟩ := nat_of (n := 10000) (by decide) hW.2.1.1 hh
    have h4 : s_hrs S n 8 1 ≤ 19999 := by
      rw [h2, em, nI_add]
      exact nI_le (b := 19999) (by omega) (by omega)
    obtain ⟨h5, h6⟩ := h1.hour hw h4
    refine ⟨h5, ?_, fun a f q1 q2 q3 => ?_⟩
    · show s_hour _ _ 8 1 = _
      rw [h6, h2, em, nI_add, nI_1, nI_add, Nat.add_assoc]
    · show s_hour _ _ a f = _
      rw [hour_keeps h1 hw a f q1 q2 q3, h3 a f q1 q2 q3]
section HR
variable {h S : Mem} {c N : Nat}
theorem C_hrs (hN : 1000 ≤ N) (R : SkyN h c S) (hW : WS S) (hh : S 8 1 ≤ 10000) {k : Nat} (hk : k ≤ 900) : ∃ h', F_X2_passHours N c (nI k) h = some ((), h') ∧ SkyN h' c (s_hrs S k) ∧ FT c h h' := by
  have key : ∀ (d n m : Nat) (g : Mem) (kt : Mem → Option (Unit × Mem)), n + d = k → d < m → SkyN g c (s_hrs S n) → FT c h g → ∃ g', F_X2_passHours_2 N c (nI k) kt m (nI n) g = kt g' ∧ SkyN g' c (s_hrs S k) ∧ FT c h g' := by
    intro d
    induction d with
    | zero =>
      intro n m g kt hn hm hRg hEg
      obtain ⟨m, rfl⟩ : ∃ q, m = q + 1 := ⟨m - 1, by omega⟩
      have hnM : n = k := by omega
      subst hnM
      rw [F_X2_passHours_2, if_pos (nI_le (Nat.le_refl n) (by omega))]
      exact ⟨g, rfl, hRg, hEg⟩
    | succ d ih =>
      intro n m g kt hn hm hRg hEg
      obtain ⟨m, rfl⟩ : ∃ q, m = q + 1 := ⟨m - 1, by omega⟩
      have h1 := (hW.hrs hh n (by omega)).1
      rw [F_X2_passHours_2, if_neg (nI_ge (by omega) (by omega)), C_windNow hRg h1, bnd_s]
      obtain ⟨g', e', hR', hE'⟩ := C_hourL (by omega : 10 ≤ N) hRg h1 h1.wind
      rw [e', bnd_s, nI_1]
      exact ih (n + 1) m g' kt (by omega) (by omega) hR' (hEg.tr hE')
  unfold F_X2_passHours
  obtain ⟨g, eg, hRg, hEg⟩ := key k 0 N h (fun h5 => some ((), h5)) (by omega) (by omega) R FT.rf
  rw [show (0 : Int32) = nI 0 from rfl, eg]
  exact ⟨g, rfl, hRg, hEg⟩
theorem M_then57 (hN : 1000 ≤ N) (hR : RowR (h 103) S) (hW : WS S) (hh : S 8 1 ≤ 10000) {k : Nat} (hk : k ≤ 900) (x2 x3 : Int32) (kt : Mem → Option (Int32 × Mem)) : ∃ h', F_X7_then_57 N 102 (nI k) x2 x3 kt N 0 h = kt h' ∧ RowR (h' 103) (s_hrs S k) ∧ E103 h h' := by
  have key : ∀ (d n m : Nat) (g : Mem), n + d = k → d < m → RowR (g 103) (s_hrs S n) → E103 h g → ∃ g', F_X7_then_57 N 102 (nI k) x2 x3 kt m (nI n) g = kt g' ∧ RowR (g' 103) (s_hrs S k) ∧ E103 h g' := by
    intro d
    induction d with
    | zero =>
      intro n m g hn hm hRg hEg
      obtain ⟨m, rfl⟩ : ∃ q, m = q + 1 := ⟨m - 1, by omega⟩
      have hnM : n = k := by omega
      subst hnM
      rw [F_X7_then_57, if_pos (nI_le (Nat.le_refl n) (by omega))]
      exact ⟨g, rfl, hRg, hEg⟩
    | succ d ih =>
      intro n m g hn hm hRg hEg
      obtain ⟨m, rfl⟩ : ∃ q, m = q + 1 := ⟨m - 1, by omega⟩
      have h1 := (hW.hrs hh n (by omega)).1
      rw [F_X7_then_57, if_neg (nI_ge (by omega) (by omega)), M_wind hRg h1, bnd_s]
      obtain ⟨g', e', hR', hE'⟩ := M_hour (by omega : 10 ≤ N) hRg h1 h1.wind
      rw [e', bnd_s, nI_1]
      exact ih (n + 1) m g' (by omega) (by omega) hR' (hEg.tr hE')
  exact key k 0 N h (by omega) (by omega) hR E103.rf
theorem M_goes0 (hN : 1000 ≤ N) (hR : RowR (h 103) S) (hW : WS S) (hh : S 8 1 ≤ 10000) {k : Nat} (hk : k ≤ 900) (kt : Mem → Option (Int32 × Mem)) : ∃ h', F_X7_goes_41 N 102 (nI k) 0 kt N 0 h = kt h' ∧ RowR (h' 103) (s_hrs S k) ∧ E103 h h' := by
  have key : ∀ (d n m : Nat) (g : Mem), n + d = k → d < m → RowR (g 103) (s_hrs S n) → E103 h g → ∃ g', F_X7_goes_41 N 102 (nI k) 0 kt m (nI n) g = kt g' ∧ RowR (g' 103) (s_hrs S k) ∧ E103 h g' := by
    intro d
    induction d with
    | zero =>
      intro n m g hn hm hRg hEg
      obtain ⟨m, rfl⟩ : ∃ q, m = q + 1 := ⟨m - 1, by omega⟩
      have hnM : n = k := by omega
      subst hnM
      rw [F_X7_goes_41, if_pos (nI_le (Nat.le_refl n) (by omega))]
      exact ⟨g, rfl, hRg, hEg⟩
    | succ d ih =>
      intro n m g hn hm hRg hEg
      obtain ⟨m, rfl⟩ : ∃ q, m = q + 1 := ⟨m - 1, by omega⟩
      have h1 := (hW.hrs hh n (by omega)).1
      rw [F_X7_goes_41, if_neg (nI_ge (by omega) (by omega)), if_pos rfl, M_wind hRg h1, bnd_s]
      obtain ⟨g', e', hR', hE'⟩ := M_hour (by omega : 10 ≤ N) hRg h1 h1.wind
      rw [e', bnd_s, nI_1]
      exact ih (n + 1) m g' (by omega) (by omega) hR' (hEg.tr hE')
  exact key k 0 N h (by omega) (by omega) hR E103.rf
/-! the wind drawn -/
def s_lot (z : Int32) : Int32 := z * 1103515245 + 12345
def s_drw (z : Int32) : Int32 := irm (iush (s_lot z) 8) 7 - 3
theorem drw_in (z : Int32) : -3 ≤ s_drw z ∧ s_drw z ≤ 3 := by
  unfold s_drw
  have h1 : 0 ≤ iush (s_lot z) 8 := by
    have e : (iush (s_lot z) 8).toBitVec = (s_lot z).toBitVec >>> (8 : Nat) := rfl
    refine Int32.not_lt.mp (fun q => ?_)
    have e1 : iush (s_lot z) 8 < 0 ↔ ((iush (s_lot z) 8).toBitVec.slt 0#32) = true := Iff.rfl
    rw [e1, BitVec.slt_zero_eq_msb, e, BitVec.msb_ushiftRight] at q
    simp at q
  have h2 := irm_toInt (iush (s_lot z) 8) 7
  generalize iush (s_lot z) 8 = x at *
  have h3 : 0 ≤ (irm x 7).toInt ∧ (irm x 7).toInt < 7 := by
    rw [h2, show (7 : Int32).toInt = 7 from rfl]
    have : 0 ≤ x.toInt := Int32.le_iff_toInt_le.mp h1
    rw [Int.tmod_eq_emod_of_nonneg this]
    omega
  have h4 : 0 ≤ irm x 7 ∧ irm x 7 ≤ 6 := ⟨Int32.le_iff_toInt_le.mpr h3.1, Int32.le_iff_toInt_le.mpr (by show _ ≤ (6 : Int); omega)⟩
  grind
def s_lse (S : Mem) : Nat → Mem
  | 0 => S
  | n + 1 => s_hour (upm (s_lse S n) 8 3 (s_lot (s_lse S n 8 3))) (s_drw (s_lse S n 8 3))
theorem WS.lse {S : Mem} (hW : WS S) (hh : S 8 1 ≤ 10000) : ∀ n, n ≤ 1000 → WS (s_lse S n) ∧ s_lse S n 8 1 = S 8 1 + nI n ∧ ∀ a f, ¬ a < 8 → ¬ (a = 8 ∧ f = 2) → ¬ (a = 8 ∧ f = 1) → ¬ (a = 8 ∧ f = 3) → s_lse S n a f = S a f := by
  intro n
  induction n with
  | zero =>
    intro _
    refine ⟨hW, ?_, fun _ _ _ _ _ _ => rfl⟩
    show S 8 1 = S 8 1 + 0
    grind
  | succ n ih =>
    intro hn
    obtain ⟨h1, h2, h3⟩ := ih (by omega)
    have hw := drw_in (s_lse S n 8 3)
    obtain ⟨m, hm, em⟩ := nat_of (n := 10000) (by decide) hW.2.1.1 hh
    have h1' := h1.upg (a := 8) (f := 3) (x := s_lot (s_lse S n 8 3)) (by omega) (fun _ q => by omega) (fun _ q => by omega) (fun _ q => by omega) (fun q => by omega) (fun q => by omega)
    have e8 : upm (s_lse S n) 8 3 (s_lot (s_lse S n 8 3)) 8 1 = s_lse S n 8 1 := by simp [upm]
    have h4 : upm (s_lse S n) 8 3 (s_lot (s_lse S n 8 3)) 8 1 ≤ 19999 := by
      rw [e8, h2, em, nI_add]
      exact nI_le (b := 19999) (by omega) (by omega)
    obtain ⟨h5, h6⟩ := h1'.hour hw h4
    refine ⟨h5, ?_, fun a f q1 q2 q3 q4 => ?_⟩
    · show s_hour _ _ 8 1 = _
      rw [h6, e8, h2, em, nI_add, nI_1, nI_add, Nat.add_assoc]
    · show s_hour _ _ a f = _
      rw [hour_keeps h1' hw a f q1 q2 q3, ← h3 a f q1 q2 q3 q4]
      simp [upm, q4]
theorem C_loose18 (hN : 1000 ≤ N) {h : Mem} (R : SkyN h 1 S) (hW : WS S) (hh : S 8 1 ≤ 10000) {k : Nat} (hk : k ≤ 900) (kt : Mem → Option (Int32 × Mem)) : ∃ h', F_X6_loose_18 N 0 (nI k) kt N 0 h = kt h' ∧ SkyN h' 1 (s_lse S k) ∧ FT 1 h h' := by
  have key : ∀ (d n m : Nat) (g : Mem), n + d = k → d < m → SkyN g 1 (s_lse S n) → FT 1 h g → ∃ g', F_X6_loose_18 N 0 (nI k) kt m (nI n) g = kt g' ∧ SkyN g' 1 (s_lse S k) ∧ FT 1 h g' := by
    intro d
    induction d with
    | zero =>
      intro n m g hn hm hRg hEg
      obtain ⟨m, rfl⟩ : ∃ q, m = q + 1 := ⟨m - 1, by omega⟩
      have hnM : n = k := by omega
      subst hnM
      rw [F_X6_loose_18, if_pos (nI_le (Nat.le_refl n) (by omega))]
      exact ⟨g, rfl, hRg, hEg⟩
    | succ d ih =>
      intro n m g hn hm hRg hEg
      obtain ⟨m, rfl⟩ : ∃ q, m = q + 1 := ⟨m - 1, by omega⟩
      have h1 := (hW.lse hh n (by omega)).1
      rw [F_X6_loose_18, if_neg (nI_ge (by omega) (by omega))]
      unfold F_X2_drawWind
      rw [C_z hRg, sq_h, gnz_n _ (by decide), bnd_s]
      have hR2 := hRg.up (v_8 (f := 3) (by omega)) rfl (s_lot (s_lse S n 8 3))
      have hE2 : FT 1 g (upm g (0 + 1) 6 (s_lot (s_lse S n 8 3))) := FT.up (by omega)
      have e6 : upm g (0 + 1) 6 (s_lot (s_lse S n 8 3)) (0 + 1) 6 = s_lot (s_lse S n 8 3) := by simp [upm]
      have h1' := h1.upg (a := 8) (f := 3) (x := s_lot (s_lse S n 8 3)) (by omega) (fun _ q => by omega) (fun _ q => by omega) (fun _ q => by omega) (fun q => by omega) (fun q => by omega)
      obtain ⟨g', e', hR', hE'⟩ := C_hourL (wind := s_drw (s_lse S n 8 3)) (by omega : 10 ≤ N) hR2 h1' (drw_in _)
      have e7 : F_X2_passHour N (0 + 1) (irm (iush (upm g (0 + 1) 6 (s_lse S n 8 3 * 1103515245 + 12345) (0 + 1) 6) 8) 7 - 3) (upm g (0 + 1) 6 (s_lse S n 8 3 * 1103515245 + 12345)) = some ((), g') := by
        have : upm g (0 + 1) 6 (s_lse S n 8 3 * 1103515245 + 12345) (0 + 1) 6 = s_lot (s_lse S n 8 3) := e6
        rw [this]
        exact e'
      rw [e7, bnd_s, nI_1]
      exact ih (n + 1) m g' (by omega) (by omega) hR' (hEg.tr (hE2.tr hE'))
  exact key k 0 N h (by omega) (by omega) R FT.rf
theorem M_goes1 (hN : 1000 ≤ N) (hR : RowR (h 103) S) (hW : WS S) (hh : S 8 1 ≤ 10000) {k : Nat} (hk : k ≤ 900) (kt : Mem → Option (Int32 × Mem)) : ∃ h', F_X7_goes_41 N 102 (nI k) 1 kt N 0 h = kt h' ∧ RowR (h' 103) (s_lse S k) ∧ E103 h h' := by
  have key : ∀ (d n m : Nat) (g : Mem), n + d = k → d < m → RowR (g 103) (s_lse S n) → E103 h g → ∃ g', F_X7_goes_41 N 102 (nI k) 1 kt m (nI n) g = kt g' ∧ RowR (g' 103) (s_lse S k) ∧ E103 h g' := by
    intro d
    induction d with
    | zero =>
      intro n m g hn hm hRg hEg
      obtain ⟨m, rfl⟩ : ∃ q, m = q + 1 := ⟨m - 1, by omega⟩
      have hnM : n = k := by omega
      subst hnM
      rw [F_X7_goes_41, if_pos (nI_le (Nat.le_refl n) (by omega))]
      exact ⟨g, rfl, hRg, hEg⟩
    | succ d ih =>
      intro n m g hn hm hRg hEg
      obtain ⟨m, rfl⟩ : ∃ q, m = q + 1 := ⟨m - 1, by omega⟩
      have h1 := (hW.lse hh n (by omega)).1
      rw [F_X7_goes_41, if_neg (nI_ge (by omega) (by omega)), if_neg (by decide)]
      unfold F_X7_drawn
      have e3 : g (102 + 1) (ix (3 : Int32)) = s_lse S n 8 3 := M_row (j := 3) hRg (by omega)
      rw [gin_d _ (by decide), gin_d _ (by decide), sq_h, gin_d _ (by decide), gnz_n _ (by decide), bnd_s, e3]
      obtain ⟨hR2, hE2⟩ := M_up hRg (j := 3) (by omega) (e := rfl) (s_lot (s_lse S n 8 3))
      have h1' := h1.upg (a := 8) (f := 3) (x := s_lot (s_lse S n 8 3)) (by omega) (fun _ q => by omega) (fun _ q => by omega) (fun _ q => by omega) (fun q => by omega) (fun q => by omega)
      obtain ⟨g', e', hR', hE'⟩ := M_hour (wind := s_drw (s_lse S n 8 3)) (by omega : 10 ≤ N) hR2 h1' (drw_in _)
      have e7 : F_X7_oneHour N 102 (irm (iush (upm g (102 + 1) (ix 3) (s_lse S n 8 3 * 1103515245 + 12345) (102 + 1) (ix 3)) 8) 7 - 3) (upm g (102 + 1) (ix 3) (s_lse S n 8 3 * 1103515245 + 12345)) = some ((), g') := by
        have : upm g (102 + 1) (ix 3) (s_lse S n 8 3 * 1103515245 + 12345) (102 + 1) (ix 3) = s_lot (s_lse S n 8 3) := by simp [upm, s_lot]
        rw [this]
        exact e'
      rw [e7, bnd_s, nI_1]
      exact ih (n + 1) m g' (by omega) (by omega) hR' (hEg.tr (hE2.tr hE'))
  exact key k 0 N h (by omega) (by omega) hR E103.rf
end HR
