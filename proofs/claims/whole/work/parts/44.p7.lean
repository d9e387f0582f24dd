/-! the first hour when something is so -/
def fh (S : Mem) (p : Mem → Bool) : Nat → Nat → Nat
  | n, 0 => n
  | n, d + 1 => if p (s_hrs S n) then n else fh S p (n + 1) d
theorem fh_ge {S : Mem} {p : Mem → Bool} : ∀ d n, n ≤ fh S p n d ∧ fh S p n d ≤ n + d := by
  intro d
  induction d with
  | zero => intro n; exact ⟨Nat.le_refl _, Nat.le_refl _⟩
  | succ d ih =>
    intro n
    rw [fh]
    split
    · omega
    · have := ih (n + 1)
      omega
section P7
variable {c m S : Mem} {k N : Nat}
theorem C_hr1 {g : Mem} (hN : 1000 ≤ N) (hW : WS S) (hh : S 8 1 ≤ 10000) {n : Nat} (hn : n ≤ 900) (R : SkyR g 57 (s_hrs S n)) : ∃ g', F_X2_passHours N (0 + 57) 1 g = some ((), g') ∧ SkyR g' 57 (s_hrs S (n + 1)) ∧ FS 57 g g' := by
  obtain ⟨w1, w2, w3⟩ := hW.hrs hh n (by omega)
  obtain ⟨g', e, R', F⟩ : ∃ h', F_X2_passHours N 57 (nI 1) g = some ((), h') ∧ SkyN h' 57 (s_hour (s_hrs S n) (s_wind (s_hrs S n))) ∧ FT 57 g h' := by
    obtain ⟨h', e, R', F⟩ := C_hourL (by omega : 10 ≤ N) R.1 w1 w1.wind
    refine ⟨h', ?_, R', F⟩
    unfold F_X2_passHours
    obtain ⟨q, rfl⟩ : ∃ q, N = q + 2 := ⟨N - 2, by omega⟩
    rw [show q + 2 = q + 1 + 1 from rfl, F_X2_passHours_2, if_neg (by decide), C_windNow R.1 w1, bnd_s]
    rw [show q + 1 + 1 = q + 2 from rfl, e, bnd_s, F_X2_passHours_2, if_pos (by decide)]
  have w4 := (hW.hrs hh (n + 1) (by omega)).2.2
  have w := fun a f h1 h2 h3 => (w4 a f h1 h2 h3).trans (w3 a f h1 h2 h3).symm
  exact ⟨g', e, R.ft R' F (w 8 6 (by omega) (by omega) (by omega)) (w 8 7 (by omega) (by omega) (by omega)) (by funext f; exact w 13 f (by omega) (by omega) (by omega)) (by funext f; exact w 14 f (by omega) (by omega) (by omega)), F.FS⟩
theorem M_hr1 {h : Mem} (hN : 1000 ≤ N) (hW : WS S) (hh : S 8 1 ≤ 10000) {n : Nat} (hn : n ≤ 900) (R : RowR (h 103) (s_hrs S n)) (kt : Mem → Option (Int32 × Mem)) : ∃ h', (bnd (F_X7_windNow 102 h) (fun r5 h6 => bnd (F_X7_oneHour N 102 r5 h6) (fun _ h8 => kt h8))) = kt h' ∧ RowR (h' 103) (s_hrs S (n + 1)) ∧ E103 h h' := by
  have w1 := (hW.hrs hh n (by omega)).1
  obtain ⟨h', e, R', F⟩ := M_hour (by omega : 10 ≤ N) R w1 w1.wind
  exact ⟨h', by rw [M_wind R w1, bnd_s, e, bnd_s], R', F⟩
def nobP (i : Nat) (T : Mem) : Bool := decide (¬ s_nob T i = 0)
theorem nob_t {i : Nat} {T : Mem} (q : ¬ s_nob T i = 0) : nobP i T = true := decide_eq_true q
theorem nob_f {i : Nat} {T : Mem} (q : s_nob T i = 0) : ¬ nobP i T = true := by simp [nobP, q]
theorem C_nob28 (hN : 1000 ≤ N) (hW : WS S) (hh : S 8 1 ≤ 10000) {i : Nat} (hi : i < 8) : ∀ (d n mc : Nat) (g : Mem), n + d = 201 → d < mc → SkyR g 57 (s_hrs S n) → ∃ g', (∀ kt, F_X6_nobodyBy_28 N 0 (nI i) kt mc (nI n) g = if fh S (nobP i) n d ≤ 200 then some (nI (fh S (nobP i) n d), g') else kt g') ∧ FS 57 g g' := by
  intro d
  induction d with
  | zero =>
    intro n mc g hn hm R
    obtain ⟨mc, rfl⟩ : ∃ q, mc = q + 1 := ⟨mc - 1, by omega⟩
    have hn8 : n = 201 := by omega
    subst hn8
    refine ⟨g, fun kt => ?_, FS.rf⟩
    rw [F_X6_nobodyBy_28, if_pos (by decide), if_neg (show ¬ fh S (nobP i) 201 0 ≤ 200 by rw [fh]; omega)]
  | succ d ih =>
    intro n mc g hn hm R
    obtain ⟨mc, rfl⟩ : ∃ q, mc = q + 1 := ⟨mc - 1, by omega⟩
    have w1 := (hW.hrs hh n (by omega)).1
    obtain ⟨g1, a1, a2⟩ := C_isNobody hN R hi (w1.2.2.2.2.2 i hi)
    have hle : ¬ (200 : Int32) < nI n := Int32.not_lt.mpr (nI_le (b := 200) (by omega) (by omega))
    by_cases q : s_nob (s_hrs S n) i = 0
    · obtain ⟨g2, b1, b2, b3⟩ := C_hr1 hN hW hh (by omega) (R.fk a2)
      obtain ⟨g3, c1, c2⟩ := ih (n + 1) mc g2 (by omega) (by omega) b2
      refine ⟨g3, fun kt => ?_, a2.FS.tr (b3.tr c2)⟩
      rw [F_X6_nobodyBy_28, if_neg hle, show F_X2_isNobody N (0 + 57) (nI i) g = _ from a1, bnd_s, if_pos q, b1, bnd_s, nI_1, c1, show fh S (nobP i) n (d + 1) = fh S (nobP i) (n + 1) d by rw [fh, if_neg (nob_f q)]]
    · refine ⟨g1, fun kt => ?_, a2.FS⟩
      rw [F_X6_nobodyBy_28, if_neg hle, show F_X2_isNobody N (0 + 57) (nI i) g = _ from a1, bnd_s, if_neg q, show fh S (nobP i) n (d + 1) = n by rw [fh, if_pos (nob_t q)], if_pos (by omega)]
theorem M_nob14 (hN : 1000 ≤ N) {hc : Mem} {q : Nat} (hT : SkyR hc q S) (hW : WS S) (hh : S 8 1 ≤ 10000) {i : Nat} (hi : i < 8) : ∀ (d n mc : Nat) (g : Mem), n + d = 201 → d < mc → RowR (g 103) (s_hrs S n) → ∃ g', (∀ kt, F_X7_nobodyAt_14 N 102 (nI i) kt mc (nI n) g = kt (nI (fh S (nobP i) n d)) g') ∧ MB g g' := by
  intro d
  induction d with
  | zero =>
    intro n mc g hn hm R
    obtain ⟨mc, rfl⟩ : ∃ q, mc = q + 1 := ⟨mc - 1, by omega⟩
    have hn8 : n = 201 := by omega
    subst hn8
    refine ⟨g, fun kt => ?_, MB.rf⟩
    rw [F_X7_nobodyAt_14, if_pos (by decide), fh]
  | succ d ih =>
    intro n mc g hn hm R
    obtain ⟨mc, rfl⟩ : ∃ q, mc = q + 1 := ⟨mc - 1, by omega⟩
    have hle : ¬ (200 : Int32) < nI n := Int32.not_lt.mpr (nI_le (b := 200) (by omega) (by omega))
    obtain ⟨hc', e', T', F'⟩ := C_hrsR hN hT hW hh (n := n) (by omega)
    obtain ⟨g1, a1, a2⟩ := M_isNobody hN T' R hi
    by_cases q : s_nob (s_hrs S n) i = 0
    · obtain ⟨g2, b1, b2, b3⟩ := M_hr1 hN hW hh (by omega) (a2.row R) (fun _ => none)
      clear b1 b2 b3 g2
      have w1 := (hW.hrs hh n (by omega)).1
      obtain ⟨g2, b1, b2, b3⟩ := M_hour (by omega : 10 ≤ N) (a2.row R) w1 w1.wind
      obtain ⟨g3, c1, c2⟩ := ih (n + 1) mc g2 (by omega) (by omega) b2
      refine ⟨g3, fun kt => ?_, (MB.of2 a2).tr ((MB.of3 b3).tr c2)⟩
      rw [F_X7_nobodyAt_14, if_neg hle, a1, bnd_s, if_pos q, M_wind (a2.row R) w1, bnd_s, b1, bnd_s, nI_1, c1, show fh S (nobP i) n (d + 1) = fh S (nobP i) (n + 1) d by rw [fh, if_neg (nob_f q)]]
    · refine ⟨g1, fun kt => ?_, MB.of2 a2⟩
      rw [F_X7_nobodyAt_14, if_neg hle, a1, bnd_s, if_neg q, show fh S (nobP i) n (d + 1) = n by rw [fh, if_pos (nob_t q)]]
theorem M_nobodyAt (hN : 1000 ≤ N) {hc : Mem} {q : Nat} (hT : SkyR hc q S) (hW : WS S) (hh : S 8 1 ≤ 10000) {i : Nat} (hi : i < 8) {g : Mem} (R : RowR (g 103) S) : ∃ g', F_X7_nobodyAt N 102 (nI i) g = some (nI (fh S (nobP i) 0 201), g') ∧ RowR (g' 103) S ∧ MF g g' := by
  unfold F_X7_nobodyAt
  obtain ⟨m1, d1, d2, d2', d3⟩ := M_there hN R
  obtain ⟨m2, e1, e2⟩ := M_nob14 hN hT hW hh hi 201 0 N m1 (by omega) (by omega) d2
  obtain ⟨m3, f1, f2, f3⟩ := d3 m2 e2
  have e1' : ∀ kt, F_X7_nobodyAt_14 N 102 (nI i) kt N 0 m1 = _ := e1
  rw [show F_X7_moveAll N 102 (102 + 1) 262 (102 + 3) 262 g = _ from d1, bnd_s, e1', show F_X7_moveAll N 102 (102 + 3) 262 (102 + 1) 262 m2 = _ from f1, bnd_s]
  exact ⟨m3, rfl, f2, f3⟩
theorem P_nobodyBy (hN : 1000 ≤ N) (H : RR c m k) (x1 : Int32) : PR (F_X6_nobodyBy N 0 x1 c) (F_X7_nobodyBy N 102 x1 m) c m k := by
  obtain ⟨⟨S, s⟩, O⟩ := H
  unfold F_X6_nobodyBy F_X7_nobodyBy
  rcases cl_cs s.2.2.1 x1 with ⟨⟨i, hi, hiM, rfl⟩, g1, g2⟩ | ⟨g1, g2⟩
  · rw [g1 c s.1.1, g2 m s.2.1]
    simp only [bnd_s, i10, if_false]
    obtain ⟨c1, a1, a2, a2', a3⟩ := C_there hN s.1 s.2.2.1
    obtain ⟨c2, b1, b2⟩ := C_nob28 hN s.2.2.1 s.2.2.2.1 hi 201 0 N c1 (by omega) (by omega) a2
    obtain ⟨m2, e1, e2, e3⟩ := M_nobodyAt hN s.1 s.2.2.1 s.2.2.2.1 hi s.2.1
    have b1' : ∀ kt, F_X6_nobodyBy_28 N 0 (nI i) kt N 0 c1 = _ := b1
    rw [a1, bnd_s, b1', e1, bnd_s, bnd_id]
    have hle := (fh_ge (S := S) (p := nobP i) 201 0).2
    have s2 : RS c2 m2 S := ⟨a2'.off57 b2, e2, s.2.2⟩
    by_cases q : fh S (nobP i) 0 201 ≤ 200
    · rw [if_pos q, if_pos (show nI (fh S (nobP i) 0 201) ≤ 200 from nI_le (b := 200) q (by omega))]
      exact PR.ok O rfl rfl s2 ((CF.of57 a3).tr (CF.of57 b2)) e3
    · rw [if_neg q, if_neg (show ¬ nI (fh S (nobP i) 0 201) ≤ 200 from nI_ge (a := 200) (by omega) (by omega))]
      simp only [bnd_id]
      exact PR.er O (Or.inr (Or.inl rfl)) s2 ((CF.of57 a3).tr (CF.of57 b2)) e3 rfl rfl
  · rw [g1 c s.1.1, g2 m s.2.1]
    simp only [bnd_s, bnd_id, if_true]
    exact PR.er O (Or.inl rfl) s CF.rf MF.rf rfl rfl
end P7
