section P9
variable {c m S : Mem} {k N : Nat}
def metP (a b : Nat) (T : Mem) : Bool := decide (T a 2 = T b 2)
theorem met_t {a b : Nat} {T : Mem} (q : T a 2 = T b 2) : metP a b T = true := decide_eq_true q
theorem met_f {a b : Nat} {T : Mem} (q : ¬ T a 2 = T b 2) : ¬ metP a b T = true := by simp [metP, q]
theorem C_meets66 (hN : 1000 ≤ N) (hW : WS S) (hh : S 8 1 ≤ 10000) {a b : Nat} (ha : a < 8) (hb : b < 8) (qa : S a 7 = 1) (qb : S b 7 = 1) : ∀ (d n mc : Nat) (g : Mem), n + d = 201 → d < mc → SkyR g 57 (s_hrs S n) → ∃ g', (∀ kt, F_X6_meets_66 N 0 (nI a) (nI b) kt mc (nI n) g = if fh S (metP a b) n d ≤ 200 then some (nI (fh S (metP a b) n d), g') else kt g') ∧ FS 57 g g' := by
  intro d
  induction d with
  | zero =>
    intro n mc g hn hm R
    obtain ⟨mc, rfl⟩ : ∃ q, mc = q + 1 := ⟨mc - 1, by omega⟩
    have hn8 : n = 201 := by omega
    subst hn8
    refine ⟨g, fun kt => ?_, FS.rf⟩
    rw [F_X6_meets_66, if_pos (by decide), if_neg (show ¬ fh S (metP a b) 201 0 ≤ 200 by rw [fh]; omega)]
  | succ d ih =>
    intro n mc g hn hm R
    obtain ⟨mc, rfl⟩ : ∃ q, mc = q + 1 := ⟨mc - 1, by omega⟩
    have w1 := (hW.hrs hh n (by omega)).1
    have w7 := hrs_7 hW hh n (by omega)
    have hle : ¬ (200 : Int32) < nI n := Int32.not_lt.mpr (nI_le (b := 200) (by omega) (by omega))
    have e0 := C_areTogether (q := 0 + 57) R.1 ha hb (w1.2.2.2.2.2 a ha) (w1.2.2.2.2.2 b hb)
    by_cases q : s_hrs S n a 2 = s_hrs S n b 2
    · refine ⟨g, fun kt => ?_, FS.rf⟩
      have e1 : F_X2_areTogether (0 + 57) (nI a) (nI b) g = some (1, g) := by rw [e0, if_pos ⟨(w7 a ha).trans qa, (w7 b hb).trans qb, q⟩]
      rw [F_X6_meets_66, if_neg hle, e1, bnd_s, if_neg (show ¬ (1 : Int32) = 0 by decide), show fh S (metP a b) n (d + 1) = n by rw [fh, if_pos (met_t q)], if_pos (by omega)]
    · obtain ⟨g2, b1, b2, b3⟩ := C_hr1 hN hW hh (by omega) R
      obtain ⟨g3, c1, c2⟩ := ih (n + 1) mc g2 (by omega) (by omega) b2
      refine ⟨g3, fun kt => ?_, b3.tr c2⟩
      have e1 : F_X2_areTogether (0 + 57) (nI a) (nI b) g = some (0, g) := by rw [e0, if_neg (fun z => q z.2.2)]
      rw [F_X6_meets_66, if_neg hle, e1, bnd_s, if_pos (show (0 : Int32) = 0 from rfl), b1, bnd_s, nI_1, c1, show fh S (metP a b) n (d + 1) = fh S (metP a b) (n + 1) d by rw [fh, if_neg (met_f q)]]
theorem M_meets65 (hN : 1000 ≤ N) (hW : WS S) (hh : S 8 1 ≤ 10000) {a b : Nat} (ha : a < 8) (hb : b < 8) : ∀ (d n mc : Nat) (g : Mem), n + d = 201 → d < mc → RowR (g 103) (s_hrs S n) → ∃ g', (∀ kt, F_X7_meets_65 N 102 (nI a) (nI b) kt mc (nI n) g = kt (nI (fh S (metP a b) n d)) g') ∧ MB g g' := by
  intro d
  induction d with
  | zero =>
    intro n mc g hn hm R
    obtain ⟨mc, rfl⟩ : ∃ q, mc = q + 1 := ⟨mc - 1, by omega⟩
    have hn8 : n = 201 := by omega
    subst hn8
    refine ⟨g, fun kt => ?_, MB.rf⟩
    rw [F_X7_meets_65, if_pos (by decide), fh]
  | succ d ih =>
    intro n mc g hn hm R
    obtain ⟨mc, rfl⟩ : ∃ q, mc = q + 1 := ⟨mc - 1, by omega⟩
    have w1 := (hW.hrs hh n (by omega)).1
    have hle : ¬ (200 : Int32) < nI n := Int32.not_lt.mpr (nI_le (b := 200) (by omega) (by omega))
    have ea : F_X7_its 102 (nI a) (2 : Int32) g = _ := M_its (f := 2) R ha (by omega)
    have eb : F_X7_its 102 (nI b) (2 : Int32) g = _ := M_its (f := 2) R hb (by omega)
    by_cases q : s_hrs S n a 2 = s_hrs S n b 2
    · refine ⟨g, fun kt => ?_, MB.rf⟩
      rw [F_X7_meets_65, if_neg hle, ea, bnd_s, eb, bnd_s, if_pos q, show fh S (metP a b) n (d + 1) = n by rw [fh, if_pos (met_t q)]]
    · obtain ⟨g2, b1, b2, b3⟩ := M_hour (by omega : 10 ≤ N) R w1 w1.wind
      obtain ⟨g3, c1, c2⟩ := ih (n + 1) mc g2 (by omega) (by omega) b2
      refine ⟨g3, fun kt => ?_, (MB.of3 b3).tr c2⟩
      rw [F_X7_meets_65, if_neg hle, ea, bnd_s, eb, bnd_s, if_neg q, M_wind R w1, bnd_s, b1, bnd_s, nI_1, c1, show fh S (metP a b) n (d + 1) = fh S (metP a b) (n + 1) d by rw [fh, if_neg (met_f q)]]
theorem P_meets (hN : 1000 ≤ N) (H : RR c m k) (x1 x2 : Int32) : PR (F_X6_meets N 0 x1 x2 c) (F_X7_meets N 102 x1 x2 m) c m k := by
  obtain ⟨⟨S, s⟩, O⟩ := H
  unfold F_X6_meets F_X7_meets
  rcases two_cs s.2.2.1 x1 x2 with ⟨⟨a, b, ha, hb, hab, rfl, rfl, _, _⟩, e1, e2, hne⟩ | ⟨e1, e2⟩
  · have hA := s.2.2.1.2.2.2.2.2 a ha
    have hB := s.2.2.1.2.2.2.2.2 b hb
    rw [e1 c s.1.1, bnd_s, if_neg (show ¬ (1 : Int32) = 0 by decide), (e2 m s.2.1).1, bnd_s, if_neg (show ¬ (1 : Int32) = 0 by decide), (e2 m s.2.1).2, bnd_s, if_neg (show ¬ (1 : Int32) = 0 by decide), if_neg hne, M_isThere s.2.1 ha, bnd_s, gin_n _ ha (by omega), ca1 a (by omega), C_7 s.1.1 ha]
    by_cases qa : S a 7 = 1
    · rw [if_pos qa, if_neg (show ¬ (1 : Int32) = 0 by decide), M_isThere s.2.1 hb, bnd_s, if_neg (show ¬ S a 7 = 0 by rw [qa]; decide), gin_n _ hb (by omega), ca1 b (by omega), C_7 s.1.1 hb]
      by_cases qb : S b 7 = 1
      · rw [if_pos qb, if_neg (show ¬ (1 : Int32) = 0 by decide), if_neg (show ¬ S b 7 = 0 by rw [qb]; decide)]
        obtain ⟨c1, a1, a2, a2', a3⟩ := C_there hN s.1 s.2.2.1
        obtain ⟨m1, d1, d2, d2', d3⟩ := M_there hN s.2.1
        obtain ⟨c2, b1, b2⟩ := C_meets66 hN s.2.2.1 s.2.2.2.1 ha hb qa qb 201 0 N c1 (by omega) (by omega) a2
        obtain ⟨m2, f1, f2⟩ := M_meets65 hN s.2.2.1 s.2.2.2.1 ha hb 201 0 N m1 (by omega) (by omega) d2
        obtain ⟨m3, o1, o2, o3⟩ := d3 m2 f2
        have b1' : ∀ kt, F_X6_meets_66 N 0 (nI a) (nI b) kt N 0 c1 = _ := b1
        have f1' : ∀ kt, F_X7_meets_65 N 102 (nI a) (nI b) kt N 0 m1 = _ := f1
        rw [a1, bnd_s, b1', show F_X7_moveAll N 102 (102 + 1) 262 (102 + 3) 262 m = _ from d1, bnd_s, f1', show F_X7_moveAll N 102 (102 + 3) 262 (102 + 1) 262 m2 = _ from o1, bnd_s]
        have s2 : RS c2 m3 S := ⟨a2'.off57 b2, o2, s.2.2⟩
        have hle := (fh_ge (S := S) (p := metP a b) 201 0).2
        by_cases q : fh S (metP a b) 0 201 ≤ 200
        · rw [if_pos q, if_pos (show nI (fh S (metP a b) 0 201) ≤ 200 from nI_le (b := 200) q (by omega))]
          exact PR.ok O rfl rfl s2 ((CF.of57 a3).tr (CF.of57 b2)) o3
        · rw [if_neg q, if_neg (show ¬ nI (fh S (metP a b) 0 201) ≤ 200 from nI_ge (a := 200) (by omega) (by omega))]
          simp only [bnd_id]
          exact PR.er O (Or.inr (Or.inl rfl)) s2 ((CF.of57 a3).tr (CF.of57 b2)) o3 rfl rfl
      · rw [if_neg qb, if_pos (show (0 : Int32) = 0 from rfl), if_pos (show S b 7 = 0 by unfold WC at hB; grind), bnd_id, bnd_id]
        exact PR.er O (Or.inr (Or.inr (Or.inl rfl))) s CF.rf MF.rf rfl rfl
    · rw [if_neg qa, if_pos (show (0 : Int32) = 0 from rfl), if_pos (show S a 7 = 0 by unfold WC at hA; grind), bnd_id, bnd_id]
      exact PR.er O (Or.inr (Or.inr (Or.inl rfl))) s CF.rf MF.rf rfl rfl
  · rw [e1 c s.1.1, bnd_s, if_pos rfl, bnd_id]
    exact PR.er O (Or.inl rfl) s CF.rf MF.rf rfl (e2 m _ s.2.1)
/-! paying -/
def s_pd (T : Mem) (a b : Nat) : Int32 := if s_debt T (s_nm T a) (s_nm T b) (s_height T a) < T a 3 then s_debt T (s_nm T a) (s_nm T b) (s_height T a) else T a 3
def s_pay (T : Mem) (a b : Nat) : Mem := upm (upm T a 3 (T a 3 - s_pd T a b)) b 3 (hld (T b 3 + s_pd T a b) 0 999)
theorem pd_in {T : Mem} {a b : Nat} (hW : WS T) (ha : a < 8) : 0 ≤ s_pd T a b ∧ s_pd T a b ≤ T a 3 := by
  have h1 := hW.2.2.2.2.2 a ha
  have h2 : 0 ≤ s_debt T (s_nm T a) (s_nm T b) (s_height T a) := by
    unfold s_debt
    exact (hld_in (by decide)).1
  unfold s_pd
  generalize s_debt T (s_nm T a) (s_nm T b) (s_height T a) = y at *
  unfold WC at h1
  grind
theorem WS.pay {T : Mem} {a b : Nat} (hW : WS T) (ha : a < 8) (hb : b < 8) (hab : a ≠ b) (qa : T a 7 = 1) (qb : T b 7 = 1) : WS (s_pay T a b) ∧ ∀ q f, f ≠ 3 → s_pay T a b q f = T q f := by
  have hp := pd_in (b := b) hW ha
  have hl := hld_in (x := T b 3 + s_pd T a b) (a := 0) (b := 999) (by decide)
  unfold s_pay
  generalize s_pd T a b = y at *
  refine ⟨?_, fun q f hf => by simp [upm, hf]⟩
  have w1 : WS (upm T a 3 (T a 3 - y)) := hW.upc ha (by have := hW.2.2.2.2.2 a ha; unfold WC at *; simp [upm]; grind)
  exact w1.upc hb (by have := w1.2.2.2.2.2 b hb; unfold WC at *; simp [upm] at *; grind)
theorem C_payOne {g T : Mem} {q a b : Nat} (hN : 1000 ≤ N) (R : SkyR g q T) (hW : WS T) (ha : a < 8) (hb : b < 8) (hab : a ≠ b) : ∃ g', F_X2_payOne N q (ca q a) (ca q b) g = some (s_pd T a b, g') ∧ SkyR g' q (s_pay T a b) ∧ FS q g g' := by
  have hA := hW.2.2.2.2.2 a ha
  have hB := hW.2.2.2.2.2 b hb
  obtain ⟨g1, a1, a2⟩ := C_nameOf hN R ha hA
  obtain ⟨g2, b1, b2⟩ := C_nameOf hN (R.fk a2) hb hB
  have R2 := (R.fk a2).fk b2
  obtain ⟨g3, d1, d2⟩ := C_debtBy hN R2 (s_nm T a) (s_nm T b) (s_height T a)
  have R3 := R2.fk d2
  unfold F_X2_payOne
  rw [a1, bnd_s, b1, bnd_s, C_height R2.1 ha (by unfold WC at hA; exact hA.2.2.2.2.1) (by unfold WC at hA; exact hA.2.2.2.2.2.1), bnd_s, d1, bnd_s, C_3 R3.1 ha, C_min, bnd_s]
  rw [show (if s_debt T (s_nm T a) (s_nm T b) (s_height T a) < T a 3 then s_debt T (s_nm T a) (s_nm T b) (s_height T a) else T a 3) = s_pd T a b from rfl]
  obtain ⟨R4, F4⟩ := R3.up (v_c ha (f := 3) (by omega)) (show cpl q a 3 = (ca q a, 3) from cp_0 ha (by omega)) (T a 3 - s_pd T a b)
  rw [sq_h, C_3 R3.1 ha, C_3 R4.1 hb, show upm T a 3 (T a 3 - s_pd T a b) b 3 = T b 3 by simp [upm, show b ≠ a from fun z => hab z.symm], C_min, bnd_s, sq_h]
  have hp := pd_in (b := b) hW ha
  have e : (if T b 3 + s_pd T a b < 999 then T b 3 + s_pd T a b else 999) = hld (T b 3 + s_pd T a b) 0 999 := by
    clear a1 b1 d1 R4 F4
    generalize s_pd T a b = y at *
    unfold WC at hA hB
    unfold hld
    grind
  rw [e]
  obtain ⟨R5, F5⟩ := R4.up (v_c hb (f := 3) (by omega)) (show cpl q b 3 = (ca q b, 3) from cp_0 hb (by omega)) (hld (T b 3 + s_pd T a b) 0 999)
  exact ⟨_, rfl, R5, a2.FS.tr (b2.FS.tr (d2.FS.tr (F4.FS.tr F5.FS)))⟩
theorem M_pays {hc h T : Mem} {q a b : Nat} (hN : 1000 ≤ N) (R : SkyR hc q T) (hR : RowR (h 103) T) (hW : WS T) (ha : a < 8) (hb : b < 8) (hab : a ≠ b) : ∃ h', F_X7_pays N 102 (nI a) (nI b) h = some (s_pd T a b, h') ∧ RowR (h' 103) (s_pay T a b) ∧ MB h h' := by
  have hA := hW.2.2.2.2.2 a ha
  obtain ⟨g1, a1, a2⟩ := M_nameOf hN R hR ha
  obtain ⟨g2, b1, b2⟩ := M_nameOf hN R (a2.row hR) hb
  have R2 := b2.row (a2.row hR)
  obtain ⟨g3, d1, d2⟩ := M_lawOf hN R R2 (x := 1) (by omega) (s_nm T a) (s_nm T b) (s_height T a)
  have R3 := d2.row R2
  rw [if_neg (by omega)] at d1
  unfold F_X7_pays
  rw [a1, bnd_s, b1, bnd_s, M_height R2 ha (by unfold WC at hA; exact hA.2.2.2.2.1) (by unfold WC at hA; exact hA.2.2.2.2.2.1), bnd_s, show F_X7_lawOf N 102 (1 : Int32) _ _ _ g2 = _ from d1, bnd_s]
  have e3 : F_X7_its 102 (nI a) (3 : Int32) g3 = some (T a 3, g3) := M_its (f := 3) R3 ha (by omega)
  have r1 := R3.um (j := 28 + 8 * a + 3) (by omega) (rp_c ha (by omega)) (x := T a 3 - s_pd T a b)
  have r2 := r1.um (j := 28 + 8 * b + 3) (by omega) (rp_c hb (by omega)) (x := hld (T b 3 + s_pd T a b) 0 999)
  rw [e3, bnd_s]
  refine ⟨upm (upm g3 103 (28 + 8 * a + 3) (T a 3 - s_pd T a b)) 103 (28 + 8 * b + 3) (hld (T b 3 + s_pd T a b) 0 999), ?_, r2, (MB.of2 a2).tr ((MB.of2 b2).tr ((MB.of2 d2).tr ((MB.of3 E103.up).tr (MB.of3 E103.up))))⟩
  have fin : ∀ kt : Int32 → Mem → Option (Int32 × Mem), (if T a 3 ≤ s_debt T (s_nm T a) (s_nm T b) (s_height T a) then (bnd (F_X7_its 102 (nI a) (3 : Int32) g3) (fun r24 h25 => kt r24 h25)) else kt (s_debt T (s_nm T a) (s_nm T b) (s_height T a)) g3) = kt (s_pd T a b) g3 := fun kt => by
    rw [e3, bnd_s]
    unfold s_pd
    by_cases z : T a 3 ≤ s_debt T (s_nm T a) (s_nm T b) (s_height T a)
    · rw [if_pos z, if_neg (Int32.not_lt.mpr z)]
    · rw [if_neg z, if_pos (Int32.not_le.mp z)]
  rw [jn_e, fin]
  simp only [e3, bnd_s]
  rw [show F_X7_puts 102 (nI a) (3 : Int32) (T a 3 - s_pd T a b) g3 = _ from M_puts1 (f := 3) ha (by omega) _, bnd_s, show F_X7_its 102 (nI b) (3 : Int32) _ = _ from M_its (f := 3) r1 hb (by omega), bnd_s, show upm T a 3 (T a 3 - s_pd T a b) b 3 = T b 3 by simp [upm, show b ≠ a from fun z => hab z.symm], M_held, bnd_s, show F_X7_puts 102 (nI b) (3 : Int32) (hld (T b 3 + s_pd T a b) 0 999) _ = _ from M_puts1 (f := 3) hb (by omega) _, bnd_s]
end P9
