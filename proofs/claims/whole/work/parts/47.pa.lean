section PA
variable {c m S : Mem} {k N : Nat}
theorem pay8 {T : Mem} {a b : Nat} (ha : a < 8) (hb : b < 8) (h : ∀ i, 8 ≤ i → T i = S i) : ∀ i, 8 ≤ i → s_pay T a b i = S i := by
  intro i hi
  rw [← h i hi]
  funext f
  simp [s_pay, upm, show i ≠ a by omega, show i ≠ b by omega]
theorem pay14 (hN : 1000 ≤ N) {q a M : Nat} (ha : a < 8) (hM : M ≤ 8) (e0 : S 8 0 = nI M) : ∀ (d n mc mm : Nat) (g h T : Mem) (u : Int32), n + d = M → d < mc → d < mm → SkyR g q T → RowR (h 103) T → WS T → (∀ i, 8 ≤ i → T i = S i) → ∃ T' u' g' h', (∀ kt, F_X2_payRound_14 N q (nI a) kt mc u (nI n) g = kt u' g') ∧ (∀ kt, F_X7_allPay_16 N 102 (nI a) kt mm u (nI n) h = kt u' h') ∧ SkyR g' q T' ∧ RowR (h' 103) T' ∧ WS T' ∧ (∀ i, 8 ≤ i → T' i = S i) ∧ FS q g g' ∧ MB h h' := by
  intro d
  induction d with
  | zero =>
    intro n mc mm g h T u hn hc hm R Q W E
    obtain ⟨mc, rfl⟩ : ∃ q, mc = q + 1 := ⟨mc - 1, by omega⟩
    obtain ⟨mm, rfl⟩ : ∃ q, mm = q + 1 := ⟨mm - 1, by omega⟩
    have hnM : n = M := by omega
    subst hnM
    refine ⟨T, u, g, h, fun kt => ?_, fun kt => ?_, R, Q, W, E, FS.rf, MB.rf⟩
    · rw [F_X2_payRound_14, C_made R.1, E 8 (by omega), e0, if_pos (nI_le (Nat.le_refl n) (by omega))]
    · rw [F_X7_allPay_16, gin_d _ (by decide), ro_0 Q, E 8 (by omega), e0, if_pos (nI_le (Nat.le_refl n) (by omega))]
  | succ d ih =>
    intro n mc mm g h T u hn hc hm R Q W E
    obtain ⟨mc, rfl⟩ : ∃ q, mc = q + 1 := ⟨mc - 1, by omega⟩
    obtain ⟨mm, rfl⟩ : ∃ q, mm = q + 1 := ⟨mm - 1, by omega⟩
    have hn8 : n < 8 := by omega
    have u0 : u + 0 = u := by grind
    have hlt : ¬ nI M ≤ nI n := nI_ge (by omega) (by omega)
    have cS : ∀ kt, F_X2_payRound_14 N q (nI a) kt (mc + 1) u (nI n) g = (if nI a = nI n then F_X2_payRound_14 N q (nI a) kt mc u (nI (n + 1)) g else if T a 7 = 1 ∧ T n 7 = 1 ∧ T a 2 = T n 2 then (bnd (F_X2_payOne N q (ca q a) (ca q n) g) fun r5 h6 => F_X2_payRound_14 N q (nI a) kt mc (u + r5) (nI (n + 1)) h6) else F_X2_payRound_14 N q (nI a) kt mc u (nI (n + 1)) g) := fun kt => by
      rw [F_X2_payRound_14, C_made R.1, E 8 (by omega), e0, if_neg hlt, nI_1, C_areTogether R.1 ha hn8 (W.2.2.2.2.2 a ha) (W.2.2.2.2.2 n hn8), bnd_s]
      by_cases z : T a 7 = 1 ∧ T n 7 = 1 ∧ T a 2 = T n 2
      · rw [if_pos z, if_pos z, if_neg (show ¬ (1 : Int32) = 0 by decide), gin_n _ ha (by omega), gin_n _ hn8 (by omega), ca_eq _ _ (by omega), ca_eq _ _ (by omega)]
        rfl
      · rw [if_neg z, if_neg z, if_pos (show (0 : Int32) = 0 from rfl)]
    have cM : ∀ kt, F_X7_allPay_16 N 102 (nI a) kt (mm + 1) u (nI n) h = (if nI a = nI n then F_X7_allPay_16 N 102 (nI a) kt mm u (nI (n + 1)) h else if T a 7 = 1 ∧ T n 7 = 1 ∧ T a 2 = T n 2 then (bnd (F_X7_pays N 102 (nI a) (nI n) h) fun r5 h6 => F_X7_allPay_16 N 102 (nI a) kt mm (u + r5) (nI (n + 1)) h6) else F_X7_allPay_16 N 102 (nI a) kt mm u (nI (n + 1)) h) := fun kt => by
      rw [F_X7_allPay_16, gin_d _ (by decide), ro_0 Q, E 8 (by omega), e0, if_neg hlt, nI_1]
      simp only [sq_i, u0]
      by_cases z0 : nI a = nI n
      · rw [if_pos z0, if_pos z0]
      · rw [if_neg z0, if_neg z0, M_isThere Q ha, bnd_s]
        by_cases z1 : T a 7 = 1
        · rw [if_pos z1, if_neg (show ¬ (1 : Int32) = 0 by decide), M_isThere Q hn8, bnd_s]
          by_cases z2 : T n 7 = 1
          · rw [if_pos z2, if_neg (show ¬ (1 : Int32) = 0 by decide), show F_X7_its 102 (nI a) (2 : Int32) h = _ from M_its (f := 2) Q ha (by omega), bnd_s, show F_X7_its 102 (nI n) (2 : Int32) h = _ from M_its (f := 2) Q hn8 (by omega), bnd_s]
            by_cases z3 : T a 2 = T n 2
            · rw [if_pos z3, if_pos (show T a 7 = 1 ∧ T n 7 = 1 ∧ T a 2 = T n 2 from ⟨z1, z2, z3⟩)]
            · rw [if_neg z3, if_neg (show ¬ (T a 7 = 1 ∧ T n 7 = 1 ∧ T a 2 = T n 2) from fun z => z3 z.2.2)]
          · rw [if_neg z2, if_pos (show (0 : Int32) = 0 from rfl), if_neg (show ¬ (T a 7 = 1 ∧ T n 7 = 1 ∧ T a 2 = T n 2) from fun z => z2 z.2.1)]
        · rw [if_neg z1, if_pos (show (0 : Int32) = 0 from rfl), if_neg (show ¬ (T a 7 = 1 ∧ T n 7 = 1 ∧ T a 2 = T n 2) from fun z => z1 z.1)]
    by_cases z0 : nI a = nI n
    · obtain ⟨T', u', g', h', i1, i2, i3⟩ := ih (n + 1) mc mm g h T u (by omega) (by omega) (by omega) R Q W E
      exact ⟨T', u', g', h', fun kt => by rw [cS, if_pos z0, i1], fun kt => by rw [cM, if_pos z0, i2], i3⟩
    · have hab : a ≠ n := fun z => z0 (by rw [z])
      by_cases z : T a 7 = 1 ∧ T n 7 = 1 ∧ T a 2 = T n 2
      · obtain ⟨g1, a1, a2, a3⟩ := C_payOne hN R W ha hn8 hab
        obtain ⟨h1, b1, b2, b3⟩ := M_pays hN R Q W ha hn8 hab
        obtain ⟨T', u', g', h', i1, i2, i3, i4, i5, i6, i7, i8⟩ := ih (n + 1) mc mm g1 h1 _ (u + s_pd T a n) (by omega) (by omega) (by omega) a2 b2 (W.pay ha hn8 hab z.1 z.2.1).1 (pay8 ha hn8 E)
        exact ⟨T', u', g', h', fun kt => by rw [cS, if_neg z0, if_pos z, a1, bnd_s, i1], fun kt => by rw [cM, if_neg z0, if_pos z, b1, bnd_s, i2], i3, i4, i5, i6, a3.tr i7, b3.tr i8⟩
      · obtain ⟨T', u', g', h', i1, i2, i3⟩ := ih (n + 1) mc mm g h T u (by omega) (by omega) (by omega) R Q W E
        exact ⟨T', u', g', h', fun kt => by rw [cS, if_neg z0, if_neg z, i1], fun kt => by rw [cM, if_neg z0, if_neg z, i2], i3⟩
theorem pay4 (hN : 1000 ≤ N) {q M : Nat} (hM : M ≤ 8) (e0 : S 8 0 = nI M) : ∀ (d n mc mm : Nat) (g h T : Mem) (u : Int32), n + d = M → d < mc → d < mm → SkyR g q T → RowR (h 103) T → WS T → (∀ i, 8 ≤ i → T i = S i) → ∃ T' u' g' h', (∀ kt, F_X2_payRound_4 N q kt mc u (nI n) g = kt u' g') ∧ (∀ kt, F_X7_allPay_4 N 102 kt mm u (nI n) h = kt u' h') ∧ SkyR g' q T' ∧ RowR (h' 103) T' ∧ WS T' ∧ (∀ i, 8 ≤ i → T' i = S i) ∧ FS q g g' ∧ MB h h' := by
  intro d
  induction d with
  | zero =>
    intro n mc mm g h T u hn hc hm R Q W E
    obtain ⟨mc, rfl⟩ : ∃ q, mc = q + 1 := ⟨mc - 1, by omega⟩
    obtain ⟨mm, rfl⟩ : ∃ q, mm = q + 1 := ⟨mm - 1, by omega⟩
    have hnM : n = M := by omega
    subst hnM
    refine ⟨T, u, g, h, fun kt => ?_, fun kt => ?_, R, Q, W, E, FS.rf, MB.rf⟩
    · rw [F_X2_payRound_4, C_made R.1, E 8 (by omega), e0, if_pos (nI_le (Nat.le_refl n) (by omega))]
    · rw [F_X7_allPay_4, gin_d _ (by decide), ro_0 Q, E 8 (by omega), e0, if_pos (nI_le (Nat.le_refl n) (by omega))]
  | succ d ih =>
    intro n mc mm g h T u hn hc hm R Q W E
    obtain ⟨mc, rfl⟩ : ∃ q, mc = q + 1 := ⟨mc - 1, by omega⟩
    obtain ⟨mm, rfl⟩ : ∃ q, mm = q + 1 := ⟨mm - 1, by omega⟩
    have hlt : ¬ nI M ≤ nI n := nI_ge (by omega) (by omega)
    obtain ⟨T1, u1, g1, h1, j1, j2, j3, j4, j5, j6, j7, j8⟩ := pay14 hN (a := n) (by omega) hM e0 M 0 N N g h T u (by omega) (by omega) (by omega) R Q W E
    obtain ⟨T', u', g', h', i1, i2, i3, i4, i5, i6, i7, i8⟩ := ih (n + 1) mc mm g1 h1 T1 u1 (by omega) (by omega) (by omega) j3 j4 j5 j6
    have j1' : ∀ kt, F_X2_payRound_14 N q (nI n) kt N u 0 g = _ := j1
    have j2' : ∀ kt, F_X7_allPay_16 N 102 (nI n) kt N u 0 h = _ := j2
    refine ⟨T', u', g', h', fun kt => ?_, fun kt => ?_, i3, i4, i5, i6, j7.tr i7, j8.tr i8⟩
    · rw [F_X2_payRound_4, C_made R.1, E 8 (by omega), e0, if_neg hlt, j1', nI_1, i1]
    · rw [F_X7_allPay_4, gin_d _ (by decide), ro_0 Q, E 8 (by omega), e0, if_neg hlt, j2', nI_1, i2]
theorem payAll (hN : 1000 ≤ N) {q : Nat} {g h : Mem} (R : SkyR g q S) (Q : RowR (h 103) S) (W : WS S) : ∃ T' u' g' h', F_X2_payRound N q g = some (u', g') ∧ F_X7_allPay N 102 h = some (u', h') ∧ SkyR g' q T' ∧ RowR (h' 103) T' ∧ WS T' ∧ (∀ i, 8 ≤ i → T' i = S i) ∧ FS q g g' ∧ MB h h' := by
  obtain ⟨M, hM, e0, ex0⟩ := made_of W
  obtain ⟨T', u', g', h', i1, i2, i3⟩ := pay4 hN hM e0 M 0 N N g h S 0 (by omega) (by omega) (by omega) R Q W (fun _ _ => rfl)
  have j1' : ∀ kt, F_X2_payRound_4 N q kt N 0 0 g = _ := i1
  have j2' : ∀ kt, F_X7_allPay_4 N 102 kt N 0 0 h = _ := i2
  unfold F_X2_payRound F_X7_allPay
  exact ⟨T', u', g', h', by rw [j1'], by rw [j2'], i3⟩
theorem MB.MF {a b : Mem} (x : MB a b) : MF a b := ⟨fun q h1 h2 _ _ _ => x.1 q h1 h2, x.2⟩
theorem P_pay (hN : 1000 ≤ N) (H : RR c m k) : PR (F_X6_pay N 0 c) (F_X7_pay N 102 m) c m k := by
  obtain ⟨⟨S, s⟩, O⟩ := H
  unfold F_X6_pay F_X7_pay
  obtain ⟨T', u', g', h', i1, i2, i3, i4, i5, i6, i7, i8⟩ := payAll hN s.1 s.2.1 s.2.2.1
  rw [bnd_id, bnd_id]
  exact PR.ok O i1 i2 ⟨i3, i4, s.2.2.ws i5 i6⟩ (CF.of1 i7) i8.MF
theorem P_paid (hN : 1000 ≤ N) (H : RR c m k) : PR (F_X6_paid N 0 c) (F_X7_paid N 102 m) c m k := by
  obtain ⟨⟨S, s⟩, O⟩ := H
  unfold F_X6_paid F_X7_paid
  obtain ⟨c1, a1, a2, a2', a3⟩ := C_there hN s.1 s.2.2.1
  obtain ⟨m1, d1, d2, d2', d3⟩ := M_there hN s.2.1
  obtain ⟨T', u', g', h', i1, i2, i3, i4, i5, i6, i7, i8⟩ := payAll hN a2 d2 s.2.2.1
  obtain ⟨m3, o1, o2, o3⟩ := d3 h' i8
  rw [a1, bnd_s, bnd_id, show F_X7_moveAll N 102 (102 + 1) 262 (102 + 3) 262 m = _ from d1, bnd_s, i2, bnd_s, show F_X7_moveAll N 102 (102 + 3) 262 (102 + 1) 262 h' = _ from o1, bnd_s]
  exact PR.ok O i1 rfl ⟨a2'.off57 i7, o2, s.2.2⟩ ((CF.of57 a3).tr (CF.of57 i7)) o3
end PA
