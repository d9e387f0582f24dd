theorem sub_gt : ∀ s, s < 256 → ∀ u, u < 256 → s < u → ¬ (nI u &&& (nI s ^^^ (-1 : Int32))) = 0 := by
  intro s hs u hu hsu h
  have h1 : (nI u &&& (nI s ^^^ (-1 : Int32))).toBitVec = (BitVec.ofNat 32 u &&& ~~~ (BitVec.ofNat 32 s)) := by
    rw [← BitVec.xor_allOnes]
    rfl
  rw [h] at h1
  have h2 : ∀ i, i < 8 → u.testBit i = true → s.testBit i = true := by
    intro i hi hb
    have h3 : (0 : Int32).toBitVec.getLsbD i = (BitVec.ofNat 32 u &&& ~~~ (BitVec.ofNat 32 s)).getLsbD i := by rw [h1]
    rw [BitVec.getLsbD_and, BitVec.getLsbD_not, BitVec.getLsbD_ofNat, BitVec.getLsbD_ofNat, hb, show (0 : Int32).toBitVec.getLsbD i = false from BitVec.getLsbD_zero] at h3
    simp only [show i < 32 by omega, decide_true, Bool.true_and] at h3
    cases hs2 : s.testBit i
    · rw [hs2] at h3
      cases h3
    · rfl
  have h4 : u &&& s = u := by
    apply Nat.eq_of_testBit_eq
    intro i
    rw [Nat.testBit_and]
    by_cases q : i < 8
    · cases hb : u.testBit i
      · rfl
      · rw [h2 i q hb]; rfl
    · rw [Nat.testBit_lt_two_pow (Nat.lt_of_lt_of_le hu (Nat.pow_le_pow_right (n := 2) (by omega) (show 8 ≤ i by omega)))]
      rfl
  have h5 : u &&& s ≤ s := Nat.and_le_right
  omega
def s_ts (S : Mem) (u : Nat) : Int32 := s_tst (s_tot S (nI u) 4 (ix (S 8 0)) + s_tot S (nI u) 5 (ix (S 8 0)) + s_tot S (nI u) 6 (ix (S 8 0))) (s_tot S (nI u) 3 (ix (S 8 0)))
def stp (S : Mem) (x : Int32) (st u b : Nat) : Nat := if (nI u &&& (nI st ^^^ (-1 : Int32))) = 0 then (if b = 0 ∨ ¬ popx b ≤ popx u then (if s_ts S u = x then u else b) else b) else b
def fld (S : Mem) (x : Int32) (st : Nat) : Nat → Nat
  | 0 => 0
  | n + 1 => stp S x st (n + 1) (fld S x st n)
theorem fld_le (S : Mem) (x : Int32) (st : Nat) : ∀ n, fld S x st n ≤ n := by
  intro n
  induction n with
  | zero => exact Nat.le_refl _
  | succ n ih =>
    rw [fld]
    unfold stp
    repeat' split
    all_goals omega
theorem shl_p : ∀ n, n < 9 → (1 : Int32) <<< (nI n &&& 31) = nI (2 ^ n) := by decide +kernel
theorem fld_st (S : Mem) (x : Int32) (st : Nat) (hs : st < 256) : ∀ d, st + d < 256 → fld S x st (st + d) = fld S x st st := by
  intro d
  induction d with
  | zero => intro _; rfl
  | succ d ih =>
    intro h
    rw [← Nat.add_assoc, fld, ih (by omega)]
    unfold stp
    rw [if_neg (sub_gt st hs (st + d + 1) (by omega) (by omega))]
section CM
variable {c m S : Mem} {k N : Nat}
theorem tot_in (hW : WS S) (v : Int32) {f : Nat} (hf : f = 3 ∨ f = 4 ∨ f = 5 ∨ f = 6) : ∀ n, n ≤ 8 → 0 ≤ s_tot S v f n ∧ s_tot S v f n ≤ nI (n * 999) := by
  intro n
  induction n with
  | zero => intro _; exact ⟨by show (0 : Int32) ≤ 0; decide, by show (0 : Int32) ≤ nI (0 * 999); decide⟩
  | succ n ih =>
    intro hn
    obtain ⟨h1, h2⟩ := ih (by omega)
    have hC := hW.2.2.2.2.2 n (by omega)
    have h3 : 0 ≤ S n f ∧ S n f ≤ 999 := by
      unfold WC at hC
      rcases hf with rfl | rfl | rfl | rfl <;> grind
    have h4 : nI ((n + 1) * 999) = nI (n * 999) + 999 := by
      rw [show (999 : Int32) = nI 999 from rfl, nI_add, show (n + 1) * 999 = n * 999 + 999 by omega]
    have h5 : nI (n * 999) ≤ 8000 := nI_le (b := 8000) (by omega) (by omega)
    rw [s_tot]
    clear hC
    split
    · grind
    · grind
theorem C_setTaste (hN : 1000 ≤ N) {q : Nat} (R : SkyN c q S) (hW : WS S) (u : Nat) : F_X2_tasteOf N q (nI u) c = some (s_ts S u, c) := by
  have hM : ix (S 8 0) ≤ 8 := by
    obtain ⟨M, hM, e0, ex0⟩ := made_of hW
    omega
  have t3 := tot_in hW (nI u) (f := 3) (by omega) _ hM
  have t4 := tot_in hW (nI u) (f := 4) (by omega) _ hM
  have t5 := tot_in hW (nI u) (f := 5) (by omega) _ hM
  have t6 := tot_in hW (nI u) (f := 6) (by omega) _ hM
  have h8 : nI (ix (S 8 0) * 999) ≤ 8000 := nI_le (b := 8000) (by omega) (by omega)
  unfold F_X2_tasteOf s_ts
  rw [show F_X2_totalOf N q (nI u) (1 : Int32) c = _ from C_tot (f := 1) hN R hW _ (by omega), bnd_s, show F_X2_totalOf N q (nI u) (2 : Int32) c = _ from C_tot (f := 2) hN R hW _ (by omega), bnd_s, show F_X2_totalOf N q (nI u) (3 : Int32) c = _ from C_tot (f := 3) hN R hW _ (by omega), bnd_s, sq_i, show F_X2_totalOf N q (nI u) (0 : Int32) c = _ from C_tot (f := 0) hN R hW _ (by omega), bnd_s, C_tasteBy c (by grind) (by grind), bnd_s]
theorem P_comes (hN : 1000 ≤ N) (H : RR c m k) (x1 x2 : Int32) : PR (F_X6_comes N 0 x1 x2 c) (F_X7_comes N 102 x1 x2 m) c m k := by
  obtain ⟨⟨S, s⟩, O⟩ := H
  unfold F_X6_comes F_X7_comes
  rcases in_cs x1 0 9999 with ⟨q, e1, e2⟩ | ⟨q, e1, e2⟩
  · simp only [e1, e2, bnd_s, i10, if_false]
    rcases in_cs x2 0 1 with ⟨q, e1, e2⟩ | ⟨q, e1, e2⟩
    · simp only [e1, e2, bnd_s, i10, if_false, bnd_id]
      rw [M_set hN s.2.1 s.2.2.1, bnd_s]
      unfold F_X2_fewestOfTaste
      rw [show F_X2_setOfAll N (0 + 1) c = _ from C_set hN s.1.1 s.2.2.1, bnd_s]
      have hst := mask_lt s.2.2.1
      obtain ⟨M, hM, e0, ex0⟩ := made_of s.2.2.1
      have hsM : s_mask S (ix (S 8 0)) < 2 ^ M := by rw [ex0]; exact (mask_in S M hM).1
      have hpM := pw_le hM
      generalize s_mask S (ix (S 8 0)) = st at hst hsM
      have inj : ∀ a b, a ≤ 1000 → b ≤ 1000 → (nI a = nI b ↔ a = b) := fun a b ha hb => ⟨fun z => by have := congrArg ix z; rw [ix_n (by omega), ix_n (by omega)] at this; exact this, fun z => by rw [z]⟩
      have z0 : ∀ b, b ≤ 1000 → (nI b = 0 ↔ b = 0) := fun b hb => inj b 0 hb (by omega)
      -- the class's loop
      have lC : ∀ (d u mc : Nat) (kt : Int32 → Mem → Option (Int32 × Mem)), u + d = st → d < mc → F_X2_fewestOfTaste_10 N (0 + 1) x1 (nI st) kt mc (nI (fld S x1 st u)) (nI (u + 1)) c = kt (nI (fld S x1 st st)) c := by
        intro d
        induction d with
        | zero =>
          intro u mc kt hu hm
          obtain ⟨mc, rfl⟩ : ∃ q, mc = q + 1 := ⟨mc - 1, by omega⟩
          have h7 : u = st := by omega
          subst h7
          rw [F_X2_fewestOfTaste_10, if_pos (Int32.not_le.mp (nI_ge (by omega) (by omega)))]
        | succ d ih =>
          intro u mc kt hu hm
          obtain ⟨mc, rfl⟩ : ∃ q, mc = q + 1 := ⟨mc - 1, by omega⟩
          have hb := fld_le S x1 st u
          rw [F_X2_fewestOfTaste_10, if_neg (Int32.not_lt.mpr (nI_le (by omega) (by omega))), ← ih (u + 1) mc kt (by omega) (by omega), fld]
          unfold stp
          simp only [jn_e, C_setTaste (q := 0 + 1) hN s.1.1 s.2.2.1, C_pop (show u + 1 < 256 by omega), C_pop (show fld S x1 st u < 256 by omega), bnd_s, nI_1]
          by_cases y0 : fld S x1 st u = 0
          · rw [if_pos ((z0 _ (by omega)).mpr y0)]
            by_cases y1 : (nI (u + 1) &&& (nI st ^^^ (-1 : Int32))) = 0
            · rw [if_pos y1, if_pos y1, if_neg (by decide), if_pos (Or.inl y0)]
              split <;> rfl
            · rw [if_neg y1, if_neg y1]
          · rw [if_neg (fun z => y0 ((z0 _ (by omega)).mp z))]
            by_cases y2 : popx (fld S x1 st u) ≤ popx (u + 1)
            · rw [if_pos y2]
              by_cases y1 : (nI (u + 1) &&& (nI st ^^^ (-1 : Int32))) = 0
              · rw [if_pos y1, if_pos y1, if_pos trivial, if_neg (fun z => z.elim y0 (fun w => w y2))]
              · rw [if_neg y1, if_neg y1]
            · rw [if_neg y2]
              by_cases y1 : (nI (u + 1) &&& (nI st ^^^ (-1 : Int32))) = 0
              · rw [if_pos y1, if_pos y1, if_neg (by decide), if_pos (Or.inr y2)]
                split <;> rfl
              · rw [if_neg y1, if_neg y1]
      have lM : ∀ (d u mc : Nat) (kt : Int32 → Mem → Option (Int32 × Mem)), u + 1 + d = 2 ^ M → d < mc → F_X7_comes_38 N 102 x1 x2 (nI st) kt mc (nI (fld S x1 st u)) (nI (u + 1)) m = kt (nI (fld S x1 st (2 ^ M - 1))) m := by
        intro d
        induction d with
        | zero =>
          intro u mc kt hu hm
          obtain ⟨mc, rfl⟩ : ∃ q, mc = q + 1 := ⟨mc - 1, by omega⟩
          rw [F_X7_comes_38, gin_d _ (by decide), ro_0 s.2.1, e0, shl_p M (by omega), if_pos (nI_le (by omega) (by omega)), show 2 ^ M - 1 = u by omega]
        | succ d ih =>
          intro u mc kt hu hm
          obtain ⟨mc, rfl⟩ : ∃ q, mc = q + 1 := ⟨mc - 1, by omega⟩
          have hb := fld_le S x1 st u
          have t4 : ∀ v, F_X7_sumOf N 102 v (4 : Int32) m = some (s_tot S v 4 (ix (S 8 0)), m) := fun v => M_tot (f := 4) hN s.2.1 s.2.2.1 v (by omega)
          have t5 : ∀ v, F_X7_sumOf N 102 v (5 : Int32) m = some (s_tot S v 5 (ix (S 8 0)), m) := fun v => M_tot (f := 5) hN s.2.1 s.2.2.1 v (by omega)
          have t6 : ∀ v, F_X7_sumOf N 102 v (6 : Int32) m = some (s_tot S v 6 (ix (S 8 0)), m) := fun v => M_tot (f := 6) hN s.2.1 s.2.2.1 v (by omega)
          have t3 : ∀ v, F_X7_sumOf N 102 v (3 : Int32) m = some (s_tot S v 3 (ix (S 8 0)), m) := fun v => M_tot (f := 3) hN s.2.1 s.2.2.1 v (by omega)
          rw [F_X7_comes_38, gin_d _ (by decide), ro_0 s.2.1, e0, shl_p M (by omega), if_neg (nI_ge (by omega) (by omega)), ← ih (u + 1) mc kt (by omega) (by omega), fld]
          unfold stp
          simp only [jn_e, t3, t4, t5, t6, M_taste, M_pop hN (show u + 1 < 256 by omega), M_pop hN (show fld S x1 st u < 256 by omega), bnd_s, nI_1]
          by_cases y1 : (nI (u + 1) &&& (nI st ^^^ (-1 : Int32))) = 0
          · rw [if_pos y1, if_pos y1]
            by_cases y0 : fld S x1 st u = 0
            · rw [if_pos ((z0 _ (by omega)).mpr y0), if_neg (by decide), if_pos (show fld S x1 st u = 0 ∨ ¬ popx (fld S x1 st u) ≤ popx (u + 1) from Or.inl y0)]
              unfold s_ts
              split <;> rfl
            · rw [if_neg (fun z => y0 ((z0 _ (by omega)).mp z))]
              by_cases y2 : popx (fld S x1 st u) ≤ popx (u + 1)
              · rw [if_pos y2, if_pos trivial, if_neg (fun z => z.elim y0 (fun w => w y2))]
              · rw [if_neg y2, if_neg (by decide), if_pos (show fld S x1 st u = 0 ∨ ¬ popx (fld S x1 st u) ≤ popx (u + 1) from Or.inr y2)]
                unfold s_ts
                split <;> rfl
          · rw [if_neg y1, if_neg y1]
            simp only [if_true]
      have hfm : fld S x1 st (2 ^ M - 1) = fld S x1 st st := by
        have := fld_st S x1 st hst (2 ^ M - 1 - st) (by omega)
        rw [show st + (2 ^ M - 1 - st) = 2 ^ M - 1 by omega] at this
        exact this
      have hfl := fld_le S x1 st st
      have lC' : ∀ kt, F_X2_fewestOfTaste_10 N (0 + 1) x1 (nI st) kt N 0 1 c = _ := fun kt => lC st 0 N kt (by omega) (by omega)
      have hp0 : 0 < 2 ^ M := Nat.pow_pos (by omega)
      have lM' : ∀ kt, F_X7_comes_38 N 102 x1 x2 (nI st) kt N 0 1 m = _ := fun kt => lM (2 ^ M - 1) 0 N kt (by omega) (by omega)
      rw [lC', lM', bnd_s, hfm]
      by_cases y : fld S x1 st st = 0
      · rw [y, if_pos (show nI 0 = 0 from rfl), if_pos (show nI 0 = 0 from rfl)]
        exact PR.er O (Or.inr (Or.inl rfl)) s CF.rf MF.rf rfl rfl
      · have yn : ¬ nI (fld S x1 st st) = 0 := fun z => y ((z0 _ (by omega)).mp z)
        rw [if_neg yn, if_neg yn]
        by_cases z : x2 = 0
        · rw [if_pos z, if_pos z]
          exact PR.ok O rfl rfl s CF.rf MF.rf
        · rw [if_neg z, if_neg z]
          exact PR.ok O (C_pop (by omega) _) (M_pop hN (by omega) _) s CF.rf MF.rf
    · simp only [e1, e2, bnd_s, bnd_id, if_true]
      exact PR.er O (Or.inl rfl) s CF.rf MF.rf rfl rfl
  · simp only [e1, e2, bnd_s, bnd_id, if_true]
    exact PR.er O (Or.inl rfl) s CF.rf MF.rf rfl rfl
end CM
