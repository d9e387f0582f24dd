section ST3
variable {c m S : Mem} {k N : Nat}
theorem P_storm (hN : 1000 ≤ N) (H : RR c m k) (x1 x2 : Int32) : PR (F_X6_storm N 0 x1 x2 c) (F_X7_storm N 102 x1 x2 m) c m k := by
  obtain ⟨⟨S, s⟩, O⟩ := H
  unfold F_X6_storm F_X7_storm
  have hH := O.2.2.1
  rcases sh_cs x1 with ⟨⟨j, hj, rfl⟩, e1, e2⟩ | ⟨q, e1, e2⟩
  · obtain ⟨n, hn, n1, n2⟩ := hH.sz hj
    simp only [e1, e2, bnd_s, i10, if_false]
    rcases in_cs x2 0 1 with ⟨q, e1, e2⟩ | ⟨q, e1, e2⟩
    · simp only [e1, e2, bnd_s, i10, if_false, bnd_id, gin_n _ hj (show 4 < 2 ^ 31 by omega), cs_eq j (by omega), ix_n (show j < 2 ^ 31 by omega), C_miss hH hj]
      rw [n2, show m (102 + 7) j = nI n from n1]
      by_cases hb : m 108 j = 0
      · rw [if_pos hb, if_neg (show ¬ (1 : Int32) = 0 by decide), if_pos (show m (102 + 6) j = 0 from hb)]
        exact PR.er O (Or.inr (Or.inl rfl)) s CF.rf MF.rf rfl rfl
      · rw [if_neg hb, if_pos (show (0 : Int32) = 0 from rfl), if_neg (show ¬ m (102 + 6) j = 0 from hb)]
        by_cases h4 : nI n = 4
        · rw [if_pos h4, if_pos h4, M_set hN s.2.1 s.2.2.1, bnd_s, gin_d _ (by decide), ro_0 s.2.1]
          have hst := mask_lt s.2.2.1
          obtain ⟨M, hM, e0, ex0⟩ := made_of s.2.2.1
          have hsM : s_mask S (ix (S 8 0)) < 2 ^ M := by rw [ex0]; exact (mask_in S M hM).1
          have hpM := pw_le hM
          have hp0 : 0 < 2 ^ M := Nat.pow_pos (by omega)
          have etop : nI (2 ^ M) - 1 = nI (2 ^ M - 1) := by
            have : nI (2 ^ M) = nI (2 ^ M - 1) + 1 := by rw [nI_1, Nat.sub_add_cancel hp0]
            rw [this]
            grind
          have cset := C_set (q := 0 + 1) hN s.1.1 s.2.2.1
          generalize s_mask S (ix (S 8 0)) = st at hst hsM cset ⊢
          rw [e0, shl_p M (by omega), sq_i, etop]
          have hw : ∀ f, f < 4 → c (94 + 2 * j + 1) f = (fun f => m 110 (40 * j + f)) f := fun f hf => by
            rw [show 94 + 2 * j + 1 = 95 + 2 * j by omega]
            exact (hH j hj).2.2.2.2.2 f (by omega)
          have lC : ∀ w2 : Int32, ∀ kt, F_X2_setsOfTotals_11 N (0 + 1) (0 + 85 + 9 + 2 * j + 1) 40 w2 (nI st) kt N 0 1 c = (if w2 = 0 then kt (nI (cdS (gdS S (fun f => m 110 (40 * j + f)) st) st)) c else if lsS (gdS S (fun f => m 110 (40 * j + f)) st) 0 st = 0 then kt 0 c else some (nI (lsS (gdS S (fun f => m 110 (40 * j + f)) st) 0 st), c)) := fun w2 kt => by
            have e := C_sets hN s.1.1 s.2.2.1 hw hst w2 st 0 N kt (by omega) (by omega)
            rw [show (if w2 = 0 then cdS (gdS S (fun f => m 110 (40 * j + f)) st) 0 else 0) = 0 by split <;> rfl] at e
            exact e
          have lM : ∀ kt, F_X7_storm_72 N 102 (nI j) x2 (nI st) kt N 0 0 (nI (2 ^ M - 1)) m = kt (nI (lsS (gdS S (fun f => m 110 (40 * j + f)) st) 0 (2 ^ M - 1))) (nI (cdS (gdS S (fun f => m 110 (40 * j + f)) st) (2 ^ M - 1))) m := fun kt => by
            have e := M_72 hN s.2.1 s.2.2.1 (st := st) (top := 2 ^ M - 1) hj (by omega) x2 (2 ^ M - 1) N kt (by omega) (by omega)
            rw [Nat.sub_self, Nat.sub_self] at e
            exact e
          rw [lM]
          have hng : ∀ u, st < u → u < 256 → ¬ gdS S (fun f => m 110 (40 * j + f)) st u = true := fun u h1 h2 h3 => sub_gt st hst u h2 h1 (of_decide_eq_true h3).1
          generalize gdS S (fun f => m 110 (40 * j + f)) st = g at lC hng
          have ecd : cdS g (2 ^ M - 1) = cdS g st := by
            have := cd_top g st hng (2 ^ M - 1 - st) (by omega)
            rwa [show st + (2 ^ M - 1 - st) = 2 ^ M - 1 by omega] at this
          have els : lsS g 0 (2 ^ M - 1) = lsS g 0 st := by
            have := ls_top g st hng st 0 (2 ^ M - 1 - st) (by omega) (by omega)
            rwa [show st + (2 ^ M - 1 - st) = 2 ^ M - 1 by omega] at this
          have hz := ls_cd g st 0
          rw [Nat.zero_add] at hz
          have hc0 : cdS g 0 = 0 := rfl
          rw [hc0] at hz
          have hcl := cd_le g st
          rw [ecd, els]
          have z0 : ∀ b, b ≤ 1000 → (nI b = 0 ↔ b = 0) := fun b hb => ⟨fun z => by have := congrArg ix z; rw [ix_n (by omega)] at this; exact this, fun z => by rw [z]; rfl⟩
          unfold F_X2_setsOfTotals
          simp only [jn_e, cset, bnd_s, lC, bnd_id]
          by_cases hx : x2 = 0
          · rw [if_pos hx, if_neg (show ¬ (1 : Int32) = 0 by decide)]
            by_cases y : lsS g 0 st = 0
            · rw [if_pos y, bnd_s, if_pos (show (0 : Int32) = 0 from rfl), if_pos ((z0 _ (by omega)).mpr (hz.1.mp y))]
              exact PR.er O (Or.inr (Or.inl rfl)) s CF.rf MF.rf rfl rfl
            · rw [if_neg y, bnd_s, if_neg (fun v => y ((z0 _ (by omega)).mp v)), if_neg (fun v => y (hz.1.mpr ((z0 _ (by omega)).mp v))), if_pos hx]
              exact PR.ok O rfl rfl s CF.rf MF.rf
          · rw [if_neg hx, if_pos trivial, bnd_s]
            by_cases y : cdS g st = 0
            · rw [if_pos ((z0 _ (by omega)).mpr y), if_pos ((z0 _ (by omega)).mpr y)]
              exact PR.er O (Or.inr (Or.inl rfl)) s CF.rf MF.rf rfl rfl
            · rw [if_neg (fun v => y ((z0 _ (by omega)).mp v)), if_neg (fun v => y ((z0 _ (by omega)).mp v)), if_neg hx]
              exact PR.ok O rfl rfl s CF.rf MF.rf
        · rw [if_neg h4, if_neg h4]
          exact PR.er O (Or.inr (Or.inl rfl)) s CF.rf MF.rf rfl rfl
    · simp only [e1, e2, bnd_s, bnd_id, if_true]
      exact PR.er O (Or.inl rfl) s CF.rf MF.rf rfl rfl
  · simp only [e1, e2, bnd_s, bnd_id, if_true]
    exact PR.er O (Or.inl rfl) s CF.rf MF.rf rfl rfl
end ST3
