section S2S
variable {c m S : Mem} {k N : Nat}
theorem C_miss (h : SH c m) {j : Nat} (hj : j < 4) : F_X1_isMissing (94 + 2 * j) c = some (if m 108 j = 0 then 1 else 0, c) := by
  unfold F_X1_isMissing
  rw [(h j hj).1]
  split <;> rfl
theorem SH.sz (h : SH c m) {j : Nat} (hj : j < 4) : ∃ n, n ≤ 40 ∧ m 109 j = nI n ∧ c (94 + 2 * j) 1 = nI n := by
  obtain ⟨h1, h2, h3, h4, h5, h6⟩ := h j hj
  obtain ⟨n, hn, en⟩ := nat_of (n := 40) (by decide) h4 h5
  exact ⟨n, hn, en, h2.trans en⟩
theorem ws_eq (s : Nat) (hs : s < 2 ^ 31) : (0 + 85) + 9 + 2 * ix (nI s) + 1 = 95 + 2 * s := by rw [ix_n hs]; omega
def narr (b x : Int32) : Int32 := if b = 8 then i2b x else if b = 16 then i2s x else x
theorem P_put (H : RR c m k) (x1 x2 x3 : Int32) : PR (F_X6_put 0 x1 x2 x3 c) (F_X7_put 102 x1 x2 x3 m) c m k := by
  obtain ⟨⟨S, s⟩, O⟩ := H
  unfold F_X6_put F_X7_put
  rcases sh_cs x1 with ⟨⟨j, hj, rfl⟩, e1, e2⟩ | ⟨q, e1, e2⟩
  · have hH := O.2.2.1
    obtain ⟨n, hn, n1, n2⟩ := hH.sz hj
    simp only [e1, e2, bnd_s, i10, if_false, bnd_id, gin_n _ hj (show 4 < 2 ^ 31 by omega), cs_eq j (by omega), ix_n (show j < 2 ^ 31 by omega), sq_h, C_miss hH hj]
    rw [show m (102 + 7) j = nI n from n1, n2]
    by_cases hb : m 108 j = 0
    · rw [if_pos hb, if_neg (show ¬ (1 : Int32) = 0 by decide), if_pos (show m (102 + 6) j = 0 from hb)]
      exact PR.er O (Or.inr (Or.inl rfl)) s CF.rf MF.rf rfl rfl
    · rw [if_neg hb, if_pos (show (0 : Int32) = 0 from rfl), if_neg (show ¬ m (102 + 6) j = 0 from hb)]
      rcases in_cs x2 0 (nI n - 1) with ⟨q, e1, e2⟩ | ⟨q, e1, e2⟩
      · simp only [e1, e2, bnd_s, i10, if_false]
        obtain ⟨i, hi, rfl⟩ : ∃ i, i < 40 ∧ x2 = nI i := by
          have h40 : nI n ≤ 40 := nI_le (b := 40) hn (by omega)
          have h0 : 0 ≤ nI n := nI_pos' (by omega)
          obtain ⟨i, hi, ei⟩ := nat_of (x := x2) (m := 39) (n := 39) (by decide) q.1 (by have := q.2; grind)
          exact ⟨i, by omega, ei⟩
        have eM : F_X7_narrow (m (102 + 6) j) x3 m = some (narr (m 108 j) x3, m) := by
          unfold F_X7_narrow narr
          show (if m 108 j = 8 then _ else if m 108 j = 16 then _ else _) = _
          repeat' split
          all_goals rfl
        have eC : F_X1_write (94 + 2 * j) (nI i) x3 c = some ((), upm c (94 + 2 * j + 1) i (narr (m 108 j) x3)) := by
          unfold F_X1_write narr
          rw [sq_i, (hH j hj).1]
          simp only [gin_n _ hi (show 40 < 2 ^ 31 by omega), ix_n (show i < 2 ^ 31 by omega), sq_h]
          repeat' split
          all_goals rfl
        rw [eC, eM, bnd_s, bnd_s, e_sh, gin_n _ (by omega) (by omega), ix_n (by omega)]
        refine PR.sh O rfl rfl s (fun q hq => upm_off q (by omega)) (fun q hq => upm_off q (by omega)) (hH.nw hj (fun q h1 h2 => upm_off q (by omega)) (fun t ht => ⟨by rw [upm_off 108 (by omega)], by rw [upm_off 109 (by omega)]⟩) (fun t ht => ?_) ?_)
        · show upm m 110 (40 * j + i) (narr (m 108 j) x3) 110 t = _
          simp only [upm]
          rw [if_neg (by omega)]
        · obtain ⟨h1, h2, h3, h4, h5, h6⟩ := hH j hj
          rw [upm_off (94 + 2 * j) (by omega), upm_off 108 (by omega), upm_off 109 (by omega)]
          refine ⟨h1, h2, h3, h4, h5, fun t ht => ?_⟩
          have := h6 t ht
          rw [show 94 + 2 * j + 1 = 95 + 2 * j by omega, show 102 + 8 = 110 from rfl]
          simp only [upm]
          by_cases z : t = i
          · subst z
            simp
          · simp [z, this]
      · simp only [e1, e2, bnd_s, bnd_id, if_true]
        exact PR.er O (Or.inl rfl) s CF.rf MF.rf rfl rfl
  · simp only [e1, e2, bnd_s, bnd_id, if_true]
    exact PR.er O (Or.inl rfl) s CF.rf MF.rf rfl rfl
theorem P_judge (hN : 1000 ≤ N) (H : RR c m k) (x1 : Int32) : PR (F_X6_judge N 0 x1 c) (F_X7_judge N 102 x1 m) c m k := by
  obtain ⟨⟨S, s⟩, O⟩ := H
  unfold F_X6_judge F_X7_judge
  rcases sh_cs x1 with ⟨⟨j, hj, rfl⟩, e1, e2⟩ | ⟨q, e1, e2⟩
  · have hH := O.2.2.1
    obtain ⟨n, hn, n1, n2⟩ := hH.sz hj
    obtain ⟨M, hM, e0, ex0⟩ := made_of s.2.2.1
    simp only [e1, e2, bnd_s, i10, if_false, bnd_id, gin_n _ hj (show 4 < 2 ^ 31 by omega), cs_eq j (by omega), ix_n (show j < 2 ^ 31 by omega), C_miss hH hj]
    by_cases hb : m 108 j = 0
    · rw [if_pos hb, if_neg (show ¬ (1 : Int32) = 0 by decide), if_pos (show m (102 + 6) j = 0 from hb)]
      exact PR.er O (Or.inr (Or.inl rfl)) s CF.rf MF.rf rfl rfl
    · rw [if_neg hb, if_pos (show (0 : Int32) = 0 from rfl), if_neg (show ¬ m (102 + 6) j = 0 from hb), n2, show c (0 + 1) 1 = nI M from (C_made s.1.1).trans e0, C_min, bnd_s]
      have emin : (if nI M < nI n then nI M else nI n) = nI (min n M) := by
        by_cases z : M < n
        · rw [if_pos (Int32.not_le.mp (nI_ge z (by omega))), Nat.min_eq_right (by omega)]
        · rw [if_neg (Int32.not_lt.mpr (nI_le (by omega) (by omega))), Nat.min_eq_left (by omega)]
      rw [emin]
      -- the loops
      have lp : ∀ (d i mc mm : Nat) (ktC : Mem → Option (Int32 × Mem)) (ktM : Int32 → Mem → Option (Int32 × Mem)), i + d = min n M → d < mc → d < mm → (F_X6_judge_55 N 0 (nI j) (nI (min n M)) ktC mc (nI i) c = ktC c ∧ F_X7_judge_32 N 102 (nI j) ktM mm (nI i) m = ktM (nI (min n M)) m) ∨ ∃ v, v < min n M ∧ F_X6_judge_55 N 0 (nI j) (nI (min n M)) ktC mc (nI i) c = some (nI v, c) ∧ F_X7_judge_32 N 102 (nI j) ktM mm (nI i) m = ktM (nI v) m := by
        intro d
        induction d with
        | zero =>
          intro i mc mm ktC ktM hi h1 h2
          obtain ⟨mc, rfl⟩ : ∃ q, mc = q + 1 := ⟨mc - 1, by omega⟩
          obtain ⟨mm, rfl⟩ : ∃ q, mm = q + 1 := ⟨mm - 1, by omega⟩
          have him : i = min n M := by omega
          left
          refine ⟨by rw [F_X6_judge_55, if_pos (nI_le (by omega) (by omega))], ?_⟩
          rw [F_X7_judge_32, gin_n _ hj (by omega), ix_n (by omega), show m (102 + 7) j = nI n from n1]
          by_cases z : n ≤ i
          · rw [if_pos (nI_le z (by omega)), him]
          · rw [if_neg (nI_ge (by omega) (by omega)), gin_d _ (by decide), ro_0 s.2.1, e0, if_pos (nI_le (by omega) (by omega)), him]
        | succ d ih =>
          intro i mc mm ktC ktM hi h1 h2
          obtain ⟨mc, rfl⟩ : ∃ q, mc = q + 1 := ⟨mc - 1, by omega⟩
          obtain ⟨mm, rfl⟩ : ∃ q, mm = q + 1 := ⟨mm - 1, by omega⟩
          have hw : c (95 + 2 * j) i = m 110 (40 * j + i) := (hH j hj).2.2.2.2.2 i (by omega)
          rw [F_X6_judge_55, if_neg (nI_ge (by omega) (by omega)), gin_n _ hj (by omega), gin_n _ (show i < 40 by omega) (by omega), gin_n _ (show i < 8 by omega) (by omega), ws_eq j (by omega), ca1 i (by omega), ix_n (show i < 2 ^ 31 by omega), hw, C_3 s.1.1 (by omega)]
          rw [F_X7_judge_32, gin_n _ hj (by omega), ix_n (show j < 2 ^ 31 by omega), show m (102 + 7) j = nI n from n1, if_neg (nI_ge (by omega) (by omega)), gin_d _ (by decide), ro_0 s.2.1, e0, if_neg (nI_ge (by omega) (by omega)), e_sh, sq_i, gin_n _ (by omega) (by omega), show F_X7_its 102 (nI i) (3 : Int32) m = _ from M_its (f := 3) s.2.1 (by omega) (by omega), bnd_s, ix_n (show 40 * j + i < 2 ^ 31 by omega)]
          by_cases z : m 110 (40 * j + i) = S i 3
          · rw [if_pos z, if_pos (show m (102 + 8) (40 * j + i) = S i 3 from z), nI_1]
            exact ih (i + 1) mc mm ktC ktM (by omega) (by omega) (by omega)
          · rw [if_neg z, if_neg (show ¬ m (102 + 8) (40 * j + i) = S i 3 from z)]
            right
            exact ⟨i, by omega, rfl, rfl⟩
      have inj : ∀ a b, a ≤ 40 → b ≤ 40 → (nI a = nI b ↔ a = b) := fun a b ha hb => ⟨fun z => by have := congrArg ix z; rw [ix_n (by omega), ix_n (by omega)] at this; exact this, fun z => by rw [z]⟩
      have fin : PR (F_X6_judge_55 N 0 (nI j) (nI (min n M)) (fun h13 => if h13 (94 + 2 * j) 1 = h13 (0 + 1) 1 then some (-1, h13) else some (nI (min n M), h13)) N (nI 0) c) (F_X7_judge_32 N 102 (nI j) (fun v10 h11 => if v10 = h11 (102 + 7) j then gin 0 262 (if v10 = h11 (102 + 1) (ix 0) then some (-1, h11) else some (v10, h11)) else some (v10, h11)) N (nI 0) m) c m k := by
        rcases lp (min n M) 0 N N (fun h13 => if h13 (94 + 2 * j) 1 = h13 (0 + 1) 1 then some (-1, h13) else some (nI (min n M), h13)) (fun v10 h11 => if v10 = h11 (102 + 7) j then gin 0 262 (if v10 = h11 (102 + 1) (ix 0) then some (-1, h11) else some (v10, h11)) else some (v10, h11)) (by omega) (by omega) (by omega) with ⟨y1, y2⟩ | ⟨v, hv, y1, y2⟩
        · rw [y1, y2, n2, show c (0 + 1) 1 = nI M from (C_made s.1.1).trans e0, show m (102 + 7) j = nI n from n1, gin_d _ (by decide), ro_0 s.2.1, e0]
          by_cases z : n = M
          · subst z
            rw [Nat.min_self, if_pos rfl, if_pos rfl, if_pos rfl]
            exact PR.ok O rfl rfl s CF.rf MF.rf
          · rw [if_neg (show ¬ nI n = nI M from fun y => z ((inj _ _ (by omega) (by omega)).mp y))]
            by_cases y : min n M = n
            · rw [if_pos (show nI (min n M) = nI n by rw [y]), if_neg (show ¬ nI (min n M) = nI M from fun w => by have := (inj _ _ (by omega) (by omega)).mp w; omega)]
              exact PR.ok O rfl rfl s CF.rf MF.rf
            · rw [if_neg (show ¬ nI (min n M) = nI n from fun w => y ((inj _ _ (by omega) (by omega)).mp w))]
              exact PR.ok O rfl rfl s CF.rf MF.rf
        · rw [y1, y2, show m (102 + 7) j = nI n from n1, if_neg (show ¬ nI v = nI n from fun w => by have := (inj _ _ (by omega) (by omega)).mp w; omega)]
          exact PR.ok O rfl rfl s CF.rf MF.rf
      exact fin
  · simp only [e1, e2, bnd_s, bnd_id, if_true]
    exact PR.er O (Or.inl rfl) s CF.rf MF.rf rfl rfl
end S2S
