def fw (S : Mem) (i : Nat) (p t : Int32) : Nat → Nat → Nat
  | j, 0 => j
  | j, d + 1 => if irm (p + s_drift (S i 0) (S i 1) (nI j - 3) + 24) 12 = t then j else fw S i p t (j + 1) d
theorem fw_le (S : Mem) (i : Nat) (p t : Int32) : ∀ d j, fw S i p t j d ≤ j + d ∧ (fw S i p t j d < j + d → irm (p + s_drift (S i 0) (S i 1) (nI (fw S i p t j d) - 3) + 24) 12 = t) := by
  intro d
  induction d with
  | zero =>
    intro j
    rw [fw]
    exact ⟨Nat.le_refl _, fun h => by omega⟩
  | succ d ih =>
    intro j
    rw [fw]
    split
    · rename_i q
      exact ⟨by omega, fun _ => q⟩
    · have := ih (j + 1)
      rw [show j + (d + 1) = j + 1 + d by omega]
      exact this
theorem w7 : ∀ j, j < 8 → ((3 : Int32) < nI j - 3 ↔ 7 ≤ j) ∧ ((4 : Int32) ≤ nI j - 3 ↔ 7 ≤ j) ∧ nI j - 3 + 1 = nI (j + 1) - 3 ∧ (nI j - 3 ≤ (3 : Int32) ↔ j < 7) ∧ ((9 : Int32) ≤ nI j - 3 ↔ False) ∧ (j < 7 → -3 ≤ nI j - 3 ∧ nI j - 3 ≤ 3) := by decide +kernel
section WD
variable {c m S : Mem} {k N : Nat}
theorem C_least3 {i : Nat} (hi : i < 8) (R : SkyN c 1 S) (hW : WS S) {p t : Int32} (hp : 0 ≤ p ∧ p ≤ 11) (kt : Int32 → Mem → Option (Int32 × Mem)) : ∀ (d j mc : Nat), j + d = 7 → d < mc → F_X0_leastWind_3 N (ca 1 i) p t kt mc (nI j - 3) c = kt (nI (fw S i p t j d) - 3) c := by
  intro d
  induction d with
  | zero =>
    intro j mc hj hm
    obtain ⟨mc, rfl⟩ : ∃ q, mc = q + 1 := ⟨mc - 1, by omega⟩
    have h7 : j = 7 := by omega
    subst h7
    rw [F_X0_leastWind_3, if_pos (by decide), fw]
  | succ d ih =>
    intro j mc hj hm
    obtain ⟨mc, rfl⟩ : ∃ q, mc = q + 1 := ⟨mc - 1, by omega⟩
    obtain ⟨w1, w2, w3, w4, w5, w6⟩ := w7 j (by omega)
    rw [F_X0_leastWind_3, if_neg (fun z => by have := w1.mp z; omega), C_placeBy R hi (hW.2.2.2.2.2 i hi) hp (w6 (by omega)), bnd_s, fw]
    split
    · rfl
    · rw [w3]
      exact ih (j + 1) mc (by omega) (by omega)
theorem M_for4 {i : Nat} (hi : i < 8) (R : RowR (m 103) S) {p t : Int32} (kt : Int32 → Mem → Option (Int32 × Mem)) : ∀ (d j mc : Nat), j + d = 7 → d < mc → F_X7_windFor_4 N 102 (nI i) p t kt mc (nI j - 3) m = kt (nI (fw S i p t j d) - 3) m := by
  intro d
  induction d with
  | zero =>
    intro j mc hj hm
    obtain ⟨mc, rfl⟩ : ∃ q, mc = q + 1 := ⟨mc - 1, by omega⟩
    have h7 : j = 7 := by omega
    subst h7
    rw [F_X7_windFor_4, if_pos (by decide), fw]
  | succ d ih =>
    intro j mc hj hm
    obtain ⟨mc, rfl⟩ : ∃ q, mc = q + 1 := ⟨mc - 1, by omega⟩
    obtain ⟨w1, w2, w3, w4, w5, w6⟩ := w7 j (by omega)
    rw [F_X7_windFor_4, if_neg (fun z => by have := w2.mp z; omega), M_drift R hi, bnd_s, gnz_n _ (by decide), fw]
    split
    · rfl
    · rw [w3]
      exact ih (j + 1) mc (by omega) (by omega)
theorem P_winds (hN : 1000 ≤ N) (H : RR c m k) (x1 x2 x3 : Int32) : PR (F_X6_winds N 0 x1 x2 x3 c) (F_X7_winds N 102 x1 x2 x3 m) c m k := by
  obtain ⟨⟨S, s⟩, O⟩ := H
  unfold F_X6_winds F_X7_winds
  have hH := O.2.2.1
  rcases cl_cs s.2.2.1 x1 with ⟨⟨i, hi, hiM, rfl⟩, g1, g2⟩ | ⟨g1, g2⟩
  · rw [g1 c s.1.1, g2 m s.2.1]
    simp only [bnd_s, i10, if_false]
    have hC := s.2.2.1.2.2.2.2.2 i hi
    rcases sh_cs x2 with ⟨⟨j, hj, rfl⟩, e1, e2⟩ | ⟨q, e1, e2⟩
    · obtain ⟨n, hn, n1, n2⟩ := hH.sz hj
      simp only [e1, e2, bnd_s, i10, if_false]
      rcases in_cs x3 0 7 with ⟨q, e1, e2⟩ | ⟨q, e1, e2⟩
      · obtain ⟨X, hX, rfl⟩ := nat_of (n := 7) (by decide) q.1 q.2
        simp only [e1, e2, bnd_s, i10, if_false, bnd_id, M_isThere s.2.1 hi]
        rw [gin_n _ hi (by omega), ca1 i (by omega), C_7 s.1.1 hi]
        by_cases q7 : S i 7 = 1
        · rw [if_neg (show ¬ S i 7 = 0 by rw [q7]; decide), if_pos q7, if_neg (show ¬ (1 : Int32) = 0 by decide)]
          simp only [gin_n _ hj (show 4 < 2 ^ 31 by omega), cs_eq j (by omega), ix_n (show j < 2 ^ 31 by omega), C_min, bnd_s, C_miss hH hj]
          rw [n2, show m (102 + 7) j = nI n from n1]
          by_cases hb : m 108 j = 0
          · rw [if_pos hb, if_neg (show ¬ (1 : Int32) = 0 by decide), if_pos (show m (102 + 6) j = 0 from hb)]
            exact PR.er O (Or.inr (Or.inl rfl)) s CF.rf MF.rf rfl rfl
          · rw [if_neg hb, if_pos (show (0 : Int32) = 0 from rfl), if_neg (show ¬ m (102 + 6) j = 0 from hb)]
            have emin : (if nI n < 8 then nI n else 8) = nI (min n 8) := by
              by_cases z : n < 8
              · rw [if_pos (show nI n < 8 from Int32.not_le.mp (nI_ge (a := n) (b := 8) z (by omega))), Nat.min_eq_left (by omega)]
              · rw [if_neg (show ¬ nI n < 8 from Int32.not_lt.mpr (nI_le (a := 8) (by omega) (by omega))), Nat.min_eq_right (by omega)]
                rfl
            rw [emin]
            by_cases zX : X < n
            · rw [if_pos (Int32.not_le.mp (nI_ge (show X < min n 8 by omega) (by omega))), if_pos (Int32.not_le.mp (nI_ge zX (by omega))), sq_i, C_2 s.1.1 hi, show F_X7_its 102 (nI i) (2 : Int32) m = _ from M_its (f := 2) s.2.1 hi (by omega), bnd_s]
              have inj : ∀ a b, a ≤ 40 → b ≤ 40 → (nI a = nI b ↔ a = b) := fun a b ha hb => ⟨fun z => by have := congrArg ix z; rw [ix_n (by omega), ix_n (by omega)] at this; exact this, fun z => by rw [z]⟩
              have lp : ∀ (d t mc mm : Nat) (p u8 u5 : Int32), t + d = min n 8 → d < mc → d < mm → (0 ≤ p ∧ p ≤ 11) → (X < t → u8 = u5) → (∃ v, (∀ kt, F_X6_winds_112 N 0 (nI X) (ca 1 i) (94 + 2 * j) (nI (min n 8)) kt mc p u8 (nI t) c = kt v c) ∧ ∀ kt, F_X7_winds_91 N 102 (nI i) (nI j) (nI X) kt mm p u5 1 (nI t) m = kt v 1 m) ∨ ((∀ kt, F_X6_winds_112 N 0 (nI X) (ca 1 i) (94 + 2 * j) (nI (min n 8)) kt mc p u8 (nI t) c = F_X6_refuse 0 (-1000000002) c) ∧ ∃ v, ∀ kt, F_X7_winds_91 N 102 (nI i) (nI j) (nI X) kt mm p u5 1 (nI t) m = kt v 0 m) := by
                intro d
                induction d with
                | zero =>
                  intro t mc mm p u8 u5 ht h1 h2 hp hu
                  obtain ⟨mc, rfl⟩ : ∃ q, mc = q + 1 := ⟨mc - 1, by omega⟩
                  obtain ⟨mm, rfl⟩ : ∃ q, mm = q + 1 := ⟨mm - 1, by omega⟩
                  left
                  refine ⟨u8, fun kt => ?_, fun kt => ?_⟩
                  · rw [F_X6_winds_112, if_pos (nI_le (by omega) (by omega))]
                  · rw [F_X7_winds_91, gin_n _ hj (by omega), ix_n (by omega), show m (102 + 7) j = nI n from n1, ← hu (by omega)]
                    by_cases z : n ≤ t
                    · rw [if_pos (nI_le z (by omega))]
                    · rw [if_neg (nI_ge (by omega) (by omega)), if_pos (show (8 : Int32) ≤ nI t from nI_le (a := 8) (by omega) (by omega))]
                | succ d ih =>
                  intro t mc mm p u8 u5 ht h1 h2 hp hu
                  obtain ⟨mc, rfl⟩ : ∃ q, mc = q + 1 := ⟨mc - 1, by omega⟩
                  obtain ⟨mm, rfl⟩ : ∃ q, mm = q + 1 := ⟨mm - 1, by omega⟩
                  have hw : c (94 + 2 * j + 1) t = m 110 (40 * j + t) := by
                    rw [show 94 + 2 * j + 1 = 95 + 2 * j by omega]
                    exact (hH j hj).2.2.2.2.2 t (by omega)
                  generalize hx : m 110 (40 * j + t) = x at hw
                  have hf := fw_le S i p x 7 0
                  obtain ⟨w1, w2, w3, w4, w5, w6⟩ := w7 (fw S i p x 0 7) (by omega)
                  have eL : F_X0_leastWind N (ca 1 i) p x c = some (nI (fw S i p x 0 7) - 3, c) := by
                    unfold F_X0_leastWind
                    exact C_least3 hi s.1.1 s.2.2.1 hp _ 7 0 N (by omega) (by omega)
                  have eF : F_X7_windFor N 102 (nI i) p x m = some (if fw S i p x 0 7 < 7 then nI (fw S i p x 0 7) - 3 else 9, m) := by
                    unfold F_X7_windFor
                    refine (M_for4 hi s.2.1 _ 7 0 N (by omega) (by omega)).trans ?_
                    by_cases z : fw S i p x 0 7 < 7
                    · rw [if_pos z, if_neg (fun y => by have := w2.mp y; omega)]
                    · rw [if_neg z, if_pos (w2.mpr (by omega))]
                  have hlt : ¬ nI (min n 8) ≤ nI t := nI_ge (by omega) (by omega)
                  have hlt2 : ¬ nI n ≤ nI t := nI_ge (by omega) (by omega)
                  have hlt3 : ¬ (8 : Int32) ≤ nI t := nI_ge (b := 8) (by omega) (by omega)
                  by_cases z : fw S i p x 0 7 < 7
                  · have hpx := place_in (p := p) (d := s_drift (S i 0) (S i 1) (nI (fw S i p x 0 7) - 3)) hp (drift_in (by unfold WC at hC; exact ⟨hC.1, hC.2.1⟩) (by unfold WC at hC; exact ⟨hC.2.2.1, hC.2.2.2.1⟩) (w6 z))
                    rw [hf.2 (by omega)] at hpx
                    have i1 := ih (t + 1) mc mm x (if t = X then nI (fw S i p x 0 7) - 3 else u8) (if t = X then nI (fw S i p x 0 7) - 3 else u5) (by omega) (by omega) (by omega) hpx (fun hXt => by
                      by_cases y : t = X
                      · rw [if_pos y, if_pos y]
                      · rw [if_neg y, if_neg y]
                        exact hu (by omega))
                    have eC : ∀ kt, F_X6_winds_112 N 0 (nI X) (ca 1 i) (94 + 2 * j) (nI (min n 8)) kt (mc + 1) p u8 (nI t) c = F_X6_winds_112 N 0 (nI X) (ca 1 i) (94 + 2 * j) (nI (min n 8)) kt mc x (if t = X then nI (fw S i p x 0 7) - 3 else u8) (nI (t + 1)) c := fun kt => by
                      rw [F_X6_winds_112, if_neg hlt, gin_n _ (show t < 40 by omega) (by omega), ix_n (show t < 2 ^ 31 by omega), hw, eL, bnd_s, if_pos (w4.mpr z)]
                      by_cases y : t = X
                      · rw [if_pos (show nI t = nI X by rw [y]), if_pos y, gin_n _ (show t < 40 by omega) (by omega), sq_i, hw, nI_1]
                      · rw [if_neg (fun v => y ((inj _ _ (by omega) (by omega)).mp v)), if_neg y, gin_n _ (show t < 40 by omega) (by omega), sq_i, hw, nI_1]
                    have eP : F_X7_isPlace x m = some (1, m) := by
                      rcases pl_cs x with ⟨_, _, e⟩ | ⟨v, _, _⟩
                      · exact e m
                      · exact absurd hpx v
                    have eM : ∀ kt, F_X7_winds_91 N 102 (nI i) (nI j) (nI X) kt (mm + 1) p u5 1 (nI t) m = F_X7_winds_91 N 102 (nI i) (nI j) (nI X) kt mm x (if t = X then nI (fw S i p x 0 7) - 3 else u5) 1 (nI (t + 1)) m := fun kt => by
                      rw [F_X7_winds_91, gin_n _ hj (by omega), ix_n (show j < 2 ^ 31 by omega), show m (102 + 7) j = nI n from n1, if_neg hlt2, if_neg hlt3, if_neg (show ¬ (1 : Int32) = 0 by decide), e_sh, sq_i, gin_n _ (by omega) (by omega), sq_i, ix_n (show 40 * j + t < 2 ^ 31 by omega), show m (102 + 8) (40 * j + t) = x from hx, eP, bnd_s, jn_e, if_neg (show ¬ (1 : Int32) = 0 by decide), eF, bnd_s, if_pos z]
                      simp only [jn_e, if_neg (show ¬ (9 : Int32) ≤ nI (fw S i p x 0 7) - 3 from fun y => w5.mp y)]
                      by_cases y : t = X
                      · rw [if_pos (show nI t = nI X by rw [y]), if_pos y, nI_1]
                      · rw [if_neg (fun v => y ((inj _ _ (by omega) (by omega)).mp v)), if_neg y, nI_1]
                    rcases i1 with ⟨v, y1, y2⟩ | ⟨y1, v, y2⟩
                    · exact Or.inl ⟨v, fun kt => by rw [eC, y1], fun kt => by rw [eM, y2]⟩
                    · exact Or.inr ⟨fun kt => by rw [eC, y1], v, fun kt => by rw [eM, y2]⟩
                  · right
                    refine ⟨fun kt => ?_, (if t = X then 9 else u5), fun kt => ?_⟩
                    · rw [F_X6_winds_112, if_neg hlt, gin_n _ (show t < 40 by omega) (by omega), ix_n (show t < 2 ^ 31 by omega), hw, eL, bnd_s, if_neg (fun y => z (w4.mp y)), bnd_id]
                    · obtain ⟨mm, rfl⟩ : ∃ q, mm = q + 1 := ⟨mm - 1, by omega⟩
                      have stop : ∀ v u, F_X7_winds_91 N 102 (nI i) (nI j) (nI X) kt (mm + 1) v u 0 (nI (t + 1)) m = kt u 0 m := fun v u => by
                        rw [F_X7_winds_91, gin_n _ hj (by omega)]
                        repeat' split
                        all_goals first | rfl | (exfalso; contradiction)
                      have h99 : (9 : Int32) ≤ 9 := by decide
                      have nine : ∀ o : Int32 → Mem → Option (Int32 × Mem), (bnd (F_X7_isPlace x m) fun r23 h24 => if r23 = 0 then o 9 h24 else bnd (F_X7_windFor N 102 (nI i) p x h24) fun r35 h36 => o r35 h36) = o 9 m := fun o => by
                        rcases pl_cs x with ⟨_, _, e⟩ | ⟨_, _, e⟩
                        · rw [e, bnd_s, if_neg (by decide), eF, if_neg z, bnd_s]
                        · rw [e, bnd_s, if_pos rfl]
                      rw [F_X7_winds_91, gin_n _ hj (by omega), ix_n (show j < 2 ^ 31 by omega), show m (102 + 7) j = nI n from n1, if_neg hlt2, if_neg hlt3, if_neg (show ¬ (1 : Int32) = 0 by decide), e_sh, sq_i, gin_n _ (by omega) (by omega), sq_i, ix_n (show 40 * j + t < 2 ^ 31 by omega), show m (102 + 8) (40 * j + t) = x from hx]
                      refine (nine (fun s28 h29 => jn (fun (v31 v32 s33 : Int32) (h34 : Mem) => (if v32 = nI X then (F_X7_winds_91 N 102 (nI i) (nI j) (nI X) kt (mm + 1) x s28 s33 (v32 + 1) h34) else (F_X7_winds_91 N 102 (nI i) (nI j) (nI X) kt (mm + 1) x v31 s33 (v32 + 1) h34))) (fun j30 => (if (9 : Int32) ≤ s28 then (j30 u5 (nI t) (0 : Int32) h29) else (j30 u5 (nI t) (1 : Int32) h29))))).trans ?_
                      simp only [jn_e, if_pos h99, nI_1, stop]
                      by_cases y : t = X
                      · rw [if_pos (show nI t = nI X by rw [y]), if_pos y]
                      · rw [if_neg (fun v => y ((inj _ _ (by omega) (by omega)).mp v)), if_neg y]
              have hpl : 0 ≤ S i 2 ∧ S i 2 ≤ 11 := by unfold WC at hC; exact ⟨hC.2.2.2.2.1, hC.2.2.2.2.2.1⟩
              rcases lp (min n 8) 0 N N (S i 2) 0 9 (by omega) (by omega) (by omega) hpl (fun h => by omega) with ⟨v, y1, y2⟩ | ⟨y1, v, y2⟩
              · have y1' : ∀ kt, F_X6_winds_112 N 0 (nI X) (ca 1 i) (94 + 2 * j) (nI (min n 8)) kt N (S i 2) 0 0 c = _ := y1
                have y2' : ∀ kt, F_X7_winds_91 N 102 (nI i) (nI j) (nI X) kt N (S i 2) 9 1 0 m = _ := y2
                rw [y1', y2', if_neg (by decide)]
                exact PR.ok O rfl rfl s CF.rf MF.rf
              · have y1' : ∀ kt, F_X6_winds_112 N 0 (nI X) (ca 1 i) (94 + 2 * j) (nI (min n 8)) kt N (S i 2) 0 0 c = _ := y1
                have y2' : ∀ kt, F_X7_winds_91 N 102 (nI i) (nI j) (nI X) kt N (S i 2) 9 1 0 m = _ := y2
                rw [y1', y2', if_pos rfl]
                exact PR.er O (Or.inr (Or.inl rfl)) s CF.rf MF.rf rfl rfl
            · rw [if_neg (show ¬ nI X < nI (min n 8) from Int32.not_lt.mpr (nI_le (by omega) (by omega))), if_neg (show ¬ nI X < nI n from Int32.not_lt.mpr (nI_le (by omega) (by omega)))]
              exact PR.er O (Or.inr (Or.inl rfl)) s CF.rf MF.rf rfl rfl
        · rw [if_pos (show S i 7 = 0 by unfold WC at hC; grind), if_neg q7, if_pos rfl]
          exact PR.er O (Or.inr (Or.inr (Or.inl rfl))) s CF.rf MF.rf rfl rfl
      · simp only [e1, e2, bnd_s, bnd_id, if_true]
        exact PR.er O (Or.inl rfl) s CF.rf MF.rf rfl rfl
    · simp only [e1, e2, bnd_s, bnd_id, if_true]
      exact PR.er O (Or.inl rfl) s CF.rf MF.rf rfl rfl
  · rw [g1 c s.1.1, g2 m s.2.1]
    simp only [bnd_s, bnd_id, if_true]
    exact PR.er O (Or.inl rfl) s CF.rf MF.rf rfl rfl
end WD
