/-! PUBLIC METHODS, one after another -/
theorem SkyR.up {h S : Mem} {c a f k j : Nat} (R : SkyR h c S) (v : V9 a f) (e : cpl c a f = (k, j)) (x : Int32) : SkyR (upm h k j x) c (upm S a f x) ∧ FT c h (upm h k j x) := by
  have hk : c ≤ (cpl c a f).1 ∧ (cpl c a f).1 < c + 28 ∧ ¬ (c + 5 ≤ (cpl c a f).1 ∧ (cpl c a f).1 ≤ c + 10) := by
    unfold cpl
    unfold V9 at v
    repeat' split
    all_goals (simp only; omega)
  have ha : a ≤ 12 ∧ (a = 8 → f < 6) := by unfold V9 at v; omega
  rw [e] at hk
  have E : FT c h (upm h k j x) := FT.up hk
  refine ⟨R.ft (R.1.up v e x) E ?_ ?_ ?_ ?_, E⟩
  · simp [upm]; omega
  · simp [upm]; omega
  · exact upm_off _ (by omega)
  · exact upm_off _ (by omega)
theorem RS.up {c m S : Mem} {a f k j J : Nat} {x : Int32} (s : RS c m S) (v : V9 a f) (e : cpl 1 a f = (k, j)) (hJ : J < 262) (eJ : rpl J = (a, f)) (W : WF (upm S a f x)) : RS (upm c k j x) (upm m 103 J x) (upm S a f x) ∧ CF c (upm c k j x) ∧ MF m (upm m 103 J x) := by
  obtain ⟨T, E⟩ := s.1.up v e x
  refine ⟨⟨T, ?_, W⟩, CF.of1 E.FS, MF.of103 E103.up⟩
  rw [upm_103]
  exact s.2.1.up hJ eJ
theorem WF.mk2 {S : Mem} {a f : Nat} {x : Int32} (W : WF S) (h : WS (upm S a f x)) (q : a ≠ 11 ∧ ¬ (a = 8 ∧ (f = 1 ∨ f = 4 ∨ f = 5))) : WF (upm S a f x) := by
  obtain ⟨w1, w2, w3, w4, w5⟩ := W
  have e : ∀ f', (f' = 1 ∨ f' = 4 ∨ f' = 5) → upm S a f x 8 f' = S 8 f' := fun f' hf => by
    simp only [upm]
    rw [if_neg (by omega)]
  refine ⟨h, ?_, ?_, ?_, fun j hj => ?_⟩
  · rw [e 1 (by omega)]; exact w2
  · rw [e 4 (by omega)]; exact w3
  · rw [e 5 (by omega)]; exact w4
  · rw [upm_off 11 (by omega)]; exact w5 j hj
section P1
variable {c m : Mem} {k N : Nat}
theorem P_hill (H : RR c m k) (x1 x2 : Int32) : PR (F_X6_hill 0 x1 x2 c) (F_X7_hill 102 x1 x2 m) c m k := by
  obtain ⟨⟨S, s⟩, O⟩ := H
  unfold F_X6_hill F_X7_hill
  rcases pl_cs x1 with ⟨⟨j, hj, rfl⟩, e1, e2⟩ | ⟨q, e1, e2⟩
  · simp only [e1, e2, bnd_s, i10, if_false]
    rcases in_cs x2 0 9 with ⟨q, e1, e2⟩ | ⟨q, e1, e2⟩
    · simp only [e1, e2, bnd_s, i10, if_false, sq_i, sq_h]
      rw [gin_n _ hj (by omega), gin_n _ hj (by omega), ix_n (by omega), show (16 : Int32) = nI 16 from rfl, nI_add, gin_n _ (by omega) (by omega), gin_n _ (by omega) (by omega), ix_n (by omega)]
      obtain ⟨u1, u2, u3⟩ := s.up (x := x2) (v_10 hj) cp_10 (J := 16 + j) (by omega) (rp_10 hj) (s.2.2.mk2 (s.2.2.1.upg (by omega) (fun q => by omega) (fun q => by omega) (fun q => by omega) (fun q => by omega) (fun _ => q)) (by omega))
      have ec : c 3 j = S 10 j := s.1.1.at (v_10 hj) cp_10
      have em : m 103 (16 + j) = S 10 j := by rw [s.2.1 _ (by omega), ro_10 hj]
      exact PR.ok O (r := S 10 j) (by rw [← ec]) (by rw [← em]) u1 u2 u3
    · simp only [e1, e2, bnd_s, bnd_id, if_true]
      exact PR.er O (Or.inl rfl) s CF.rf MF.rf rfl rfl
  · simp only [e1, e2, bnd_s, bnd_id, if_true]
    exact PR.er O (Or.inl rfl) s CF.rf MF.rf rfl rfl
theorem P_wind (H : RR c m k) (x1 x2 : Int32) : PR (F_X6_wind 0 x1 x2 c) (F_X7_wind 102 x1 x2 m) c m k := by
  obtain ⟨⟨S, s⟩, O⟩ := H
  unfold F_X6_wind F_X7_wind
  rcases in_cs x1 0 7 with ⟨q, e1, e2⟩ | ⟨q, e1, e2⟩
  · obtain ⟨j, hj, rfl⟩ := nat_of (n := 7) (by decide) q.1 q.2
    replace hj : j < 8 := by omega
    simp only [e1, e2, bnd_s, i10, if_false]
    rcases in_cs x2 (-3) 3 with ⟨q, e1, e2⟩ | ⟨q, e1, e2⟩
    · simp only [e1, e2, bnd_s, i10, if_false, sq_i, sq_h]
      rw [gin_n _ hj (by omega), gin_n _ hj (by omega), ix_n (by omega), show (8 : Int32) = nI 8 from rfl, nI_add, gin_n _ (by omega) (by omega), gin_n _ (by omega) (by omega), ix_n (by omega)]
      obtain ⟨u1, u2, u3⟩ := s.up (x := x2) (v_9 hj) cp_9 (J := 8 + j) (by omega) (rp_9 hj) (s.2.2.mk2 (s.2.2.1.upg (by omega) (fun q => by omega) (fun q => by omega) (fun q => by omega) (fun _ => q) (fun q => by omega)) (by omega))
      have ec : c 4 j = S 9 j := s.1.1.at (v_9 hj) cp_9
      have em : m 103 (8 + j) = S 9 j := by rw [s.2.1 _ (by omega), ro_9 hj]
      exact PR.ok O (r := S 9 j) (by rw [← ec]) (by rw [← em]) u1 u2 u3
    · simp only [e1, e2, bnd_s, bnd_id, if_true]
      exact PR.er O (Or.inl rfl) s CF.rf MF.rf rfl rfl
  · simp only [e1, e2, bnd_s, bnd_id, if_true]
    exact PR.er O (Or.inl rfl) s CF.rf MF.rf rfl rfl
theorem P_seed (H : RR c m k) (x1 : Int32) : PR (F_X6_seed 0 x1 c) (F_X7_seed 102 x1 m) c m k := by
  obtain ⟨⟨S, s⟩, O⟩ := H
  unfold F_X6_seed F_X7_seed
  simp only [sq_i, sq_h]
  rw [gin_d _ (by decide), gin_d _ (by decide)]
  obtain ⟨u1, u2, u3⟩ := s.up (x := x1) (v_8 (f := 3) (by omega)) (show cpl 1 8 3 = (1, 6) from rfl) (J := 3) (by omega) (rp_8 (by omega)) (s.2.2.mk2 (s.2.2.1.upg (by omega) (fun _ q => by omega) (fun _ q => by omega) (fun _ q => by omega) (fun q => by omega) (fun q => by omega)) (by omega))
  have em : m 103 3 = S 8 3 := by rw [s.2.1 _ (by omega), ro_8 (by omega)]
  exact PR.ok O (r := S 8 3) (by rw [← C_z s.1.1]) (by rw [← em]; rfl) u1 u2 u3
theorem P_told (H : RR c m k) (x1 : Int32) : PR (F_X6_told 0 x1 c) (F_X7_told 102 x1 m) c m k := by
  obtain ⟨⟨S, s⟩, O⟩ := H
  unfold F_X6_told F_X7_told
  rcases in_cs x1 1 5 with ⟨q, e1, e2⟩ | ⟨q, e1, e2⟩
  · obtain ⟨j, hj, rfl⟩ := nat_of (n := 5) (by decide) (by grind) q.2
    simp only [e1, e2, bnd_s, i10, if_false]
    rw [gin_n _ (by omega) (by omega), gin_n _ (by omega) (by omega), ix_n (by omega)]
    refine PR.ok O (r := c 93 j) rfl ?_ s CF.rf MF.rf
    rw [O.2.1 j (by omega)]
  · simp only [e1, e2, bnd_s, bnd_id, if_true]
    exact PR.er O (Or.inl rfl) s CF.rf MF.rf rfl rfl
/-- a number of a cloud's row, on both sides -/
theorem RS.upc {S : Mem} {i f : Nat} {x : Int32} (s : RS c m S) (hi : i < 8) (hf : f < 8) (hC : WC (upm S i f x) i) : ∃ q j, cpl 1 i f = (q, j) ∧ RS (upm c q j x) (upm m 103 (28 + 8 * i + f) x) (upm S i f x) ∧ CF c (upm c q j x) ∧ MF m (upm m 103 (28 + 8 * i + f) x) :=
  ⟨(cpl 1 i f).1, (cpl 1 i f).2, rfl, s.up (v_c hi hf) rfl (by omega) (rp_c hi hf) (s.2.2.mk2 (s.2.2.1.upc hi hC) (by omega))⟩
theorem M_puts1 {h : Mem} {i f : Nat} (hi : i < 8) (hf : f < 8) (x : Int32) : F_X7_puts 102 (nI i) (nI f) x h = some ((), upm h 103 (28 + 8 * i + f) x) := by
  unfold F_X7_puts
  rw [e_its, gin_n _ (by omega) (by omega), ix_n (by omega), sq_h]
theorem kind_in {x : Int32} (h : 0 ≤ x ∧ x ≤ 69) : (0 ≤ x / 10 ∧ x / 10 ≤ 6) ∧ 0 ≤ irm x 10 ∧ irm x 10 ≤ 9 := by
  have key : ∀ a, a < 70 → (0 ≤ nI a / 10 ∧ nI a / 10 ≤ 6) ∧ 0 ≤ irm (nI a) 10 ∧ irm (nI a) 10 ≤ 9 := by decide +kernel
  obtain ⟨a, ha, rfl⟩ := nat_of (n := 69) (by decide) h.1 h.2
  exact key a (by omega)
theorem P_become (H : RR c m k) (x1 x2 : Int32) : PR (F_X6_become 0 x1 x2 c) (F_X7_become 102 x1 x2 m) c m k := by
  obtain ⟨⟨S, s⟩, O⟩ := H
  unfold F_X6_become F_X7_become
  rcases cl_cs s.2.2.1 x1 with ⟨⟨i, hi, hiM, rfl⟩, e1, e2⟩ | ⟨e1, e2⟩
  · rw [e1 c s.1.1, e2 m s.2.1]
    simp only [bnd_s, i10, if_false]
    rcases in_cs x2 0 69 with ⟨q, e1, e2⟩ | ⟨q, e1, e2⟩
    · obtain ⟨k1, k2⟩ := kind_in q
      simp only [e1, e2, bnd_s, i10, if_false, sq_i]
      have hC := s.2.2.1.2.2.2.2.2 i hi
      obtain ⟨q1, j1, c1, s1, f1, g1⟩ := s.upc (x := x2 / 10) hi (f := 0) (by omega) (by unfold WC at *; simp [upm]; grind)
      obtain ⟨q2, j2, c2, s2, f2, g2⟩ := s1.upc (x := irm x2 10) hi (f := 1) (by omega) (by unfold WC at *; simp [upm]; grind)
      rw [cp_0 hi (by omega)] at c1 c2
      simp only [Prod.mk.injEq] at c1 c2
      obtain ⟨rfl, rfl⟩ := c1
      obtain ⟨rfl, rfl⟩ := c2
      rw [gin_n _ hi (by omega), gin_n _ hi (by omega), show (0 + 1) + 1 + 11 + 2 * ix (nI i) = ca 1 i by rw [ix_n (by omega)]; unfold ca; omega]
      unfold F_X0_takeKind
      rw [show F_X7_its 102 (nI i) (0 : Int32) m = _ from M_its (f := 0) s.2.1 hi (by omega), bnd_s]
      simp only [sq_h, gnz_n _ (show ¬ (10 : Int32) = 0 by decide), bnd_s]
      rw [show F_X7_puts 102 (nI i) (0 : Int32) (x2 / 10) m = _ from M_puts1 (f := 0) hi (by omega) (x2 / 10), bnd_s, show F_X7_puts 102 (nI i) (1 : Int32) (irm x2 10) _ = _ from M_puts1 (f := 1) hi (by omega) (irm x2 10), bnd_s]
      exact PR.ok O (r := S i 0) (by rw [← C_0 s.1.1 hi]; rfl) rfl s2 (f1.tr f2) (g1.tr g2)
    · simp only [e1, e2, bnd_s, bnd_id, if_true]
      exact PR.er O (Or.inl rfl) s CF.rf MF.rf rfl rfl
  · rw [e1 c s.1.1, e2 m s.2.1]
    simp only [bnd_s, bnd_id, if_true]
    exact PR.er O (Or.inl rfl) s CF.rf MF.rf rfl rfl
end P1
