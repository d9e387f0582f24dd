theorem upm_cm {S : Mem} {a b f g : Nat} {x y : Int32} (h : ¬ (a = b ∧ f = g)) : upm (upm S a f x) b g y = upm (upm S b g y) a f x := by
  funext i j
  simp only [upm]
  split
  · rename_i q
    rw [if_neg (by omega)]
  · rfl
theorem l12_cs {x : Int32} (h : 0 ≤ x ∧ x ≤ 11) : x = 0 ∨ x = 1 ∨ x = 2 ∨ x = 3 ∨ x = 4 ∨ x = 5 ∨ x = 6 ∨ x = 7 ∨ x = 8 ∨ x = 9 ∨ x = 10 ∨ x = 11 := by grind
theorem l7_cs {x : Int32} (h : 0 ≤ x ∧ x ≤ 6) : x = 0 ∨ x = 1 ∨ x = 2 ∨ x = 3 ∨ x = 4 ∨ x = 5 ∨ x = 6 := by grind
theorem l5_cs {x : Int32} (h : 0 ≤ x ∧ x ≤ 4) : x = 0 ∨ x = 1 ∨ x = 2 ∨ x = 3 ∨ x = 4 := by grind
theorem ht_in {S : Mem} {i : Nat} (hW : WS S) (hi : i < 8) : 0 ≤ s_height S i ∧ s_height S i ≤ 9 := by
  have hC := hW.2.2.2.2.2 i hi
  unfold WC at hC
  obtain ⟨j, hj, ej⟩ := nat_of (n := 11) (by decide) hC.2.2.2.2.1 hC.2.2.2.2.2.1
  unfold s_height
  rw [ej, ix_n (by omega)]
  exact hW.2.2.2.2.1 j (by omega)
section P2
variable {c m : Mem} {k N : Nat}
theorem RS.fk {S c' m' : Mem} (s : RS c m S) (F : FK 1 c c') (E : E102 m m') : RS c' m' S := ⟨s.1.fk F, E.row s.2.1, s.2.2⟩
theorem ca1 (i : Nat) (h : i < 2 ^ 31) : (0 + 1) + 1 + 11 + 2 * ix (nI i) = ca 1 i := by rw [ix_n h]; unfold ca; omega
theorem P_ofCloud (hN : 1000 ≤ N) (H : RR c m k) (x1 x2 : Int32) : PR (F_X6_ofCloud N 0 x1 x2 c) (F_X7_ofCloud N 102 x1 x2 m) c m k := by
  obtain ⟨⟨S, s⟩, O⟩ := H
  unfold F_X6_ofCloud F_X7_ofCloud
  rcases cl_cs s.2.2.1 x1 with ⟨⟨i, hi, hiM, rfl⟩, e1, e2⟩ | ⟨e1, e2⟩
  · rw [e1 c s.1.1, e2 m s.2.1]
    simp only [bnd_s, i10, if_false]
    rcases in_cs x2 0 11 with ⟨q, e1, e2⟩ | ⟨q, e1, e2⟩
    · simp only [e1, e2, bnd_s, i10, if_false, bnd_id]
      have hC := s.2.2.1.2.2.2.2.2 i hi
      have hpl : 0 ≤ S i 2 ∧ S i 2 ≤ 11 := by unfold WC at hC; exact ⟨hC.2.2.2.2.1, hC.2.2.2.2.2.1⟩
      unfold F_X2_factOf
      rw [gin_n _ hi (by omega)]
      simp only [ca1 i (by omega)]
      have its : ∀ f, f < 8 → F_X7_its 102 (nI i) (nI f) m = some (S i f, m) := fun f hf => M_its s.2.1 hi hf
      rcases l12_cs q with rfl | rfl | rfl | rfl | rfl | rfl | rfl | rfl | rfl | rfl | rfl | rfl
      · simp +decide only [if_true, if_false]
        exact PR.ok O (by rw [C_0 s.1.1 hi]) (its 0 (by omega)) s CF.rf MF.rf
      · simp +decide only [if_true, if_false]
        exact PR.ok O (by rw [C_m s.1.1 hi]) (its 1 (by omega)) s CF.rf MF.rf
      · simp +decide only [if_true, if_false]
        exact PR.ok O (by rw [C_2 s.1.1 hi]) (its 2 (by omega)) s CF.rf MF.rf
      · simp +decide only [if_true, if_false]
        exact PR.ok O (by rw [C_3 s.1.1 hi]) (its 3 (by omega)) s CF.rf MF.rf
      · simp +decide only [if_true, if_false, bnd_id]
        exact PR.ok O (C_saltAt (s := 0) s.1.1 hi (by omega)) (its 4 (by omega)) s CF.rf MF.rf
      · simp +decide only [if_true, if_false, bnd_id]
        exact PR.ok O (C_saltAt (s := 1) s.1.1 hi (by omega)) (its 5 (by omega)) s CF.rf MF.rf
      · simp +decide only [if_true, if_false, bnd_id]
        exact PR.ok O (C_saltAt (s := 2) s.1.1 hi (by omega)) (its 6 (by omega)) s CF.rf MF.rf
      · simp +decide only [if_true, if_false]
        refine PR.ok O (r := S i 7) ?_ (its 7 (by omega)) s CF.rf MF.rf
        rw [C_7 s.1.1 hi]
        unfold WC at hC
        rcases hC.2.2.2.2.2.2.2.2.2.2.2.2.2.2.1 with q7 | q7
        · rw [q7, if_pos rfl]
        · rw [q7, if_neg (by decide)]
      · simp +decide only [if_true, if_false, bnd_id]
        exact PR.ok O (C_taste s.1.1 hi hC) (M_tasteOf s.2.1 hi) s CF.rf MF.rf
      · simp +decide only [if_true, if_false, bnd_id]
        obtain ⟨c', a1, a2⟩ := C_nameOf hN s.1 hi hC
        obtain ⟨m', b1, b2⟩ := M_nameOf hN s.1 s.2.1 hi
        exact PR.ok O a1 b1 (s.fk a2 b2) (CF.of1 a2.FS) (MF.of102 b2)
      · simp +decide only [if_true, if_false, bnd_id]
        rw [show F_X2_windNow (0 + 1) c = _ from C_windNow s.1.1 s.2.2.1, bnd_s, M_wind s.2.1 s.2.2.1, bnd_s]
        exact PR.ok O (C_drift s.1.1 hi _) (M_drift s.2.1 hi _) s CF.rf MF.rf
      · simp +decide only [if_true, if_false, bnd_id]
        rw [show F_X2_heightUnder (0 + 1) (ca 1 i) c = _ from C_height s.1.1 hi hpl.1 hpl.2, bnd_s, M_height s.2.1 hi hpl.1 hpl.2, bnd_s]
        have ht := ht_in s.2.2.1 hi
        by_cases q0 : s_height S i = 0
        · rw [if_pos q0]
          unfold F_X0_rainAt
          rw [if_neg (by grind)]
          exact PR.ok O rfl rfl s CF.rf MF.rf
        · rw [if_neg q0, M_height s.2.1 hi hpl.1 hpl.2, bnd_s]
          exact PR.ok O (C_rainAt s.1.1 hi hC (by grind)) (M_rains s.2.1 hi _) s CF.rf MF.rf
    · simp only [e1, e2, bnd_s, bnd_id, if_true]
      exact PR.er O (Or.inl rfl) s CF.rf MF.rf rfl rfl
  · rw [e1 c s.1.1, e2 m s.2.1]
    simp only [bnd_s, bnd_id, if_true]
    exact PR.er O (Or.inl rfl) s CF.rf MF.rf rfl rfl
theorem as_cs (hN : 1000 ≤ N) {a b : Int32} (ha : 0 ≤ a ∧ a ≤ 6) (hb : 0 ≤ b ∧ b ≤ 6) : ∃ r v, (∀ h, F_X6_isUnder N a b h = some (r, h)) ∧ (∀ x1 kt h, F_X7_as_32 N 102 x1 b kt N a h = kt v h) ∧ ((r = 0 ∧ ¬ 0 ≤ v) ∨ (r = 1 ∧ 0 ≤ v)) := by
  obtain ⟨n, rfl⟩ : ∃ n, N = n + 10 := ⟨N - 10, by omega⟩
  rcases l7_cs ha with rfl | rfl | rfl | rfl | rfl | rfl | rfl <;> rcases l7_cs hb with rfl | rfl | rfl | rfl | rfl | rfl | rfl
  all_goals first
    | exact ⟨1, _, fun h => rfl, fun x1 kt h => rfl, Or.inr ⟨rfl, by decide⟩⟩
    | exact ⟨0, -1, fun h => rfl, fun x1 kt h => rfl, Or.inl ⟨rfl, by decide⟩⟩
theorem P_as (hN : 1000 ≤ N) (H : RR c m k) (x1 x2 : Int32) : PR (F_X6_as N 0 x1 x2 c) (F_X7_as N 102 x1 x2 m) c m k := by
  obtain ⟨⟨S, s⟩, O⟩ := H
  unfold F_X6_as F_X7_as
  rcases cl_cs s.2.2.1 x1 with ⟨⟨i, hi, hiM, rfl⟩, e1, e2⟩ | ⟨e1, e2⟩
  · rw [e1 c s.1.1, e2 m s.2.1]
    simp only [bnd_s, i10, if_false]
    rcases in_cs x2 0 6 with ⟨q, e1, e2⟩ | ⟨q, e1, e2⟩
    · simp only [e1, e2, bnd_s, i10, if_false, bnd_id]
      have hC := s.2.2.1.2.2.2.2.2 i hi
      rw [gin_n _ hi (by omega), show F_X7_its 102 (nI i) (0 : Int32) m = _ from M_its (f := 0) s.2.1 hi (by omega), bnd_s]
      simp only [ca1 i (by omega)]
      rw [C_0 s.1.1 hi]
      obtain ⟨r, v, u1, u2, u3⟩ := as_cs hN (a := S i 0) (b := x2) (by unfold WC at hC; exact ⟨hC.1, hC.2.1⟩) q
      rw [u1, u2, bnd_s]
      rcases u3 with ⟨rfl, u3⟩ | ⟨rfl, u3⟩
      · rw [if_pos rfl, if_neg u3]
        exact PR.er O (Or.inr (Or.inr (Or.inr (Or.inr rfl)))) s CF.rf MF.rf rfl rfl
      · rw [if_neg (by decide), if_pos u3, gin_n _ hi (by omega)]
        exact PR.ok O (by rw [C_m s.1.1 hi]) (M_its (f := 1) s.2.1 hi (by omega)) s CF.rf MF.rf
    · simp only [e1, e2, bnd_s, bnd_id, if_true]
      exact PR.er O (Or.inl rfl) s CF.rf MF.rf rfl rfl
  · rw [e1 c s.1.1, e2 m s.2.1]
    simp only [bnd_s, bnd_id, if_true]
    exact PR.er O (Or.inl rfl) s CF.rf MF.rf rfl rfl
theorem P_set (H : RR c m k) (x1 x2 x3 : Int32) : PR (F_X6_set 0 x1 x2 x3 c) (F_X7_set 102 x1 x2 x3 m) c m k := by
  obtain ⟨⟨S, s⟩, O⟩ := H
  unfold F_X6_set F_X7_set
  -- the Model's first test, in one
  have key : ∀ (kt : Int32 → Mem → Option (Int32 × Mem)), jn kt (fun kt => (if x2 = 0 then (bnd (F_X7_isPlace x3 m) (fun r18 h19 => (kt r18 h19))) else (if x2 = (1 : Int32) then (bnd (F_X7_in x3 (0 : Int32) (999 : Int32) m) (fun r20 h21 => (kt r20 h21))) else (bnd (F_X7_in x2 (2 : Int32) (4 : Int32) m) (fun r22 h23 => (if r22 = 0 then (kt (0 : Int32) h23) else (bnd (F_X7_in x3 (0 : Int32) (99 : Int32) h23) (fun r24 h25 => (if r24 = 0 then (kt (0 : Int32) h25) else (kt (1 : Int32) h25)))))))))) = kt (if (0 ≤ x2 ∧ x2 ≤ 4) ∧ 0 ≤ x3 ∧ x3 ≤ (if x2 = 0 then 11 else if x2 = 1 then 999 else 99) then 1 else 0) m := by
    intro kt
    show (if x2 = 0 then (bnd (F_X7_isPlace x3 m) (fun r18 h19 => (kt r18 h19))) else (if x2 = (1 : Int32) then (bnd (F_X7_in x3 (0 : Int32) (999 : Int32) m) (fun r20 h21 => (kt r20 h21))) else (bnd (F_X7_in x2 (2 : Int32) (4 : Int32) m) (fun r22 h23 => (if r22 = 0 then (kt (0 : Int32) h23) else (bnd (F_X7_in x3 (0 : Int32) (99 : Int32) h23) (fun r24 h25 => (if r24 = 0 then (kt (0 : Int32) h25) else (kt (1 : Int32) h25))))))))) = _
    by_cases z0 : x2 = 0
    · subst z0
      rcases pl_cs x3 with ⟨⟨j, hj, rfl⟩, e1, e2⟩ | ⟨q, e1, e2⟩
      · rw [if_pos rfl, e2, bnd_s, if_pos]
        exact ⟨by decide, nI_pos' (by omega), nI_le (b := 11) (by omega) (by omega)⟩
      · rw [if_pos rfl, e2, bnd_s, if_neg]
        exact fun z => q z.2
    · rw [if_neg z0]
      by_cases z1 : x2 = 1
      · subst z1
        rcases in_cs x3 0 999 with ⟨q, e1, e2⟩ | ⟨q, e1, e2⟩
        · rw [if_pos rfl, e2, bnd_s, if_pos]
          exact ⟨by decide, q⟩
        · rw [if_pos rfl, e2, bnd_s, if_neg]
          exact fun z => q z.2
      · rw [if_neg z1]
        rcases in_cs x2 2 4 with ⟨q, e1, e2⟩ | ⟨q, e1, e2⟩
        · rw [e2, bnd_s, if_neg (by decide)]
          rcases in_cs x3 0 99 with ⟨q3, e3, e4⟩ | ⟨q3, e3, e4⟩
          · rw [e4, bnd_s, if_neg (by decide), if_pos]
            rw [if_neg z0, if_neg z1]
            exact ⟨by grind, q3⟩
          · rw [e4, bnd_s, if_pos rfl, if_neg]
            rw [if_neg z0, if_neg z1]
            exact fun z => q3 z.2
        · rw [e2, bnd_s, if_pos rfl, if_neg]
          grind
  rw [key]
  clear key
  rcases cl_cs s.2.2.1 x1 with ⟨⟨i, hi, hiM, rfl⟩, e1, e2⟩ | ⟨e1, e2⟩
  · rw [e1 c s.1.1, e2 m s.2.1]
    simp only [bnd_s, i10, if_false]
    rcases in_cs x2 0 4 with ⟨q, e1, e2⟩ | ⟨q, e1, e2⟩
    · simp only [e1, e2, bnd_s, i10, if_false, bnd_id]
      have hC := s.2.2.1.2.2.2.2.2 i hi
      have emo : F_X6_mostToSet x2 c = some ((if x2 = 0 then 11 else if x2 = 1 then 999 else 99), c) := by
        unfold F_X6_mostToSet
        repeat' split
        all_goals rfl
      rw [emo, bnd_s]
      generalize hmx : (if x2 = 0 then (11 : Int32) else if x2 = 1 then 999 else 99) = mx
      rcases in_cs x3 0 mx with ⟨q3, e3, e4⟩ | ⟨q3, e3, e4⟩
      · rw [if_pos (show (0 ≤ x2 ∧ x2 ≤ 4) ∧ 0 ≤ x3 ∧ x3 ≤ mx from ⟨q, q3⟩)]
        simp only [e3, bnd_s, i10, if_false, M_isThere s.2.1 hi]
        rw [gin_n _ hi (by omega)]
        simp only [ca1 i (by omega)]
        rw [C_7 s.1.1 hi]
        by_cases q7 : S i 7 = 1
        · rw [if_neg (by rw [q7]; decide), if_pos q7, if_neg (by decide), gin_n _ hi (by omega)]
          unfold F_X0_change
          rcases l5_cs q with rfl | rfl | rfl | rfl | rfl
          · simp +decide only [if_true, if_false, sq_i, sq_h, bnd_s] at hmx ⊢
            obtain ⟨q1, j1, c1, s1, f1, g1⟩ := s.upc (x := x3) hi (f := 2) (by omega) (by unfold WC at *; simp [upm]; grind)
            rw [cp_0 hi (by omega)] at c1
            simp only [Prod.mk.injEq] at c1
            obtain ⟨rfl, rfl⟩ := c1
            rw [show F_X7_its 102 (nI i) ((2 : Int32) + 0) m = _ from M_its (f := 2) s.2.1 hi (by omega), bnd_s, show F_X7_puts 102 (nI i) ((2 : Int32) + 0) x3 m = _ from M_puts1 (f := 2) hi (by omega) x3, bnd_s]
            exact PR.ok O (r := S i 2) (by rw [← C_2 s.1.1 hi]; rfl) rfl s1 f1 g1
          · simp +decide only [if_true, if_false, sq_i, sq_h, bnd_s] at hmx ⊢
            obtain ⟨q1, j1, c1, s1, f1, g1⟩ := s.upc (x := x3) hi (f := 3) (by omega) (by unfold WC at *; simp [upm]; grind)
            rw [cp_0 hi (by omega)] at c1
            simp only [Prod.mk.injEq] at c1
            obtain ⟨rfl, rfl⟩ := c1
            rw [show F_X7_its 102 (nI i) ((2 : Int32) + 1) m = _ from M_its (f := 3) s.2.1 hi (by omega), bnd_s, show F_X7_puts 102 (nI i) ((2 : Int32) + 1) x3 m = _ from M_puts1 (f := 3) hi (by omega) x3, bnd_s]
            exact PR.ok O (r := S i 3) (by rw [← C_3 s.1.1 hi]; rfl) rfl s1 f1 g1
          · simp +decide only [if_true, if_false, sq_i, sq_h, bnd_s] at hmx ⊢
            obtain ⟨q1, j1, c1, s1, f1, g1⟩ := s.upc (x := x3) hi (f := 4) (by omega) (by unfold WC at *; simp [upm]; grind)
            rw [show 4 = 4 + 0 from rfl, cp_s hi (by omega)] at c1
            simp only [Prod.mk.injEq] at c1
            obtain ⟨rfl, rfl⟩ := c1
            rw [gin_d _ (by decide), gin_d _ (by decide), show F_X7_its 102 (nI i) ((2 : Int32) + 2) m = _ from M_its (f := 4) s.2.1 hi (by omega), bnd_s, show F_X7_puts 102 (nI i) ((2 : Int32) + 2) x3 m = _ from M_puts1 (f := 4) hi (by omega) x3, bnd_s]
            exact PR.ok O (r := S i 4) (by rw [← C_s s.1.1 hi (s := 0) (by omega)]; rfl) rfl s1 f1 g1
          · simp +decide only [if_true, if_false, sq_i, sq_h, bnd_s] at hmx ⊢
            obtain ⟨q1, j1, c1, s1, f1, g1⟩ := s.upc (x := x3) hi (f := 5) (by omega) (by unfold WC at *; simp [upm]; grind)
            rw [show 5 = 4 + 1 from rfl, cp_s hi (by omega)] at c1
            simp only [Prod.mk.injEq] at c1
            obtain ⟨rfl, rfl⟩ := c1
            rw [gin_d _ (by decide), gin_d _ (by decide), show F_X7_its 102 (nI i) ((2 : Int32) + 3) m = _ from M_its (f := 5) s.2.1 hi (by omega), bnd_s, show F_X7_puts 102 (nI i) ((2 : Int32) + 3) x3 m = _ from M_puts1 (f := 5) hi (by omega) x3, bnd_s]
            exact PR.ok O (r := S i 5) (by rw [← C_s s.1.1 hi (s := 1) (by omega)]; rfl) rfl s1 f1 g1
          · simp +decide only [if_true, if_false, sq_i, sq_h, bnd_s] at hmx ⊢
            obtain ⟨q1, j1, c1, s1, f1, g1⟩ := s.upc (x := x3) hi (f := 6) (by omega) (by unfold WC at *; simp [upm]; grind)
            rw [show 6 = 4 + 2 from rfl, cp_s hi (by omega)] at c1
            simp only [Prod.mk.injEq] at c1
            obtain ⟨rfl, rfl⟩ := c1
            rw [gin_d _ (by decide), gin_d _ (by decide), show F_X7_its 102 (nI i) ((2 : Int32) + 4) m = _ from M_its (f := 6) s.2.1 hi (by omega), bnd_s, show F_X7_puts 102 (nI i) ((2 : Int32) + 4) x3 m = _ from M_puts1 (f := 6) hi (by omega) x3, bnd_s]
            exact PR.ok O (r := S i 6) (by rw [← C_s s.1.1 hi (s := 2) (by omega)]; rfl) rfl s1 f1 g1
        · rw [if_pos (by unfold WC at hC; grind), if_neg q7, if_pos rfl]
          exact PR.er O (Or.inr (Or.inr (Or.inl rfl))) s CF.rf MF.rf rfl rfl
      · rw [if_neg (show ¬ ((0 ≤ x2 ∧ x2 ≤ 4) ∧ 0 ≤ x3 ∧ x3 ≤ mx) from fun z => q3 z.2)]
        simp only [e3, bnd_s, if_true]
        exact PR.er O (Or.inl rfl) s CF.rf MF.rf rfl rfl
    · rw [if_neg (show ¬ ((0 ≤ x2 ∧ x2 ≤ 4) ∧ 0 ≤ x3 ∧ x3 ≤ (if x2 = 0 then 11 else if x2 = 1 then 999 else 99)) from fun z => q z.1)]
      simp only [e1, bnd_s, bnd_id, if_true]
      exact PR.er O (Or.inl rfl) s CF.rf MF.rf rfl rfl
  · rw [e1 c s.1.1, e2 m s.2.1]
    simp only [bnd_s, bnd_id, if_true]
    exact PR.er O (Or.inl rfl) s CF.rf MF.rf rfl rfl
end P2
