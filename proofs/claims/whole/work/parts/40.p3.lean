theorem RowR.um {h S : Mem} {j a b : Nat} {x : Int32} (R : RowR (h 103) S) (hj : j < 262) (e : rpl j = (a, b)) : RowR (upm h 103 j x 103) (upm S a b x) := by
  rw [upm_103]
  exact R.up hj e
theorem ro_0 {h S : Mem} (R : RowR (h 103) S) : h (102 + 1) (ix (0 : Int32)) = S 8 0 := M_row (j := 0) R (by omega)
theorem ck_0 {i f : Nat} (hi : i < 8) (hf : f < 4) : cpl 1 i f = (ca 1 i, f) := cp_0 hi hf
theorem ck_7 {i : Nat} (hi : i < 8) : cpl 1 i 7 = (ca 1 i, 4) := cp_7 hi
theorem ck_s {i f : Nat} (hi : i < 8) (hf : f < 3) : cpl 1 i (4 + f) = (ca 1 i + 1, f) := cp_s hi hf
section P3
variable {c m : Mem} {k N : Nat}
theorem z3 {n : Nat} (N : Nat) (q : Nat) (kt : Mem → Option (Unit × Mem)) (h : Mem) : F_X0_appear_23 N q kt (n + 4) 0 h = kt (upm (upm (upm h (q + 1) 0 0) (q + 1) 1 0) (q + 1) 2 0) := by
  rw [show n + 4 = n + 3 + 1 from rfl, F_X0_appear_23, if_neg (by decide), gin_d _ (by decide), sq_h, F_X0_appear_23, if_neg (by decide), gin_d _ (by decide), sq_h, F_X0_appear_23, if_neg (by decide), gin_d _ (by decide), sq_h, F_X0_appear_23, if_pos (by decide)]
  rfl
theorem zm3 {n : Nat} (N i : Nat) (hi : i < 8) (kt : Mem → Option (Int32 × Mem)) (h : Mem) : F_X7_cloud_102 N 102 (nI i) kt (n + 4) 0 h = kt (upm (upm (upm h 103 (28 + 8 * i + 4) 0) 103 (28 + 8 * i + 5) 0) 103 (28 + 8 * i + 6) 0) := by
  rw [show n + 4 = n + 3 + 1 from rfl, F_X7_cloud_102, if_neg (by decide), show F_X7_puts 102 (nI i) ((4 : Int32) + 0) 0 h = _ from M_puts1 (f := 4) hi (by omega) 0, bnd_s]
  rw [F_X7_cloud_102, if_neg (by decide), show F_X7_puts 102 (nI i) ((4 : Int32) + (0 + 1)) 0 _ = _ from M_puts1 (f := 5) hi (by omega) 0, bnd_s]
  rw [F_X7_cloud_102, if_neg (by decide), show F_X7_puts 102 (nI i) ((4 : Int32) + (0 + 1 + 1)) 0 _ = _ from M_puts1 (f := 6) hi (by omega) 0, bnd_s]
  rw [F_X7_cloud_102, if_pos (by decide)]
theorem P_cloud (hN : 1000 ≤ N) (H : RR c m k) (x1 x2 x3 : Int32) : PR (F_X6_cloud N 0 x1 x2 x3 c) (F_X7_cloud N 102 x1 x2 x3 m) c m k := by
  obtain ⟨⟨S, s⟩, O⟩ := H
  unfold F_X6_cloud F_X7_cloud
  rcases in_cs x1 0 69 with ⟨q, e1, e2⟩ | ⟨q, e1, e2⟩
  · obtain ⟨k1, k2⟩ := kind_in q
    simp only [e1, e2, bnd_s, i10, if_false]
    rcases pl_cs x2 with ⟨⟨j, hj, hx2⟩, e1, e2⟩ | ⟨q2, e1, e2⟩
    · have hx2' : 0 ≤ x2 ∧ x2 ≤ 11 := by
        rw [hx2]
        exact ⟨nI_pos' (by omega), nI_le (b := 11) (by omega) (by omega)⟩
      clear hx2
      simp only [e1, e2, bnd_s, i10, if_false]
      rcases in_cs x3 0 999 with ⟨q3, e1, e2⟩ | ⟨q3, e1, e2⟩
      · simp only [e1, e2, bnd_s, i10, if_false]
        obtain ⟨M, hM, e0, ex0⟩ := made_of s.2.2.1
        rw [show c (0 + 1) 1 = S 8 0 from C_made s.1.1, gin_d _ (by decide), show m (102 + 1) (ix (0 : Int32)) = S 8 0 from M_row (j := 0) s.2.1 (by omega), e0]
        by_cases hM8 : M = 8
        · subst hM8
          rw [if_neg (by decide), if_pos (by decide), bnd_id, bnd_id]
          exact PR.er O (Or.inr (Or.inr (Or.inr (Or.inl rfl)))) s CF.rf MF.rf rfl rfl
        · have hM' : M < 8 := by omega
          have hne : ¬ nI M = 8 := fun z => hM8 (by have := congrArg ix z; rw [ix_n (by omega)] at this; exact this)
          have hlt : nI M < 8 := by
            have : nI M ≤ 8 := nI_le (b := 8) (by omega) (by omega)
            grind
          rw [if_pos hlt, if_neg hne, gin_d _ (by decide), sq_i]
          obtain ⟨n, rfl⟩ : ∃ n, N = n + 4 := ⟨N - 4, by omega⟩
          simp only [gnz_n _ (show ¬ (10 : Int32) = 0 by decide)]
          rw [show F_X7_puts 102 (nI M) (0 : Int32) _ _ = _ from M_puts1 (f := 0) hM' (by omega) _, bnd_s, show F_X7_puts 102 (nI M) (1 : Int32) _ _ = _ from M_puts1 (f := 1) hM' (by omega) _, bnd_s, show F_X7_puts 102 (nI M) (2 : Int32) _ _ = _ from M_puts1 (f := 2) hM' (by omega) _, bnd_s, show F_X7_puts 102 (nI M) (3 : Int32) _ _ = _ from M_puts1 (f := 3) hM' (by omega) _, bnd_s, zm3 _ M hM', show F_X7_puts 102 (nI M) (7 : Int32) _ _ = _ from M_puts1 (f := 7) hM' (by omega) _, bnd_s, gin_d _ (by decide), gin_d _ (by decide), sq_h]
          unfold F_X2_make F_X0_appear F_X0_takeKind
          rw [show c (0 + 1) 1 = S 8 0 from C_made s.1.1, e0, sq_i, gin_n _ hM' (by omega), ca1 M (by omega)]
          simp only [gnz_n _ (show ¬ (10 : Int32) = 0 by decide), sq_h, bnd_s, z3]
          -- the class's way
          have d1 := s.1.up (v_c hM' (f := 0) (by omega)) (ck_0 hM' (by omega)) (x1 / 10)
          have d2 := d1.1.up (v_c hM' (f := 1) (by omega)) (ck_0 hM' (by omega)) (irm x1 10)
          have d3 := d2.1.up (v_c hM' (f := 2) (by omega)) (ck_0 hM' (by omega)) x2
          have d4 := d3.1.up (v_c hM' (f := 3) (by omega)) (ck_0 hM' (by omega)) x3
          have d5 := d4.1.up (v_c hM' (f := 7) (by omega)) (ck_7 hM') 1
          have d6 := d5.1.up (v_c hM' (f := 4) (by omega)) (ck_s hM' (f := 0) (by omega)) 0
          have d7 := d6.1.up (v_c hM' (f := 5) (by omega)) (ck_s hM' (f := 1) (by omega)) 0
          have d8 := d7.1.up (v_c hM' (f := 6) (by omega)) (ck_s hM' (f := 2) (by omega)) 0
          have d9 := d8.1.up (v_8 (f := 0) (by omega)) (show cpl 1 8 0 = (0 + 1, 1) from rfl) (nI M + 1)
          have dm := C_made d8.1.1
          rw [show (upm (upm (upm (upm (upm (upm (upm (upm S M 0 (x1 / 10)) M 1 (irm x1 10)) M 2 x2) M 3 x3) M 7 1) M (4 + 0) 0) M (4 + 1) 0) M (4 + 2) 0) 8 0 = nI M by simp [upm, show 8 ≠ M by omega, e0]] at dm
          have dF := d1.2.tr (d2.2.tr (d3.2.tr (d4.2.tr (d5.2.tr (d6.2.tr (d7.2.tr (d8.2.tr d9.2)))))))
          replace d9 := d9.1
          clear d1 d2 d3 d4 d5 d6 d7 d8
          -- the Model's way
          have f1 := s.2.1.um (j := 28 + 8 * M + 0) (by omega) (rp_c hM' (by omega)) (x := x1 / 10)
          have f2 := f1.um (j := 28 + 8 * M + 1) (by omega) (rp_c hM' (by omega)) (x := irm x1 10)
          have f3 := f2.um (j := 28 + 8 * M + 2) (by omega) (rp_c hM' (by omega)) (x := x2)
          have f4 := f3.um (j := 28 + 8 * M + 3) (by omega) (rp_c hM' (by omega)) (x := x3)
          have f5 := f4.um (j := 28 + 8 * M + 4) (by omega) (rp_c hM' (by omega)) (x := 0)
          have f6 := f5.um (j := 28 + 8 * M + 5) (by omega) (rp_c hM' (by omega)) (x := 0)
          have f7 := f6.um (j := 28 + 8 * M + 6) (by omega) (rp_c hM' (by omega)) (x := 0)
          have f8 := f7.um (j := 28 + 8 * M + 7) (by omega) (rp_c hM' (by omega)) (x := 1)
          have fm := ro_0 f8
          rw [show (upm (upm (upm (upm (upm (upm (upm (upm S M 0 (x1 / 10)) M 1 (irm x1 10)) M 2 x2) M 3 x3) M 4 0) M 5 0) M 6 0) M 7 1) 8 0 = nI M by simp [upm, show 8 ≠ M by omega, e0]] at fm
          have f9 := f8.um (j := 0) (by omega) (rp_8 (by omega)) (x := nI M + 1)
          clear f1 f2 f3 f4 f5 f6 f7 f8
          -- one and the same
          rw [upm_cm (a := M) (f := 3) (b := M) (g := 7) (by omega), upm_cm (a := M) (f := 2) (b := M) (g := 7) (by omega), upm_cm (a := M) (f := 1) (b := M) (g := 7) (by omega), upm_cm (a := M) (f := 0) (b := M) (g := 7) (by omega)] at d9
          rw [upm_cm (a := M) (f := 6) (b := M) (g := 7) (by omega), upm_cm (a := M) (f := 5) (b := M) (g := 7) (by omega), upm_cm (a := M) (f := 4) (b := M) (g := 7) (by omega), upm_cm (a := M) (f := 3) (b := M) (g := 7) (by omega), upm_cm (a := M) (f := 2) (b := M) (g := 7) (by omega), upm_cm (a := M) (f := 1) (b := M) (g := 7) (by omega), upm_cm (a := M) (f := 0) (b := M) (g := 7) (by omega)] at f9
          have hC := s.2.2.1.2.2.2.2.2 M hM'
          have w1 := s.2.2.1.upc (f := 7) (x := 1) hM' (by unfold WC at *; simp [upm]; grind)
          have b1 : upm S M 7 1 M 7 = 1 := by simp [upm]
          have w2 : WS (upm (upm S M 7 1) M 0 (x1 / 10)) := w1.upc hM' (by have := w1.2.2.2.2.2 M hM'; unfold WC at *; simp [upm] at *; grind)
          have w3 : WS (upm (upm (upm S M 7 1) M 0 (x1 / 10)) M 1 (irm x1 10)) := w2.upc hM' (by have := w2.2.2.2.2.2 M hM'; unfold WC at *; simp [upm] at *; grind)
          have w4 : WS (upm (upm (upm (upm S M 7 1) M 0 (x1 / 10)) M 1 (irm x1 10)) M 2 x2) := w3.upc hM' (by have := w3.2.2.2.2.2 M hM'; unfold WC at *; simp [upm] at *; grind)
          have w5 : WS (upm (upm (upm (upm (upm S M 7 1) M 0 (x1 / 10)) M 1 (irm x1 10)) M 2 x2) M 3 x3) := w4.upc hM' (by have := w4.2.2.2.2.2 M hM'; unfold WC at *; simp [upm] at *; grind)
          have w6 : WS (upm (upm (upm (upm (upm (upm S M 7 1) M 0 (x1 / 10)) M 1 (irm x1 10)) M 2 x2) M 3 x3) M 4 0) := w5.upc hM' (by have := w5.2.2.2.2.2 M hM'; unfold WC at *; simp [upm] at *; grind)
          have w7 : WS (upm (upm (upm (upm (upm (upm (upm S M 7 1) M 0 (x1 / 10)) M 1 (irm x1 10)) M 2 x2) M 3 x3) M 4 0) M 5 0) := w6.upc hM' (by have := w6.2.2.2.2.2 M hM'; unfold WC at *; simp [upm] at *; grind)
          have w8 : WS (upm (upm (upm (upm (upm (upm (upm (upm S M 7 1) M 0 (x1 / 10)) M 1 (irm x1 10)) M 2 x2) M 3 x3) M 4 0) M 5 0) M 6 0) := w7.upc hM' (by have := w7.2.2.2.2.2 M hM'; unfold WC at *; simp [upm] at *; grind)
          have w9 := w8.upg (a := 8) (f := 0) (x := nI M + 1) (by omega) (fun _ _ => by rw [nI_1]; exact ⟨nI_pos' (by omega), nI_le (b := 8) (by omega) (by omega)⟩) (fun _ q => by omega) (fun _ q => by omega) (fun q => by omega) (fun q => by omega)
          have W0 := s.2.2
          have WW := (((((((((W0.mk2 w1 (by omega)).mk2 w2 (by omega)).mk2 w3 (by omega)).mk2 w4 (by omega)).mk2 w5 (by omega)).mk2 w6 (by omega)).mk2 w7 (by omega)).mk2 w8 (by omega)).mk2 w9 (by omega))
          rw [show (0 : Nat) + 1 = 1 from rfl] at d9 ⊢
          rw [dm, fm]
          exact PR.ok O rfl rfl ⟨d9, f9, WW⟩ (CF.of1 dF.FS) (MF.of103 (fun q hq => by simp only [upm_off q hq]))
      · simp only [e1, e2, bnd_s, bnd_id, if_true]
        exact PR.er O (Or.inl rfl) s CF.rf MF.rf rfl rfl
    · simp only [e1, e2, bnd_s, bnd_id, if_true]
      exact PR.er O (Or.inl rfl) s CF.rf MF.rf rfl rfl
  · simp only [e1, e2, bnd_s, bnd_id, if_true]
    exact PR.er O (Or.inl rfl) s CF.rf MF.rf rfl rfl
end P3
