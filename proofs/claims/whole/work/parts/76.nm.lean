/-! TEXTS: names -/
section LN
variable {w : Nat → Int32} {e x o N p z : Nat} {c : Mem} {a b d : Int32} {m : Mem} {M : Nat}
theorem gst_x {α : Type} (hx : x < 2) (f : Nat → Option α) : gst (-(nI (x + 1 + 1))) f = f (x + 1) := by
  rcases (show x = 0 ∨ x = 1 by omega) with rfl | rfl
  · unfold gst
    rw [if_pos (by decide)]
    exact congrArg f (by decide)
  · unfold gst
    rw [if_pos (by decide)]
    exact congrArg f (by decide)
theorem sg_n (hx : x < 2) (s : Int32) : inS (x + 1) s ↔ (x = 0 ∧ (s = 116 ∨ s = 119 ∨ s = 115)) ∨ (x = 1 ∧ (s = 97 ∨ s = 98 ∨ s = 104)) := by
  rcases (show x = 0 ∨ x = 1 by omega) with rfl | rfl
  · simp [inS, bytS]
  · simp [inS, bytS]
theorem M_nm (X : MS w e x o a b d m p) (s : Int32) : (x = 0 → s = 116 → F_X7_named 102 s m = some (a, upm m 102 8 (nI (p + 1)))) ∧ (x = 0 → s = 119 → F_X7_named 102 s m = some (b, upm m 102 8 (nI (p + 1)))) ∧ (x = 0 → s = 115 → F_X7_named 102 s m = some (d, upm m 102 8 (nI (p + 1)))) ∧ (x = 1 → s = 97 → F_X7_named 102 s m = some (a, upm m 102 8 (nI (p + 1)))) ∧ (x = 1 → s = 98 → F_X7_named 102 s m = some (b, upm m 102 8 (nI (p + 1)))) ∧ (x = 1 → s = 104 → F_X7_named 102 s m = some (d, upm m 102 8 (nI (p + 1)))) := by
  obtain ⟨x1, x2, x3, x4, x5, x6, x7, x8, x9⟩ := X
  have ra : ∀ q, upm m 102 8 q 102 11 = a := fun q => by simp only [upm]; rw [if_neg (by omega)]; exact x5
  have rb : ∀ q, upm m 102 8 q 102 12 = b := fun q => by simp only [upm]; rw [if_neg (by omega)]; exact x6
  have rd : ∀ q, upm m 102 8 q 102 13 = d := fun q => by simp only [upm]; rw [if_neg (by omega)]; exact x7
  unfold F_X7_named
  refine ⟨?_, ?_, ?_, ?_, ?_, ?_⟩
  all_goals
    rintro rfl rfl
    simp only [nI_0, show nI 1 = 1 from rfl] at x1
    simp only [jn_e, x1, if_true, if_false, i10, show ((116 : Int32) = 119) = False by decide, show ((116 : Int32) = 115) = False by decide, show ((119 : Int32) = 116) = False by decide, show ((119 : Int32) = 115) = False by decide, show ((115 : Int32) = 116) = False by decide, show ((115 : Int32) = 119) = False by decide, show ((97 : Int32) = 98) = False by decide, show ((97 : Int32) = 104) = False by decide, show ((98 : Int32) = 97) = False by decide, show ((98 : Int32) = 104) = False by decide, show ((104 : Int32) = 97) = False by decide, show ((104 : Int32) = 98) = False by decide, sq_h, ra, rb, rd, x2, nI_1]
theorem M_nm0 (hx : x < 2) (X : MS w e x o a b d m p) (s : Int32) (h : ¬ inS (x + 1) s) : F_X7_named 102 s m = some (0, upm m 102 14 0) := by
  have x1 := X.1
  rw [sg_n hx] at h
  unfold F_X7_named F_X7_fails
  rcases (show x = 0 ∨ x = 1 by omega) with rfl | rfl
  · have h1 : (s = 116) = False := eq_false (fun z => h (Or.inl ⟨rfl, Or.inl z⟩))
    have h2 : (s = 119) = False := eq_false (fun z => h (Or.inl ⟨rfl, Or.inr (Or.inl z)⟩))
    have h3 : (s = 115) = False := eq_false (fun z => h (Or.inl ⟨rfl, Or.inr (Or.inr z)⟩))
    simp only [nI_0] at x1
    simp only [jn_e, x1, if_true, if_false, h1, h2, h3, sq_h, bnd_s]
  · have h1 : (s = 97) = False := eq_false (fun z => h (Or.inr ⟨rfl, Or.inl z⟩))
    have h2 : (s = 98) = False := eq_false (fun z => h (Or.inr ⟨rfl, Or.inr (Or.inl z)⟩))
    have h3 : (s = 104) = False := eq_false (fun z => h (Or.inr ⟨rfl, Or.inr (Or.inr z)⟩))
    simp only [show nI 1 = 1 from rfl] at x1
    simp only [jn_e, x1, if_true, if_false, i10, h1, h2, h3, sq_h, bnd_s]
/-- a name: its index, its step, its value -/
theorem nm (hN : 1000 ≤ N) (hx : x < 2) {v : Nat} (hv : v < 256) (h : inS (x + 1) (nI v)) : ∃ (r : Int32) (f : Int32 → Int32 → Int32 → Int32), (∀ g, F_J0_indexOf_0f7a4 N (x + 1) (i2c (nI v)) g = some (r, g)) ∧ ¬ (-1 - r) < -3 ∧ (∀ a b d, (if -1 - r = -3 then d else if -1 - r = -2 then b else if -1 - r = -1 then a else -1 - r) = f a b d) ∧ ∀ a b d m p, MS w e x o a b d m p → F_X7_named 102 (nI v) m = some (f a b d, upm m 102 8 (nI (p + 1))) := by
  obtain ⟨n, rfl⟩ : ∃ n, N = n + 4 := ⟨N - 4, by omega⟩
  rcases (sg_n hx _).mp h with ⟨rfl, q | q | q⟩ | ⟨rfl, q | q | q⟩
  · refine ⟨0, fun a b d => a, fun g => ?_, by decide, fun a b d => rfl, fun a b d m p X => (M_nm X _).1 rfl q⟩
    rw [show 0 + 1 = 1 from rfl, sx3 hv rfl rfl (by decide) (by decide) (by decide), if_pos q]
  · refine ⟨1, fun a b d => b, fun g => ?_, by decide, fun a b d => rfl, fun a b d m p X => (M_nm X _).2.1 rfl q⟩
    rw [show 0 + 1 = 1 from rfl, sx3 hv rfl rfl (by decide) (by decide) (by decide), q, if_neg (by decide), if_pos rfl]
  · refine ⟨2, fun a b d => d, fun g => ?_, by decide, fun a b d => rfl, fun a b d m p X => (M_nm X _).2.2.1 rfl q⟩
    rw [show 0 + 1 = 1 from rfl, sx3 hv rfl rfl (by decide) (by decide) (by decide), q, if_neg (by decide), if_neg (by decide), if_pos rfl]
  · refine ⟨0, fun a b d => a, fun g => ?_, by decide, fun a b d => rfl, fun a b d m p X => (M_nm X _).2.2.2.1 rfl q⟩
    rw [show 1 + 1 = 2 from rfl, sx3 hv rfl rfl (by decide) (by decide) (by decide), if_pos q]
  · refine ⟨1, fun a b d => b, fun g => ?_, by decide, fun a b d => rfl, fun a b d m p X => (M_nm X _).2.2.2.2.1 rfl q⟩
    rw [show 1 + 1 = 2 from rfl, sx3 hv rfl rfl (by decide) (by decide) (by decide), q, if_neg (by decide), if_pos rfl]
  · refine ⟨2, fun a b d => d, fun g => ?_, by decide, fun a b d => rfl, fun a b d m p X => (M_nm X _).2.2.2.2.2 rfl q⟩
    rw [show 1 + 1 = 2 from rfl, sx3 hv rfl rfl (by decide) (by decide) (by decide), q, if_neg (by decide), if_neg (by decide), if_pos rfl]
end LN
