/-! THE CLASS's side: a sky at c that stands for S -/
def V9 (a f : Nat) : Prop := (a < 8 ∧ f < 8) ∨ (a = 8 ∧ f < 6) ∨ (a = 9 ∧ f < 8) ∨ (a = 10 ∧ f < 12) ∨ (a = 11 ∧ f < 50) ∨ (a = 12 ∧ f < 20)
def cpl (c a f : Nat) : Nat × Nat :=
  if a < 8 then (if f < 4 then (c + 12 + 2 * a, f) else if f < 7 then (c + 13 + 2 * a, f - 4) else (c + 12 + 2 * a, 4))
  else if a = 8 then (c, if f = 0 then 1 else if f = 1 then 4 else if f = 2 then 5 else if f = 3 then 6 else if f = 4 then 8 else 12)
  else if a = 9 then (c + 3, f) else if a = 10 then (c + 2, f) else if a = 11 then (c + 4, f) else (c + 11, f)
def SkyN (h : Mem) (c : Nat) (S : Mem) : Prop := ∀ a f, V9 a f → h (cpl c a f).1 (cpl c a f).2 = S a f
theorem cpl_inj {c a f a' f' : Nat} (h : V9 a f) (h' : V9 a' f') (e : cpl c a f = cpl c a' f') : a = a' ∧ f = f' := by
  unfold cpl at e
  unfold V9 at h h'
  repeat' split at e
  all_goals (simp only [Prod.mk.injEq] at e; omega)
theorem SkyN.at {h S : Mem} {c a f k j : Nat} (R : SkyN h c S) (v : V9 a f) (e : cpl c a f = (k, j)) : h k j = S a f := by
  have := R a f v
  rw [e] at this
  exact this
theorem SkyN.up {h S : Mem} {c a f k j : Nat} (R : SkyN h c S) (v : V9 a f) (e : cpl c a f = (k, j)) (x : Int32) : SkyN (upm h k j x) c (upm S a f x) := by
  intro a' f' v'
  by_cases q : a' = a ∧ f' = f
  · obtain ⟨rfl, rfl⟩ := q
    simp [upm, e]
  · have hne : ¬ ((cpl c a' f').1 = k ∧ (cpl c a' f').2 = j) := by
      rintro ⟨e1, e2⟩
      exact q (cpl_inj v' v (by rw [e]; exact Prod.ext e1 e2))
    simp only [upm, if_neg hne, if_neg q]
    exact R a' f' v'
/-- a cell of the sky that holds no number of S may change -/
theorem SkyN.off {h h' S : Mem} {c : Nat} (R : SkyN h c S) (e : ∀ k, c ≤ k → k < c + 28 → ¬ (c + 5 ≤ k ∧ k ≤ c + 10) → h' k = h k) : SkyN h' c S := by
  intro a f v
  rw [← R a f v]
  have hk : c ≤ (cpl c a f).1 ∧ (cpl c a f).1 < c + 28 ∧ ¬ (c + 5 ≤ (cpl c a f).1 ∧ (cpl c a f).1 ≤ c + 10) := by
    unfold cpl
    unfold V9 at v
    repeat' split
    all_goals (simp only; omega)
  rw [e _ hk.1 hk.2.1 hk.2.2]
def FS (c : Nat) (h h' : Mem) : Prop := ∀ k, (k < c ∨ c + 28 ≤ k) → h' k = h k
def FT (c : Nat) (h h' : Mem) : Prop := ∀ k, (k < c ∨ c + 28 ≤ k ∨ (c + 5 ≤ k ∧ k ≤ c + 10)) → h' k = h k
theorem FT.rf {c : Nat} {h : Mem} : FT c h h := fun _ _ => rfl
theorem FT.tr {c : Nat} {a b d : Mem} (x : FT c a b) (y : FT c b d) : FT c a d := fun k hk => (y k hk).trans (x k hk)
theorem FT.up {c k j : Nat} {h : Mem} {x : Int32} (hk : c ≤ k ∧ k < c + 28 ∧ ¬ (c + 5 ≤ k ∧ k ≤ c + 10)) : FT c h (upm h k j x) := fun q hq => upm_off q (by omega)
theorem FT.FS {c : Nat} {h h' : Mem} (x : FT c h h') : FS c h h' := fun k hk => x k (by omega)
theorem v_c {i f : Nat} (hi : i < 8) (hf : f < 8) : V9 i f := Or.inl ⟨hi, hf⟩
theorem v_8 {f : Nat} (hf : f < 6) : V9 8 f := Or.inr (Or.inl ⟨rfl, hf⟩)
theorem v_9 {f : Nat} (hf : f < 8) : V9 9 f := Or.inr (Or.inr (Or.inl ⟨rfl, hf⟩))
theorem v_10 {f : Nat} (hf : f < 12) : V9 10 f := Or.inr (Or.inr (Or.inr (Or.inl ⟨rfl, hf⟩)))
theorem v_11 {f : Nat} (hf : f < 50) : V9 11 f := Or.inr (Or.inr (Or.inr (Or.inr (Or.inl ⟨rfl, hf⟩))))
theorem v_12 {f : Nat} (hf : f < 20) : V9 12 f := Or.inr (Or.inr (Or.inr (Or.inr (Or.inr ⟨rfl, hf⟩))))
theorem cp_0 {c i f : Nat} (hi : i < 8) (hf : f < 4) : cpl c i f = (c + 12 + 2 * i, f) := by
  unfold cpl
  rw [if_pos hi, if_pos hf]
theorem cp_s {c i f : Nat} (hi : i < 8) (hf : f < 3) : cpl c i (4 + f) = (c + 12 + 2 * i + 1, f) := by
  unfold cpl
  rw [if_pos hi, if_neg (by omega), if_pos (by omega), Nat.add_sub_cancel_left, show c + 13 + 2 * i = c + 12 + 2 * i + 1 by omega]
theorem cp_7 {c i : Nat} (hi : i < 8) : cpl c i 7 = (c + 12 + 2 * i, 4) := by
  unfold cpl
  rw [if_pos hi, if_neg (by omega), if_neg (by omega)]
theorem cp_9 {c f : Nat} : cpl c 9 f = (c + 3, f) := by simp [cpl]
theorem cp_10 {c f : Nat} : cpl c 10 f = (c + 2, f) := by simp [cpl]
theorem cp_11 {c f : Nat} : cpl c 11 f = (c + 4, f) := by simp [cpl]
theorem cp_12 {c f : Nat} : cpl c 12 f = (c + 11, f) := by simp [cpl]
/-- a cloud's cell -/
def ca (c i : Nat) : Nat := c + 12 + 2 * i
section CC
variable {h S : Mem} {c i : Nat}
theorem C_0 (R : SkyN h c S) (hi : i < 8) : h (ca c i) 0 = S i 0 := R.at (v_c hi (by omega)) (cp_0 hi (by omega))
theorem C_m (R : SkyN h c S) (hi : i < 8) : h (ca c i) 1 = S i 1 := R.at (v_c hi (by omega)) (cp_0 hi (by omega))
theorem C_2 (R : SkyN h c S) (hi : i < 8) : h (ca c i) 2 = S i 2 := R.at (v_c hi (by omega)) (cp_0 hi (by omega))
theorem C_3 (R : SkyN h c S) (hi : i < 8) : h (ca c i) 3 = S i 3 := R.at (v_c hi (by omega)) (cp_0 hi (by omega))
theorem C_7 (R : SkyN h c S) (hi : i < 8) : h (ca c i) 4 = S i 7 := R.at (v_c hi (by omega)) (cp_7 hi)
theorem C_s (R : SkyN h c S) (hi : i < 8) {s : Nat} (hs : s < 3) : h (ca c i + 1) s = S i (4 + s) := R.at (v_c hi (by omega)) (cp_s hi hs)
theorem C_made (R : SkyN h c S) : h c 1 = S 8 0 := R.at (v_8 (by omega)) rfl
theorem C_hour (R : SkyN h c S) : h c 4 = S 8 1 := R.at (v_8 (by omega)) rfl
theorem C_sea (R : SkyN h c S) : h c 5 = S 8 2 := R.at (v_8 (by omega)) rfl
theorem C_z (R : SkyN h c S) : h c 6 = S 8 3 := R.at (v_8 (by omega)) rfl
theorem C_taped (R : SkyN h c S) : h c 8 = S 8 4 := R.at (v_8 (by omega)) rfl
theorem C_waiting (R : SkyN h c S) : h c 12 = S 8 5 := R.at (v_8 (by omega)) rfl
theorem C_min (a b : Int32) (h : Mem) : F_J9_min_7cf53 a b h = some (if b < a then b else a, h) := by
  unfold F_J9_min_7cf53
  split <;> rfl
theorem C_max (a b : Int32) (h : Mem) : F_J9_max_7cf53 a b h = some (if a < b then b else a, h) := by
  unfold F_J9_max_7cf53
  split <;> rfl
theorem C_drift (R : SkyN h c S) (hi : i < 8) (wind : Int32) : F_X0_driftBy (ca c i) wind h = some (s_drift (S i 0) (S i 1) wind, h) := by
  unfold F_X0_driftBy s_drift
  rw [sq_i, C_0 R hi, C_m R hi]
  simp only [gnz_n _ (show ¬ (2 : Int32) = 0 by decide)]
  generalize S i 0 = k
  repeat' split
  all_goals first | rfl | (exfalso; simp_all; done)
theorem C_keeps (R : SkyN h c S) (hi : i < 8) (s : Int32) : F_X0_keeps (ca c i) s h = some (s_keep (S i 0) s, h) := by
  unfold F_X0_keeps s_keep
  rw [sq_i, C_0 R hi]
  generalize S i 0 = k
  repeat' split
  all_goals first | rfl | (exfalso; simp_all; done)
theorem C_rainAt (R : SkyN h c S) (hi : i < 8) {t : Int32} (hC : WC S i) (ht : 0 < t ∧ t ≤ 9) : F_X0_rainAt (ca c i) t h = some (s_rains S i t, h) := by
  unfold F_X0_rainAt
  rw [if_pos ht.1]
  unfold F_X0_rainIfItHad
  rw [sq_i, sq_i, C_0 R hi, C_m R hi, C_3 R hi]
  simp only [C_max, C_min, bnd_s]
  unfold WC at hC
  unfold s_rains s_rainv hld
  generalize S i 0 = k at *
  generalize S i 1 = m at *
  generalize S i 3 = w at *
  by_cases k1 : k = 1
  · subst k1; simp [bnd_s]; grind
  by_cases k2 : k = 2
  · subst k2; simp [bnd_s]; grind
  by_cases k3 : k = 3
  · subst k3; simp [bnd_s]; grind
  by_cases k4 : k = 4
  · subst k4; simp [bnd_s]; grind
  by_cases k5 : k = 5
  · subst k5; simp [bnd_s]; grind
  by_cases k6 : k = 6
  · subst k6; simp [bnd_s]; grind
  simp [bnd_s, k1, k2, k3, k4, k5, k6]; grind
theorem C_floor12 {p dd : Int32} (h : Mem) (hp : 0 ≤ p ∧ p ≤ 11) (hd : -6 ≤ dd ∧ dd ≤ 6) : F_J9_floorMod_7cf53 (p + dd) 12 h = some (irm (p + dd + 24) 12, h) := by
  have key : ∀ a, a < 12 → ∀ b, b < 13 → (if 0 ≤ ((nI a + (nI b - 6)) ^^^ 12) then irm (nI a + (nI b - 6)) 12 else if irm (nI a + (nI b - 6)) 12 = 0 then irm (nI a + (nI b - 6)) 12 else irm (nI a + (nI b - 6)) 12 + 12) = irm (nI a + (nI b - 6) + 24) 12 := by decide +kernel
  obtain ⟨a, ha, rfl⟩ := nat_of (n := 11) (by decide) hp.1 hp.2
  obtain ⟨b, hb, eb⟩ := nat_of (x := dd + 6) (m := 12) (n := 12) (by decide) (by grind) (by grind)
  have e : dd = nI b - 6 := by grind
  subst e
  rw [← key a (by omega) b (by omega)]
  unfold F_J9_floorMod_7cf53
  rw [gnz_n _ (by decide), sq_i]
  repeat' split
  all_goals rfl
end CC
