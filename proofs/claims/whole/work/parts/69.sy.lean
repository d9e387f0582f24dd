/-- a string's bytes -/
def inS (k : Nat) (b : Int32) : Prop := b ∈ bytS.getD k []
theorem sx (k : Nat) (hk : 1 ≤ k ∧ k ≤ 9) {v : Nat} (hv : v < 256) (n : Nat) : ∃ r, (∀ h, F_J0_indexOf_0f7a4 (n + 4) k (i2c (nI v)) h = some (r, h)) ∧ (0 ≤ r ↔ inS k (nI v)) := by
  unfold inS
  rcases (show k = 1 ∨ k = 2 ∨ k = 3 ∨ k = 4 ∨ k = 5 ∨ k = 6 ∨ k = 7 ∨ k = 8 ∨ k = 9 by omega) with rfl | rfl | rfl | rfl | rfl | rfl | rfl | rfl | rfl
  · exact ⟨_, sx3 hv rfl rfl (by decide) (by decide) (by decide), by simp only [bytS, List.getD_cons_succ, List.getD_cons_zero, List.mem_cons, List.not_mem_nil, or_false]; repeat' split <;> simp [*]⟩
  · exact ⟨_, sx3 hv rfl rfl (by decide) (by decide) (by decide), by simp only [bytS, List.getD_cons_succ, List.getD_cons_zero, List.mem_cons, List.not_mem_nil, or_false]; repeat' split <;> simp [*]⟩
  · exact ⟨_, sx2 hv rfl rfl (by decide) (by decide), by simp only [bytS, List.getD_cons_succ, List.getD_cons_zero, List.mem_cons, List.not_mem_nil, or_false]; repeat' split <;> simp [*]⟩
  · exact ⟨_, sx1 hv rfl rfl (by decide), by simp only [bytS, List.getD_cons_succ, List.getD_cons_zero, List.mem_cons, List.not_mem_nil, or_false]; repeat' split <;> simp [*]⟩
  · exact ⟨_, sx3 hv rfl rfl (by decide) (by decide) (by decide), by simp only [bytS, List.getD_cons_succ, List.getD_cons_zero, List.mem_cons, List.not_mem_nil, or_false]; repeat' split <;> simp [*]⟩
  · exact ⟨_, sx2 hv rfl rfl (by decide) (by decide), by simp only [bytS, List.getD_cons_succ, List.getD_cons_zero, List.mem_cons, List.not_mem_nil, or_false]; repeat' split <;> simp [*]⟩
  · exact ⟨_, sx3 hv rfl rfl (by decide) (by decide) (by decide), by simp only [bytS, List.getD_cons_succ, List.getD_cons_zero, List.mem_cons, List.not_mem_nil, or_false]; repeat' split <;> simp [*]⟩
  · exact ⟨_, sx1 hv rfl rfl (by decide), by simp only [bytS, List.getD_cons_succ, List.getD_cons_zero, List.mem_cons, List.not_mem_nil, or_false]; repeat' split <;> simp [*]⟩
  · exact ⟨_, sx1 hv rfl rfl (by decide), by simp only [bytS, List.getD_cons_succ, List.getD_cons_zero, List.mem_cons, List.not_mem_nil, or_false]; repeat' split <;> simp [*]⟩
