def bt (w : Nat → Int32) (e p : Nat) : Int32 := if p < e then w p else -1
def BW (w : Nat → Int32) (e : Nat) : Prop := e ≤ 50 ∧ ∀ j, j < 50 → ∃ v, v < 256 ∧ w j = nI v
def CS (w : Nat → Int32) (e x : Nat) (c : Mem) (p z : Nat) : Prop := c 86 1 = nI 5 ∧ c 86 2 = nI e ∧ c 86 3 = -(nI (x + 1 + 1)) ∧ c 86 4 = nI p ∧ c 86 5 = -1 ∧ c 87 2 = nI z ∧ ∀ j, j < 50 → c 5 j = w j
def CFL (x : Nat) (c : Mem) (f : Nat) : Prop := c 86 3 = -(nI (x + 1 + 1)) ∧ c 86 5 = nI f ∧ f ≤ 50 ∧ ∃ z, z ≤ 50 ∧ c 87 2 = nI z
def FX (c c' : Mem) : Prop := ∀ k, k ≠ 86 → k ≠ 87 → k ≠ 88 → c' k = c k
theorem FX.rf {c : Mem} : FX c c := fun _ _ _ _ => rfl
theorem FX.tr {a b d : Mem} (x : FX a b) (y : FX b d) : FX a d := fun k h1 h2 h3 => (y k h1 h2 h3).trans (x k h1 h2 h3)
section TB
variable {w : Nat → Int32} {e x p z N : Nat} {c : Mem}
theorem gar5 {α : Type} (o : Nat → Option α) : gar (nI 5) o = o 5 := rfl
theorem bt_lt (h : p < e) : bt w e p = w p := if_pos h
theorem bt_ge (h : ¬ p < e) : bt w e p = -1 := if_neg h
theorem bt_of (B : BW w e) (h : ¬ bt w e p = -1) : p < e := by
  by_cases q : p < e
  · exact q
  · exact absurd (bt_ge q) h
theorem bt_s (B : BW w e) {k : Nat} (hk : 1 ≤ k ∧ k ≤ 9) (h : inS k (bt w e p)) : p < e := by
  refine bt_of B (fun q => ?_)
  rw [q] at h
  revert h
  have d : ∀ k, k < 10 → 1 ≤ k → ¬ inS k (-1) := by unfold inS; decide
  exact d k (by omega) hk.1
theorem C_go (B : BW w e) (C : CS w e x c p z) (hp : p ≤ e) : F_X4_goesOn 86 c = some (if p < e then 1 else 0, c) := by
  obtain ⟨c1, c2, c3, c4, c5, c6, c7⟩ := C
  have h50 := B.1
  unfold F_X4_goesOn
  rw [c1, c2, c4, c5, if_neg (by decide), if_neg (nI_pos (by omega))]
  by_cases q : p < e
  · rw [if_neg (nI_ge q (by omega)), if_pos q]
    rw [gar5, show lay 5 - 1000 = 50 from rfl, if_neg (nI_ge (by omega) (by omega))]
  · rw [if_pos (nI_le (by omega) (by omega)), if_neg q]
theorem C_goF (h : ∃ f, f ≤ 50 ∧ c 86 5 = nI f) : F_X4_goesOn 86 c = some (0, c) := by
  obtain ⟨f, hf, e⟩ := h
  unfold F_X4_goesOn
  rw [e, if_pos (nI_pos' (by omega))]
theorem CS.mv (C : CS w e x c p z) (q : Nat) : CS w e x (upm c 86 4 (nI q)) q z := by
  obtain ⟨c1, c2, c3, c4, c5, c6, c7⟩ := C
  refine ⟨?_, ?_, ?_, ?_, ?_, ?_, fun j hj => ?_⟩
  · simp only [upm]; rw [if_neg (by omega)]; exact c1
  · simp only [upm]; rw [if_neg (by omega)]; exact c2
  · simp only [upm]; rw [if_neg (by omega)]; exact c3
  · simp [upm]
  · simp only [upm]; rw [if_neg (by omega)]; exact c5
  · simp only [upm]; rw [if_neg (by omega)]; exact c6
  · simp only [upm]; rw [if_neg (by omega)]; exact c7 j hj
theorem FX.mv {v : Int32} : FX c (upm c 86 4 v) := fun k h1 _ _ => upm_off k h1
theorem C_tk (hN : 1000 ≤ N) (B : BW w e) (C : CS w e x c p z) (hp : p ≤ e) {k : Nat} (hk : 1 ≤ k ∧ k ≤ 9) : (inS k (bt w e p) → F_X4_takeOneOf N 86 k c = some (bt w e p, upm c 86 4 (nI (p + 1)))) ∧ (¬ inS k (bt w e p) → F_X4_takeOneOf N 86 k c = some (0, c)) := by
  have h50 := B.1
  by_cases q : p < e
  · obtain ⟨v, hv, ev⟩ := B.2 p (by omega)
    obtain ⟨n, rfl⟩ : ∃ n, N = n + 4 := ⟨N - 4, by omega⟩
    obtain ⟨r, hr, hr2⟩ := sx k hk hv n
    have e5 : c 5 p = nI v := by rw [C.2.2.2.2.2.2 p (by omega), ev]
    have e0 : F_X4_takeOneOf (n + 4) 86 k c = if 0 ≤ r then some (nI v, upm c 86 4 (nI (p + 1))) else some (0, c) := by
      unfold F_X4_takeOneOf
      rw [C_go B C hp, bnd_s, if_pos q, if_neg (by decide), C.1, gar5, C.2.2.2.1, sq_i, show lay 5 - 1000 = 50 from rfl, gin_n _ (show p < 50 by omega) (by omega), ix_n (show p < 2 ^ 31 by omega), e5, hr, bnd_s]
      by_cases q2 : 0 ≤ r
      · rw [if_pos q2, if_pos q2, sq_h, C.2.2.2.1, nI_1, (C.mv (p + 1)).1, gar5, (C.mv (p + 1)).2.2.2.1, nI_pred, sq_i, show lay 5 - 1000 = 50 from rfl, gin_n _ (show p < 50 by omega) (by omega), ix_n (show p < 2 ^ 31 by omega), upm_off 5 (by omega), e5]
      · rw [if_neg q2, if_neg q2]
    rw [bt_lt q, ev, e0]
    exact ⟨fun h => by rw [if_pos (hr2.mpr h)], fun h => by rw [if_neg (fun z => h (hr2.mp z))]⟩
  · refine ⟨fun h => absurd (bt_s B hk h) q, fun _ => ?_⟩
    unfold F_X4_takeOneOf
    rw [C_go B C hp, bnd_s, if_neg q, if_pos rfl]
theorem C_tkF {k : Nat} (h : ∃ f, f ≤ 50 ∧ c 86 5 = nI f) : F_X4_takeOneOf N 86 k c = some (0, c) := by
  unfold F_X4_takeOneOf
  rw [C_goF h, bnd_s, if_pos rfl]
def dgt (b : Int32) : Prop := 48 ≤ b ∧ b ≤ 57
theorem C_dg (B : BW w e) (C : CS w e x c p z) (hp : p ≤ e) : (dgt (bt w e p) → F_X4_isDigitNext 86 c = some (1, c)) ∧ (¬ dgt (bt w e p) → F_X4_isDigitNext 86 c = some (0, c)) := by
  have h50 := B.1
  unfold F_X4_isDigitNext
  by_cases q : p < e
  · have e5 : c 5 p = w p := C.2.2.2.2.2.2 p (by omega)
    simp only [C_go B C hp, bnd_s, if_pos q, i10, if_false, C.1, gar5, C.2.2.2.1, sq_i, show lay 5 - 1000 = 50 from rfl, gin_n _ (show p < 50 by omega) (show 50 < 2 ^ 31 by omega), ix_n (show p < 2 ^ 31 by omega), e5, bt_lt q]
    unfold dgt
    refine ⟨fun h => ?_, fun h => ?_⟩
    · rw [if_neg (by have := h.1; grind), if_neg (by have := h.2; grind)]
    · by_cases h1 : w p < 48
      · rw [if_pos h1]
      · rw [if_neg h1, if_pos (by grind)]
  · rw [bt_ge q, C_go B C hp, bnd_s, if_neg q, if_pos rfl]
    exact ⟨fun h => absurd h (by unfold dgt; decide), fun _ => rfl⟩
theorem C_dgF (h : ∃ f, f ≤ 50 ∧ c 86 5 = nI f) : F_X4_isDigitNext 86 c = some (0, c) := by
  unfold F_X4_isDigitNext
  rw [C_goF h, bnd_s, if_pos rfl]
theorem C_add (C : CS w e x c p z) (hz : z < 50) (s : Int32) : F_X3_add (86 + 1) s c = some ((), upm (upm c 88 z s) 87 2 (nI (z + 1))) ∧ CS w e x (upm (upm c 88 z s) 87 2 (nI (z + 1))) p (z + 1) ∧ FX c (upm (upm c 88 z s) 87 2 (nI (z + 1))) := by
  obtain ⟨c1, c2, c3, c4, c5, c6, c7⟩ := C
  refine ⟨?_, ⟨?_, ?_, ?_, ?_, ?_, ?_, fun j hj => ?_⟩, fun k h1 h2 h3 => ?_⟩
  · unfold F_X3_add
    rw [show 86 + 1 = 87 from rfl, c6, if_neg (nI_ge (by omega) (by omega)), gin_n _ hz (by omega), ix_n (by omega), sq_h, sq_h, upm_off 87 (by omega), c6, nI_1]
  · rw [upm_off 86 (by omega), upm_off 86 (by omega)]; exact c1
  · rw [upm_off 86 (by omega), upm_off 86 (by omega)]; exact c2
  · rw [upm_off 86 (by omega), upm_off 86 (by omega)]; exact c3
  · rw [upm_off 86 (by omega), upm_off 86 (by omega)]; exact c4
  · rw [upm_off 86 (by omega), upm_off 86 (by omega)]; exact c5
  · simp [upm]
  · rw [upm_off 5 (by omega), upm_off 5 (by omega)]; exact c7 j hj
  · rw [upm_off k h2, upm_off k h3]
theorem C_addF {f : Nat} (C : CFL x c f) (s : Int32) : ∃ c', F_X3_add (86 + 1) s c = some ((), c') ∧ CFL x c' f ∧ FX c c' := by
  obtain ⟨c1, c2, c3, z, hz, c4⟩ := C
  unfold F_X3_add
  rw [show 86 + 1 = 87 from rfl, c4]
  by_cases q : z = 50
  · subst q
    rw [if_pos (by decide)]
    exact ⟨c, rfl, ⟨c1, c2, c3, 50, by omega, c4⟩, FX.rf⟩
  · rw [if_neg (nI_ge (by omega) (by omega)), gin_n _ (by omega) (by omega), ix_n (by omega), sq_h, sq_h, upm_off 87 (by omega), c4, nI_1]
    refine ⟨_, rfl, ⟨?_, ?_, c3, z + 1, by omega, ?_⟩, fun k h1 h2 h3 => ?_⟩
    · rw [upm_off 86 (by omega), upm_off 86 (by omega)]; exact c1
    · rw [upm_off 86 (by omega), upm_off 86 (by omega)]; exact c2
    · simp [upm]
    · rw [upm_off k h2, upm_off k (by omega)]
theorem C_stop (C : CS w e x c p z) (hp : p ≤ 50) (hz : z ≤ 50) : F_X4_stop 86 c = some ((), upm c 86 5 (nI p)) ∧ CFL x (upm c 86 5 (nI p)) p ∧ FX c (upm c 86 5 (nI p)) := by
  obtain ⟨c1, c2, c3, c4, c5, c6, c7⟩ := C
  refine ⟨?_, ⟨?_, ?_, hp, z, hz, ?_⟩, fun k h1 h2 h3 => upm_off k h1⟩
  · unfold F_X4_stop
    rw [c5, if_neg (by decide), sq_h, c4]
  · simp only [upm]; rw [if_neg (by omega)]; exact c3
  · simp [upm]
  · rw [upm_off 87 (by omega)]; exact c6
theorem C_stopF (h : ∃ f, f ≤ 50 ∧ c 86 5 = nI f) : F_X4_stop 86 c = some ((), c) := by
  obtain ⟨f, hf, e⟩ := h
  unfold F_X4_stop
  rw [e, if_pos (nI_pos' (by omega))]
theorem CFL.f {f : Nat} (C : CFL x c f) : ∃ f, f ≤ 50 ∧ c 86 5 = nI f := ⟨f, C.2.2.1, C.2.1⟩
end TB
