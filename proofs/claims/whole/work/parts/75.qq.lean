/-! TEXTS: Q -/
theorem upm_same {h : Mem} {k j : Nat} {x y : Int32} : upm (upm h k j x) k j y = upm h k j y := by
  funext a b
  simp only [upm]
  split <;> rfl
section LQ
variable {w : Nat → Int32} {e x o N p z : Nat} {c : Mem} {a b d : Int32} {m : Mem} {M : Nat}
theorem M_dgt (s : Int32) (h : Mem) : (dgt s → F_X7_isDigit s h = some (1, h)) ∧ (¬ dgt s → F_X7_isDigit s h = some (0, h)) := by
  unfold F_X7_isDigit dgt
  rcases in_cs s 48 57 with ⟨q, _, e2⟩ | ⟨q, _, e2⟩
  · rw [e2, bnd_s, gbo_n _ (Or.inr rfl)]
    exact ⟨fun _ => rfl, fun z => absurd q z⟩
  · rw [e2, bnd_s, gbo_n _ (Or.inl rfl)]
    exact ⟨fun z => absurd z q, fun _ => rfl⟩
/-- a number: up to four digits -/
theorem num (B : BW w e) (hx : x < 2) : ∀ (dd n q p y : Nat) (fm : Nat → Nat) (c : Mem), q + dd = 4 → dd < n → (∀ M, 1000 ≤ M → dd < fm M) → y < 10 ^ q → CS w e x c p z → p ≤ e → ∃ p' y', p ≤ p' ∧ p' ≤ e ∧ (dgt (bt w e p) → 0 < dd → p < p') ∧ y' < 10000 ∧ (∀ kt, F_X4_readNumber_4 N 86 kt n (nI y) (nI q) c = kt (nI y') (upm c 86 4 (nI p'))) ∧ ∀ M a b d m, 1000 ≤ M → MS w e x o a b d m p → F_X7_number_4 M 102 (fun v h => some (v, h)) (fm M) (nI y) (nI q) m = some (nI y', upm m 102 8 (nI p')) := by
  intro dd
  have h50 := B.1
  have same : ∀ (c : Mem) (p : Nat), c 86 4 = nI p → upm c 86 4 (nI p) = c := fun c p h => by
    funext i j
    simp only [upm]
    split
    · rename_i q; rw [q.1, q.2, h]
    · rfl
  have same2 : ∀ (c : Mem) (p : Nat), c 102 8 = nI p → upm c 102 8 (nI p) = c := fun c p h => by
    funext i j
    simp only [upm]
    split
    · rename_i q; rw [q.1, q.2, h]
    · rfl
  induction dd with
  | zero =>
    intro n q p y fm c hq hn hf hy C hp
    have hq4 : q = 4 := by omega
    subst hq4
    obtain ⟨n, rfl⟩ : ∃ k, n = k + 1 := ⟨n - 1, by omega⟩
    refine ⟨p, y, by omega, hp, fun _ z => by omega, by omega, fun kt => ?_, fun M a b d m hM X => ?_⟩
    · rw [F_X4_readNumber_4, if_pos (show (4 : Int32) ≤ nI 4 by decide), same c p C.2.2.2.1]
    · have := hf M hM
      obtain ⟨f, hf1⟩ : ∃ f, fm M = f + 1 := ⟨fm M - 1, by omega⟩
      rw [hf1, F_X7_number_4, if_pos (show (4 : Int32) ≤ nI 4 by decide), same2 m p X.2.1]
  | succ dd ih =>
    intro n q p y fm c hq hn hf hy C hp
    obtain ⟨n, rfl⟩ : ∃ k, n = k + 1 := ⟨n - 1, by omega⟩
    have h4 : ¬ (4 : Int32) ≤ nI q := nI_ge (b := 4) (by omega) (by omega)
    have hy4 : y < 10000 := Nat.lt_of_lt_of_le hy (by
      have : 10 ^ q ≤ 10 ^ 4 := Nat.pow_le_pow_right (by omega) (by omega)
      exact this)
    by_cases hd : dgt (bt w e p)
    · have hlt : p < e := bt_of B (fun z => by rw [z] at hd; exact absurd hd (by unfold dgt; decide))
      obtain ⟨v, hv, ev⟩ := B.2 p (by omega)
      have hv2 : 48 ≤ v ∧ v ≤ 57 := by
        rw [bt_lt hlt, ev] at hd
        exact ⟨(nI_leI (a := 48) (by omega) (by omega)).mp hd.1, (nI_leI (b := 57) (by omega) (by omega)).mp hd.2⟩
      have ey : ((10 : Int32) * nI y + nI v) - 48 = nI (10 * y + (v - 48)) := by
        rw [show (10 : Int32) = nI 10 from rfl, show (48 : Int32) = nI 48 from rfl, pk_mul, nI_add, pk_sub (by omega), show 10 * y + v - 48 = 10 * y + (v - 48) by omega]
      have hy5 : 10 * y + (v - 48) < 10 ^ (q + 1) := by rw [Nat.pow_succ]; omega
      obtain ⟨p', y', b1, b2, _, b4, b5, b6⟩ := ih n (q + 1) (p + 1) (10 * y + (v - 48)) (fun M => fm M - 1) (upm c 86 4 (nI (p + 1))) (by omega) (by omega) (fun M hM => by have := hf M hM; omega) hy5 (C.mv (p + 1)) (by omega)
      refine ⟨p', y', by omega, b2, fun _ _ => by omega, b4, fun kt => ?_, fun M a b d m hM X => ?_⟩
      · rw [F_X4_readNumber_4, if_neg h4, (C_dg B C hp).1 hd, bnd_s, if_neg (by decide), C.1, gar5, C.2.2.2.1, sq_i, show lay 5 - 1000 = 50 from rfl, gin_n _ (show p < 50 by omega) (by omega), ix_n (show p < 2 ^ 31 by omega), C.2.2.2.2.2.2 p (by omega), ev, ey, sq_i, sq_h, nI_1, nI_1, b5, upm_same]
      · have := hf M hM
        obtain ⟨f, hf1⟩ : ∃ f, fm M = f + 1 := ⟨fm M - 1, by omega⟩
        have b7 := b6 M a b d _ hM (X.mv (p + 1))
        rw [hf1, Nat.add_sub_cancel, upm_same] at b7
        rw [hf1, F_X7_number_4, if_neg h4, M_byte B hx X hp, bnd_s, (M_dgt _ m).1 hd, bnd_s, if_neg (by decide), M_byte B hx X hp, bnd_s, bt_lt hlt, ev, ey, sq_i, X.2.1, sq_h, nI_1, nI_1, b7]
    · refine ⟨p, y, by omega, hp, fun z => absurd z hd, hy4, fun kt => ?_, fun M a b d m hM X => ?_⟩
      · rw [F_X4_readNumber_4, if_neg h4, (C_dg B C hp).2 hd, bnd_s, if_pos rfl, same c p C.2.2.2.1]
      · have := hf M hM
        obtain ⟨f, hf1⟩ : ∃ f, fm M = f + 1 := ⟨fm M - 1, by omega⟩
        rw [hf1, F_X7_number_4, if_neg h4, M_byte B hx X hp, bnd_s, (M_dgt _ m).2 hd, bnd_s, if_pos rfl, same2 m p X.2.1]
end LQ
