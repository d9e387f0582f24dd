/-! VOICES: the same notes so far -/
def TV (c m : Mem) (q i w : Int32) (n : Nat) : Prop := c 91 1 = nI n ∧ m 102 20 = nI n ∧ (∀ j, j < n → c 92 j = m 112 j) ∧ c 91 2 = q ∧ c 91 3 = i ∧ c 91 4 = w ∧ m 102 21 = q ∧ m 102 22 = i ∧ m 102 23 = w
def VC (c c' : Mem) : Prop := ∀ k, k ≠ 91 → k ≠ 92 → c' k = c k
def VM (m m' : Mem) : Prop := (∀ k, k ≠ 102 → k ≠ 112 → m' k = m k) ∧ ∀ j, ¬ (20 ≤ j ∧ j ≤ 23) → m' 102 j = m 102 j
theorem VC.rf {c : Mem} : VC c c := fun _ _ _ => rfl
theorem VC.tr {a b d : Mem} (x : VC a b) (y : VC b d) : VC a d := fun k h1 h2 => (y k h1 h2).trans (x k h1 h2)
theorem VM.rf {c : Mem} : VM c c := ⟨fun _ _ _ => rfl, fun _ _ => rfl⟩
theorem VM.tr {a b d : Mem} (x : VM a b) (y : VM b d) : VM a d := ⟨fun k h1 h2 => (y.1 k h1 h2).trans (x.1 k h1 h2), fun j hj => (y.2 j hj).trans (x.2 j hj)⟩
theorem V_note {c m : Mem} {q i w : Int32} {n : Nat} (T : TV c m q i w n) (hn : n < 40) (x : Int32) : ∃ c' m', F_X5_note 91 x c = some ((), c') ∧ F_X7_ran 102 x m = some ((), m') ∧ TV c' m' q i w (n + 1) ∧ VC c c' ∧ VM m m' := by
  obtain ⟨t1, t2, t3, t4, t5, t6, t7, t8, t9⟩ := T
  unfold F_X5_note F_X7_ran
  rw [t1, t2, if_neg (nI_ge (by omega) (by omega)), if_neg (show ¬ (40 : Int32) ≤ nI n from nI_ge (b := 40) hn (by omega)), gin_n _ hn (by omega), gin_n _ hn (by omega), sq_h, sq_h, sq_h, sq_h, ix_n (by omega)]
  have e1 : upm c (91 + 1) n x 91 1 = nI n := by rw [upm_off 91 (by omega)]; exact t1
  have e2 : upm m (102 + 10) n x 102 20 = nI n := by rw [upm_off 102 (by omega)]; exact t2
  rw [e1, e2, nI_1]
  refine ⟨_, _, rfl, rfl, ⟨by simp [upm], by simp [upm], fun j hj => ?_, ?_, ?_, ?_, ?_, ?_, ?_⟩, fun k h1 h2 => ?_, fun k h1 h2 => ?_, fun j hj => ?_⟩
  · rw [upm_off 92 (by omega), upm_off 112 (by omega)]
    by_cases z : j = n
    · subst z
      simp [upm]
    · simp [upm, z]
      exact t3 j (by omega)
  · simp [upm]; exact t4
  · simp [upm]; exact t5
  · simp [upm]; exact t6
  · simp [upm]; exact t7
  · simp [upm]; exact t8
  · simp [upm]; exact t9
  · rw [upm_off k h1, upm_off k h2]
  · rw [upm_off k h1, upm_off k h2]
  · simp only [upm]
    rw [if_neg (by omega), if_neg (by omega)]
