/-! VOICES: class and Model speak alike -/
def VL (q i w : Int32) (p : Nat) (A B : Mem → Option (Int32 × Mem)) : Prop := ∀ (c m : Mem) (n : Nat), n + p ≤ 40 → TV c m q i w n → ∃ r c' m' n', A c = some (r, c') ∧ B m = some (r, m') ∧ n' ≤ n + p ∧ TV c' m' q i w n' ∧ VC c c' ∧ VM m m'
section VV
variable {q i w : Int32} {p p2 : Nat} {A B A' B' A2 B2 : Mem → Option (Int32 × Mem)}
theorem VL.cg (h : VL q i w p A' B') (e : ∀ c m n, TV c m q i w n → A c = A' c ∧ B m = B' m) : VL q i w p A B := by
  intro c m n hn T
  obtain ⟨e1, e2⟩ := e c m n T
  rw [e1, e2]
  exact h c m n hn T
theorem VL.up (h : VL q i w p A B) (hp : p ≤ p2) : VL q i w p2 A B := by
  intro c m n hn T
  obtain ⟨r, c', m', n', a, b, e, t⟩ := h c m n (by omega) T
  exact ⟨r, c', m', n', a, b, by omega, t⟩
theorem VL.note (h : VL q i w p A B) (x : Int32) : VL q i w (p + 1) (fun c => bnd (F_X5_note 91 x c) (fun _ h => A h)) (fun m => bnd (F_X7_ran 102 x m) (fun _ h => B h)) := by
  intro c m n hn T
  obtain ⟨c1, m1, a, b, T1, x1, y1⟩ := V_note T (by omega) x
  obtain ⟨r, c', m', n', a2, b2, e, T2, x2, y2⟩ := h c1 m1 (n + 1) (by omega) T1
  refine ⟨r, c', m', n', ?_, ?_, by omega, T2, x1.tr x2, y1.tr y2⟩
  · show bnd (F_X5_note 91 x c) _ = _
    rw [a, bnd_s, a2]
  · show bnd (F_X7_ran 102 x m) _ = _
    rw [b, bnd_s, b2]
theorem VL.map (h : VL q i w p A B) (g : Int32 → Int32) : VL q i w p (fun c => bnd (A c) (fun r h => some (g r, h))) (fun m => bnd (B m) (fun r h => some (g r, h))) := by
  intro c m n hn T
  obtain ⟨r, c', m', n', a2, b2, e, T2, x2, y2⟩ := h c m n hn T
  refine ⟨g r, c', m', n', ?_, ?_, e, T2, x2, y2⟩
  · show bnd (A c) _ = _
    rw [a2, bnd_s]
  · show bnd (B m) _ = _
    rw [b2, bnd_s]
theorem VL.two (h : VL q i w p A B) (h2 : VL q i w p2 A2 B2) (g : Int32 → Int32 → Int32) : VL q i w (p + p2) (fun c => bnd (A c) (fun r h => bnd (A2 h) (fun t h => some (g r t, h)))) (fun m => bnd (B m) (fun r h => bnd (B2 h) (fun t h => some (g r t, h)))) := by
  intro c m n hn T
  obtain ⟨r, c', m', n', a, b, e, T2, x1, y1⟩ := h c m n (by omega) T
  obtain ⟨t, c2, m2, n2, a2, b2, e2, T3, x2, y2⟩ := h2 c' m' n' (by omega) T2
  refine ⟨g r t, c2, m2, n2, ?_, ?_, by omega, T3, x1.tr x2, y1.tr y2⟩
  · show bnd (A c) _ = _
    rw [a, bnd_s, a2, bnd_s]
  · show bnd (B m) _ = _
    rw [b, bnd_s, b2, bnd_s]
theorem VL.num (x : Int32) : VL q i w 0 (fun c => some (x + c 91 3, c)) (fun m => some (x + m 102 22, m)) := by
  intro c m n hn T
  refine ⟨x + i, c, m, n, ?_, ?_, by omega, T, VC.rf, VM.rf⟩
  · show some (x + c 91 3, c) = _
    rw [T.2.2.2.2.1]
  · show some (x + m 102 22, m) = _
    rw [T.2.2.2.2.2.2.2.1]
theorem VL.nm (x : Int32) : VL q i w 0 (fun c => some (x - c 91 4, c)) (fun m => some (x - m 102 23, m)) := by
  intro c m n hn T
  refine ⟨x - w, c, m, n, ?_, ?_, by omega, T, VC.rf, VM.rf⟩
  · show some (x - c 91 4, c) = _
    rw [T.2.2.2.2.2.1]
  · show some (x - m 102 23, m) = _
    rw [T.2.2.2.2.2.2.2.2]
theorem VL.xor (h : VL q i w p A B) : VL q i w p (fun c => bnd (A c) (fun r h => some (r ^^^ h 91 3, h))) (fun m => bnd (B m) (fun r h => some (r ^^^ h 102 22, h))) := by
  intro c m n hn T
  obtain ⟨r, c', m', n', a2, b2, e, T2, x2, y2⟩ := h c m n hn T
  refine ⟨r ^^^ i, c', m', n', ?_, ?_, e, T2, x2, y2⟩
  · show bnd (A c) _ = _
    rw [a2, bnd_s, T2.2.2.2.2.1]
  · show bnd (B m) _ = _
    rw [b2, bnd_s, T2.2.2.2.2.2.2.2.1]

variable {oq : Nat → Int32 → Int32 → Int32 → Int32 → Mem → Option (Int32 × Mem)} {n d : Nat}
theorem d_le (h : d ≤ 40) : nI d ≤ (40 : Int32) := nI_le (b := 40) h (by omega)
theorem vf_00 (hd : d ≤ 40) (x : Int32) (h : Mem) : F_X5_from oq (n + 10) 91 (0 : Int32) (0 : Int32) x (nI d) h = oq 91 10 (-1) x (nI (d + 1)) h := by
  unfold F_X5_from
  rw [if_pos (d_le hd)]
  rw [show n + 10 = n + 9 + 1 from rfl, F_X5_from_15, if_neg (show ¬ (6 : Int32) ≤ 0 by decide)]
  rw [if_pos (by decide)]
  rw [show ∀ h, F_X5_bodyOf 0 0 h = some (10, h) from fun _ => rfl, bnd_s, show ∀ h, F_X6_kindAbove 0 h = some (-1, h) from fun _ => rfl, bnd_s, bnd_id, nI_1]
theorem vf_01 (hd : d ≤ 40) (x : Int32) (h : Mem) : F_X5_from oq (n + 10) 91 (0 : Int32) (1 : Int32) x (nI d) h = oq 91 11 (-1) x (nI (d + 1)) h := by
  unfold F_X5_from
  rw [if_pos (d_le hd)]
  rw [show n + 10 = n + 9 + 1 from rfl, F_X5_from_15, if_neg (show ¬ (6 : Int32) ≤ 0 by decide)]
  rw [if_pos (by decide)]
  rw [show ∀ h, F_X5_bodyOf 0 1 h = some (11, h) from fun _ => rfl, bnd_s, show ∀ h, F_X6_kindAbove 0 h = some (-1, h) from fun _ => rfl, bnd_s, bnd_id, nI_1]
theorem vf_02 (hd : d ≤ 40) (x : Int32) (h : Mem) : F_X5_from oq (n + 10) 91 (0 : Int32) (2 : Int32) x (nI d) h = oq 91 12 (-1) x (nI (d + 1)) h := by
  unfold F_X5_from
  rw [if_pos (d_le hd)]
  rw [show n + 10 = n + 9 + 1 from rfl, F_X5_from_15, if_neg (show ¬ (6 : Int32) ≤ 0 by decide)]
  rw [if_pos (by decide)]
  rw [show ∀ h, F_X5_bodyOf 0 2 h = some (12, h) from fun _ => rfl, bnd_s, show ∀ h, F_X6_kindAbove 0 h = some (-1, h) from fun _ => rfl, bnd_s, bnd_id, nI_1]
theorem vf_03 (hd : d ≤ 40) (x : Int32) (h : Mem) : F_X5_from oq (n + 10) 91 (0 : Int32) (3 : Int32) x (nI d) h = oq 91 13 (-1) x (nI (d + 1)) h := by
  unfold F_X5_from
  rw [if_pos (d_le hd)]
  rw [show n + 10 = n + 9 + 1 from rfl, F_X5_from_15, if_neg (show ¬ (6 : Int32) ≤ 0 by decide)]
  rw [if_pos (by decide)]
  rw [show ∀ h, F_X5_bodyOf 0 3 h = some (13, h) from fun _ => rfl, bnd_s, show ∀ h, F_X6_kindAbove 0 h = some (-1, h) from fun _ => rfl, bnd_s, bnd_id, nI_1]
theorem vf_10 (hd : d ≤ 40) (x : Int32) (h : Mem) : F_X5_from oq (n + 10) 91 (1 : Int32) (0 : Int32) x (nI d) h = oq 91 20 (0) x (nI (d + 1)) h := by
  unfold F_X5_from
  rw [if_pos (d_le hd)]
  rw [show n + 10 = n + 9 + 1 from rfl, F_X5_from_15, if_neg (show ¬ (6 : Int32) ≤ 0 by decide)]
  rw [if_neg (by decide), show ∀ h, F_X5_bodyOf 1 0 h = some (20, h) from fun _ => rfl, bnd_s, if_neg (by decide)]
  rw [show ∀ h, F_X5_bodyOf 1 0 h = some (20, h) from fun _ => rfl, bnd_s, show ∀ h, F_X6_kindAbove 1 h = some (0, h) from fun _ => rfl, bnd_s, bnd_id, nI_1]
theorem vf_11 (hd : d ≤ 40) (x : Int32) (h : Mem) : F_X5_from oq (n + 10) 91 (1 : Int32) (1 : Int32) x (nI d) h = oq 91 11 (-1) x (nI (d + 1)) h := by
  unfold F_X5_from
  rw [if_pos (d_le hd)]
  rw [show n + 10 = n + 9 + 1 from rfl, F_X5_from_15, if_neg (show ¬ (6 : Int32) ≤ 0 by decide)]
  rw [if_neg (by decide), show ∀ h, F_X5_bodyOf 1 1 h = some (0, h) from fun _ => rfl, bnd_s, if_pos rfl, show ∀ h, F_X6_kindAbove 1 h = some (0, h) from fun _ => rfl, bnd_s]
  rw [show n + 9 = n + 8 + 1 from rfl, F_X5_from_15, if_neg (show ¬ (6 : Int32) ≤ 0 + 1 by decide)]
  rw [if_pos (by decide)]
  rw [show ∀ h, F_X5_bodyOf 0 1 h = some (11, h) from fun _ => rfl, bnd_s, show ∀ h, F_X6_kindAbove 0 h = some (-1, h) from fun _ => rfl, bnd_s, bnd_id, nI_1]
theorem vf_12 (hd : d ≤ 40) (x : Int32) (h : Mem) : F_X5_from oq (n + 10) 91 (1 : Int32) (2 : Int32) x (nI d) h = oq 91 12 (-1) x (nI (d + 1)) h := by
  unfold F_X5_from
  rw [if_pos (d_le hd)]
  rw [show n + 10 = n + 9 + 1 from rfl, F_X5_from_15, if_neg (show ¬ (6 : Int32) ≤ 0 by decide)]
  rw [if_neg (by decide), show ∀ h, F_X5_bodyOf 1 2 h = some (0, h) from fun _ => rfl, bnd_s, if_pos rfl, show ∀ h, F_X6_kindAbove 1 h = some (0, h) from fun _ => rfl, bnd_s]
  rw [show n + 9 = n + 8 + 1 from rfl, F_X5_from_15, if_neg (show ¬ (6 : Int32) ≤ 0 + 1 by decide)]
  rw [if_pos (by decide)]
  rw [show ∀ h, F_X5_bodyOf 0 2 h = some (12, h) from fun _ => rfl, bnd_s, show ∀ h, F_X6_kindAbove 0 h = some (-1, h) from fun _ => rfl, bnd_s, bnd_id, nI_1]
theorem vf_13 (hd : d ≤ 40) (x : Int32) (h : Mem) : F_X5_from oq (n + 10) 91 (1 : Int32) (3 : Int32) x (nI d) h = oq 91 13 (-1) x (nI (d + 1)) h := by
  unfold F_X5_from
  rw [if_pos (d_le hd)]
  rw [show n + 10 = n + 9 + 1 from rfl, F_X5_from_15, if_neg (show ¬ (6 : Int32) ≤ 0 by decide)]
  rw [if_neg (by decide), show ∀ h, F_X5_bodyOf 1 3 h = some (0, h) from fun _ => rfl, bnd_s, if_pos rfl, show ∀ h, F_X6_kindAbove 1 h = some (0, h) from fun _ => rfl, bnd_s]
  rw [show n + 9 = n + 8 + 1 from rfl, F_X5_from_15, if_neg (show ¬ (6 : Int32) ≤ 0 + 1 by decide)]
  rw [if_pos (by decide)]
  rw [show ∀ h, F_X5_bodyOf 0 3 h = some (13, h) from fun _ => rfl, bnd_s, show ∀ h, F_X6_kindAbove 0 h = some (-1, h) from fun _ => rfl, bnd_s, bnd_id, nI_1]
theorem vf_20 (hd : d ≤ 40) (x : Int32) (h : Mem) : F_X5_from oq (n + 10) 91 (2 : Int32) (0 : Int32) x (nI d) h = oq 91 10 (-1) x (nI (d + 1)) h := by
  unfold F_X5_from
  rw [if_pos (d_le hd)]
  rw [show n + 10 = n + 9 + 1 from rfl, F_X5_from_15, if_neg (show ¬ (6 : Int32) ≤ 0 by decide)]
  rw [if_neg (by decide), show ∀ h, F_X5_bodyOf 2 0 h = some (0, h) from fun _ => rfl, bnd_s, if_pos rfl, show ∀ h, F_X6_kindAbove 2 h = some (0, h) from fun _ => rfl, bnd_s]
  rw [show n + 9 = n + 8 + 1 from rfl, F_X5_from_15, if_neg (show ¬ (6 : Int32) ≤ 0 + 1 by decide)]
  rw [if_pos (by decide)]
  rw [show ∀ h, F_X5_bodyOf 0 0 h = some (10, h) from fun _ => rfl, bnd_s, show ∀ h, F_X6_kindAbove 0 h = some (-1, h) from fun _ => rfl, bnd_s, bnd_id, nI_1]
theorem vf_21 (hd : d ≤ 40) (x : Int32) (h : Mem) : F_X5_from oq (n + 10) 91 (2 : Int32) (1 : Int32) x (nI d) h = oq 91 30 (0) x (nI (d + 1)) h := by
  unfold F_X5_from
  rw [if_pos (d_le hd)]
  rw [show n + 10 = n + 9 + 1 from rfl, F_X5_from_15, if_neg (show ¬ (6 : Int32) ≤ 0 by decide)]
  rw [if_neg (by decide), show ∀ h, F_X5_bodyOf 2 1 h = some (30, h) from fun _ => rfl, bnd_s, if_neg (by decide)]
  rw [show ∀ h, F_X5_bodyOf 2 1 h = some (30, h) from fun _ => rfl, bnd_s, show ∀ h, F_X6_kindAbove 2 h = some (0, h) from fun _ => rfl, bnd_s, bnd_id, nI_1]
theorem vf_22 (hd : d ≤ 40) (x : Int32) (h : Mem) : F_X5_from oq (n + 10) 91 (2 : Int32) (2 : Int32) x (nI d) h = oq 91 12 (-1) x (nI (d + 1)) h := by
  unfold F_X5_from
  rw [if_pos (d_le hd)]
  rw [show n + 10 = n + 9 + 1 from rfl, F_X5_from_15, if_neg (show ¬ (6 : Int32) ≤ 0 by decide)]
  rw [if_neg (by decide), show ∀ h, F_X5_bodyOf 2 2 h = some (0, h) from fun _ => rfl, bnd_s, if_pos rfl, show ∀ h, F_X6_kindAbove 2 h = some (0, h) from fun _ => rfl, bnd_s]
  rw [show n + 9 = n + 8 + 1 from rfl, F_X5_from_15, if_neg (show ¬ (6 : Int32) ≤ 0 + 1 by decide)]
  rw [if_pos (by decide)]
  rw [show ∀ h, F_X5_bodyOf 0 2 h = some (12, h) from fun _ => rfl, bnd_s, show ∀ h, F_X6_kindAbove 0 h = some (-1, h) from fun _ => rfl, bnd_s, bnd_id, nI_1]
theorem vf_23 (hd : d ≤ 40) (x : Int32) (h : Mem) : F_X5_from oq (n + 10) 91 (2 : Int32) (3 : Int32) x (nI d) h = oq 91 13 (-1) x (nI (d + 1)) h := by
  unfold F_X5_from
  rw [if_pos (d_le hd)]
  rw [show n + 10 = n + 9 + 1 from rfl, F_X5_from_15, if_neg (show ¬ (6 : Int32) ≤ 0 by decide)]
  rw [if_neg (by decide), show ∀ h, F_X5_bodyOf 2 3 h = some (0, h) from fun _ => rfl, bnd_s, if_pos rfl, show ∀ h, F_X6_kindAbove 2 h = some (0, h) from fun _ => rfl, bnd_s]
  rw [show n + 9 = n + 8 + 1 from rfl, F_X5_from_15, if_neg (show ¬ (6 : Int32) ≤ 0 + 1 by decide)]
  rw [if_pos (by decide)]
  rw [show ∀ h, F_X5_bodyOf 0 3 h = some (13, h) from fun _ => rfl, bnd_s, show ∀ h, F_X6_kindAbove 0 h = some (-1, h) from fun _ => rfl, bnd_s, bnd_id, nI_1]
theorem vf_30 (hd : d ≤ 40) (x : Int32) (h : Mem) : F_X5_from oq (n + 10) 91 (3 : Int32) (0 : Int32) x (nI d) h = oq 91 10 (-1) x (nI (d + 1)) h := by
  unfold F_X5_from
  rw [if_pos (d_le hd)]
  rw [show n + 10 = n + 9 + 1 from rfl, F_X5_from_15, if_neg (show ¬ (6 : Int32) ≤ 0 by decide)]
  rw [if_neg (by decide), show ∀ h, F_X5_bodyOf 3 0 h = some (0, h) from fun _ => rfl, bnd_s, if_pos rfl, show ∀ h, F_X6_kindAbove 3 h = some (0, h) from fun _ => rfl, bnd_s]
  rw [show n + 9 = n + 8 + 1 from rfl, F_X5_from_15, if_neg (show ¬ (6 : Int32) ≤ 0 + 1 by decide)]
  rw [if_pos (by decide)]
  rw [show ∀ h, F_X5_bodyOf 0 0 h = some (10, h) from fun _ => rfl, bnd_s, show ∀ h, F_X6_kindAbove 0 h = some (-1, h) from fun _ => rfl, bnd_s, bnd_id, nI_1]
theorem vf_31 (hd : d ≤ 40) (x : Int32) (h : Mem) : F_X5_from oq (n + 10) 91 (3 : Int32) (1 : Int32) x (nI d) h = oq 91 11 (-1) x (nI (d + 1)) h := by
  unfold F_X5_from
  rw [if_pos (d_le hd)]
  rw [show n + 10 = n + 9 + 1 from rfl, F_X5_from_15, if_neg (show ¬ (6 : Int32) ≤ 0 by decide)]
  rw [if_neg (by decide), show ∀ h, F_X5_bodyOf 3 1 h = some (0, h) from fun _ => rfl, bnd_s, if_pos rfl, show ∀ h, F_X6_kindAbove 3 h = some (0, h) from fun _ => rfl, bnd_s]
  rw [show n + 9 = n + 8 + 1 from rfl, F_X5_from_15, if_neg (show ¬ (6 : Int32) ≤ 0 + 1 by decide)]
  rw [if_pos (by decide)]
  rw [show ∀ h, F_X5_bodyOf 0 1 h = some (11, h) from fun _ => rfl, bnd_s, show ∀ h, F_X6_kindAbove 0 h = some (-1, h) from fun _ => rfl, bnd_s, bnd_id, nI_1]
theorem vf_32 (hd : d ≤ 40) (x : Int32) (h : Mem) : F_X5_from oq (n + 10) 91 (3 : Int32) (2 : Int32) x (nI d) h = oq 91 40 (0) x (nI (d + 1)) h := by
  unfold F_X5_from
  rw [if_pos (d_le hd)]
  rw [show n + 10 = n + 9 + 1 from rfl, F_X5_from_15, if_neg (show ¬ (6 : Int32) ≤ 0 by decide)]
  rw [if_neg (by decide), show ∀ h, F_X5_bodyOf 3 2 h = some (40, h) from fun _ => rfl, bnd_s, if_neg (by decide)]
  rw [show ∀ h, F_X5_bodyOf 3 2 h = some (40, h) from fun _ => rfl, bnd_s, show ∀ h, F_X6_kindAbove 3 h = some (0, h) from fun _ => rfl, bnd_s, bnd_id, nI_1]
theorem vf_33 (hd : d ≤ 40) (x : Int32) (h : Mem) : F_X5_from oq (n + 10) 91 (3 : Int32) (3 : Int32) x (nI d) h = oq 91 13 (-1) x (nI (d + 1)) h := by
  unfold F_X5_from
  rw [if_pos (d_le hd)]
  rw [show n + 10 = n + 9 + 1 from rfl, F_X5_from_15, if_neg (show ¬ (6 : Int32) ≤ 0 by decide)]
  rw [if_neg (by decide), show ∀ h, F_X5_bodyOf 3 3 h = some (0, h) from fun _ => rfl, bnd_s, if_pos rfl, show ∀ h, F_X6_kindAbove 3 h = some (0, h) from fun _ => rfl, bnd_s]
  rw [show n + 9 = n + 8 + 1 from rfl, F_X5_from_15, if_neg (show ¬ (6 : Int32) ≤ 0 + 1 by decide)]
  rw [if_pos (by decide)]
  rw [show ∀ h, F_X5_bodyOf 0 3 h = some (13, h) from fun _ => rfl, bnd_s, show ∀ h, F_X6_kindAbove 0 h = some (-1, h) from fun _ => rfl, bnd_s, bnd_id, nI_1]
theorem vf_40 (hd : d ≤ 40) (x : Int32) (h : Mem) : F_X5_from oq (n + 10) 91 (4 : Int32) (0 : Int32) x (nI d) h = oq 91 20 (0) x (nI (d + 1)) h := by
  unfold F_X5_from
  rw [if_pos (d_le hd)]
  rw [show n + 10 = n + 9 + 1 from rfl, F_X5_from_15, if_neg (show ¬ (6 : Int32) ≤ 0 by decide)]
  rw [if_neg (by decide), show ∀ h, F_X5_bodyOf 4 0 h = some (0, h) from fun _ => rfl, bnd_s, if_pos rfl, show ∀ h, F_X6_kindAbove 4 h = some (1, h) from fun _ => rfl, bnd_s]
  rw [show n + 9 = n + 8 + 1 from rfl, F_X5_from_15, if_neg (show ¬ (6 : Int32) ≤ 0 + 1 by decide)]
  rw [if_neg (by decide), show ∀ h, F_X5_bodyOf 1 0 h = some (20, h) from fun _ => rfl, bnd_s, if_neg (by decide)]
  rw [show ∀ h, F_X5_bodyOf 1 0 h = some (20, h) from fun _ => rfl, bnd_s, show ∀ h, F_X6_kindAbove 1 h = some (0, h) from fun _ => rfl, bnd_s, bnd_id, nI_1]
theorem vf_41 (hd : d ≤ 40) (x : Int32) (h : Mem) : F_X5_from oq (n + 10) 91 (4 : Int32) (1 : Int32) x (nI d) h = oq 91 11 (-1) x (nI (d + 1)) h := by
  unfold F_X5_from
  rw [if_pos (d_le hd)]
  rw [show n + 10 = n + 9 + 1 from rfl, F_X5_from_15, if_neg (show ¬ (6 : Int32) ≤ 0 by decide)]
  rw [if_neg (by decide), show ∀ h, F_X5_bodyOf 4 1 h = some (0, h) from fun _ => rfl, bnd_s, if_pos rfl, show ∀ h, F_X6_kindAbove 4 h = some (1, h) from fun _ => rfl, bnd_s]
  rw [show n + 9 = n + 8 + 1 from rfl, F_X5_from_15, if_neg (show ¬ (6 : Int32) ≤ 0 + 1 by decide)]
  rw [if_neg (by decide), show ∀ h, F_X5_bodyOf 1 1 h = some (0, h) from fun _ => rfl, bnd_s, if_pos rfl, show ∀ h, F_X6_kindAbove 1 h = some (0, h) from fun _ => rfl, bnd_s]
  rw [show n + 8 = n + 7 + 1 from rfl, F_X5_from_15, if_neg (show ¬ (6 : Int32) ≤ 0 + 1 + 1 by decide)]
  rw [if_pos (by decide)]
  rw [show ∀ h, F_X5_bodyOf 0 1 h = some (11, h) from fun _ => rfl, bnd_s, show ∀ h, F_X6_kindAbove 0 h = some (-1, h) from fun _ => rfl, bnd_s, bnd_id, nI_1]
theorem vf_42 (hd : d ≤ 40) (x : Int32) (h : Mem) : F_X5_from oq (n + 10) 91 (4 : Int32) (2 : Int32) x (nI d) h = oq 91 12 (-1) x (nI (d + 1)) h := by
  unfold F_X5_from
  rw [if_pos (d_le hd)]
  rw [show n + 10 = n + 9 + 1 from rfl, F_X5_from_15, if_neg (show ¬ (6 : Int32) ≤ 0 by decide)]
  rw [if_neg (by decide), show ∀ h, F_X5_bodyOf 4 2 h = some (0, h) from fun _ => rfl, bnd_s, if_pos rfl, show ∀ h, F_X6_kindAbove 4 h = some (1, h) from fun _ => rfl, bnd_s]
  rw [show n + 9 = n + 8 + 1 from rfl, F_X5_from_15, if_neg (show ¬ (6 : Int32) ≤ 0 + 1 by decide)]
  rw [if_neg (by decide), show ∀ h, F_X5_bodyOf 1 2 h = some (0, h) from fun _ => rfl, bnd_s, if_pos rfl, show ∀ h, F_X6_kindAbove 1 h = some (0, h) from fun _ => rfl, bnd_s]
  rw [show n + 8 = n + 7 + 1 from rfl, F_X5_from_15, if_neg (show ¬ (6 : Int32) ≤ 0 + 1 + 1 by decide)]
  rw [if_pos (by decide)]
  rw [show ∀ h, F_X5_bodyOf 0 2 h = some (12, h) from fun _ => rfl, bnd_s, show ∀ h, F_X6_kindAbove 0 h = some (-1, h) from fun _ => rfl, bnd_s, bnd_id, nI_1]
theorem vf_43 (hd : d ≤ 40) (x : Int32) (h : Mem) : F_X5_from oq (n + 10) 91 (4 : Int32) (3 : Int32) x (nI d) h = oq 91 50 (1) x (nI (d + 1)) h := by
  unfold F_X5_from
  rw [if_pos (d_le hd)]
  rw [show n + 10 = n + 9 + 1 from rfl, F_X5_from_15, if_neg (show ¬ (6 : Int32) ≤ 0 by decide)]
  rw [if_neg (by decide), show ∀ h, F_X5_bodyOf 4 3 h = some (50, h) from fun _ => rfl, bnd_s, if_neg (by decide)]
  rw [show ∀ h, F_X5_bodyOf 4 3 h = some (50, h) from fun _ => rfl, bnd_s, show ∀ h, F_X6_kindAbove 4 h = some (1, h) from fun _ => rfl, bnd_s, bnd_id, nI_1]
theorem vf_50 (hd : d ≤ 40) (x : Int32) (h : Mem) : F_X5_from oq (n + 10) 91 (5 : Int32) (0 : Int32) x (nI d) h = oq 91 10 (-1) x (nI (d + 1)) h := by
  unfold F_X5_from
  rw [if_pos (d_le hd)]
  rw [show n + 10 = n + 9 + 1 from rfl, F_X5_from_15, if_neg (show ¬ (6 : Int32) ≤ 0 by decide)]
  rw [if_neg (by decide), show ∀ h, F_X5_bodyOf 5 0 h = some (0, h) from fun _ => rfl, bnd_s, if_pos rfl, show ∀ h, F_X6_kindAbove 5 h = some (2, h) from fun _ => rfl, bnd_s]
  rw [show n + 9 = n + 8 + 1 from rfl, F_X5_from_15, if_neg (show ¬ (6 : Int32) ≤ 0 + 1 by decide)]
  rw [if_neg (by decide), show ∀ h, F_X5_bodyOf 2 0 h = some (0, h) from fun _ => rfl, bnd_s, if_pos rfl, show ∀ h, F_X6_kindAbove 2 h = some (0, h) from fun _ => rfl, bnd_s]
  rw [show n + 8 = n + 7 + 1 from rfl, F_X5_from_15, if_neg (show ¬ (6 : Int32) ≤ 0 + 1 + 1 by decide)]
  rw [if_pos (by decide)]
  rw [show ∀ h, F_X5_bodyOf 0 0 h = some (10, h) from fun _ => rfl, bnd_s, show ∀ h, F_X6_kindAbove 0 h = some (-1, h) from fun _ => rfl, bnd_s, bnd_id, nI_1]
theorem vf_51 (hd : d ≤ 40) (x : Int32) (h : Mem) : F_X5_from oq (n + 10) 91 (5 : Int32) (1 : Int32) x (nI d) h = oq 91 60 (2) x (nI (d + 1)) h := by
  unfold F_X5_from
  rw [if_pos (d_le hd)]
  rw [show n + 10 = n + 9 + 1 from rfl, F_X5_from_15, if_neg (show ¬ (6 : Int32) ≤ 0 by decide)]
  rw [if_neg (by decide), show ∀ h, F_X5_bodyOf 5 1 h = some (60, h) from fun _ => rfl, bnd_s, if_neg (by decide)]
  rw [show ∀ h, F_X5_bodyOf 5 1 h = some (60, h) from fun _ => rfl, bnd_s, show ∀ h, F_X6_kindAbove 5 h = some (2, h) from fun _ => rfl, bnd_s, bnd_id, nI_1]
theorem vf_52 (hd : d ≤ 40) (x : Int32) (h : Mem) : F_X5_from oq (n + 10) 91 (5 : Int32) (2 : Int32) x (nI d) h = oq 91 12 (-1) x (nI (d + 1)) h := by
  unfold F_X5_from
  rw [if_pos (d_le hd)]
  rw [show n + 10 = n + 9 + 1 from rfl, F_X5_from_15, if_neg (show ¬ (6 : Int32) ≤ 0 by decide)]
  rw [if_neg (by decide), show ∀ h, F_X5_bodyOf 5 2 h = some (0, h) from fun _ => rfl, bnd_s, if_pos rfl, show ∀ h, F_X6_kindAbove 5 h = some (2, h) from fun _ => rfl, bnd_s]
  rw [show n + 9 = n + 8 + 1 from rfl, F_X5_from_15, if_neg (show ¬ (6 : Int32) ≤ 0 + 1 by decide)]
  rw [if_neg (by decide), show ∀ h, F_X5_bodyOf 2 2 h = some (0, h) from fun _ => rfl, bnd_s, if_pos rfl, show ∀ h, F_X6_kindAbove 2 h = some (0, h) from fun _ => rfl, bnd_s]
  rw [show n + 8 = n + 7 + 1 from rfl, F_X5_from_15, if_neg (show ¬ (6 : Int32) ≤ 0 + 1 + 1 by decide)]
  rw [if_pos (by decide)]
  rw [show ∀ h, F_X5_bodyOf 0 2 h = some (12, h) from fun _ => rfl, bnd_s, show ∀ h, F_X6_kindAbove 0 h = some (-1, h) from fun _ => rfl, bnd_s, bnd_id, nI_1]
theorem vf_53 (hd : d ≤ 40) (x : Int32) (h : Mem) : F_X5_from oq (n + 10) 91 (5 : Int32) (3 : Int32) x (nI d) h = oq 91 13 (-1) x (nI (d + 1)) h := by
  unfold F_X5_from
  rw [if_pos (d_le hd)]
  rw [show n + 10 = n + 9 + 1 from rfl, F_X5_from_15, if_neg (show ¬ (6 : Int32) ≤ 0 by decide)]
  rw [if_neg (by decide), show ∀ h, F_X5_bodyOf 5 3 h = some (0, h) from fun _ => rfl, bnd_s, if_pos rfl, show ∀ h, F_X6_kindAbove 5 h = some (2, h) from fun _ => rfl, bnd_s]
  rw [show n + 9 = n + 8 + 1 from rfl, F_X5_from_15, if_neg (show ¬ (6 : Int32) ≤ 0 + 1 by decide)]
  rw [if_neg (by decide), show ∀ h, F_X5_bodyOf 2 3 h = some (0, h) from fun _ => rfl, bnd_s, if_pos rfl, show ∀ h, F_X6_kindAbove 2 h = some (0, h) from fun _ => rfl, bnd_s]
  rw [show n + 8 = n + 7 + 1 from rfl, F_X5_from_15, if_neg (show ¬ (6 : Int32) ≤ 0 + 1 + 1 by decide)]
  rw [if_pos (by decide)]
  rw [show ∀ h, F_X5_bodyOf 0 3 h = some (13, h) from fun _ => rfl, bnd_s, show ∀ h, F_X6_kindAbove 0 h = some (-1, h) from fun _ => rfl, bnd_s, bnd_id, nI_1]
theorem vf_60 (hd : d ≤ 40) (x : Int32) (h : Mem) : F_X5_from oq (n + 10) 91 (6 : Int32) (0 : Int32) x (nI d) h = oq 91 10 (-1) x (nI (d + 1)) h := by
  unfold F_X5_from
  rw [if_pos (d_le hd)]
  rw [show n + 10 = n + 9 + 1 from rfl, F_X5_from_15, if_neg (show ¬ (6 : Int32) ≤ 0 by decide)]
  rw [if_neg (by decide), show ∀ h, F_X5_bodyOf 6 0 h = some (0, h) from fun _ => rfl, bnd_s, if_pos rfl, show ∀ h, F_X6_kindAbove 6 h = some (3, h) from fun _ => rfl, bnd_s]
  rw [show n + 9 = n + 8 + 1 from rfl, F_X5_from_15, if_neg (show ¬ (6 : Int32) ≤ 0 + 1 by decide)]
  rw [if_neg (by decide), show ∀ h, F_X5_bodyOf 3 0 h = some (0, h) from fun _ => rfl, bnd_s, if_pos rfl, show ∀ h, F_X6_kindAbove 3 h = some (0, h) from fun _ => rfl, bnd_s]
  rw [show n + 8 = n + 7 + 1 from rfl, F_X5_from_15, if_neg (show ¬ (6 : Int32) ≤ 0 + 1 + 1 by decide)]
  rw [if_pos (by decide)]
  rw [show ∀ h, F_X5_bodyOf 0 0 h = some (10, h) from fun _ => rfl, bnd_s, show ∀ h, F_X6_kindAbove 0 h = some (-1, h) from fun _ => rfl, bnd_s, bnd_id, nI_1]
theorem vf_61 (hd : d ≤ 40) (x : Int32) (h : Mem) : F_X5_from oq (n + 10) 91 (6 : Int32) (1 : Int32) x (nI d) h = oq 91 11 (-1) x (nI (d + 1)) h := by
  unfold F_X5_from
  rw [if_pos (d_le hd)]
  rw [show n + 10 = n + 9 + 1 from rfl, F_X5_from_15, if_neg (show ¬ (6 : Int32) ≤ 0 by decide)]
  rw [if_neg (by decide), show ∀ h, F_X5_bodyOf 6 1 h = some (0, h) from fun _ => rfl, bnd_s, if_pos rfl, show ∀ h, F_X6_kindAbove 6 h = some (3, h) from fun _ => rfl, bnd_s]
  rw [show n + 9 = n + 8 + 1 from rfl, F_X5_from_15, if_neg (show ¬ (6 : Int32) ≤ 0 + 1 by decide)]
  rw [if_neg (by decide), show ∀ h, F_X5_bodyOf 3 1 h = some (0, h) from fun _ => rfl, bnd_s, if_pos rfl, show ∀ h, F_X6_kindAbove 3 h = some (0, h) from fun _ => rfl, bnd_s]
  rw [show n + 8 = n + 7 + 1 from rfl, F_X5_from_15, if_neg (show ¬ (6 : Int32) ≤ 0 + 1 + 1 by decide)]
  rw [if_pos (by decide)]
  rw [show ∀ h, F_X5_bodyOf 0 1 h = some (11, h) from fun _ => rfl, bnd_s, show ∀ h, F_X6_kindAbove 0 h = some (-1, h) from fun _ => rfl, bnd_s, bnd_id, nI_1]
theorem vf_62 (hd : d ≤ 40) (x : Int32) (h : Mem) : F_X5_from oq (n + 10) 91 (6 : Int32) (2 : Int32) x (nI d) h = oq 91 70 (3) x (nI (d + 1)) h := by
  unfold F_X5_from
  rw [if_pos (d_le hd)]
  rw [show n + 10 = n + 9 + 1 from rfl, F_X5_from_15, if_neg (show ¬ (6 : Int32) ≤ 0 by decide)]
  rw [if_neg (by decide), show ∀ h, F_X5_bodyOf 6 2 h = some (70, h) from fun _ => rfl, bnd_s, if_neg (by decide)]
  rw [show ∀ h, F_X5_bodyOf 6 2 h = some (70, h) from fun _ => rfl, bnd_s, show ∀ h, F_X6_kindAbove 6 h = some (3, h) from fun _ => rfl, bnd_s, bnd_id, nI_1]
theorem vf_63 (hd : d ≤ 40) (x : Int32) (h : Mem) : F_X5_from oq (n + 10) 91 (6 : Int32) (3 : Int32) x (nI d) h = oq 91 71 (3) x (nI (d + 1)) h := by
  unfold F_X5_from
  rw [if_pos (d_le hd)]
  rw [show n + 10 = n + 9 + 1 from rfl, F_X5_from_15, if_neg (show ¬ (6 : Int32) ≤ 0 by decide)]
  rw [if_neg (by decide), show ∀ h, F_X5_bodyOf 6 3 h = some (71, h) from fun _ => rfl, bnd_s, if_neg (by decide)]
  rw [show ∀ h, F_X5_bodyOf 6 3 h = some (71, h) from fun _ => rfl, bnd_s, show ∀ h, F_X6_kindAbove 6 h = some (3, h) from fun _ => rfl, bnd_s, bnd_id, nI_1]
end VV
