section VB
variable {q i w : Int32} {p p2 N f g n : Nat} {ab x d : Int32}
theorem vb_10 : F_X5_begin N (f + 1) 91 10 ab x d = fun h => bnd (F_X5_note 91 10 h) (fun _ h => some (x + h 91 3, h)) := by
  funext h
  simp only [F_X5_begin, if_false, if_true]
theorem vb_11 : F_X5_begin N (f + 1) 91 11 ab x d = fun h => bnd (F_X5_note 91 11 h) (fun _ h => bnd (F_X5_own (F_X5_begin N f) N 91 (0 : Int32) x d h) (fun r h => some (r * 2, h))) := by
  funext h
  simp only [F_X5_begin, show ((11 : Int32) = 10) = False by decide, if_false, if_true]
theorem vb_12 : F_X5_begin N (f + 1) 91 12 ab x d = fun h => bnd (F_X5_note 91 12 h) (fun _ h => some (x - h 91 4, h)) := by
  funext h
  simp only [F_X5_begin, show ((12 : Int32) = 10) = False by decide, show ((12 : Int32) = 11) = False by decide, if_false, if_true]
theorem vb_13 : F_X5_begin N (f + 1) 91 13 ab x d = fun h => bnd (F_X5_note 91 13 h) (fun _ h => bnd (F_X5_own (F_X5_begin N f) N 91 (1 : Int32) x d h) (fun r h => bnd (F_X5_own (F_X5_begin N f) N 91 (2 : Int32) x d h) (fun t h => some (r ^^^ t, h)))) := by
  funext h
  simp only [F_X5_begin, show ((13 : Int32) = 10) = False by decide, show ((13 : Int32) = 11) = False by decide, show ((13 : Int32) = 12) = False by decide, if_false, if_true]
theorem vb_20 : F_X5_begin N (f + 1) 91 20 ab x d = fun h => bnd (F_X5_note 91 20 h) (fun _ h => bnd (F_X5_from (F_X5_begin N f) N 91 ab (0 : Int32) x d h) (fun r h => some (r * 3, h))) := by
  funext h
  simp only [F_X5_begin, show ((20 : Int32) = 10) = False by decide, show ((20 : Int32) = 11) = False by decide, show ((20 : Int32) = 12) = False by decide, show ((20 : Int32) = 13) = False by decide, if_false, if_true]
theorem vb_30 : F_X5_begin N (f + 1) 91 30 ab x d = fun h => bnd (F_X5_note 91 30 h) (fun _ h => bnd (F_X5_from (F_X5_begin N f) N 91 ab (1 : Int32) x d h) (fun r h => bnd (F_X5_own (F_X5_begin N f) N 91 (2 : Int32) 1 d h) (fun t h => some (r - t, h)))) := by
  funext h
  simp only [F_X5_begin, show ((30 : Int32) = 10) = False by decide, show ((30 : Int32) = 11) = False by decide, show ((30 : Int32) = 12) = False by decide, show ((30 : Int32) = 13) = False by decide, show ((30 : Int32) = 20) = False by decide, if_false, if_true]
theorem vb_40 : F_X5_begin N (f + 1) 91 40 ab x d = fun h => bnd (F_X5_note 91 40 h) (fun _ h => bnd (F_X5_from (F_X5_begin N f) N 91 ab (2 : Int32) x d h) (fun r h => some (-r, h))) := by
  funext h
  simp only [F_X5_begin, show ((40 : Int32) = 10) = False by decide, show ((40 : Int32) = 11) = False by decide, show ((40 : Int32) = 12) = False by decide, show ((40 : Int32) = 13) = False by decide, show ((40 : Int32) = 20) = False by decide, show ((40 : Int32) = 30) = False by decide, if_false, if_true]
theorem vb_50 : F_X5_begin N (f + 1) 91 50 ab x d = fun h => bnd (F_X5_note 91 50 h) (fun _ h => bnd (F_X5_from (F_X5_begin N f) N 91 ab (3 : Int32) x d h) (fun r h => bnd (F_X5_own (F_X5_begin N f) N 91 (0 : Int32) 2 d h) (fun t h => some (r - t, h)))) := by
  funext h
  simp only [F_X5_begin, show ((50 : Int32) = 10) = False by decide, show ((50 : Int32) = 11) = False by decide, show ((50 : Int32) = 12) = False by decide, show ((50 : Int32) = 13) = False by decide, show ((50 : Int32) = 20) = False by decide, show ((50 : Int32) = 30) = False by decide, show ((50 : Int32) = 40) = False by decide, if_false, if_true]
theorem vb_60 : F_X5_begin N (f + 1) 91 60 ab x d = fun h => bnd (F_X5_note 91 60 h) (fun _ h => bnd (F_X5_from (F_X5_begin N f) N 91 ab (1 : Int32) (x + 1) d h) (fun r h => some (r, h))) := by
  funext h
  simp only [F_X5_begin, show ((60 : Int32) = 10) = False by decide, show ((60 : Int32) = 11) = False by decide, show ((60 : Int32) = 12) = False by decide, show ((60 : Int32) = 13) = False by decide, show ((60 : Int32) = 20) = False by decide, show ((60 : Int32) = 30) = False by decide, show ((60 : Int32) = 40) = False by decide, show ((60 : Int32) = 50) = False by decide, if_false, if_true]
theorem vb_70 : F_X5_begin N (f + 1) 91 70 ab x d = fun h => bnd (F_X5_note 91 70 h) (fun _ h => bnd (F_X5_from (F_X5_begin N f) N 91 ab (2 : Int32) x d h) (fun r h => some (r ^^^ h 91 3, h))) := by
  funext h
  simp only [F_X5_begin, show ((70 : Int32) = 10) = False by decide, show ((70 : Int32) = 11) = False by decide, show ((70 : Int32) = 12) = False by decide, show ((70 : Int32) = 13) = False by decide, show ((70 : Int32) = 20) = False by decide, show ((70 : Int32) = 30) = False by decide, show ((70 : Int32) = 40) = False by decide, show ((70 : Int32) = 50) = False by decide, show ((70 : Int32) = 60) = False by decide, if_false, if_true]
theorem vb_71 : F_X5_begin N (f + 1) 91 71 ab x d = fun h => bnd (F_X5_note 91 71 h) (fun _ h => bnd (F_X5_own (F_X5_begin N f) N 91 (1 : Int32) x d h) (fun r h => bnd (F_X5_from (F_X5_begin N f) N 91 ab (3 : Int32) x d h) (fun t h => some (r - t, h)))) := by
  funext h
  simp only [F_X5_begin, show ((71 : Int32) = 10) = False by decide, show ((71 : Int32) = 11) = False by decide, show ((71 : Int32) = 12) = False by decide, show ((71 : Int32) = 13) = False by decide, show ((71 : Int32) = 20) = False by decide, show ((71 : Int32) = 30) = False by decide, show ((71 : Int32) = 40) = False by decide, show ((71 : Int32) = 50) = False by decide, show ((71 : Int32) = 60) = False by decide, show ((71 : Int32) = 70) = False by decide, if_false, if_true]
end VB
section VO
variable {q i w : Int32} {N f g n d : Nat} {x : Int32}
theorem vown (h : Mem) (oq : Nat → Int32 → Int32 → Int32 → Int32 → Mem → Option (Int32 × Mem)) (a z : Int32) : F_X5_own oq N 91 a x z h = F_X5_from oq N 91 (h 91 2) a x z h := by
  unfold F_X5_own
  exact bnd_id _
theorem vl_00 {M : Nat} (hq : ∃ k, k < 7 ∧ q = nI k) (hd : d ≤ 40) (x : Int32) : VL q i w 1 (F_X5_from (F_X5_begin (n + 10) (f + 1)) (n + 10) 91 (0 : Int32) (0 : Int32) x (nI d)) (F_X7_driftsIn M (g + 1) 102 (0 : Int32) x) := by
  refine ((VL.num x).note 10).cg (fun c m _ T => ⟨?_, ?_⟩)
  · rw [vf_00 (by omega), show f + 1 = f + 0 + 1 from rfl, vb_10]
  · rw [show g + 1 = g + 0 + 1 from rfl, F_X7_driftsIn, if_pos rfl]
theorem vl_10 {M : Nat} (hq : ∃ k, k < 7 ∧ q = nI k) (hd : d ≤ 39) (x : Int32) : VL q i w 2 (F_X5_from (F_X5_begin (n + 10) (f + 2)) (n + 10) 91 (1 : Int32) (0 : Int32) x (nI d)) (F_X7_driftsIn M (g + 2) 102 (1 : Int32) x) := by
  refine (((vl_00 (M := M) (f := f) (g := g) (n := n) (d := d + 1) hq (by omega) x).map (fun r => r * 3)).note 20).cg (fun c m _ T => ⟨?_, ?_⟩)
  · rw [vf_10 (by omega), show f + 2 = f + 1 + 1 from rfl, vb_20]
  · rw [show g + 2 = g + 1 + 1 from rfl, F_X7_driftsIn, if_neg (by decide), if_pos rfl]
theorem vl_20 {M : Nat} (hq : ∃ k, k < 7 ∧ q = nI k) (hd : d ≤ 40) (x : Int32) : VL q i w 1 (F_X5_from (F_X5_begin (n + 10) (f + 1)) (n + 10) 91 (2 : Int32) (0 : Int32) x (nI d)) (F_X7_driftsIn M (g + 2) 102 (2 : Int32) x) := by
  refine (vl_00 (M := M) (f := f) (g := g) (n := n) (d := d) hq hd x).cg (fun c m _ T => ⟨?_, ?_⟩)
  · rw [vf_20 (by omega), vf_00 (by omega)]
  · rw [show g + 2 = g + 1 + 1 from rfl, F_X7_driftsIn, if_neg (by decide), if_neg (by decide), show ∀ h, F_X7_above 2 h = some (0, h) from fun _ => rfl, bnd_s, bnd_id]
theorem vl_30 {M : Nat} (hq : ∃ k, k < 7 ∧ q = nI k) (hd : d ≤ 40) (x : Int32) : VL q i w 1 (F_X5_from (F_X5_begin (n + 10) (f + 1)) (n + 10) 91 (3 : Int32) (0 : Int32) x (nI d)) (F_X7_driftsIn M (g + 2) 102 (3 : Int32) x) := by
  refine (vl_00 (M := M) (f := f) (g := g) (n := n) (d := d) hq hd x).cg (fun c m _ T => ⟨?_, ?_⟩)
  · rw [vf_30 (by omega), vf_00 (by omega)]
  · rw [show g + 2 = g + 1 + 1 from rfl, F_X7_driftsIn, if_neg (by decide), if_neg (by decide), show ∀ h, F_X7_above 3 h = some (0, h) from fun _ => rfl, bnd_s, bnd_id]
theorem vl_40 {M : Nat} (hq : ∃ k, k < 7 ∧ q = nI k) (hd : d ≤ 39) (x : Int32) : VL q i w 2 (F_X5_from (F_X5_begin (n + 10) (f + 2)) (n + 10) 91 (4 : Int32) (0 : Int32) x (nI d)) (F_X7_driftsIn M (g + 3) 102 (4 : Int32) x) := by
  refine (vl_10 (M := M) (f := f) (g := g) (n := n) (d := d) hq hd x).cg (fun c m _ T => ⟨?_, ?_⟩)
  · rw [vf_40 (by omega), vf_10 (by omega)]
  · rw [show g + 3 = g + 2 + 1 from rfl, F_X7_driftsIn, if_neg (by decide), if_neg (by decide), show ∀ h, F_X7_above 4 h = some (1, h) from fun _ => rfl, bnd_s, bnd_id]
theorem vl_50 {M : Nat} (hq : ∃ k, k < 7 ∧ q = nI k) (hd : d ≤ 40) (x : Int32) : VL q i w 1 (F_X5_from (F_X5_begin (n + 10) (f + 1)) (n + 10) 91 (5 : Int32) (0 : Int32) x (nI d)) (F_X7_driftsIn M (g + 3) 102 (5 : Int32) x) := by
  refine (vl_20 (M := M) (f := f) (g := g) (n := n) (d := d) hq hd x).cg (fun c m _ T => ⟨?_, ?_⟩)
  · rw [vf_50 (by omega), vf_20 (by omega)]
  · rw [show g + 3 = g + 2 + 1 from rfl, F_X7_driftsIn, if_neg (by decide), if_neg (by decide), show ∀ h, F_X7_above 5 h = some (2, h) from fun _ => rfl, bnd_s, bnd_id]
theorem vl_60 {M : Nat} (hq : ∃ k, k < 7 ∧ q = nI k) (hd : d ≤ 40) (x : Int32) : VL q i w 1 (F_X5_from (F_X5_begin (n + 10) (f + 1)) (n + 10) 91 (6 : Int32) (0 : Int32) x (nI d)) (F_X7_driftsIn M (g + 3) 102 (6 : Int32) x) := by
  refine (vl_30 (M := M) (f := f) (g := g) (n := n) (d := d) hq hd x).cg (fun c m _ T => ⟨?_, ?_⟩)
  · rw [vf_60 (by omega), vf_30 (by omega)]
  · rw [show g + 3 = g + 2 + 1 from rfl, F_X7_driftsIn, if_neg (by decide), if_neg (by decide), show ∀ h, F_X7_above 6 h = some (3, h) from fun _ => rfl, bnd_s, bnd_id]
theorem vo_0 (hq : ∃ k, k < 7 ∧ q = nI k) (hd : d ≤ 39) (x : Int32) : VL q i w 2 (F_X5_own (F_X5_begin (n + 10) (f + 2)) (n + 10) 91 (0 : Int32) x (nI d)) (fun m => F_X7_driftsIn N 4 102 (m 102 21) x m) := by
  obtain ⟨k, hk, rfl⟩ := id hq
  rcases (show k = 0 ∨ k = 1 ∨ k = 2 ∨ k = 3 ∨ k = 4 ∨ k = 5 ∨ k = 6 by omega) with rfl | rfl | rfl | rfl | rfl | rfl | rfl
  · refine ((vl_00 (M := N) (f := f + 1) (g := 3) (n := n) (d := d) hq (by omega) x).up (by omega)).cg (fun c m _ T => ⟨?_, ?_⟩)
    · exact (vown ..).trans (congrArg (fun z => F_X5_from (F_X5_begin (n + 10) (f + 2)) (n + 10) 91 z (0 : Int32) x (nI d) c) T.2.2.2.1)
    · exact congrArg (fun z => F_X7_driftsIn N 4 102 z x m) T.2.2.2.2.2.2.1
  · refine ((vl_10 (M := N) (f := f + 0) (g := 2) (n := n) (d := d) hq (by omega) x).up (by omega)).cg (fun c m _ T => ⟨?_, ?_⟩)
    · exact (vown ..).trans (congrArg (fun z => F_X5_from (F_X5_begin (n + 10) (f + 2)) (n + 10) 91 z (0 : Int32) x (nI d) c) T.2.2.2.1)
    · exact congrArg (fun z => F_X7_driftsIn N 4 102 z x m) T.2.2.2.2.2.2.1
  · refine ((vl_20 (M := N) (f := f + 1) (g := 2) (n := n) (d := d) hq (by omega) x).up (by omega)).cg (fun c m _ T => ⟨?_, ?_⟩)
    · exact (vown ..).trans (congrArg (fun z => F_X5_from (F_X5_begin (n + 10) (f + 2)) (n + 10) 91 z (0 : Int32) x (nI d) c) T.2.2.2.1)
    · exact congrArg (fun z => F_X7_driftsIn N 4 102 z x m) T.2.2.2.2.2.2.1
  · refine ((vl_30 (M := N) (f := f + 1) (g := 2) (n := n) (d := d) hq (by omega) x).up (by omega)).cg (fun c m _ T => ⟨?_, ?_⟩)
    · exact (vown ..).trans (congrArg (fun z => F_X5_from (F_X5_begin (n + 10) (f + 2)) (n + 10) 91 z (0 : Int32) x (nI d) c) T.2.2.2.1)
    · exact congrArg (fun z => F_X7_driftsIn N 4 102 z x m) T.2.2.2.2.2.2.1
  · refine ((vl_40 (M := N) (f := f + 0) (g := 1) (n := n) (d := d) hq (by omega) x).up (by omega)).cg (fun c m _ T => ⟨?_, ?_⟩)
    · exact (vown ..).trans (congrArg (fun z => F_X5_from (F_X5_begin (n + 10) (f + 2)) (n + 10) 91 z (0 : Int32) x (nI d) c) T.2.2.2.1)
    · exact congrArg (fun z => F_X7_driftsIn N 4 102 z x m) T.2.2.2.2.2.2.1
  · refine ((vl_50 (M := N) (f := f + 1) (g := 1) (n := n) (d := d) hq (by omega) x).up (by omega)).cg (fun c m _ T => ⟨?_, ?_⟩)
    · exact (vown ..).trans (congrArg (fun z => F_X5_from (F_X5_begin (n + 10) (f + 2)) (n + 10) 91 z (0 : Int32) x (nI d) c) T.2.2.2.1)
    · exact congrArg (fun z => F_X7_driftsIn N 4 102 z x m) T.2.2.2.2.2.2.1
  · refine ((vl_60 (M := N) (f := f + 1) (g := 1) (n := n) (d := d) hq (by omega) x).up (by omega)).cg (fun c m _ T => ⟨?_, ?_⟩)
    · exact (vown ..).trans (congrArg (fun z => F_X5_from (F_X5_begin (n + 10) (f + 2)) (n + 10) 91 z (0 : Int32) x (nI d) c) T.2.2.2.1)
    · exact congrArg (fun z => F_X7_driftsIn N 4 102 z x m) T.2.2.2.2.2.2.1
theorem vl_02 {M : Nat} (hq : ∃ k, k < 7 ∧ q = nI k) (hd : d ≤ 40) (x : Int32) : VL q i w 1 (F_X5_from (F_X5_begin (n + 10) (f + 1)) (n + 10) 91 (0 : Int32) (2 : Int32) x (nI d)) (F_X7_tastesIn M (g + 1) 102 (0 : Int32) x) := by
  refine ((VL.nm x).note 12).cg (fun c m _ T => ⟨?_, ?_⟩)
  · rw [vf_02 (by omega), show f + 1 = f + 0 + 1 from rfl, vb_12]
  · rw [show g + 1 = g + 0 + 1 from rfl, F_X7_tastesIn, if_pos rfl]
theorem vl_12 {M : Nat} (hq : ∃ k, k < 7 ∧ q = nI k) (hd : d ≤ 40) (x : Int32) : VL q i w 1 (F_X5_from (F_X5_begin (n + 10) (f + 1)) (n + 10) 91 (1 : Int32) (2 : Int32) x (nI d)) (F_X7_tastesIn M (g + 2) 102 (1 : Int32) x) := by
  refine (vl_02 (M := M) (f := f) (g := g) (n := n) (d := d) hq hd x).cg (fun c m _ T => ⟨?_, ?_⟩)
  · rw [vf_12 (by omega), vf_02 (by omega)]
  · rw [show g + 2 = g + 1 + 1 from rfl, F_X7_tastesIn, if_neg (by decide), if_neg (by decide), if_neg (by decide), show ∀ h, F_X7_above 1 h = some (0, h) from fun _ => rfl, bnd_s, bnd_id]
theorem vl_22 {M : Nat} (hq : ∃ k, k < 7 ∧ q = nI k) (hd : d ≤ 40) (x : Int32) : VL q i w 1 (F_X5_from (F_X5_begin (n + 10) (f + 1)) (n + 10) 91 (2 : Int32) (2 : Int32) x (nI d)) (F_X7_tastesIn M (g + 2) 102 (2 : Int32) x) := by
  refine (vl_02 (M := M) (f := f) (g := g) (n := n) (d := d) hq hd x).cg (fun c m _ T => ⟨?_, ?_⟩)
  · rw [vf_22 (by omega), vf_02 (by omega)]
  · rw [show g + 2 = g + 1 + 1 from rfl, F_X7_tastesIn, if_neg (by decide), if_neg (by decide), if_neg (by decide), show ∀ h, F_X7_above 2 h = some (0, h) from fun _ => rfl, bnd_s, bnd_id]
theorem vl_32 {M : Nat} (hq : ∃ k, k < 7 ∧ q = nI k) (hd : d ≤ 39) (x : Int32) : VL q i w 2 (F_X5_from (F_X5_begin (n + 10) (f + 2)) (n + 10) 91 (3 : Int32) (2 : Int32) x (nI d)) (F_X7_tastesIn M (g + 2) 102 (3 : Int32) x) := by
  refine (((vl_02 (M := M) (f := f) (g := g) (n := n) (d := d + 1) hq (by omega) x).map (fun r => -r)).note 40).cg (fun c m _ T => ⟨?_, ?_⟩)
  · rw [vf_32 (by omega), show f + 2 = f + 1 + 1 from rfl, vb_40]
  · rw [show g + 2 = g + 1 + 1 from rfl, F_X7_tastesIn, if_neg (by decide), if_pos rfl]
theorem vl_42 {M : Nat} (hq : ∃ k, k < 7 ∧ q = nI k) (hd : d ≤ 40) (x : Int32) : VL q i w 1 (F_X5_from (F_X5_begin (n + 10) (f + 1)) (n + 10) 91 (4 : Int32) (2 : Int32) x (nI d)) (F_X7_tastesIn M (g + 3) 102 (4 : Int32) x) := by
  refine (vl_12 (M := M) (f := f) (g := g) (n := n) (d := d) hq hd x).cg (fun c m _ T => ⟨?_, ?_⟩)
  · rw [vf_42 (by omega), vf_12 (by omega)]
  · rw [show g + 3 = g + 2 + 1 from rfl, F_X7_tastesIn, if_neg (by decide), if_neg (by decide), if_neg (by decide), show ∀ h, F_X7_above 4 h = some (1, h) from fun _ => rfl, bnd_s, bnd_id]
theorem vl_52 {M : Nat} (hq : ∃ k, k < 7 ∧ q = nI k) (hd : d ≤ 40) (x : Int32) : VL q i w 1 (F_X5_from (F_X5_begin (n + 10) (f + 1)) (n + 10) 91 (5 : Int32) (2 : Int32) x (nI d)) (F_X7_tastesIn M (g + 3) 102 (5 : Int32) x) := by
  refine (vl_22 (M := M) (f := f) (g := g) (n := n) (d := d) hq hd x).cg (fun c m _ T => ⟨?_, ?_⟩)
  · rw [vf_52 (by omega), vf_22 (by omega)]
  · rw [show g + 3 = g + 2 + 1 from rfl, F_X7_tastesIn, if_neg (by decide), if_neg (by decide), if_neg (by decide), show ∀ h, F_X7_above 5 h = some (2, h) from fun _ => rfl, bnd_s, bnd_id]
theorem vl_62 {M : Nat} (hq : ∃ k, k < 7 ∧ q = nI k) (hd : d ≤ 38) (x : Int32) : VL q i w 3 (F_X5_from (F_X5_begin (n + 10) (f + 3)) (n + 10) 91 (6 : Int32) (2 : Int32) x (nI d)) (F_X7_tastesIn M (g + 3) 102 (6 : Int32) x) := by
  refine (((vl_32 (M := M) (f := f) (g := g) (n := n) (d := d + 1) hq (by omega) x).xor).note 70).cg (fun c m _ T => ⟨?_, ?_⟩)
  · rw [vf_62 (by omega), show f + 3 = f + 2 + 1 from rfl, vb_70]
  · rw [show g + 3 = g + 2 + 1 from rfl, F_X7_tastesIn, if_neg (by decide), if_neg (by decide), if_pos rfl]
theorem vo_2 (hq : ∃ k, k < 7 ∧ q = nI k) (hd : d ≤ 38) (x : Int32) : VL q i w 3 (F_X5_own (F_X5_begin (n + 10) (f + 3)) (n + 10) 91 (2 : Int32) x (nI d)) (fun m => F_X7_tastesIn N 4 102 (m 102 21) x m) := by
  obtain ⟨k, hk, rfl⟩ := id hq
  rcases (show k = 0 ∨ k = 1 ∨ k = 2 ∨ k = 3 ∨ k = 4 ∨ k = 5 ∨ k = 6 by omega) with rfl | rfl | rfl | rfl | rfl | rfl | rfl
  · refine ((vl_02 (M := N) (f := f + 2) (g := 3) (n := n) (d := d) hq (by omega) x).up (by omega)).cg (fun c m _ T => ⟨?_, ?_⟩)
    · exact (vown ..).trans (congrArg (fun z => F_X5_from (F_X5_begin (n + 10) (f + 3)) (n + 10) 91 z (2 : Int32) x (nI d) c) T.2.2.2.1)
    · exact congrArg (fun z => F_X7_tastesIn N 4 102 z x m) T.2.2.2.2.2.2.1
  · refine ((vl_12 (M := N) (f := f + 2) (g := 2) (n := n) (d := d) hq (by omega) x).up (by omega)).cg (fun c m _ T => ⟨?_, ?_⟩)
    · exact (vown ..).trans (congrArg (fun z => F_X5_from (F_X5_begin (n + 10) (f + 3)) (n + 10) 91 z (2 : Int32) x (nI d) c) T.2.2.2.1)
    · exact congrArg (fun z => F_X7_tastesIn N 4 102 z x m) T.2.2.2.2.2.2.1
  · refine ((vl_22 (M := N) (f := f + 2) (g := 2) (n := n) (d := d) hq (by omega) x).up (by omega)).cg (fun c m _ T => ⟨?_, ?_⟩)
    · exact (vown ..).trans (congrArg (fun z => F_X5_from (F_X5_begin (n + 10) (f + 3)) (n + 10) 91 z (2 : Int32) x (nI d) c) T.2.2.2.1)
    · exact congrArg (fun z => F_X7_tastesIn N 4 102 z x m) T.2.2.2.2.2.2.1
  · refine ((vl_32 (M := N) (f := f + 1) (g := 2) (n := n) (d := d) hq (by omega) x).up (by omega)).cg (fun c m _ T => ⟨?_, ?_⟩)
    · exact (vown ..).trans (congrArg (fun z => F_X5_from (F_X5_begin (n + 10) (f + 3)) (n + 10) 91 z (2 : Int32) x (nI d) c) T.2.2.2.1)
    · exact congrArg (fun z => F_X7_tastesIn N 4 102 z x m) T.2.2.2.2.2.2.1
  · refine ((vl_42 (M := N) (f := f + 2) (g := 1) (n := n) (d := d) hq (by omega) x).up (by omega)).cg (fun c m _ T => ⟨?_, ?_⟩)
    · exact (vown ..).trans (congrArg (fun z => F_X5_from (F_X5_begin (n + 10) (f + 3)) (n + 10) 91 z (2 : Int32) x (nI d) c) T.2.2.2.1)
    · exact congrArg (fun z => F_X7_tastesIn N 4 102 z x m) T.2.2.2.2.2.2.1
  · refine ((vl_52 (M := N) (f := f + 2) (g := 1) (n := n) (d := d) hq (by omega) x).up (by omega)).cg (fun c m _ T => ⟨?_, ?_⟩)
    · exact (vown ..).trans (congrArg (fun z => F_X5_from (F_X5_begin (n + 10) (f + 3)) (n + 10) 91 z (2 : Int32) x (nI d) c) T.2.2.2.1)
    · exact congrArg (fun z => F_X7_tastesIn N 4 102 z x m) T.2.2.2.2.2.2.1
  · refine ((vl_62 (M := N) (f := f + 0) (g := 1) (n := n) (d := d) hq (by omega) x).up (by omega)).cg (fun c m _ T => ⟨?_, ?_⟩)
    · exact (vown ..).trans (congrArg (fun z => F_X5_from (F_X5_begin (n + 10) (f + 3)) (n + 10) 91 z (2 : Int32) x (nI d) c) T.2.2.2.1)
    · exact congrArg (fun z => F_X7_tastesIn N 4 102 z x m) T.2.2.2.2.2.2.1
theorem vl_01 {M : Nat} (hq : ∃ k, k < 7 ∧ q = nI k) (hd : d ≤ 38) (x : Int32) : VL q i w 3 (F_X5_from (F_X5_begin (n + 10) (f + 3)) (n + 10) 91 (0 : Int32) (1 : Int32) x (nI d)) (F_X7_rainsIn M (g + 1) 102 (0 : Int32) x) := by
  refine (((vo_0 (N := M) (f := f) (n := n) (d := d + 1) hq (by omega) x).map (fun r => r * 2)).note 11).cg (fun c m _ T => ⟨?_, ?_⟩)
  · rw [vf_01 (by omega), show f + 3 = f + 2 + 1 from rfl, vb_11]
  · rw [show g + 1 = g + 0 + 1 from rfl, F_X7_rainsIn, if_pos rfl]
theorem vl_11 {M : Nat} (hq : ∃ k, k < 7 ∧ q = nI k) (hd : d ≤ 38) (x : Int32) : VL q i w 3 (F_X5_from (F_X5_begin (n + 10) (f + 3)) (n + 10) 91 (1 : Int32) (1 : Int32) x (nI d)) (F_X7_rainsIn M (g + 2) 102 (1 : Int32) x) := by
  refine (vl_01 (M := M) (f := f) (g := g) (n := n) (d := d) hq hd x).cg (fun c m _ T => ⟨?_, ?_⟩)
  · rw [vf_11 (by omega), vf_01 (by omega)]
  · rw [show g + 2 = g + 1 + 1 from rfl, F_X7_rainsIn, if_neg (by decide), if_neg (by decide), if_neg (by decide), show ∀ h, F_X7_above 1 h = some (0, h) from fun _ => rfl, bnd_s, bnd_id]
theorem vl_21 {M : Nat} (hq : ∃ k, k < 7 ∧ q = nI k) (hd : d ≤ 37) (x : Int32) : VL q i w 7 (F_X5_from (F_X5_begin (n + 10) (f + 4)) (n + 10) 91 (2 : Int32) (1 : Int32) x (nI d)) (F_X7_rainsIn M (g + 2) 102 (2 : Int32) x) := by
  refine (((vl_01 (M := M) (f := f) (g := g) (n := n) (d := d + 1) hq (by omega) x).two (vo_2 (N := M) (f := f) (n := n) (d := d + 1) hq (by omega) 1) (fun r t => r - t)).note 30).cg (fun c m _ T => ⟨?_, ?_⟩)
  · rw [vf_21 (by omega), show f + 4 = f + 3 + 1 from rfl, vb_30]
  · rw [show g + 2 = g + 1 + 1 from rfl, F_X7_rainsIn, if_neg (by decide), if_pos rfl]
theorem vl_31 {M : Nat} (hq : ∃ k, k < 7 ∧ q = nI k) (hd : d ≤ 38) (x : Int32) : VL q i w 3 (F_X5_from (F_X5_begin (n + 10) (f + 3)) (n + 10) 91 (3 : Int32) (1 : Int32) x (nI d)) (F_X7_rainsIn M (g + 2) 102 (3 : Int32) x) := by
  refine (vl_01 (M := M) (f := f) (g := g) (n := n) (d := d) hq hd x).cg (fun c m _ T => ⟨?_, ?_⟩)
  · rw [vf_31 (by omega), vf_01 (by omega)]
  · rw [show g + 2 = g + 1 + 1 from rfl, F_X7_rainsIn, if_neg (by decide), if_neg (by decide), if_neg (by decide), show ∀ h, F_X7_above 3 h = some (0, h) from fun _ => rfl, bnd_s, bnd_id]
theorem vl_41 {M : Nat} (hq : ∃ k, k < 7 ∧ q = nI k) (hd : d ≤ 38) (x : Int32) : VL q i w 3 (F_X5_from (F_X5_begin (n + 10) (f + 3)) (n + 10) 91 (4 : Int32) (1 : Int32) x (nI d)) (F_X7_rainsIn M (g + 3) 102 (4 : Int32) x) := by
  refine (vl_11 (M := M) (f := f) (g := g) (n := n) (d := d) hq hd x).cg (fun c m _ T => ⟨?_, ?_⟩)
  · rw [vf_41 (by omega), vf_11 (by omega)]
  · rw [show g + 3 = g + 2 + 1 from rfl, F_X7_rainsIn, if_neg (by decide), if_neg (by decide), if_neg (by decide), show ∀ h, F_X7_above 4 h = some (1, h) from fun _ => rfl, bnd_s, bnd_id]
theorem vl_51 {M : Nat} (hq : ∃ k, k < 7 ∧ q = nI k) (hd : d ≤ 36) (x : Int32) : VL q i w 8 (F_X5_from (F_X5_begin (n + 10) (f + 5)) (n + 10) 91 (5 : Int32) (1 : Int32) x (nI d)) (F_X7_rainsIn M (g + 3) 102 (5 : Int32) x) := by
  refine (((vl_21 (M := M) (f := f) (g := g) (n := n) (d := d + 1) hq (by omega) (x + 1)).map (fun r => r)).note 60).cg (fun c m _ T => ⟨?_, ?_⟩)
  · rw [vf_51 (by omega), show f + 5 = f + 4 + 1 from rfl, vb_60]
  · rw [show g + 3 = g + 2 + 1 from rfl, F_X7_rainsIn, if_neg (by decide), if_neg (by decide), if_pos rfl]
theorem vl_61 {M : Nat} (hq : ∃ k, k < 7 ∧ q = nI k) (hd : d ≤ 38) (x : Int32) : VL q i w 3 (F_X5_from (F_X5_begin (n + 10) (f + 3)) (n + 10) 91 (6 : Int32) (1 : Int32) x (nI d)) (F_X7_rainsIn M (g + 3) 102 (6 : Int32) x) := by
  refine (vl_31 (M := M) (f := f) (g := g) (n := n) (d := d) hq hd x).cg (fun c m _ T => ⟨?_, ?_⟩)
  · rw [vf_61 (by omega), vf_31 (by omega)]
  · rw [show g + 3 = g + 2 + 1 from rfl, F_X7_rainsIn, if_neg (by decide), if_neg (by decide), if_neg (by decide), show ∀ h, F_X7_above 6 h = some (3, h) from fun _ => rfl, bnd_s, bnd_id]
theorem vo_1 (hq : ∃ k, k < 7 ∧ q = nI k) (hd : d ≤ 36) (x : Int32) : VL q i w 8 (F_X5_own (F_X5_begin (n + 10) (f + 5)) (n + 10) 91 (1 : Int32) x (nI d)) (fun m => F_X7_rainsIn N 4 102 (m 102 21) x m) := by
  obtain ⟨k, hk, rfl⟩ := id hq
  rcases (show k = 0 ∨ k = 1 ∨ k = 2 ∨ k = 3 ∨ k = 4 ∨ k = 5 ∨ k = 6 by omega) with rfl | rfl | rfl | rfl | rfl | rfl | rfl
  · refine ((vl_01 (M := N) (f := f + 2) (g := 3) (n := n) (d := d) hq (by omega) x).up (by omega)).cg (fun c m _ T => ⟨?_, ?_⟩)
    · exact (vown ..).trans (congrArg (fun z => F_X5_from (F_X5_begin (n + 10) (f + 5)) (n + 10) 91 z (1 : Int32) x (nI d) c) T.2.2.2.1)
    · exact congrArg (fun z => F_X7_rainsIn N 4 102 z x m) T.2.2.2.2.2.2.1
  · refine ((vl_11 (M := N) (f := f + 2) (g := 2) (n := n) (d := d) hq (by omega) x).up (by omega)).cg (fun c m _ T => ⟨?_, ?_⟩)
    · exact (vown ..).trans (congrArg (fun z => F_X5_from (F_X5_begin (n + 10) (f + 5)) (n + 10) 91 z (1 : Int32) x (nI d) c) T.2.2.2.1)
    · exact congrArg (fun z => F_X7_rainsIn N 4 102 z x m) T.2.2.2.2.2.2.1
  · refine ((vl_21 (M := N) (f := f + 1) (g := 2) (n := n) (d := d) hq (by omega) x).up (by omega)).cg (fun c m _ T => ⟨?_, ?_⟩)
    · exact (vown ..).trans (congrArg (fun z => F_X5_from (F_X5_begin (n + 10) (f + 5)) (n + 10) 91 z (1 : Int32) x (nI d) c) T.2.2.2.1)
    · exact congrArg (fun z => F_X7_rainsIn N 4 102 z x m) T.2.2.2.2.2.2.1
  · refine ((vl_31 (M := N) (f := f + 2) (g := 2) (n := n) (d := d) hq (by omega) x).up (by omega)).cg (fun c m _ T => ⟨?_, ?_⟩)
    · exact (vown ..).trans (congrArg (fun z => F_X5_from (F_X5_begin (n + 10) (f + 5)) (n + 10) 91 z (1 : Int32) x (nI d) c) T.2.2.2.1)
    · exact congrArg (fun z => F_X7_rainsIn N 4 102 z x m) T.2.2.2.2.2.2.1
  · refine ((vl_41 (M := N) (f := f + 2) (g := 1) (n := n) (d := d) hq (by omega) x).up (by omega)).cg (fun c m _ T => ⟨?_, ?_⟩)
    · exact (vown ..).trans (congrArg (fun z => F_X5_from (F_X5_begin (n + 10) (f + 5)) (n + 10) 91 z (1 : Int32) x (nI d) c) T.2.2.2.1)
    · exact congrArg (fun z => F_X7_rainsIn N 4 102 z x m) T.2.2.2.2.2.2.1
  · refine ((vl_51 (M := N) (f := f + 0) (g := 1) (n := n) (d := d) hq (by omega) x).up (by omega)).cg (fun c m _ T => ⟨?_, ?_⟩)
    · exact (vown ..).trans (congrArg (fun z => F_X5_from (F_X5_begin (n + 10) (f + 5)) (n + 10) 91 z (1 : Int32) x (nI d) c) T.2.2.2.1)
    · exact congrArg (fun z => F_X7_rainsIn N 4 102 z x m) T.2.2.2.2.2.2.1
  · refine ((vl_61 (M := N) (f := f + 2) (g := 1) (n := n) (d := d) hq (by omega) x).up (by omega)).cg (fun c m _ T => ⟨?_, ?_⟩)
    · exact (vown ..).trans (congrArg (fun z => F_X5_from (F_X5_begin (n + 10) (f + 5)) (n + 10) 91 z (1 : Int32) x (nI d) c) T.2.2.2.1)
    · exact congrArg (fun z => F_X7_rainsIn N 4 102 z x m) T.2.2.2.2.2.2.1
theorem vl_03 {M : Nat} (hq : ∃ k, k < 7 ∧ q = nI k) (hd : d ≤ 35) (x : Int32) : VL q i w 12 (F_X5_from (F_X5_begin (n + 10) (f + 6)) (n + 10) 91 (0 : Int32) (3 : Int32) x (nI d)) (F_X7_tellsIn M (g + 1) 102 (0 : Int32) x) := by
  refine (((vo_1 (N := M) (f := f) (n := n) (d := d + 1) hq (by omega) x).two (vo_2 (N := M) (f := f + 2) (n := n) (d := d + 1) hq (by omega) x) (fun r t => r ^^^ t)).note 13).cg (fun c m _ T => ⟨?_, ?_⟩)
  · rw [vf_03 (by omega), show f + 6 = f + 5 + 1 from rfl, vb_13]
  · rw [show g + 1 = g + 0 + 1 from rfl, F_X7_tellsIn, if_pos rfl]
theorem vl_13 {M : Nat} (hq : ∃ k, k < 7 ∧ q = nI k) (hd : d ≤ 35) (x : Int32) : VL q i w 12 (F_X5_from (F_X5_begin (n + 10) (f + 6)) (n + 10) 91 (1 : Int32) (3 : Int32) x (nI d)) (F_X7_tellsIn M (g + 2) 102 (1 : Int32) x) := by
  refine (vl_03 (M := M) (f := f) (g := g) (n := n) (d := d) hq hd x).cg (fun c m _ T => ⟨?_, ?_⟩)
  · rw [vf_13 (by omega), vf_03 (by omega)]
  · rw [show g + 2 = g + 1 + 1 from rfl, F_X7_tellsIn, if_neg (by decide), if_neg (by decide), if_neg (by decide), show ∀ h, F_X7_above 1 h = some (0, h) from fun _ => rfl, bnd_s, bnd_id]
theorem vl_23 {M : Nat} (hq : ∃ k, k < 7 ∧ q = nI k) (hd : d ≤ 35) (x : Int32) : VL q i w 12 (F_X5_from (F_X5_begin (n + 10) (f + 6)) (n + 10) 91 (2 : Int32) (3 : Int32) x (nI d)) (F_X7_tellsIn M (g + 2) 102 (2 : Int32) x) := by
  refine (vl_03 (M := M) (f := f) (g := g) (n := n) (d := d) hq hd x).cg (fun c m _ T => ⟨?_, ?_⟩)
  · rw [vf_23 (by omega), vf_03 (by omega)]
  · rw [show g + 2 = g + 1 + 1 from rfl, F_X7_tellsIn, if_neg (by decide), if_neg (by decide), if_neg (by decide), show ∀ h, F_X7_above 2 h = some (0, h) from fun _ => rfl, bnd_s, bnd_id]
theorem vl_33 {M : Nat} (hq : ∃ k, k < 7 ∧ q = nI k) (hd : d ≤ 35) (x : Int32) : VL q i w 12 (F_X5_from (F_X5_begin (n + 10) (f + 6)) (n + 10) 91 (3 : Int32) (3 : Int32) x (nI d)) (F_X7_tellsIn M (g + 2) 102 (3 : Int32) x) := by
  refine (vl_03 (M := M) (f := f) (g := g) (n := n) (d := d) hq hd x).cg (fun c m _ T => ⟨?_, ?_⟩)
  · rw [vf_33 (by omega), vf_03 (by omega)]
  · rw [show g + 2 = g + 1 + 1 from rfl, F_X7_tellsIn, if_neg (by decide), if_neg (by decide), if_neg (by decide), show ∀ h, F_X7_above 3 h = some (0, h) from fun _ => rfl, bnd_s, bnd_id]
theorem vl_43 {M : Nat} (hq : ∃ k, k < 7 ∧ q = nI k) (hd : d ≤ 34) (x : Int32) : VL q i w 15 (F_X5_from (F_X5_begin (n + 10) (f + 7)) (n + 10) 91 (4 : Int32) (3 : Int32) x (nI d)) (F_X7_tellsIn M (g + 3) 102 (4 : Int32) x) := by
  refine (((vl_13 (M := M) (f := f) (g := g) (n := n) (d := d + 1) hq (by omega) x).two (vo_0 (N := M) (f := f + 4) (n := n) (d := d + 1) hq (by omega) 2) (fun r t => r - t)).note 50).cg (fun c m _ T => ⟨?_, ?_⟩)
  · rw [vf_43 (by omega), show f + 7 = f + 6 + 1 from rfl, vb_50]
  · rw [show g + 3 = g + 2 + 1 from rfl, F_X7_tellsIn, if_neg (by decide), if_pos rfl]
theorem vl_53 {M : Nat} (hq : ∃ k, k < 7 ∧ q = nI k) (hd : d ≤ 35) (x : Int32) : VL q i w 12 (F_X5_from (F_X5_begin (n + 10) (f + 6)) (n + 10) 91 (5 : Int32) (3 : Int32) x (nI d)) (F_X7_tellsIn M (g + 3) 102 (5 : Int32) x) := by
  refine (vl_23 (M := M) (f := f) (g := g) (n := n) (d := d) hq hd x).cg (fun c m _ T => ⟨?_, ?_⟩)
  · rw [vf_53 (by omega), vf_23 (by omega)]
  · rw [show g + 3 = g + 2 + 1 from rfl, F_X7_tellsIn, if_neg (by decide), if_neg (by decide), if_neg (by decide), show ∀ h, F_X7_above 5 h = some (2, h) from fun _ => rfl, bnd_s, bnd_id]
theorem vl_63 {M : Nat} (hq : ∃ k, k < 7 ∧ q = nI k) (hd : d ≤ 34) (x : Int32) : VL q i w 21 (F_X5_from (F_X5_begin (n + 10) (f + 7)) (n + 10) 91 (6 : Int32) (3 : Int32) x (nI d)) (F_X7_tellsIn M (g + 3) 102 (6 : Int32) x) := by
  refine (((vo_1 (N := M) (f := f + 1) (n := n) (d := d + 1) hq (by omega) x).two (vl_33 (M := M) (f := f) (g := g) (n := n) (d := d + 1) hq (by omega) x) (fun r t => r - t)).note 71).cg (fun c m _ T => ⟨?_, ?_⟩)
  · rw [vf_63 (by omega), show f + 7 = f + 6 + 1 from rfl, vb_71]
  · rw [show g + 3 = g + 2 + 1 from rfl, F_X7_tellsIn, if_neg (by decide), if_neg (by decide), if_pos rfl]
theorem vo_3 (hq : ∃ k, k < 7 ∧ q = nI k) (hd : d ≤ 34) (x : Int32) : VL q i w 21 (F_X5_own (F_X5_begin (n + 10) (f + 7)) (n + 10) 91 (3 : Int32) x (nI d)) (fun m => F_X7_tellsIn N 4 102 (m 102 21) x m) := by
  obtain ⟨k, hk, rfl⟩ := id hq
  rcases (show k = 0 ∨ k = 1 ∨ k = 2 ∨ k = 3 ∨ k = 4 ∨ k = 5 ∨ k = 6 by omega) with rfl | rfl | rfl | rfl | rfl | rfl | rfl
  · refine ((vl_03 (M := N) (f := f + 1) (g := 3) (n := n) (d := d) hq (by omega) x).up (by omega)).cg (fun c m _ T => ⟨?_, ?_⟩)
    · exact (vown ..).trans (congrArg (fun z => F_X5_from (F_X5_begin (n + 10) (f + 7)) (n + 10) 91 z (3 : Int32) x (nI d) c) T.2.2.2.1)
    · exact congrArg (fun z => F_X7_tellsIn N 4 102 z x m) T.2.2.2.2.2.2.1
  · refine ((vl_13 (M := N) (f := f + 1) (g := 2) (n := n) (d := d) hq (by omega) x).up (by omega)).cg (fun c m _ T => ⟨?_, ?_⟩)
    · exact (vown ..).trans (congrArg (fun z => F_X5_from (F_X5_begin (n + 10) (f + 7)) (n + 10) 91 z (3 : Int32) x (nI d) c) T.2.2.2.1)
    · exact congrArg (fun z => F_X7_tellsIn N 4 102 z x m) T.2.2.2.2.2.2.1
  · refine ((vl_23 (M := N) (f := f + 1) (g := 2) (n := n) (d := d) hq (by omega) x).up (by omega)).cg (fun c m _ T => ⟨?_, ?_⟩)
    · exact (vown ..).trans (congrArg (fun z => F_X5_from (F_X5_begin (n + 10) (f + 7)) (n + 10) 91 z (3 : Int32) x (nI d) c) T.2.2.2.1)
    · exact congrArg (fun z => F_X7_tellsIn N 4 102 z x m) T.2.2.2.2.2.2.1
  · refine ((vl_33 (M := N) (f := f + 1) (g := 2) (n := n) (d := d) hq (by omega) x).up (by omega)).cg (fun c m _ T => ⟨?_, ?_⟩)
    · exact (vown ..).trans (congrArg (fun z => F_X5_from (F_X5_begin (n + 10) (f + 7)) (n + 10) 91 z (3 : Int32) x (nI d) c) T.2.2.2.1)
    · exact congrArg (fun z => F_X7_tellsIn N 4 102 z x m) T.2.2.2.2.2.2.1
  · refine ((vl_43 (M := N) (f := f + 0) (g := 1) (n := n) (d := d) hq (by omega) x).up (by omega)).cg (fun c m _ T => ⟨?_, ?_⟩)
    · exact (vown ..).trans (congrArg (fun z => F_X5_from (F_X5_begin (n + 10) (f + 7)) (n + 10) 91 z (3 : Int32) x (nI d) c) T.2.2.2.1)
    · exact congrArg (fun z => F_X7_tellsIn N 4 102 z x m) T.2.2.2.2.2.2.1
  · refine ((vl_53 (M := N) (f := f + 1) (g := 1) (n := n) (d := d) hq (by omega) x).up (by omega)).cg (fun c m _ T => ⟨?_, ?_⟩)
    · exact (vown ..).trans (congrArg (fun z => F_X5_from (F_X5_begin (n + 10) (f + 7)) (n + 10) 91 z (3 : Int32) x (nI d) c) T.2.2.2.1)
    · exact congrArg (fun z => F_X7_tellsIn N 4 102 z x m) T.2.2.2.2.2.2.1
  · refine ((vl_63 (M := N) (f := f + 0) (g := 1) (n := n) (d := d) hq (by omega) x).up (by omega)).cg (fun c m _ T => ⟨?_, ?_⟩)
    · exact (vown ..).trans (congrArg (fun z => F_X5_from (F_X5_begin (n + 10) (f + 7)) (n + 10) 91 z (3 : Int32) x (nI d) c) T.2.2.2.1)
    · exact congrArg (fun z => F_X7_tellsIn N 4 102 z x m) T.2.2.2.2.2.2.1
end VO
