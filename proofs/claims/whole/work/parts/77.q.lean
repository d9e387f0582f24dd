/-! TEXTS: Q, by the depth that is left -/
section LQ2
variable {w : Nat → Int32} {e x o N p z n : Nat} {c : Mem} {a b d : Int32} {m : Mem} {M : Nat}
theorem C_add1 (C : CS w e x c p z) (hz : z < 50) (s : Int32) : ∃ c', F_X3_add (86 + 1) s c = some ((), c') ∧ CS w e x c' p (z + 1) ∧ FX c c' ∧ ∀ j, c' 88 j = if j = z then s else c 88 j := by
  obtain ⟨h1, h2, h3⟩ := C_add C hz s
  refine ⟨_, h1, h2, h3, fun j => ?_⟩
  rw [upm_off 88 (by omega)]
  simp [upm]
theorem MS.op (X : MS w e x o a b d m p) (q : Nat) : MS w e x (o + 1) a b d (upm (upm m 102 10 (nI (o + 1))) 102 8 (nI q)) q ∧ E102 m (upm (upm m 102 10 (nI (o + 1))) 102 8 (nI q)) := by
  refine ⟨?_, (E102.up (by omega)).tr (E102.up (by omega))⟩
  obtain ⟨x1, x2, x3, x4, x5, x6, x7, x8, x9⟩ := X
  refine ⟨?_, by simp [upm], ?_, by simp [upm], ?_, ?_, ?_, ?_, fun j hj => ?_⟩
  · simp only [upm]; rw [if_neg (by omega), if_neg (by omega)]; exact x1
  · simp only [upm]; rw [if_neg (by omega), if_neg (by omega)]; exact x3
  · simp only [upm]; rw [if_neg (by omega), if_neg (by omega)]; exact x5
  · simp only [upm]; rw [if_neg (by omega), if_neg (by omega)]; exact x6
  · simp only [upm]; rw [if_neg (by omega), if_neg (by omega)]; exact x7
  · simp only [upm]; rw [if_neg (by omega), if_neg (by omega)]; exact x8
  · rw [upm_off 103 (by omega), upm_off 103 (by omega)]; exact x9 j hj
theorem MS.cl (X : MS w e x (o + 1) a b d m p) : MS w e x o a b d (upm m 102 10 (nI o)) p := by
  obtain ⟨x1, x2, x3, x4, x5, x6, x7, x8, x9⟩ := X
  refine ⟨?_, ?_, ?_, by simp [upm], ?_, ?_, ?_, ?_, fun j hj => ?_⟩
  · simp only [upm]; rw [if_neg (by omega)]; exact x1
  · simp only [upm]; rw [if_neg (by omega)]; exact x2
  · simp only [upm]; rw [if_neg (by omega)]; exact x3
  · simp only [upm]; rw [if_neg (by omega)]; exact x5
  · simp only [upm]; rw [if_neg (by omega)]; exact x6
  · simp only [upm]; rw [if_neg (by omega)]; exact x7
  · simp only [upm]; rw [if_neg (by omega)]; exact x8
  · rw [upm_off 103 (by omega)]; exact x9 j hj
/-- the Model's ! and (, from where they stand -/
theorem M_open (B : BW w e) (hx : x < 2) (X : MS w e x o a b d m p) (hp : p ≤ e) (hd : ¬ dgt (bt w e p)) (ho : o < 5) : (bt w e p = 33 → F_X7_factor M (n + 1) 102 m = bnd (F_X7_factor M n 102 (upm (upm m 102 10 (nI (o + 1))) 102 8 (nI (p + 1)))) (fun r h => if r = 0 then some (1, upm h 102 10 (h 102 10 - 1)) else some (0, upm h 102 10 (h 102 10 - 1)))) ∧ (bt w e p = 40 → F_X7_factor M (n + 1) 102 m = bnd (F_X7_whole (F_X7_factor M n) M 102 (upm (upm m 102 10 (nI (o + 1))) 102 8 (nI (p + 1)))) (fun r h => if upm h 102 10 (h 102 10 - 1) 102 14 = 0 then bnd (F_X7_fails 102 (upm h 102 10 (h 102 10 - 1))) (fun r h => some (r, h)) else bnd (F_X7_byteAt 102 (upm h 102 10 (h 102 10 - 1) 102 8) (upm h 102 10 (h 102 10 - 1))) (fun r17 h18 => if r17 = 41 then some (r, upm h18 102 8 (h18 102 8 + 1)) else bnd (F_X7_fails 102 h18) (fun r h => some (r, h))))) := by
  have h8 : upm m 102 10 (nI (o + 1)) 102 8 = nI p := by simp only [upm]; rw [if_neg (by omega)]; exact X.2.1
  have n5 : ¬ nI o = 5 := fun z => by
    have := (nI_eq (a := o) (b := 5) (by omega) (by omega)).mp z
    omega
  refine ⟨fun hs => ?_, fun hs => ?_⟩
  · rw [F_X7_factor, M_byte B hx X hp, bnd_s, (M_dgt _ m).2 hd, bnd_s, if_pos rfl]
    simp only [jn_e, sq_h]
    rw [hs, if_pos rfl, X.2.2.2.1, if_neg n5, if_pos rfl, nI_1, h8, nI_1]
    exact bnd_cg (fun r g => by rw [if_pos rfl])
  · rw [F_X7_factor, M_byte B hx X hp, bnd_s, (M_dgt _ m).2 hd, bnd_s, if_pos rfl]
    simp only [jn_e, sq_h]
    rw [hs, if_neg (by decide), if_pos rfl, X.2.2.2.1, if_neg n5, if_neg (by decide), nI_1, h8, nI_1]
    exact bnd_cg (fun r g => by rw [if_neg (by decide)])
theorem M_open5 (B : BW w e) (hx : x < 2) (X : MS w e x o a b d m p) (hp : p ≤ e) (hd : ¬ dgt (bt w e p)) (ho : o = 5) (hs : bt w e p = 33 ∨ bt w e p = 40) : F_X7_factor M (n + 1) 102 m = some (0, upm m 102 14 0) := by
  have x4 := X.2.2.2.1
  subst ho
  rw [F_X7_factor, M_byte B hx X hp, bnd_s, (M_dgt _ m).2 hd, bnd_s, if_pos rfl]
  simp only [jn_e, sq_h, F_X7_fails, bnd_s]
  rw [x4]
  rcases hs with hs | hs
  · rw [hs, if_pos rfl, if_pos (by decide)]
  · rw [hs, if_neg (by decide), if_pos rfl, if_pos (by decide)]
theorem M_else (B : BW w e) (hx : x < 2) (X : MS w e x o a b d m p) (hp : p ≤ e) (hd : ¬ dgt (bt w e p)) (h1 : ¬ bt w e p = 33) (h2 : ¬ bt w e p = 40) : F_X7_factor M (n + 1) 102 m = F_X7_named 102 (bt w e p) m := by
  rw [F_X7_factor, M_byte B hx X hp, bnd_s, (M_dgt _ m).2 hd, bnd_s, if_pos rfl]
  simp only [jn_e]
  rw [if_neg h1, if_neg h2, bnd_id]
theorem bad_up (X : MS w e x o a b d m p) : upm m 102 14 0 102 14 = 0 ∧ upm m 102 14 0 102 8 = nI p ∧ E102 m (upm m 102 14 0) := by
  refine ⟨by simp [upm], ?_, E102.up (by omega)⟩
  simp only [upm]; rw [if_neg (by omega)]; exact X.2.1
/-- the class's way where neither a digit nor a name stands -/
theorem C_open (hN : 1000 ≤ N) (B : BW w e) (C : CS w e x c p z) (hp : p ≤ e) (hx : x < 2) (hd : ¬ dgt (bt w e p)) (hn : ¬ inS (x + 1) (bt w e p)) : (o < 5 → bt w e p = 33 → F_X4_readQ N (n + 1) 86 (nI o) c = bnd (F_X4_readQ N n 86 (nI (o + 1)) (upm c 86 4 (nI (p + 1)))) (fun _ h => bnd (F_X3_add (86 + 1) (-33) h) (fun _ h => some ((), h)))) ∧ (o < 5 → bt w e p = 40 → F_X4_readQ N (n + 1) 86 (nI o) c = bnd (F_X4_readT (F_X4_readQ N n) N 86 (nI (o + 1)) (upm c 86 4 (nI (p + 1)))) (fun _ h => bnd (F_X4_takeOneOf N 86 4 h) (fun r h => if r = 0 then bnd (F_X4_stop 86 h) (fun _ h => some ((), h)) else some ((), h)))) ∧ (o ≤ 5 → (o = 5 ∨ ¬ (bt w e p = 33 ∨ bt w e p = 40)) → F_X4_readQ N (n + 1) 86 (nI o) c = F_X4_stop 86 c) := by
  have h3 : ∀ s, inS 3 s ↔ s = 33 ∨ s = 40 := fun s => by simp [inS, bytS]
  refine ⟨fun ho hs => ?_, fun ho hs => ?_, fun ho hs => ?_⟩
  · rw [F_X4_readQ, (C_dg B C hp).2 hd, bnd_s, if_pos rfl, C.2.2.1, gst_x hx, (C_tk hN B C hp (k := x + 1) (by omega)).2 hn, bnd_s, if_pos rfl]
    simp only [jn_e]
    rw [if_neg (show ¬ (5 : Int32) ≤ nI o from nI_ge (b := 5) ho (by omega)), (C_tk hN B C hp (k := 3) (by omega)).1 ((h3 _).mpr (Or.inl hs)), bnd_s, hs, if_pos rfl, nI_1]
  · rw [F_X4_readQ, (C_dg B C hp).2 hd, bnd_s, if_pos rfl, C.2.2.1, gst_x hx, (C_tk hN B C hp (k := x + 1) (by omega)).2 hn, bnd_s, if_pos rfl]
    simp only [jn_e]
    rw [if_neg (show ¬ (5 : Int32) ≤ nI o from nI_ge (b := 5) ho (by omega)), (C_tk hN B C hp (k := 3) (by omega)).1 ((h3 _).mpr (Or.inr hs)), bnd_s, hs, if_neg (by decide), if_pos rfl, nI_1]
  · have st : bnd (F_X4_stop 86 c) (fun _ h20 => some ((), h20)) = F_X4_stop 86 c := by
      cases F_X4_stop 86 c with
      | none => rfl
      | some q => rfl
    rw [F_X4_readQ, (C_dg B C hp).2 hd, bnd_s, if_pos rfl, C.2.2.1, gst_x hx, (C_tk hN B C hp (k := x + 1) (by omega)).2 hn, bnd_s, if_pos rfl]
    simp only [jn_e]
    by_cases h5 : o = 5
    · subst h5
      rw [if_pos (by decide), if_neg (by decide), if_neg (by decide), st]
    · rcases hs with hs | hs
      · exact absurd hs h5
      · rw [if_neg (show ¬ (5 : Int32) ≤ nI o from nI_ge (b := 5) (by omega) (by omega)), (C_tk hN B C hp (k := 3) (by omega)).2 (fun q => hs ((h3 _).mp q)), bnd_s, if_neg (by decide), if_neg (by decide), st]
theorem RF.Q (hx : x < 2) : RF x (fun c => F_X4_readQ N (n + 1) 86 (nI o) c) := fun c f C => by
  show F_X4_readQ N (n + 1) 86 (nI o) c = _
  rw [F_X4_readQ, C_dgF C.f, bnd_s, if_pos rfl, C.1, gst_x hx, C_tkF C.f, bnd_s, if_pos rfl]
  simp only [jn_e]
  rw [C_tkF C.f, bnd_s, C_stopF C.f, bnd_s]
  simp only [if_neg (show ¬ (0 : Int32) = 33 by decide), if_neg (show ¬ (0 : Int32) = 40 by decide)]
  split <;> rfl
end LQ2
