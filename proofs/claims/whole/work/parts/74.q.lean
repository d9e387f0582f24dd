/-! TEXTS: B -/
section LB
variable {w : Nat → Int32} {e x o N p : Nat} {oq : Nat → Int32 → Mem → Option (Unit × Mem)} {ov : Nat → Nat → Mem → Option (Int32 × Mem)}
theorem M_cmp1 {M : Nat} {a b d r1 : Int32} {m0 m : Mem} (B : BW w e) (hx : x < 2) (h : F_X7_sum (ov M) M 102 m0 = some (r1, m)) (X : MS w e x o a b d m p) (hp : p ≤ e) (hs : sgB (bt w e p)) : F_X7_compared (ov M) M 102 m0 = bnd (F_X7_sum (ov M) M 102 (upm m 102 8 (nI (p + 1)))) (fun r g => some (wsg (bt w e p) r1 r, g)) := by
  unfold F_X7_compared
  rw [h, bnd_s]
  simp only [jn_e]
  rw [if_neg X.gd, M_byte B hx X hp, bnd_s]
  simp only [sq_h]
  rw [X.2.1, nI_1]
  generalize bt w e p = s at hs
  rcases hs with rfl | rfl | rfl
  · rw [if_pos rfl]
    refine bnd_cg (fun r g => ?_)
    rw [show wsg 60 r1 r = if r ≤ r1 then 0 else 1 from rfl, if_pos rfl]
    simp only [if_true, i10, if_false]
    split <;> rfl
  · rw [if_neg (by decide), if_pos rfl]
    refine bnd_cg (fun r g => ?_)
    rw [show wsg 61 r1 r = if r1 = r then 1 else 0 from rfl, if_neg (by decide), if_pos rfl]
    simp only [if_true, i10, if_false]
    split <;> rfl
  · rw [if_neg (by decide), if_neg (by decide), if_pos rfl]
    refine bnd_cg (fun r g => ?_)
    rw [show wsg 62 r1 r = if r1 ≤ r then 0 else 1 from rfl, if_neg (by decide), if_neg (show ¬ (62 : Int32) = 61 by decide)]
    simp only [if_true, i10, if_false]
    split <;> rfl
theorem M_cmp2 {M : Nat} {a b d r1 : Int32} {m0 m : Mem} (B : BW w e) (hx : x < 2) (h : F_X7_sum (ov M) M 102 m0 = some (r1, m)) (X : MS w e x o a b d m p) (hp : p ≤ e) (hs : ¬ sgB (bt w e p)) : F_X7_compared (ov M) M 102 m0 = some (r1, m) := by
  unfold F_X7_compared
  rw [h, bnd_s]
  simp only [jn_e]
  rw [if_neg X.gd, M_byte B hx X hp, bnd_s, if_neg (fun z => hs (Or.inl z)), if_neg (fun z => hs (Or.inr (Or.inl z))), if_neg (fun z => hs (Or.inr (Or.inr z)))]
theorem M_cmp3 {M : Nat} {r1 : Int32} {m0 m : Mem} (h : F_X7_sum (ov M) M 102 m0 = some (r1, m)) (hb : m 102 14 = 0) : F_X7_compared (ov M) M 102 m0 = some (r1, m) := by
  unfold F_X7_compared
  rw [h, bnd_s]
  simp only [jn_e]
  rw [if_pos hb, if_neg (by decide), if_neg (by decide), if_neg (by decide)]
theorem C_cmp3 {c0 c : Mem} {f : Nat} (h : F_X4_readS oq N 86 (nI o) c0 = some ((), c)) (C : CFL x c f) : F_X4_readB oq N 86 (nI o) c0 = some ((), c) := by
  unfold F_X4_readB
  rw [h, bnd_s, C_tkF C.f, bnd_s, if_pos rfl]
theorem RF.B (K : RF x (fun c => F_X4_readS oq N 86 (nI o) c)) : RF x (fun c => F_X4_readB oq N 86 (nI o) c) := fun c _ C => C_cmp3 (K c _ C) C
theorem LK.B (hN : 1000 ≤ N) (B : BW w e) (hx : x < 2) (K : LK w e x o (fun c => F_X4_readS oq N 86 (nI o) c) (fun M m => F_X7_sum (ov M) M 102 m)) : LK w e x o (fun c => F_X4_readB oq N 86 (nI o) c) (fun M m => F_X7_compared (ov M) M 102 m) := by
  intro c p z C hz hp
  have h50 := B.1
  rcases K c p z C hz hp with ⟨c2, p2, z2, v2, a1, a2, a3, a4, a5, a6, a7, a8, a9, a10⟩ | ⟨c2, p2, a1, a2, a3, a4⟩
  · replace a1 : F_X4_readS oq N 86 (nI o) c = some ((), c2) := a1
    by_cases hs : sgB (bt w e p2)
    · have hlt := bt_of B (SgB _ hs).1
      have C1 := a2.mv (p2 + 1)
      have F1 : FX c2 (upm c2 86 4 (nI (p2 + 1))) := FX.mv
      have e88 : ∀ j, upm c2 86 4 (nI (p2 + 1)) 88 j = c2 88 j := fun j => by rw [upm_off 88 (by omega)]
      have eg : F_X4_readB oq N 86 (nI o) c = bnd (F_X4_readS oq N 86 (nI o) (upm c2 86 4 (nI (p2 + 1)))) (fun _ h => bnd (F_X3_add (86 + 1) (-(bt w e p2)) h) (fun _ h => some ((), h))) := by
        unfold F_X4_readB
        rw [a1, bnd_s, (C_tk hN B a2 a5 (k := 7) (by omega)).1 ((sg_7 _).mpr hs), bnd_s, if_neg (SgB.nz hs)]
      rcases K _ (p2 + 1) z2 C1 (by omega) (by omega) with ⟨c3, p3, z3, v3, b1, b2, b3, b4, b5, b6, b7, b8, b9, b10⟩ | ⟨c3, p3, b1, b2, b3, b4⟩
      · replace b1 : F_X4_readS oq N 86 (nI o) _ = some ((), c3) := b1
        obtain ⟨d1, d2, d3⟩ := C_add b2 (show z3 < 50 by omega) (-(bt w e p2))
        generalize hc4 : upm (upm c3 88 z3 (-(bt w e p2))) 87 2 (nI (z3 + 1)) = c4 at d1 d2 d3
        have f88 : ∀ j, c4 88 j = if j = z3 then -(bt w e p2) else c3 88 j := fun j => by
          rw [← hc4, upm_off 88 (by omega)]
          simp [upm]
        refine Or.inl ⟨c4, p3, z3 + 1, fun a b d => wsg (bt w e p2) (v2 a b d) (v3 a b d), ?_, d2, a3.tr (F1.tr (b3.tr d3)), by omega, b5, by omega, by omega, fun j hj => ?_, fun a b d => ?_, fun M a b d m hM X => ?_⟩
        · show F_X4_readB oq N 86 (nI o) c = _
          rw [eg, b1, bnd_s, d1, bnd_s]
        · rw [f88, if_neg (by omega), b8 j (by omega), e88, a8 j hj]
        · have hz2 := (a9 a b d).1
          refine EV.two (j := z2) (k := z3) ((a9 a b d).cg (fun k q1 q2 => ?_)) ((b9 a b d).cg (fun k q1 q2 => ?_)) ?_ (SgB _ hs).2 rfl
          · rw [f88, if_neg (by omega), b8 k (by omega), e88]
          · rw [f88, if_neg (by omega)]
          · rw [f88, if_pos rfl]
        · obtain ⟨m2, q1, q2, q3⟩ := a10 M a b d m hM X
          obtain ⟨m3, r1, r2, r3⟩ := b10 M a b d _ hM (q2.mv (p2 + 1))
          refine ⟨m3, ?_, r2, q3.tr ((E102.up (by omega)).tr r3)⟩
          show F_X7_compared (ov M) M 102 m = _
          rw [M_cmp1 B hx q1 q2 a5 hs]
          replace r1 : F_X7_sum (ov M) M 102 _ = _ := r1
          rw [r1, bnd_s]
      · replace b1 : F_X4_readS oq N 86 (nI o) _ = some ((), c3) := b1
        obtain ⟨c4, d1, d2, d3⟩ := C_addF b2 (-(bt w e p2))
        refine Or.inr ⟨c4, p3, ?_, d2, a3.tr (F1.tr (b3.tr d3)), fun M a b d m hM X => ?_⟩
        · show F_X4_readB oq N 86 (nI o) c = _
          rw [eg, b1, bnd_s, d1, bnd_s]
        · obtain ⟨m2, q1, q2, q3⟩ := a10 M a b d m hM X
          obtain ⟨r, m3, r1, r2, r3, r4⟩ := b4 M a b d _ hM (q2.mv (p2 + 1))
          refine ⟨wsg (bt w e p2) (v2 a b d) r, m3, ?_, r2, r3, q3.tr ((E102.up (by omega)).tr r4)⟩
          show F_X7_compared (ov M) M 102 m = _
          rw [M_cmp1 B hx q1 q2 a5 hs]
          replace r1 : F_X7_sum (ov M) M 102 _ = _ := r1
          rw [r1, bnd_s]
    · refine Or.inl ⟨c2, p2, z2, v2, ?_, a2, a3, a4, a5, a6, a7, a8, a9, fun M a b d m hM X => ?_⟩
      · show F_X4_readB oq N 86 (nI o) c = _
        unfold F_X4_readB
        rw [a1, bnd_s, (C_tk hN B a2 a5 (k := 7) (by omega)).2 (fun q => hs ((sg_7 _).mp q)), bnd_s, if_pos rfl]
      · obtain ⟨m2, q1, q2, q3⟩ := a10 M a b d m hM X
        exact ⟨m2, M_cmp2 B hx q1 q2 a5 hs, q2, q3⟩
  · refine Or.inr ⟨c2, p2, C_cmp3 a1 a2, a2, a3, fun M a b d m hM X => ?_⟩
    obtain ⟨r, m2, q1, q2, q3, q4⟩ := a4 M a b d m hM X
    exact ⟨r, m2, M_cmp3 q1 q2, q2, q3, q4⟩
/-- from the operand to T -/
theorem LK.T (hN : 1000 ≤ N) (B : BW w e) (hx : x < 2) (K : LK w e x o (fun c => oq 86 (nI o) c) (fun M m => ov M 102 m)) (KF : RF x (fun c => oq 86 (nI o) c)) : LK w e x o (fun c => F_X4_readT oq N 86 (nI o) c) (fun M m => F_X7_whole (ov M) M 102 m) ∧ RF x (fun c => F_X4_readT oq N 86 (nI o) c) := by
  have KP : LK w e x o (fun c => F_X4_readP oq N 86 (nI o) c) (fun M m => F_X7_product (ov M) M 102 m) := (LK.lp hN B SgP K KF (G_P hN B) (L_P B hx)).cg (fun _ => rfl) (fun _ _ => rfl)
  have FP : RF x (fun c => F_X4_readP oq N 86 (nI o) c) := (RF.lp hN KF (G_P (w := w) (e := e) hN B)).cg (fun _ => rfl)
  have KS : LK w e x o (fun c => F_X4_readS oq N 86 (nI o) c) (fun M m => F_X7_sum (ov M) M 102 m) := (LK.lp hN B SgS KP FP (G_S hN B) (L_S B hx)).cg (fun _ => rfl) (fun _ _ => rfl)
  have FS : RF x (fun c => F_X4_readS oq N 86 (nI o) c) := (RF.lp hN FP (G_S (w := w) (e := e) hN B)).cg (fun _ => rfl)
  have KB := LK.B hN B hx KS
  have FB := RF.B FS
  have KA : LK w e x o (fun c => F_X4_readA oq N 86 (nI o) c) (fun M m => F_X7_both (ov M) M 102 m) := (LK.lp hN B SgA KB FB (G_A hN B) (L_A B hx)).cg (fun _ => rfl) (fun _ _ => rfl)
  have FA : RF x (fun c => F_X4_readA oq N 86 (nI o) c) := (RF.lp hN FB (G_A (w := w) (e := e) hN B)).cg (fun _ => rfl)
  exact ⟨(LK.lp hN B SgT KA FA (G_T hN B) (L_T B hx)).cg (fun _ => rfl) (fun _ _ => rfl), (RF.lp hN FA (G_T (w := w) (e := e) hN B)).cg (fun _ => rfl)⟩
end LB
