/-! TEXTS: P, S, A, T are loops; B is one turn -/
theorem bnd_cg {ρ σ : Type} {o : Option (ρ × Mem)} {k k' : ρ → Mem → Option (σ × Mem)} (h : ∀ r g, k r g = k' r g) : bnd o k = bnd o k' := by
  have : k = k' := by funext r g; exact h r g
  rw [this]
section LP
variable {w : Nat → Int32} {e x o N : Nat} {R R' : CR} {V V' : MR} {sg : Int32 → Prop}
theorem LK.cg (K : LK w e x o R V) (h1 : ∀ c, R' c = R c) (h2 : ∀ M m, V' M m = V M m) : LK w e x o R' V' := by
  have e1 : R' = R := funext h1
  have e2 : V' = V := by funext M m; exact h2 M m
  rw [e1, e2]
  exact K
theorem RF.cg (K : RF x R) (h1 : ∀ c, R' c = R c) : RF x R' := fun c f C => (h1 c).trans (K c f C)
theorem RF.lp {G : Nat → Nat → CR} (hN : 1000 ≤ N) (KF : RF x R) (g : GEq w e x sg R G) : RF x (fun c => bnd (R c) (fun _ h => G N 0 h)) := fun c f C => by
  show bnd (R c) _ = _
  obtain ⟨n, rfl⟩ : ∃ n, N = n + 1 := ⟨N - 1, by omega⟩
  rw [KF c f C, bnd_s, g.2.2 n 0 c f C (by omega)]
theorem LK.lp {G : Nat → Nat → CR} {L : Nat → Nat → Int32 → Mem → Option (Int32 × Mem)} (hN : 1000 ≤ N) (B : BW w e) (S : SGN sg) (K : LK w e x o R V) (KF : RF x R) (g : GEq w e x sg R G) (l : MEq w e x o sg V L) : LK w e x o (fun c => bnd (R c) (fun _ h => G N 0 h)) (fun M m => bnd (V M m) (fun r h => L M M r h)) := by
  intro c p z C hz hp
  have h50 := B.1
  rcases K c p z C hz hp with ⟨c2, p2, z2, v2, a1, a2, a3, a4, a5, a6, a7, a8, a9, a10⟩ | ⟨c2, p2, a1, a2, a3, a4⟩
  · have eg : (fun c => bnd (R c) (fun _ h => G N 0 h)) c = G N 0 c2 := by
      show bnd (R c) _ = _
      rw [a1, bnd_s]
    rcases loop B S K KF g l 51 N 0 c2 p2 z2 z v2 (fun M => M) (by omega) (by omega) (fun M hM => by omega) a2 (by omega) a5 (by omega) a9 with ⟨c4, p4, z4, v4, d1, d2, d3, d4, d5, d6, d7, d8, d9, d10⟩ | ⟨c4, p4, d1, d2, d3, d4⟩
    · refine Or.inl ⟨c4, p4, z4, v4, eg.trans d1, d2, a3.tr d3, by omega, d5, by omega, by omega, fun j hj => (d8 j hj).trans (a8 j hj), d9, fun M a b d m hM X => ?_⟩
      obtain ⟨m2, q1, q2, q3⟩ := a10 M a b d m hM X
      obtain ⟨m', r1, r2, r3⟩ := d10 M a b d m2 hM q2
      replace q1 : V M m = _ := q1
      refine ⟨m', ?_, r2, q3.tr r3⟩
      show bnd (V M m) _ = _
      rw [q1, bnd_s]
      exact r1
    · refine Or.inr ⟨c4, p4, eg.trans d1, d2, a3.tr d3, fun M a b d m hM X => ?_⟩
      obtain ⟨m2, q1, q2, q3⟩ := a10 M a b d m hM X
      obtain ⟨r, m', r1, r2, r3, r4⟩ := d4 M a b d m2 hM q2
      replace q1 : V M m = _ := q1
      refine ⟨r, m', ?_, r2, r3, q3.tr r4⟩
      show bnd (V M m) _ = _
      rw [q1, bnd_s]
      exact r1
  · refine Or.inr ⟨c2, p2, ?_, a2, a3, fun M a b d m hM X => ?_⟩
    · show bnd (R c) _ = _
      obtain ⟨n, rfl⟩ : ∃ n, N = n + 1 := ⟨N - 1, by omega⟩
      rw [a1, bnd_s, g.2.2 n 0 c2 p2 a2 (by omega)]
    · obtain ⟨r, m2, q1, q2, q3, q4⟩ := a4 M a b d m hM X
      replace q1 : V M m = _ := q1
      refine ⟨r, m2, ?_, q2, q3, q4⟩
      show bnd (V M m) _ = _
      obtain ⟨n, rfl⟩ : ∃ n, M = n + 1 := ⟨M - 1, by omega⟩
      rw [q1, bnd_s, l.2.2 _ n r m2 q2]
theorem M_byte {a b d : Int32} {m : Mem} {p : Nat} (B : BW w e) (hx : x < 2) (X : MS w e x o a b d m p) (hp : p ≤ e) : F_X7_byteAt 102 (m 102 8) m = some (bt w e p, m) := by
  have h50 := B.1
  unfold F_X7_byteAt
  rw [X.2.1, X.2.2.1]
  by_cases q : p < e
  · rw [if_neg (nI_ge q (by omega)), X.1, show (162 : Int32) = nI 162 from rfl, show (50 : Int32) = nI 50 from rfl, pk_mul, nI_add, nI_add, sq_i, gin_n _ (by omega) (by omega), ix_n (by omega), bt_lt q]
    show some (m 103 (162 + 50 * x + p), m) = _
    rw [X.2.2.2.2.2.2.2.2 p (by omega)]
  · rw [if_pos (nI_le (by omega) (by omega)), bt_ge q]
theorem MS.gd {a b d : Int32} {m : Mem} {p : Nat} (X : MS w e x o a b d m p) : ¬ m 102 14 = 0 := by
  rw [X.2.2.2.2.2.2.2.1]
  decide
/-! P -/
def sgP (b : Int32) : Prop := b = 42 ∨ b = 47 ∨ b = 37
def sgS (b : Int32) : Prop := b = 43 ∨ b = 45
def sgB (b : Int32) : Prop := b = 60 ∨ b = 61 ∨ b = 62
def sgA (b : Int32) : Prop := b = 38
def sgT (b : Int32) : Prop := b = 124
theorem sg_5 (b : Int32) : inS 5 b ↔ sgP b := by simp [inS, bytS, sgP]
theorem sg_6 (b : Int32) : inS 6 b ↔ sgS b := by simp [inS, bytS, sgS]
theorem sg_7 (b : Int32) : inS 7 b ↔ sgB b := by simp [inS, bytS, sgB]
theorem sg_8 (b : Int32) : inS 8 b ↔ sgA b := by simp [inS, bytS, sgA]
theorem sg_9 (b : Int32) : inS 9 b ↔ sgT b := by simp [inS, bytS, sgT]
theorem SgP : SGN sgP := by
  rintro b (rfl | rfl | rfl)
  all_goals decide
theorem SgS : SGN sgS := by
  rintro b (rfl | rfl)
  all_goals decide
theorem SgB : SGN sgB := by
  rintro b (rfl | rfl | rfl)
  all_goals decide
theorem SgA : SGN sgA := by
  rintro b rfl
  decide
theorem SgT : SGN sgT := by
  rintro b rfl
  decide
theorem SGN.nz (S : SGN sg) {b : Int32} (h : sg b) : ¬ b = 0 := by
  intro z
  have := (S b h).2.1
  rw [z] at this
  exact absurd this (by decide)
variable {oq : Nat → Int32 → Mem → Option (Unit × Mem)} {ov : Nat → Nat → Mem → Option (Int32 × Mem)}
theorem G_P (hN : 1000 ≤ N) (B : BW w e) : GEq w e x sgP (fun c => oq 86 (nI o) c) (fun n t c => bnd (F_X4_takeOneOf N 86 5 c) (fun r h => F_X4_readP_14 oq N 86 (nI o) (fun h => some ((), h)) n r (nI t) h)) := by
  have h50 := B.1
  refine ⟨fun n t c p z C hp ht hs => ?_, fun n t c p z C hp ht hs => ?_, fun n t c f C ht => ?_⟩
  · have hlt := bt_of B (SgP _ hs).1
    show bnd (F_X4_takeOneOf N 86 5 c) _ = _
    rw [(C_tk hN B C hp (k := 5) (by omega)).1 ((sg_5 _).mpr hs), bnd_s, F_X4_readP_14, if_neg (show ¬ (50 : Int32) ≤ nI t from nI_ge (b := 50) (by omega) (by omega)), if_neg (SgP.nz hs), nI_1]
  · show bnd (F_X4_takeOneOf N 86 5 c) _ = _
    rw [(C_tk hN B C hp (k := 5) (by omega)).2 (fun q => hs ((sg_5 _).mp q)), bnd_s, F_X4_readP_14]
    split <;> rfl
  · show bnd (F_X4_takeOneOf N 86 5 c) _ = _
    rw [C_tkF C.f, bnd_s, F_X4_readP_14]
    split <;> rfl
theorem G_S (hN : 1000 ≤ N) (B : BW w e) : GEq w e x sgS (fun c => F_X4_readP oq N 86 (nI o) c) (fun n t c => bnd (F_X4_takeOneOf N 86 6 c) (fun r h => F_X4_readS_14 oq N 86 (nI o) (fun h => some ((), h)) n r (nI t) h)) := by
  have h50 := B.1
  refine ⟨fun n t c p z C hp ht hs => ?_, fun n t c p z C hp ht hs => ?_, fun n t c f C ht => ?_⟩
  · have hlt := bt_of B (SgS _ hs).1
    show bnd (F_X4_takeOneOf N 86 6 c) _ = _
    rw [(C_tk hN B C hp (k := 6) (by omega)).1 ((sg_6 _).mpr hs), bnd_s, F_X4_readS_14, if_neg (show ¬ (50 : Int32) ≤ nI t from nI_ge (b := 50) (by omega) (by omega)), if_neg (SgS.nz hs), nI_1]
  · show bnd (F_X4_takeOneOf N 86 6 c) _ = _
    rw [(C_tk hN B C hp (k := 6) (by omega)).2 (fun q => hs ((sg_6 _).mp q)), bnd_s, F_X4_readS_14]
    split <;> rfl
  · show bnd (F_X4_takeOneOf N 86 6 c) _ = _
    rw [C_tkF C.f, bnd_s, F_X4_readS_14]
    split <;> rfl
theorem G_A (hN : 1000 ≤ N) (B : BW w e) : GEq w e x sgA (fun c => F_X4_readB oq N 86 (nI o) c) (fun n t c => F_X4_readA_7 oq N 86 (nI o) (fun h => some ((), h)) n (nI t) c) := by
  have h50 := B.1
  refine ⟨fun n t c p z C hp ht hs => ?_, fun n t c p z C hp ht hs => ?_, fun n t c f C ht => ?_⟩
  · have hlt := bt_of B (SgA _ hs).1
    show F_X4_readA_7 oq N 86 (nI o) _ (n + 1) (nI t) c = _
    rw [F_X4_readA_7, if_neg (show ¬ (50 : Int32) ≤ nI t from nI_ge (b := 50) (by omega) (by omega)), (C_tk hN B C hp (k := 8) (by omega)).1 ((sg_8 _).mpr hs), bnd_s, if_neg (SgA.nz hs), nI_1, show bt w e p = 38 from hs]
  · show F_X4_readA_7 oq N 86 (nI o) _ (n + 1) (nI t) c = _
    rw [F_X4_readA_7, (C_tk hN B C hp (k := 8) (by omega)).2 (fun q => hs ((sg_8 _).mp q)), bnd_s, if_pos rfl]
    split <;> rfl
  · show F_X4_readA_7 oq N 86 (nI o) _ (n + 1) (nI t) c = _
    rw [F_X4_readA_7, C_tkF C.f, bnd_s, if_pos rfl]
    split <;> rfl
theorem G_T (hN : 1000 ≤ N) (B : BW w e) : GEq w e x sgT (fun c => F_X4_readA oq N 86 (nI o) c) (fun n t c => F_X4_readT_7 oq N 86 (nI o) (fun h => some ((), h)) n (nI t) c) := by
  have h50 := B.1
  refine ⟨fun n t c p z C hp ht hs => ?_, fun n t c p z C hp ht hs => ?_, fun n t c f C ht => ?_⟩
  · have hlt := bt_of B (SgT _ hs).1
    show F_X4_readT_7 oq N 86 (nI o) _ (n + 1) (nI t) c = _
    rw [F_X4_readT_7, if_neg (show ¬ (50 : Int32) ≤ nI t from nI_ge (b := 50) (by omega) (by omega)), (C_tk hN B C hp (k := 9) (by omega)).1 ((sg_9 _).mpr hs), bnd_s, if_neg (SgT.nz hs), nI_1, show bt w e p = 124 from hs]
  · show F_X4_readT_7 oq N 86 (nI o) _ (n + 1) (nI t) c = _
    rw [F_X4_readT_7, (C_tk hN B C hp (k := 9) (by omega)).2 (fun q => hs ((sg_9 _).mp q)), bnd_s, if_pos rfl]
    split <;> rfl
  · show F_X4_readT_7 oq N 86 (nI o) _ (n + 1) (nI t) c = _
    rw [F_X4_readT_7, C_tkF C.f, bnd_s, if_pos rfl]
    split <;> rfl
theorem L_P (B : BW w e) (hx : x < 2) : MEq w e x o sgP (fun M m => ov M 102 m) (fun M n u m => F_X7_product_5 (ov M) M 102 (fun v h => some (v, h)) n u m) := by
  refine ⟨fun M n u m p a b d hM X hp hs => ?_, fun M n u m p a b d hM X hp hs => ?_, fun M n u m h => ?_⟩
  · show F_X7_product_5 (ov M) M 102 _ (n + 1) u m = _
    rw [F_X7_product_5, if_neg X.gd]
    simp only [M_byte B hx X hp, bnd_s, jn_e, sq_h]
    simp only [X.2.1, nI_1]
    generalize bt w e p = s at hs
    rcases hs with rfl | rfl | rfl
    · rw [if_pos rfl]
      exact bnd_cg (fun r g => by rw [if_pos rfl]; rfl)
    · rw [if_neg (by decide), if_pos rfl]
      refine bnd_cg (fun r g => ?_)
      rw [if_neg (by decide), if_pos rfl]
      show _ = F_X7_product_5 (ov M) M 102 _ n (wsg 47 u r) g
      rw [show wsg 47 u r = if r = 0 then 0 else u / r from rfl]
      by_cases z : r = 0
      · rw [if_pos z, if_pos z]
      · rw [if_neg z, if_neg z, gnz_n _ z]; rfl
    · rw [if_neg (by decide), if_neg (by decide), if_pos rfl]
      refine bnd_cg (fun r g => ?_)
      rw [if_neg (by decide), if_neg (show ¬ (37 : Int32) = 47 by decide)]
      show _ = F_X7_product_5 (ov M) M 102 _ n (wsg 37 u r) g
      rw [show wsg 37 u r = if r = 0 then 0 else irm u r from rfl]
      by_cases z : r = 0
      · rw [if_pos z, if_pos z]
      · rw [if_neg z, if_neg z, gnz_n _ z]; rfl
  · show F_X7_product_5 (ov M) M 102 _ (n + 1) u m = _
    rw [F_X7_product_5, if_neg X.gd]
    simp only [M_byte B hx X hp, bnd_s, jn_e]
    rw [if_neg (fun z => hs (Or.inl z)), if_neg (fun z => hs (Or.inr (Or.inl z))), if_neg (fun z => hs (Or.inr (Or.inr z)))]
  · show F_X7_product_5 (ov M) M 102 _ (n + 1) u m = _
    rw [F_X7_product_5, if_pos h]
theorem L_S (B : BW w e) (hx : x < 2) : MEq w e x o sgS (fun M m => F_X7_product (ov M) M 102 m) (fun M n u m => F_X7_sum_5 (ov M) M 102 (fun v h => some (v, h)) n u m) := by
  refine ⟨fun M n u m p a b d hM X hp hs => ?_, fun M n u m p a b d hM X hp hs => ?_, fun M n u m h => ?_⟩
  · show F_X7_sum_5 (ov M) M 102 _ (n + 1) u m = _
    rw [F_X7_sum_5, if_neg X.gd]
    simp only [M_byte B hx X hp, bnd_s, jn_e, sq_h]
    simp only [X.2.1, nI_1]
    generalize bt w e p = s at hs
    rcases hs with rfl | rfl
    · rw [if_pos rfl]
      exact bnd_cg (fun r g => by rw [if_pos rfl]; rfl)
    · rw [if_neg (by decide), if_pos rfl]
      exact bnd_cg (fun r g => by rw [if_neg (by decide)]; rfl)
  · show F_X7_sum_5 (ov M) M 102 _ (n + 1) u m = _
    rw [F_X7_sum_5, if_neg X.gd]
    simp only [M_byte B hx X hp, bnd_s, jn_e]
    rw [if_neg (fun z => hs (Or.inl z)), if_neg (fun z => hs (Or.inr z))]
  · show F_X7_sum_5 (ov M) M 102 _ (n + 1) u m = _
    rw [F_X7_sum_5, if_pos h]
theorem L_A (B : BW w e) (hx : x < 2) : MEq w e x o sgA (fun M m => F_X7_compared (ov M) M 102 m) (fun M n u m => F_X7_both_5 (ov M) M 102 (fun v h => some (v, h)) n u m) := by
  refine ⟨fun M n u m p a b d hM X hp hs => ?_, fun M n u m p a b d hM X hp hs => ?_, fun M n u m h => ?_⟩
  · show F_X7_both_5 (ov M) M 102 _ (n + 1) u m = _
    rw [F_X7_both_5, if_neg X.gd]
    simp only [M_byte B hx X hp, bnd_s, sq_h]
    simp only [X.2.1, nI_1]
    rw [show bt w e p = 38 from hs, if_pos rfl]
    refine bnd_cg (fun r g => ?_)
    show _ = F_X7_both_5 (ov M) M 102 _ n (wsg 38 u r) g
    rw [show wsg 38 u r = if u = 0 then 0 else if r = 0 then 0 else 1 from rfl]
    by_cases z : u = 0
    · rw [if_pos z, if_pos z]
    · rw [if_neg z, if_neg z]
      by_cases z2 : r = 0
      · rw [if_pos z2, if_pos z2]
      · rw [if_neg z2, if_neg z2]
  · show F_X7_both_5 (ov M) M 102 _ (n + 1) u m = _
    rw [F_X7_both_5, if_neg X.gd]
    simp only [M_byte B hx X hp, bnd_s]
    rw [if_neg (show ¬ bt w e p = 38 from hs)]
  · show F_X7_both_5 (ov M) M 102 _ (n + 1) u m = _
    rw [F_X7_both_5, if_pos h]
theorem L_T (B : BW w e) (hx : x < 2) : MEq w e x o sgT (fun M m => F_X7_both (ov M) M 102 m) (fun M n u m => F_X7_whole_5 (ov M) M 102 (fun v h => some (v, h)) n u m) := by
  refine ⟨fun M n u m p a b d hM X hp hs => ?_, fun M n u m p a b d hM X hp hs => ?_, fun M n u m h => ?_⟩
  · show F_X7_whole_5 (ov M) M 102 _ (n + 1) u m = _
    rw [F_X7_whole_5, if_neg X.gd]
    simp only [M_byte B hx X hp, bnd_s, sq_h]
    simp only [X.2.1, nI_1]
    rw [show bt w e p = 124 from hs, if_pos rfl]
    refine bnd_cg (fun r g => ?_)
    show _ = F_X7_whole_5 (ov M) M 102 _ n (wsg 124 u r) g
    rw [show wsg 124 u r = if u = 0 then (if r = 0 then 0 else 1) else 1 from rfl]
    by_cases z : u = 0
    · rw [if_pos z, if_pos z]
      by_cases z2 : r = 0
      · rw [if_pos z2, if_pos z2]
      · rw [if_neg z2, if_neg z2]
    · rw [if_neg z, if_neg z]
  · show F_X7_whole_5 (ov M) M 102 _ (n + 1) u m = _
    rw [F_X7_whole_5, if_neg X.gd]
    simp only [M_byte B hx X hp, bnd_s]
    rw [if_neg (show ¬ bt w e p = 124 from hs)]
  · show F_X7_whole_5 (ov M) M 102 _ (n + 1) u m = _
    rw [F_X7_whole_5, if_pos h]
end LP
