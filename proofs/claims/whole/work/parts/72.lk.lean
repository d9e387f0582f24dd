/-! TEXTS: class and Model side by side -/
def MS (w : Nat → Int32) (e x o : Nat) (a b d : Int32) (m : Mem) (p : Nat) : Prop := m 102 7 = nI x ∧ m 102 8 = nI p ∧ m 102 9 = nI e ∧ m 102 10 = nI o ∧ m 102 11 = a ∧ m 102 12 = b ∧ m 102 13 = d ∧ m 102 14 = 1 ∧ ∀ j, j < 50 → m 103 (162 + 50 * x + j) = w j
abbrev CR := Mem → Option (Unit × Mem)
abbrev MR := Nat → Mem → Option (Int32 × Mem)
def OKV (w : Nat → Int32) (e x o : Nat) (V : Int32 → Int32 → Int32 → MR) (p p' : Nat) (v : Int32 → Int32 → Int32 → Int32) : Prop := ∀ (M : Nat) (a b d : Int32) (m : Mem), 1000 ≤ M → MS w e x o a b d m p → ∃ m', V a b d M m = some (v a b d, m') ∧ MS w e x o a b d m' p' ∧ E102 m m'
def BAD (w : Nat → Int32) (e x o : Nat) (V : Int32 → Int32 → Int32 → MR) (p p' : Nat) : Prop := ∀ (M : Nat) (a b d : Int32) (m : Mem), 1000 ≤ M → MS w e x o a b d m p → ∃ r m', V a b d M m = some (r, m') ∧ m' 102 14 = 0 ∧ m' 102 8 = nI p' ∧ E102 m m'
/-- from place p, draft size z, with the steps from z0 on: both succeed, or both fail -/
def OUT (w : Nat → Int32) (e x o : Nat) (R : CR) (V : Int32 → Int32 → Int32 → MR) (c : Mem) (p q0 z0 z : Nat) : Prop :=
  (∃ c' p' z' v, R c = some ((), c') ∧ CS w e x c' p' z' ∧ FX c c' ∧ q0 ≤ p' ∧ p' ≤ e ∧ z ≤ z' ∧ z' + p ≤ p' + z ∧ (∀ j, j < z0 → c' 88 j = c 88 j) ∧ (∀ a b d, EV (c' 88) z0 z' a b d (v a b d)) ∧ OKV w e x o V p p' v) ∨
  (∃ c' p', R c = some ((), c') ∧ CFL x c' p' ∧ FX c c' ∧ BAD w e x o V p p')
def LK (w : Nat → Int32) (e x o : Nat) (R : CR) (V : MR) : Prop := ∀ c p z, CS w e x c p z → z ≤ p → p ≤ e → OUT w e x o R (fun _ _ _ => V) c p (p + 1) z z
def RF (x : Nat) (R : CR) : Prop := ∀ c f, CFL x c f → R c = some ((), c)
section GL
variable {w : Nat → Int32} {e x o : Nat} {R R2 : CR} {V V2 : MR} {sg : Int32 → Prop}
theorem E102.up {m : Mem} {j : Nat} {v : Int32} (h : 7 ≤ j ∧ j ≤ 14) : E102 m (upm m 102 j v) := ⟨fun k hk => upm_off k hk, fun i hi => by simp only [upm]; rw [if_neg (by omega)]⟩
theorem MS.mv {a b d : Int32} {m : Mem} {p : Nat} (h : MS w e x o a b d m p) (q : Nat) : MS w e x o a b d (upm m 102 8 (nI q)) q := by
  obtain ⟨h1, h2, h3, h4, h5, h6, h7, h8, h9⟩ := h
  refine ⟨?_, ?_, ?_, ?_, ?_, ?_, ?_, ?_, fun j hj => ?_⟩
  · simp only [upm]; rw [if_neg (by omega)]; exact h1
  · simp [upm]
  · simp only [upm]; rw [if_neg (by omega)]; exact h3
  · simp only [upm]; rw [if_neg (by omega)]; exact h4
  · simp only [upm]; rw [if_neg (by omega)]; exact h5
  · simp only [upm]; rw [if_neg (by omega)]; exact h6
  · simp only [upm]; rw [if_neg (by omega)]; exact h7
  · simp only [upm]; rw [if_neg (by omega)]; exact h8
  · rw [upm_off 103 (by omega)]; exact h9 j hj
/-- a loop of the class: a sign, an operand, its step -/
def GEq (w : Nat → Int32) (e x : Nat) (sg : Int32 → Prop) (R : CR) (G : Nat → Nat → CR) : Prop :=
  (∀ n t c p z, CS w e x c p z → p ≤ e → t ≤ p → sg (bt w e p) → G (n + 1) t c = bnd (R (upm c 86 4 (nI (p + 1)))) (fun _ h => bnd (F_X3_add (86 + 1) (-(bt w e p)) h) (fun _ h => G n (t + 1) h))) ∧
  (∀ n t c p z, CS w e x c p z → p ≤ e → t ≤ p → ¬ sg (bt w e p) → G (n + 1) t c = some ((), c)) ∧
  (∀ n t c f, CFL x c f → t ≤ 50 → G (n + 1) t c = some ((), c))
def MEq (w : Nat → Int32) (e x o : Nat) (sg : Int32 → Prop) (V : MR) (L : Nat → Nat → Int32 → Mem → Option (Int32 × Mem)) : Prop :=
  (∀ M n u m p a b d, 1000 ≤ M → MS w e x o a b d m p → p ≤ e → sg (bt w e p) → L M (n + 1) u m = bnd (V M (upm m 102 8 (nI (p + 1)))) (fun r h => L M n (wsg (bt w e p) u r) h)) ∧
  (∀ M n u m p a b d, 1000 ≤ M → MS w e x o a b d m p → p ≤ e → ¬ sg (bt w e p) → L M (n + 1) u m = some (u, m)) ∧
  (∀ M n u m, m 102 14 = 0 → L M (n + 1) u m = some (u, m))
def SGN (sg : Int32 → Prop) : Prop := ∀ b, sg b → ¬ b = -1 ∧ (-b < -3 ∧ ¬ -b = -33 ∧ - -b = b)
theorem loop {G : Nat → Nat → CR} {L : Nat → Nat → Int32 → Mem → Option (Int32 × Mem)} (B : BW w e) (S : SGN sg) (K : LK w e x o R V) (KF : RF x R) (g : GEq w e x sg R G) (l : MEq w e x o sg V L) :
    ∀ dd n t c p z z0 (v : Int32 → Int32 → Int32 → Int32) (fm : Nat → Nat), e < p + dd → dd ≤ n → (∀ M, 1000 ≤ M → dd ≤ fm M) → CS w e x c p z → z ≤ p → p ≤ e → t ≤ p → (∀ a b d, EV (c 88) z0 z a b d (v a b d)) → OUT w e x o (G n t) (fun a b d M m => L M (fm M) (v a b d) m) c p p z0 z := by
  intro dd
  induction dd with
  | zero => intro n t c p z z0 v fm h h2 h3 C hzp hpe; omega
  | succ dd ih =>
    intro n t c p z z0 v fm hdd hn hfm C hzp hpe htp hv
    obtain ⟨n, rfl⟩ : ∃ q, n = q + 1 := ⟨n - 1, by omega⟩
    have h50 := B.1
    have hz0 := (hv 0 0 0).1
    by_cases hs : sg (bt w e p)
    · have hlt : p < e := bt_of B (S _ hs).1
      have C1 := C.mv (p + 1)
      have F1 : FX c (upm c 86 4 (nI (p + 1))) := FX.mv
      have e88 : ∀ j, upm c 86 4 (nI (p + 1)) 88 j = c 88 j := fun j => by rw [upm_off 88 (by omega)]
      rcases K _ (p + 1) z C1 (by omega) (by omega) with ⟨c2, p2, z2, v2, a1, a2, a3, a4, a5, a6, a7, a8, a9, a10⟩ | ⟨c2, p2, a1, a2, a3, a4⟩
      · obtain ⟨b1, b2, b3⟩ := C_add a2 (show z2 < 50 by omega) (-(bt w e p))
        generalize hc3 : upm (upm c2 88 z2 (-(bt w e p))) 87 2 (nI (z2 + 1)) = c3 at b1 b2 b3
        have f88 : ∀ j, c3 88 j = if j = z2 then -(bt w e p) else c2 88 j := fun j => by
          rw [← hc3, upm_off 88 (by omega)]
          simp [upm]
        have hv3 : ∀ a b d, EV (c3 88) z0 (z2 + 1) a b d (wsg (bt w e p) (v a b d) (v2 a b d)) := fun a b d => by
          refine EV.two (j := z) (k := z2) ((hv a b d).cg (fun k q1 q2 => ?_)) ((a9 a b d).cg (fun k q1 q2 => ?_)) ?_ (S _ hs).2 rfl
          · rw [f88, if_neg (by omega), a8 k (by omega), e88]
          · rw [f88, if_neg (by omega)]
          · rw [f88, if_pos rfl]
        have ev : ∀ M a b d m, 1000 ≤ M → MS w e x o a b d m p → ∃ m2, L M (fm M) (v a b d) m = L M (fm M - 1) (wsg (bt w e p) (v a b d) (v2 a b d)) m2 ∧ MS w e x o a b d m2 p2 ∧ E102 m m2 := fun M a b d m hM X => by
          obtain ⟨m2, q1, q2, q3⟩ := a10 M a b d _ hM (X.mv (p + 1))
          replace q1 : V M (upm m 102 8 (nI (p + 1))) = _ := q1
          refine ⟨m2, ?_, q2, (E102.up (by omega)).tr q3⟩
          have hf := hfm M hM
          obtain ⟨f, hf1⟩ : ∃ f, fm M = f + 1 := ⟨fm M - 1, by omega⟩
          rw [hf1, l.1 M _ _ m p a b d hM X hpe hs, q1, bnd_s, Nat.add_sub_cancel]
        have eg : G (n + 1) t c = G n (t + 1) c3 := by
          rw [g.1 n t c p z C hpe htp hs, a1, bnd_s, b1, bnd_s]
        rcases ih n (t + 1) c3 p2 (z2 + 1) z0 _ (fun M => fm M - 1) (by omega) (by omega) (fun M hM => by have := hfm M hM; omega) b2 (by omega) a5 (by omega) hv3 with ⟨c4, p4, z4, v4, d1, d2, d3, d4, d5, d6, d7, d8, d9, d10⟩ | ⟨c4, p4, d1, d2, d3, d4⟩
        · refine Or.inl ⟨c4, p4, z4, v4, eg.trans d1, d2, F1.tr (a3.tr (b3.tr d3)), by omega, d5, by omega, by omega, fun j hj => ?_, d9, fun M a b d m hM X => ?_⟩
          · rw [d8 j hj, f88, if_neg (by omega), a8 j (by omega), e88]
          · obtain ⟨m2, q1, q2, q3⟩ := ev M a b d m hM X
            obtain ⟨m', r1, r2, r3⟩ := d10 M a b d m2 hM q2
            exact ⟨m', q1.trans r1, r2, q3.tr r3⟩
        · refine Or.inr ⟨c4, p4, eg.trans d1, d2, F1.tr (a3.tr (b3.tr d3)), fun M a b d m hM X => ?_⟩
          obtain ⟨m2, q1, q2, q3⟩ := ev M a b d m hM X
          obtain ⟨r, m', r1, r2, r3, r4⟩ := d4 M a b d m2 hM q2
          exact ⟨r, m', q1.trans r1, r2, r3, q3.tr r4⟩
      · obtain ⟨c3, b1, b2, b3⟩ := C_addF a2 (-(bt w e p))
        obtain ⟨n, rfl⟩ : ∃ q, n = q + 1 := ⟨n - 1, by omega⟩
        refine Or.inr ⟨c3, p2, ?_, b2, F1.tr (a3.tr b3), fun M a b d m hM X => ?_⟩
        · rw [g.1 _ t c p z C hpe htp hs, a1, bnd_s, b1, bnd_s, g.2.2 n (t + 1) c3 p2 b2 (by omega)]
        · obtain ⟨r, m2, q1, q2, q3, q4⟩ := a4 M a b d _ hM (X.mv (p + 1))
          replace q1 : V M (upm m 102 8 (nI (p + 1))) = _ := q1
          refine ⟨wsg (bt w e p) (v a b d) r, m2, ?_, q2, q3, (E102.up (by omega)).tr q4⟩
          show L M (fm M) (v a b d) m = _
          have hf := hfm M hM
          obtain ⟨f, hf1⟩ : ∃ f, fm M = f + 1 + 1 := ⟨fm M - 2, by omega⟩
          rw [hf1, l.1 M _ _ m p a b d hM X hpe hs, q1, bnd_s, l.2.2 M _ _ m2 q2]
    · refine Or.inl ⟨c, p, z, v, g.2.1 n t c p z C hpe htp hs, C, FX.rf, by omega, hpe, by omega, by omega, fun _ _ => rfl, hv, fun M a b d m hM X => ⟨m, ?_, X, E102.rf⟩⟩
      show L M (fm M) (v a b d) m = _
      have hf := hfm M hM
      obtain ⟨f, hf1⟩ : ∃ f, fm M = f + 1 := ⟨fm M - 1, by omega⟩
      rw [hf1, l.2.1 M _ _ m p a b d hM X hpe hs]
end GL
