/-! TEXTS: a whole text is read -/
def rdJ (g : Mem) : Option (Int32 × Mem) := if 0 ≤ g 86 5 then some (upm g 87 0 0 86 5, upm g 87 0 0) else some (upm g 87 0 1 86 5, upm g 87 0 1)
def rdF (h : Mem) : Option (Int32 × Mem) := if h 86 2 ≤ h 86 4 then rdJ h else bnd (F_X4_stop 86 h) (fun _ g => rdJ g)
def rd0 (c : Mem) (e x : Nat) : Mem := upm (upm (upm (upm (upm (upm (upm c 86 1 (nI 5)) 86 2 (nI e)) 86 3 (-(nI (x + 1 + 1)))) 86 4 0) 86 5 (-1)) 87 0 0) 87 2 0
section RD
variable {w : Nat → Int32} {e x N : Nat} {c : Mem}
theorem rd_eq (he : e ≤ 50) (hx : x < 2) : F_X4_read N 86 5 50 (nI e) (nI x) c = bnd (F_X4_readT (F_X4_readQ N 7) N 86 (nI 0) (rd0 c e x)) (fun _ h => rdF h) := by
  have mn : (if nI 50 < nI e then nI 50 else nI e) = nI e := if_neg (nI_nlt he (by omega))
  unfold F_X4_read F_X3_empty
  simp only [sq_h, C_min, bnd_s, mn, jn_e]
  rcases (show x = 0 ∨ x = 1 by omega) with rfl | rfl
  · rw [if_pos nI_0]
    rfl
  · rw [if_neg (by decide)]
    rfl
theorem rd_cs (hw : ∀ j, j < 50 → c 5 j = w j) : CS w e x (rd0 c e x) 0 0 ∧ FX c (rd0 c e x) := by
  unfold rd0
  refine ⟨⟨?_, ?_, ?_, ?_, ?_, ?_, fun j hj => ?_⟩, fun k h1 h2 h3 => ?_⟩
  · simp [upm]
  · simp [upm]
  · simp [upm]
  · simp [upm]; rfl
  · simp [upm]
  · simp [upm]; rfl
  · simp [upm]; exact hw j hj
  · simp only [upm_off k h1, upm_off k h2]
def wk0 (m : Mem) (e x : Nat) (a b d : Int32) : Mem := upm (upm (upm (upm (upm (upm (upm (upm m 102 7 (nI x)) 102 8 0) 102 9 (nI e)) 102 10 0) 102 14 1) 102 11 a) 102 12 b) 102 13 d
def wkF (r : Int32) (h : Mem) : Option (Int32 × Mem) := if h 102 14 = 0 then some (r, upm h 102 14 0) else if h 102 8 = h 102 9 then some (r, upm h 102 14 1) else some (r, upm h 102 14 0)
theorem wk_eq {m : Mem} {a b d : Int32} (hx : x < 2) (hs : m 103 (6 + x) = nI e) : F_X7_walks N 102 (nI x) a b d m = bnd (F_X7_whole (F_X7_factor N 7) N 102 (wk0 m e x a b d)) (fun r h => wkF r h) := by
  unfold F_X7_walks
  simp only [sq_h, sq_i]
  rw [show (6 : Int32) = nI 6 from rfl, nI_add, gin_n _ (by omega) (by omega), ix_n (by omega)]
  have e1 : upm (upm m 102 7 (nI x)) 102 8 0 (102 + 1) (6 + x) = nI e := by
    rw [upm_off (102 + 1) (by omega), upm_off (102 + 1) (by omega)]
    exact hs
  rw [e1]
  rfl
theorem wk_ms {m : Mem} {a b d : Int32} (hw : ∀ j, j < 50 → m 103 (162 + 50 * x + j) = w j) : MS w e x 0 a b d (wk0 m e x a b d) 0 ∧ E102 m (wk0 m e x a b d) := by
  unfold wk0
  refine ⟨⟨?_, ?_, ?_, ?_, ?_, ?_, ?_, ?_, fun j hj => ?_⟩, fun k h1 => ?_, fun j hj => ?_⟩
  · simp [upm]
  · simp [upm]; rfl
  · simp [upm]
  · simp [upm]; rfl
  · simp [upm]
  · simp [upm]
  · simp [upm]
  · simp [upm]
  · simp only [upm_off 103 (show 103 ≠ 102 by omega)]; exact hw j hj
  · simp only [upm_off k h1]
  · simp only [upm]
    repeat rw [if_neg (by omega)]
/-- what is so when class and Model have read one text -/
theorem READ (hN : 1000 ≤ N) (B : BW w e) (hx : x < 2) (hw : ∀ j, j < 50 → c 5 j = w j) :
    (∃ (c' : Mem) (z' : Nat) (v : Int32 → Int32 → Int32 → Int32), z' ≤ 50 ∧ F_X4_read N 86 5 50 (nI e) (nI x) c = some (-1, c') ∧ c' 87 0 = 1 ∧ c' 87 2 = nI z' ∧ FX c c' ∧ (∀ a b d, EV (c' 88) 0 z' a b d (v a b d)) ∧ ∀ (M : Nat) (a b d : Int32) (m : Mem), 1000 ≤ M → (∀ j, j < 50 → m 103 (162 + 50 * x + j) = w j) → m 103 (6 + x) = nI e → ∃ m', F_X7_walks M 102 (nI x) a b d m = some (v a b d, m') ∧ m' 102 14 = 1 ∧ E102 m m') ∨
    (∃ (c' : Mem) (f : Nat), f ≤ 50 ∧ F_X4_read N 86 5 50 (nI e) (nI x) c = some (nI f, c') ∧ FX c c' ∧ ∀ (M : Nat) (a b d : Int32) (m : Mem), 1000 ≤ M → (∀ j, j < 50 → m 103 (162 + 50 * x + j) = w j) → m 103 (6 + x) = nI e → ∃ r m', F_X7_walks M 102 (nI x) a b d m = some (r, m') ∧ m' 102 14 = 0 ∧ m' 102 8 = nI f ∧ E102 m m') := by
  have h50 := B.1
  obtain ⟨C0, F0⟩ := rd_cs (w := w) (e := e) (x := x) hw
  obtain ⟨KT, _⟩ := LK.T (oq := F_X4_readQ N 7) (ov := fun M => F_X7_factor M 7) (o := 0) hN B hx (LK.Q hN B hx 7 0 (by omega) (by omega)) (RF.Q hx)
  rw [rd_eq (N := N) (c := c) h50 hx]
  rcases KT _ 0 0 C0 (by omega) (by omega) with ⟨c2, p2, z2, v2, a1, a2, a3, a4, a5, a6, a7, a8, a9, a10⟩ | ⟨c2, p2, a1, a2, a3, a4⟩
  · replace a1 : F_X4_readT (F_X4_readQ N 7) N 86 (nI 0) (rd0 c e x) = some ((), c2) := a1
    rw [a1, bnd_s]
    by_cases hpe : p2 = e
    · left
      subst hpe
      have r1 : rdF c2 = some (-1, upm c2 87 0 1) := by
        unfold rdF rdJ
        rw [a2.2.1, a2.2.2.2.1, if_pos (nI_le (by omega) (by omega)), a2.2.2.2.2.1, if_neg (by decide), upm_off 86 (by omega), a2.2.2.2.2.1]
      refine ⟨_, z2, v2, by omega, r1, by simp [upm], ?_, F0.tr (a3.tr (fun k h1 h2 h3 => upm_off k h2)), fun a b d => ?_, fun M a b d m hM hb hs => ?_⟩
      · simp only [upm]; rw [if_neg (by omega)]; exact a2.2.2.2.2.2.1
      · rw [upm_off 88 (by omega)]; exact a9 a b d
      · obtain ⟨X, E⟩ := wk_ms (e := p2) (a := a) (b := b) (d := d) hb
        obtain ⟨m2, q1, q2, q3⟩ := a10 M a b d _ hM X
        replace q1 : F_X7_whole (F_X7_factor M 7) M 102 _ = some (v2 a b d, m2) := q1
        refine ⟨upm m2 102 14 1, ?_, by simp [upm], E.tr (q3.tr (E102.up (by omega)))⟩
        rw [wk_eq hx hs, q1, bnd_s]
        unfold wkF
        rw [if_neg q2.gd, q2.2.1, q2.2.2.1, if_pos rfl]
    · right
      obtain ⟨b1, b2, b3⟩ := C_stop a2 (by omega) (by omega)
      have r1 : rdF c2 = some (nI p2, upm (upm c2 86 5 (nI p2)) 87 0 0) := by
        unfold rdF rdJ
        rw [a2.2.1, a2.2.2.2.1, if_neg (nI_ge (by omega) (by omega)), b1, bnd_s, b2.2.1, if_pos (nI_pos' (by omega)), upm_off 86 (by omega), b2.2.1]
      refine ⟨_, p2, by omega, r1, F0.tr (a3.tr (b3.tr (fun k h1 h2 h3 => upm_off k h2))), fun M a b d m hM hb hs => ?_⟩
      obtain ⟨X, E⟩ := wk_ms (e := e) (a := a) (b := b) (d := d) hb
      obtain ⟨m2, q1, q2, q3⟩ := a10 M a b d _ hM X
      replace q1 : F_X7_whole (F_X7_factor M 7) M 102 _ = some (v2 a b d, m2) := q1
      obtain ⟨t1, t2, t3⟩ := bad_up q2
      refine ⟨v2 a b d, upm m2 102 14 0, ?_, t1, t2, E.tr (q3.tr t3)⟩
      rw [wk_eq hx hs, q1, bnd_s]
      unfold wkF
      rw [if_neg q2.gd, q2.2.1, q2.2.2.1, if_neg (fun z => hpe ((nI_eq (by omega) (by omega)).mp z))]
  · right
    replace a1 : F_X4_readT (F_X4_readQ N 7) N 86 (nI 0) (rd0 c e x) = some ((), c2) := a1
    have h2 := a2.2.2.1
    have j1 : rdJ c2 = some (nI p2, upm c2 87 0 0) := by
      unfold rdJ
      rw [a2.2.1, if_pos (nI_pos' (by omega)), upm_off 86 (by omega), a2.2.1]
    have r1 : rdF c2 = some (nI p2, upm c2 87 0 0) := by
      unfold rdF
      rw [C_stopF a2.f, bnd_s, j1]
      split <;> rfl
    rw [a1, bnd_s]
    refine ⟨_, p2, by omega, r1, F0.tr (a3.tr (fun k h1 h2 h3 => upm_off k h2)), fun M a b d m hM hb hs => ?_⟩
    obtain ⟨X, E⟩ := wk_ms (e := e) (a := a) (b := b) (d := d) hb
    obtain ⟨r, m2, q1, q2, q3, q4⟩ := a4 M a b d _ hM X
    replace q1 : F_X7_whole (F_X7_factor M 7) M 102 _ = some (r, m2) := q1
    refine ⟨r, upm m2 102 14 0, ?_, by simp [upm], ?_, E.tr (q4.tr (E102.up (by omega)))⟩
    · rw [wk_eq hx hs, q1, bnd_s]
      unfold wkF
      rw [if_pos q2]
    · simp only [upm]; rw [if_neg (by omega)]; exact q3
/-- the Model lays the tape down as a text -/
theorem M_lay {m : Mem} (hx : x < 2) (hN : 1000 ≤ N) : ∃ m', (∀ kt, F_X7_text_30 N 102 (nI x) kt N 0 m = kt m') ∧ (∀ j, j < 50 → m' 103 (162 + 50 * x + j) = m 103 (92 + j)) ∧ (∀ j, ¬ (162 + 50 * x ≤ j ∧ j < 212 + 50 * x) → m' 103 j = m 103 j) ∧ ∀ k, k ≠ 103 → m' k = m k := by
  have key : ∀ (dd n f : Nat) (g : Mem), n + dd = 50 → dd < f → (∀ j, j < n → g 103 (162 + 50 * x + j) = m 103 (92 + j)) → (∀ j, ¬ (162 + 50 * x ≤ j ∧ j < 212 + 50 * x) → g 103 j = m 103 j) → (∀ k, k ≠ 103 → g k = m k) → ∃ m', (∀ kt, F_X7_text_30 N 102 (nI x) kt f (nI n) g = kt m') ∧ (∀ j, j < 50 → m' 103 (162 + 50 * x + j) = m 103 (92 + j)) ∧ (∀ j, ¬ (162 + 50 * x ≤ j ∧ j < 212 + 50 * x) → m' 103 j = m 103 j) ∧ ∀ k, k ≠ 103 → m' k = m k := by
    intro dd
    induction dd with
    | zero =>
      intro n f g hn hf h1 h2 h3
      obtain ⟨f, rfl⟩ : ∃ q, f = q + 1 := ⟨f - 1, by omega⟩
      have hn8 : n = 50 := by omega
      subst hn8
      exact ⟨g, fun kt => by rw [F_X7_text_30, if_pos (by decide)], h1, h2, h3⟩
    | succ dd ih =>
      intro n f g hn hf h1 h2 h3
      obtain ⟨f, rfl⟩ : ∃ q, f = q + 1 := ⟨f - 1, by omega⟩
      obtain ⟨m', e1, e2⟩ := ih (n + 1) f (upm g 103 (162 + 50 * x + n) (g 103 (92 + n))) (by omega) (by omega) (fun j hj => by
        by_cases q : j = n
        · subst q
          rw [show ∀ v, upm g 103 (162 + 50 * x + j) v 103 (162 + 50 * x + j) = v from fun v => by simp [upm]]
          exact h2 _ (by omega)
        · simp only [upm]
          rw [if_neg (by omega)]
          exact h1 j (by omega)) (fun j hj => by
        simp only [upm]
        rw [if_neg (by omega)]
        exact h2 j hj) (fun k hk => by rw [upm_off k hk, h3 k hk])
      refine ⟨m', fun kt => ?_, e2⟩
      rw [F_X7_text_30, if_neg (show ¬ (50 : Int32) ≤ nI n from nI_ge (b := 50) (by omega) (by omega)), show (92 : Int32) = nI 92 from rfl, show (162 : Int32) = nI 162 from rfl, show (50 : Int32) = nI 50 from rfl, pk_mul, nI_add, nI_add, nI_add, sq_i, gin_n _ (by omega) (by omega), gin_n _ (by omega) (by omega), sq_h, ix_n (by omega), ix_n (by omega), nI_1]
      exact e1 kt
  obtain ⟨m', e1, e2⟩ := key 50 0 N m (by omega) (by omega) (fun j hj => by omega) (fun _ _ => rfl) (fun _ _ => rfl)
  exact ⟨m', e1, e2⟩
end RD
