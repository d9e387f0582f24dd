/-! A SKY COPIED -/
theorem gcp_d {α : Type} {sp dp n : Int32} {n0 n1 : Nat} (o : Option α) (h : ¬ sp < 0 ∧ ¬ dp < 0 ∧ ¬ n < 0 ∧ ix sp + ix n ≤ n0 ∧ ix dp + ix n ≤ n1) : gcp sp dp n n0 n1 o = o := by
  unfold gcp
  rw [if_pos h]
theorem ix_0 : ix 0 = 0 := rfl
theorem ix_3 : ix 3 = 3 := rfl
theorem ix_8 : ix 8 = 8 := rfl
theorem ix_12 : ix 12 = 12 := rfl
theorem ix_20 : ix 20 = 20 := rfl
theorem ix_50 : ix 50 = 50 := rfl
theorem C_tk0 {h : Mem} {d s : Nat} (h1 : s ≠ d) (h2 : s ≠ d + 1) (h3 : s + 1 ≠ d) (hb : h s 4 = 0 ∨ h s 4 = 1) : ∃ h', F_X0_takeFrom d s h = some ((), h') ∧ (∀ j, j < 5 → h' d j = h s j) ∧ (∀ j, j < 3 → h' (d + 1) j = h (s + 1) j) ∧ ∀ k, k ≠ d → k ≠ d + 1 → h' k = h k := by
  unfold F_X0_takeFrom
  simp only [sq_h]
  rw [gbo_n _ (by simpa [upm, h1] using hb), gcp_d _ (by decide)]
  refine ⟨_, rfl, fun j hj => ?_, fun j hj => ?_, fun k k1 k2 => ?_⟩
  · rcases (show j = 0 ∨ j = 1 ∨ j = 2 ∨ j = 3 ∨ j = 4 by omega) with rfl | rfl | rfl | rfl | rfl
    all_goals simp [upm, rwm, h1]
  · simp [upm, rwm, va_cpy, ix_0, ix_3, h3, hj]
  · funext j
    simp [upm, rwm, k1, k2]
theorem C_tkT {h : Mem} {d s : Nat} (h1 : s ≠ d) (h2 : s ≠ d + 1) (h3 : s + 1 ≠ d) (hb : h s 0 = 0 ∨ h s 0 = 1) : ∃ h', F_X3_takeFrom d s h = some ((), h') ∧ h' d 0 = h s 0 ∧ h' d 2 = h s 2 ∧ (∀ j, j < 50 → h' (d + 1) j = h (s + 1) j) ∧ ∀ k, k ≠ d → k ≠ d + 1 → h' k = h k := by
  unfold F_X3_takeFrom
  simp only [sq_h]
  rw [gbo_n _ hb, gcp_d _ (by decide)]
  refine ⟨_, rfl, ?_, ?_, fun j hj => ?_, fun k k1 k2 => ?_⟩
  · simp [upm, rwm, h1]
  · simp [upm, rwm, h1]
  · simp [upm, rwm, va_cpy, ix_0, ix_50, h3, hj]
  · funext j
    simp [upm, rwm, k1, k2]
/-- the two texts of a sky: what the class kept of it tells what the Model's walk tells -/
def TxC (st : Nat → Int32) (n : Nat) (a b d v : Int32) : Prop := ∀ (N : Nat) (h : Mem) (t : Nat), 1000 ≤ N → (∀ j, j < 50 → h (t + 1) j = st j) → h t 2 = nI n → ∃ h', F_X3_workOut N t a b d h = some (v, h') ∧ ∀ k, k ≠ t + 2 → h' k = h k
def E102 (h h' : Mem) : Prop := (∀ k, k ≠ 102 → h' k = h k) ∧ ∀ j, (j < 7 ∨ 15 ≤ j) → h' 102 j = h 102 j
def TxM (x n : Nat) (w : Nat → Int32) (a b d v : Int32) : Prop := ∀ (N : Nat) (h : Mem), 1000 ≤ N → (∀ j, j < 50 → h 103 (162 + 50 * x + j) = w j) → h 103 (6 + x) = nI n → ∃ h', F_X7_walks N 102 (nI x) a b d h = some (v, h') ∧ E102 h h'
def TxR (h : Mem) (c x : Nat) (S : Mem) : Prop := (h (c + 5 + 3 * x) 0 = 0 ∧ S 8 (6 + x) < 0) ∨ (h (c + 5 + 3 * x) 0 = 1 ∧ ∃ n, n ≤ 50 ∧ S 8 (6 + x) = nI n ∧ ∃ m, m ≤ 50 ∧ h (c + 5 + 3 * x) 2 = nI m ∧ ∀ a b d, ∃ v, TxC (h (c + 5 + 3 * x + 1)) m a b d v ∧ TxM x n (S (13 + x)) a b d v)
def SkyR (h : Mem) (c : Nat) (S : Mem) : Prop := SkyN h c S ∧ TxR h c 0 S ∧ TxR h c 1 S
theorem TxC.cg {st st' : Nat → Int32} {n : Nat} {a b d v : Int32} (x : TxC st n a b d v) (e : ∀ j, j < 50 → st' j = st j) : TxC st' n a b d v := fun N h t hN hs hn => x N h t hN (fun j hj => (hs j hj).trans (e j hj)) hn
theorem TxR.cp {h h' : Mem} {c c' x : Nat} {S S' : Mem} (T : TxR h c x S) (e0 : h' (c' + 5 + 3 * x) 0 = h (c + 5 + 3 * x) 0) (e2 : h' (c' + 5 + 3 * x) 2 = h (c + 5 + 3 * x) 2) (e3 : ∀ j, j < 50 → h' (c' + 5 + 3 * x + 1) j = h (c + 5 + 3 * x + 1) j) (e4 : S' 8 (6 + x) = S 8 (6 + x)) (e5 : S' (13 + x) = S (13 + x)) : TxR h' c' x S' := by
  rcases T with ⟨t1, t2⟩ | ⟨t1, n, hn, t2, m, hm, t3, t4⟩
  · exact Or.inl ⟨e0.trans t1, by rw [e4]; exact t2⟩
  · refine Or.inr ⟨e0.trans t1, n, hn, e4.trans t2, m, hm, e2.trans t3, fun a b d => ?_⟩
    obtain ⟨v, v1, v2⟩ := t4 a b d
    exact ⟨v, v1.cg e3, by rw [e5]; exact v2⟩
theorem TxR.bo {h : Mem} {c x : Nat} {S : Mem} (T : TxR h c x S) : h (c + 5 + 3 * x) 0 = 0 ∨ h (c + 5 + 3 * x) 0 = 1 := by
  rcases T with t | t
  · exact Or.inl t.1
  · exact Or.inr t.1
/-- steps of the class that touch no text, and change no text's size -/
theorem SkyR.ft {h h' S S' : Mem} {c : Nat} (R : SkyR h c S) (R' : SkyN h' c S') (E : FT c h h') (e6 : S' 8 6 = S 8 6) (e7 : S' 8 7 = S 8 7) (e13 : S' 13 = S 13) (e14 : S' 14 = S 14) : SkyR h' c S' :=
  ⟨R', R.2.1.cp (by rw [E _ (by omega)]) (by rw [E _ (by omega)]) (fun j _ => by rw [E _ (by omega)]) e6 e13, R.2.2.cp (by rw [E _ (by omega)]) (by rw [E _ (by omega)]) (fun j _ => by rw [E _ (by omega)]) e7 e14⟩
def K3 (k0 k1 : Nat) : Prop := (k0 = 29 ∧ k1 = 1) ∨ (k0 = 1 ∧ k1 = 29) ∨ (k0 = 57 ∧ k1 = 1)
theorem C_take {h S : Mem} {k0 k1 N : Nat} (hN : 1000 ≤ N) (hk : K3 k0 k1) (R : SkyR h k1 S) (hW : WS S) : ∃ h', F_X2_takeFrom N k0 k1 h = some ((), h') ∧ SkyR h' k0 S ∧ FS k0 h h' := by
  have hdis : k0 + 28 ≤ k1 ∨ k1 + 28 ≤ k0 := by unfold K3 at hk; omega
  obtain ⟨RN, R0, R1⟩ := R
  have hb : ∀ i, i < 8 → h (ca k1 i) 4 = 0 ∨ h (ca k1 i) 4 = 1 := fun i hi => by
    rw [C_7 RN hi]
    have := hW.2.2.2.2.2 i hi
    unfold WC at this
    exact this.2.2.2.2.2.2.2.2.2.2.2.2.2.2.1
  have key : ∀ (d n m : Nat) (g : Mem), n + d = 8 → d < m → (∀ a, a < n → (∀ j, j < 5 → g (ca k0 a) j = h (ca k1 a) j) ∧ ∀ j, j < 3 → g (ca k0 a + 1) j = h (ca k1 a + 1) j) → (∀ k, ¬ (k0 + 12 ≤ k ∧ k < k0 + 28) → g k = h k) → ∃ g', (∀ kt, F_X2_takeFrom_2 N k0 k1 kt m (nI n) g = kt g') ∧ (∀ a, a < 8 → (∀ j, j < 5 → g' (ca k0 a) j = h (ca k1 a) j) ∧ ∀ j, j < 3 → g' (ca k0 a + 1) j = h (ca k1 a + 1) j) ∧ (∀ k, ¬ (k0 + 12 ≤ k ∧ k < k0 + 28) → g' k = h k) := by
    intro d
    induction d with
    | zero =>
      intro n m g hn hm hA hF
      obtain ⟨m, rfl⟩ : ∃ q, m = q + 1 := ⟨m - 1, by omega⟩
      have hn8 : n = 8 := by omega
      subst hn8
      exact ⟨g, fun kt => by rw [F_X2_takeFrom_2, if_pos (by decide)], hA, hF⟩
    | succ d ih =>
      intro n m g hn hm hA hF
      obtain ⟨m, rfl⟩ : ∃ q, m = q + 1 := ⟨m - 1, by omega⟩
      have hs1 : g (ca k1 n) = h (ca k1 n) := hF _ (by unfold ca; omega)
      have hs2 : g (ca k1 n + 1) = h (ca k1 n + 1) := hF _ (by unfold ca; omega)
      obtain ⟨g', e', q1, q2, q3⟩ := C_tk0 (h := g) (d := ca k0 n) (s := ca k1 n) (by unfold ca; omega) (by unfold ca; omega) (by unfold ca; omega) (by rw [hs1]; exact hb n (by omega))
      obtain ⟨g2, e2, hA2, hF2⟩ := ih (n + 1) m g' (by omega) (by omega) (fun a ha => by
        by_cases q : a = n
        · subst q
          exact ⟨fun j hj => by rw [q1 j hj, hs1], fun j hj => by rw [q2 j hj, hs2]⟩
        · have h9 := hA a (by omega)
          rw [q3 (ca k0 a) (by unfold ca; omega) (by unfold ca; omega), q3 (ca k0 a + 1) (by unfold ca; omega) (by unfold ca; omega)]
          exact h9) (fun k hk9 => by rw [q3 k (by unfold ca; omega) (by unfold ca; omega), hF k hk9])
      refine ⟨g2, fun kt => ?_, hA2, hF2⟩
      rw [F_X2_takeFrom_2, if_neg (show ¬ (8 : Int32) ≤ nI n from nI_ge (b := 8) (by omega) (by omega)), gin_n _ (by omega) (by omega), gin_n _ (by omega) (by omega), ca_eq _ _ (by omega), ca_eq _ _ (by omega), e', bnd_s, nI_1, e2]
  unfold F_X2_takeFrom
  obtain ⟨g, eg, hA, hF⟩ := key 8 0 N h (by omega) (by omega) (fun a ha => by omega) (fun _ _ => rfl)
  have eg' : ∀ kt, F_X2_takeFrom_2 N k0 k1 kt N 0 h = kt g := eg
  rw [eg']
  clear eg eg' key
  simp only [sq_h]
  rw [gcp_d _ (by decide), gcp_d _ (by decide), gcp_d _ (by decide)]
  generalize hq : upm (rwm (upm (upm (upm (rwm (rwm (upm g k0 1 (g k1 1)) _ _) _ _) _ _ _) _ _ _) _ _ _) _ _) _ _ _ = g1
  have hc1 : ∀ k, ¬ (k0 ≤ k ∧ k < k0 + 28) → g1 k = g k := fun k hk9 => by
    funext j
    simp [← hq, upm, rwm, show k ≠ k0 by omega, show k ≠ k0 + 2 by omega, show k ≠ k0 + 3 by omega, show k ≠ k0 + 4 by omega]
  have hc2 : ∀ k, k0 + 5 ≤ k → g1 k = g k := fun k hk9 => by
    funext j
    simp [← hq, upm, rwm, show k ≠ k0 by omega, show k ≠ k0 + 2 by omega, show k ≠ k0 + 3 by omega, show k ≠ k0 + 4 by omega]
  have hd : k1 ≠ k0 ∧ k1 ≠ k0 + 2 ∧ k1 ≠ k0 + 3 ∧ k1 ≠ k0 + 4 ∧ k1 + 2 ≠ k0 ∧ k1 + 3 ≠ k0 ∧ k1 + 4 ≠ k0 ∧ k1 + 3 ≠ k0 + 2 ∧ k1 + 4 ≠ k0 + 2 ∧ k1 + 4 ≠ k0 + 3 ∧ k1 + 2 ≠ k0 + 3 ∧ k1 + 2 ≠ k0 + 4 ∧ k1 + 3 ≠ k0 + 4 := by omega
  obtain ⟨d1, d2, d3, d4, d5, d6, d7, d8, d9, d10, d11, d12, d13⟩ := hd
  have hc3 : g1 k0 1 = g k1 1 ∧ g1 k0 4 = g k1 4 ∧ g1 k0 5 = g k1 5 ∧ g1 k0 6 = g k1 6 ∧ g1 k0 8 = g k1 8 ∧ (∀ j, j < 12 → g1 (k0 + 2) j = g (k1 + 2) j) ∧ (∀ j, j < 8 → g1 (k0 + 3) j = g (k1 + 3) j) ∧ ∀ j, j < 50 → g1 (k0 + 4) j = g (k1 + 4) j := by
    refine ⟨?_, ?_, ?_, ?_, ?_, fun j hj => ?_, fun j hj => ?_, fun j hj => ?_⟩
    all_goals simp [← hq, upm, rwm, va_cpy, ix_0, ix_3, ix_8, ix_12, ix_50, *]
  clear hq
  obtain ⟨g2, a1, a2, a3, a4, a5⟩ := C_tkT (h := g1) (d := k0 + 5) (s := k1 + 5) (by omega) (by omega) (by omega) (by rw [hc1 _ (by omega), hF _ (by omega)]; exact R0.bo)
  rw [a1, bnd_s]
  obtain ⟨g3, b1, b2, b3, b4, b5⟩ := C_tkT (h := g2) (d := k0 + 8) (s := k1 + 8) (by omega) (by omega) (by omega) (by rw [a5 _ (by omega) (by omega), hc1 _ (by omega), hF _ (by omega)]; exact R1.bo)
  rw [b1, bnd_s, gcp_d _ (by decide)]
  refine ⟨_, rfl, ?_⟩
  have f1 : ∀ k, k0 + 12 ≤ k → g3 k = g k := fun k hk9 => by rw [b5 _ (by omega) (by omega), a5 _ (by omega) (by omega), hc2 k (by omega)]
  have f2 : ∀ k, k < k0 + 5 → g3 k = g1 k := fun k hk9 => by rw [b5 _ (by omega) (by omega), a5 _ (by omega) (by omega)]
  have f3 : ∀ k, ¬ (k0 ≤ k ∧ k < k0 + 28) → g3 k = h k := fun k hk9 => by rw [b5 _ (by omega) (by omega), a5 _ (by omega) (by omega), hc1 k hk9, hF k (by omega)]
  generalize hq : upm (rwm g3 (k0 + 11) (va_cpy (g3 (k1 + 11)) (g3 (k0 + 11)) (ix 0) (ix 0) (ix 20))) k0 12 (rwm g3 (k0 + 11) (va_cpy (g3 (k1 + 11)) (g3 (k0 + 11)) (ix 0) (ix 0) (ix 20)) k1 12) = h'
  have i1 : ∀ k, k ≠ k0 → k ≠ k0 + 11 → h' k = g3 k := fun k q1 q2 => by
    funext j
    simp [← hq, upm, rwm, q1, q2]
  have i2 : ∀ j, j ≠ 12 → h' k0 j = g3 k0 j := fun j hj => by simp [← hq, upm, rwm, hj]
  have i3 : h' k0 12 = g3 k1 12 := by simp [← hq, upm, rwm, show k1 ≠ k0 + 11 by omega]
  have i4 : ∀ j, j < 20 → h' (k0 + 11) j = g3 (k1 + 11) j := fun j hj => by simp [← hq, upm, rwm, va_cpy, ix_0, ix_20, hj]
  clear hq
  obtain ⟨c1, c2, c3, c4, c5, c6, c7, c8⟩ := hc3
  have hs : ∀ k, k1 ≤ k → k < k1 + 28 → g3 k = h k ∧ g k = h k := fun k q1 q2 => ⟨f3 k (by omega), hF k (by omega)⟩
  refine ⟨⟨fun a f v => ?_, ?_, ?_⟩, fun k hk9 => by rw [i1 k (by omega) (by omega), f3 k (by omega)]⟩
  · rw [← RN a f v]
    rcases v with ⟨ha, hf⟩ | ⟨rfl, hf⟩ | ⟨rfl, hf⟩ | ⟨rfl, hf⟩ | ⟨rfl, hf⟩ | ⟨rfl, hf⟩
    · obtain ⟨A1, A2⟩ := hA a ha
      have z1 : h' (ca k0 a) = g (ca k0 a) := by rw [i1 _ (by unfold ca; omega) (by unfold ca; omega), f1 _ (by unfold ca; omega)]
      have z2 : h' (ca k0 a + 1) = g (ca k0 a + 1) := by rw [i1 _ (by unfold ca; omega) (by unfold ca; omega), f1 _ (by unfold ca; omega)]
      by_cases q4 : f < 4
      · rw [cp_0 ha q4, cp_0 ha q4]
        show h' (ca k0 a) f = h (ca k1 a) f
        rw [z1, A1 f (by omega)]
      · by_cases q7 : f < 7
        · obtain ⟨s, rfl⟩ : ∃ s, f = 4 + s := ⟨f - 4, by omega⟩
          rw [cp_s ha (by omega), cp_s ha (by omega)]
          show h' (ca k0 a + 1) s = h (ca k1 a + 1) s
          rw [z2, A2 s (by omega)]
        · have q8 : f = 7 := by omega
          subst q8
          rw [cp_7 ha, cp_7 ha]
          show h' (ca k0 a) 4 = h (ca k1 a) 4
          rw [z1, A1 4 (by omega)]
    · have z := (hs k1 (by omega) (by omega))
      rcases (show f = 0 ∨ f = 1 ∨ f = 2 ∨ f = 3 ∨ f = 4 ∨ f = 5 by omega) with rfl | rfl | rfl | rfl | rfl | rfl
      · show h' k0 1 = h k1 1
        rw [i2 1 (by omega), f2 _ (by omega), c1, z.2]
      · show h' k0 4 = h k1 4
        rw [i2 4 (by omega), f2 _ (by omega), c2, z.2]
      · show h' k0 5 = h k1 5
        rw [i2 5 (by omega), f2 _ (by omega), c3, z.2]
      · show h' k0 6 = h k1 6
        rw [i2 6 (by omega), f2 _ (by omega), c4, z.2]
      · show h' k0 8 = h k1 8
        rw [i2 8 (by omega), f2 _ (by omega), c5, z.2]
      · show h' k0 12 = h k1 12
        rw [i3, z.1]
    · rw [cp_9, cp_9]
      show h' (k0 + 3) f = h (k1 + 3) f
      rw [i1 _ (by omega) (by omega), f2 _ (by omega), c7 f hf, (hs _ (by omega) (by omega)).2]
    · rw [cp_10, cp_10]
      show h' (k0 + 2) f = h (k1 + 2) f
      rw [i1 _ (by omega) (by omega), f2 _ (by omega), c6 f hf, (hs _ (by omega) (by omega)).2]
    · rw [cp_11, cp_11]
      show h' (k0 + 4) f = h (k1 + 4) f
      rw [i1 _ (by omega) (by omega), f2 _ (by omega), c8 f hf, (hs _ (by omega) (by omega)).2]
    · rw [cp_12, cp_12]
      show h' (k0 + 11) f = h (k1 + 11) f
      rw [i4 f hf, (hs _ (by omega) (by omega)).1]
  · have z5 : h' (k0 + 5) = g2 (k0 + 5) := by rw [i1 _ (by omega) (by omega), b5 _ (by omega) (by omega)]
    have z6 : h' (k0 + 5 + 1) = g2 (k0 + 5 + 1) := by rw [i1 _ (by omega) (by omega), b5 _ (by omega) (by omega)]
    have y5 : g1 (k1 + 5) = h (k1 + 5) := by rw [hc1 _ (by omega), hF _ (by omega)]
    have y6 : g1 (k1 + 5 + 1) = h (k1 + 5 + 1) := by rw [hc1 _ (by omega), hF _ (by omega)]
    exact R0.cp (c' := k0) (by show h' (k0 + 5) 0 = h (k1 + 5) 0; rw [z5, a2, y5]) (by show h' (k0 + 5) 2 = h (k1 + 5) 2; rw [z5, a3, y5]) (fun j hj => by show h' (k0 + 5 + 1) j = h (k1 + 5 + 1) j; rw [z6, a4 j hj, y6]) rfl rfl
  · have z5 : h' (k0 + 8) = g3 (k0 + 8) := by rw [i1 _ (by omega) (by omega)]
    have z6 : h' (k0 + 8 + 1) = g3 (k0 + 8 + 1) := by rw [i1 _ (by omega) (by omega)]
    have y5 : g2 (k1 + 8) = h (k1 + 8) := by rw [a5 _ (by omega) (by omega), hc1 _ (by omega), hF _ (by omega)]
    have y6 : g2 (k1 + 8 + 1) = h (k1 + 8 + 1) := by rw [a5 _ (by omega) (by omega), hc1 _ (by omega), hF _ (by omega)]
    exact R1.cp (c' := k0) (by show h' (k0 + 8) 0 = h (k1 + 8) 0; rw [z5, b2, y5]) (by show h' (k0 + 8) 2 = h (k1 + 8) 2; rw [z5, b3, y5]) (fun j hj => by show h' (k0 + 8 + 1) j = h (k1 + 8 + 1) j; rw [z6, b4 j hj, y6]) rfl rfl
/-! the Model copies a row -/
theorem M_all {h : Mem} {a b N : Nat} (hN : 1000 ≤ N) (hab : a ≠ b) : ∃ h', F_X7_moveAll N 102 a 262 b 262 h = some ((), h') ∧ (∀ j, j < 262 → h' b j = h a j) ∧ ∀ k, k ≠ b → h' k = h k := by
  have key : ∀ (d n m : Nat) (g : Mem), n + d = 262 → d < m → (∀ j, j < n → g b j = h a j) → (∀ k, k ≠ b → g k = h k) → ∃ g', (∀ kt, F_X7_moveAll_2 N a 262 b 262 kt m (nI n) g = kt g') ∧ (∀ j, j < 262 → g' b j = h a j) ∧ ∀ k, k ≠ b → g' k = h k := by
    intro d
    induction d with
    | zero =>
      intro n m g hn hm hA hF
      obtain ⟨m, rfl⟩ : ∃ q, m = q + 1 := ⟨m - 1, by omega⟩
      have hn8 : n = 262 := by omega
      subst hn8
      exact ⟨g, fun kt => by rw [F_X7_moveAll_2, if_pos (by decide)], hA, hF⟩
    | succ d ih =>
      intro n m g hn hm hA hF
      obtain ⟨m, rfl⟩ : ∃ q, m = q + 1 := ⟨m - 1, by omega⟩
      obtain ⟨g2, e2, hA2, hF2⟩ := ih (n + 1) m (upm g b n (g a n)) (by omega) (by omega) (fun j hj => by
        by_cases q : j = n
        · subst q
          simp [upm, hF a hab]
        · simp [upm, q]
          exact hA j (by omega)) (fun k hk => by rw [upm_off k hk, hF k hk])
      refine ⟨g2, fun kt => ?_, hA2, hF2⟩
      rw [F_X7_moveAll_2, if_neg (show ¬ (262 : Int32) ≤ nI n from nI_ge (b := 262) (by omega) (by omega)), gin_n _ (by omega) (by omega), gin_n _ (by omega) (by omega), sq_h, ix_n (by omega), nI_1, e2]
  unfold F_X7_moveAll
  obtain ⟨g, eg, hA, hF⟩ := key 262 0 N h (by omega) (by omega) (fun _ q => by omega) (fun _ _ => rfl)
  have eg' : ∀ kt, F_X7_moveAll_2 N a 262 b 262 kt N 0 h = kt g := eg
  rw [eg']
  exact ⟨g, rfl, hA, hF⟩
