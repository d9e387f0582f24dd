/-! TEXTS: what steps tell -/
def wsg (s l r : Int32) : Int32 := if s = 37 then (if r = 0 then 0 else irm l r) else if s = 38 then (if l = 0 then 0 else if r = 0 then 0 else 1) else if s = 42 then l * r else if s = 43 then l + r else if s = 45 then l - r else if s = 47 then (if r = 0 then 0 else l / r) else if s = 60 then (if r ≤ l then 0 else 1) else if s = 61 then (if l = r then 1 else 0) else if s = 62 then (if l ≤ r then 0 else 1) else if s = 124 then (if l = 0 then (if r = 0 then 0 else 1) else 1) else 0
theorem C_wsg (s l r : Int32) (h : Mem) : F_X3_workOutSign s l r h = some (wsg s l r, h) := by
  unfold F_X3_workOutSign wsg
  by_cases q : r = 0
  · simp only [if_pos q]
    repeat' split
    all_goals rfl
  · simp only [if_neg q, gnz_n _ q]
    repeat' split
    all_goals rfl
def EV (st : Nat → Int32) (i j : Nat) (a b d v : Int32) : Prop := i < j ∧ ∀ (N t u n size : Nat) (kt : Mem → Option (Int32 × Mem)) (h : Mem), (∀ k, i ≤ k → k < j → h (t + 1) k = st k) → h t 2 = nI size → j ≤ size → size ≤ 50 → u ≤ i → ∃ h', F_X3_workOut_6 N t a b d kt (n + (j - i)) (nI u) (nI i) h = F_X3_workOut_6 N t a b d kt n (nI (u + 1)) (nI j) h' ∧ h' (t + 2) u = v ∧ (∀ q, q < u → h' (t + 2) q = h (t + 2) q) ∧ ∀ k, k ≠ t + 2 → h' k = h k
section EVS
variable {st st' : Nat → Int32} {i j k : Nat} {a b d v v2 s : Int32}
theorem EV.cg (E : EV st i j a b d v) (h : ∀ k, i ≤ k → k < j → st' k = st k) : EV st' i j a b d v :=
  ⟨E.1, fun N t u n size kt g e => E.2 N t u n size kt g (fun k h1 h2 => (e k h1 h2).trans (h k h1 h2))⟩
/-- a number, or a name -/
theorem EV.leaf (h : st i = s) (hs : ¬ s < -3) (hv : (if s = -3 then d else if s = -2 then b else if s = -1 then a else s) = v) : EV st i (i + 1) a b d v := by
  refine ⟨by omega, fun N t u n size kt g e e2 h1 h2 h3 => ?_⟩
  rw [show n + (i + 1 - i) = n + 1 by omega, F_X3_workOut_6, e2, if_neg (nI_ge (by omega) (by omega)), gin_n _ (by omega) (by omega), ix_n (by omega), e i (by omega) (by omega), h, sq_i, if_neg hs, if_pos (show nI u < nI 50 from nI_lt (by omega) (by omega))]
  have ev : F_X3_valueOf s a b d g = some (v, g) := by
    unfold F_X3_valueOf
    rw [← hv]
    repeat' split
    all_goals rfl
  rw [ev, bnd_s, gin_n _ (show u < 50 by omega) (by omega), ix_n (by omega), sq_h, nI_1, nI_1]
  refine ⟨_, rfl, by simp [upm], fun q hq => ?_, fun k hk => upm_off k hk⟩
  simp only [upm]
  rw [if_neg (by omega)]
theorem EV.not (E : EV st i j a b d v) (h : st j = -33) (hv : (if v = 0 then 1 else 0) = v2) : EV st i (j + 1) a b d v2 := by
  have hij := E.1
  refine ⟨by omega, fun N t u n size kt g e e2 h1 h2 h3 => ?_⟩
  obtain ⟨g1, a1, a2, a3, a4⟩ := E.2 N t u (n + 1) size kt g (fun k q1 q2 => e k q1 (by omega)) e2 (by omega) h2 h3
  rw [show n + (j + 1 - i) = n + 1 + (j - i) by omega, a1, F_X3_workOut_6, a4 t (by omega), e2, if_neg (nI_ge (by omega) (by omega)), gin_n _ (by omega) (by omega), ix_n (by omega), a4 (t + 1) (by omega), e j (by omega) (by omega), h, sq_i, if_pos (by decide), if_pos rfl, if_pos (show (1 : Int32) ≤ nI (u + 1) from nI_le (a := 1) (by omega) (by omega)), sq_i, nI_pred, gin_n _ (show u < 50 by omega) (by omega), ix_n (show u < 2 ^ 31 by omega), a2]
  have fin : ∀ x, ∃ h', F_X3_workOut_6 N t a b d kt n (nI (u + 1)) (nI j + 1) (upm g1 (t + 2) u x) = F_X3_workOut_6 N t a b d kt n (nI (u + 1)) (nI (j + 1)) h' ∧ h' (t + 2) u = x ∧ (∀ q, q < u → h' (t + 2) q = g (t + 2) q) ∧ ∀ k, k ≠ t + 2 → h' k = g k := fun x => by
    rw [nI_1]
    refine ⟨_, rfl, by simp [upm], fun q hq => ?_, fun k hk => by rw [upm_off k hk, a4 k hk]⟩
    simp only [upm]
    rw [if_neg (by omega)]
    exact a3 q hq
  by_cases q : v = 0
  · rw [if_pos q, gin_n _ (show u < 50 by omega) (by omega), sq_h]
    rw [if_pos q] at hv
    subst hv
    exact fin 1
  · rw [if_neg q, gin_n _ (show u < 50 by omega) (by omega), sq_h]
    rw [if_neg q] at hv
    subst hv
    exact fin 0
theorem EV.two {v3 : Int32} (E : EV st i j a b d v) (E2 : EV st j k a b d v2) (h : st k = -s) (hs : -s < -3 ∧ ¬ -s = -33 ∧ - -s = s) (hv : wsg s v v2 = v3) : EV st i (k + 1) a b d v3 := by
  have hij := E.1
  have hjk := E2.1
  refine ⟨by omega, fun N t u n size kt g e e2 h1 h2 h3 => ?_⟩
  obtain ⟨g1, a1, a2, a3, a4⟩ := E.2 N t u (n + 1 + (k - j)) size kt g (fun k q1 q2 => e k q1 (by omega)) e2 (by omega) h2 h3
  obtain ⟨g2, b1, b2, b3, b4⟩ := E2.2 N t (u + 1) (n + 1) size kt g1 (fun k q1 q2 => by rw [a4 (t + 1) (by omega)]; exact e k (by omega) (by omega)) (by rw [a4 t (by omega)]; exact e2) (by omega) h2 (by omega)
  rw [show n + (k + 1 - i) = n + 1 + (k - j) + (j - i) by omega, a1, b1, F_X3_workOut_6, b4 t (by omega), a4 t (by omega), e2, if_neg (nI_ge (by omega) (by omega)), gin_n _ (by omega) (by omega), ix_n (by omega), b4 (t + 1) (by omega), a4 (t + 1) (by omega), e k (by omega) (by omega), h, sq_i, if_pos hs.1, if_neg hs.2.1, if_pos (show (2 : Int32) ≤ nI (u + 1 + 1) from nI_le (a := 2) (by omega) (by omega)), pk_m1, nI_pred, sq_i, gin_n _ (show u < 50 by omega) (by omega), sq_i, gin_n _ (show u + 1 < 50 by omega) (by omega), ix_n (show u < 2 ^ 31 by omega), ix_n (show u + 1 < 2 ^ 31 by omega), b2, b3 u (by omega), a2, hs.2.2, C_wsg, bnd_s, hv, gin_n _ (show u < 50 by omega) (by omega), sq_h, nI_1]
  refine ⟨_, rfl, by simp [upm], fun q hq => ?_, fun k hk => by rw [upm_off k hk, b4 k hk, a4 k hk]⟩
  simp only [upm]
  rw [if_neg (by omega), b3 q (by omega)]
  exact a3 q hq
theorem EV.all {n : Nat} (E : EV st 0 n a b d v) (hn : n ≤ 50) : TxC st n a b d v := by
  intro N h t hN hs hsz
  obtain ⟨h', a1, a2, a3, a4⟩ := E.2 N t 0 (N - n) n (fun h13 => gin (0 : Int32) 50 (some (h13 (t + 2) (ix (0 : Int32)), h13))) h (fun k q1 q2 => hs k (by omega)) hsz (by omega) hn (by omega)
  unfold F_X3_workOut
  rw [show F_X3_workOut_6 N t a b d (fun h13 => gin (0 : Int32) 50 (some (h13 (t + 2) (ix (0 : Int32)), h13))) N (0 : Int32) (0 : Int32) h = _ from (congrArg (fun m => F_X3_workOut_6 N t a b d (fun h13 => gin (0 : Int32) 50 (some (h13 (t + 2) (ix (0 : Int32)), h13))) m (nI 0) (nI 0) h) (show N = N - n + (n - 0) by omega)).trans a1]
  obtain ⟨m, hm⟩ : ∃ m, N - n = m + 1 := ⟨N - n - 1, by omega⟩
  rw [hm, F_X3_workOut_6, a4 t (by omega), hsz, if_pos (nI_le (Nat.le_refl n) (by omega)), gin_d _ (by decide), show ix (0 : Int32) = 0 from rfl, a2]
  exact ⟨h', rfl, a4⟩
end EVS
