/-! THE RELATION between the class's memory c and the Model's memory m, after k calls -/
def WF (S : Mem) : Prop := WS S ∧ S 8 1 ≤ 10000 ∧ (0 ≤ S 8 4 ∧ S 8 4 ≤ 50) ∧ (0 ≤ S 8 5 ∧ S 8 5 ≤ 20) ∧ ∀ j, j < 50 → 0 ≤ S 11 j ∧ S 11 j ≤ 255
def RS (c m S : Mem) : Prop := SkyR c 1 S ∧ RowR (m 103) S ∧ WF S
def KP (c m K : Mem) (k : Nat) : Prop := ∃ n, n ≤ k ∧ c 0 3 = nI n ∧ m 102 5 = nI n ∧ m 102 4 = (if n = 0 then 0 else 1) ∧ (n ≠ 0 → SkyR c 29 K ∧ RowR (m 104) K ∧ WF K)
def FD (c m : Mem) : Prop := ∀ j, j < 6 → c 93 j = m 107 j
def SH (c m : Mem) : Prop := ∀ s, s < 4 → c (94 + 2 * s) 0 = m 108 s ∧ c (94 + 2 * s) 1 = m 109 s ∧ (m 108 s = 0 ∨ m 108 s = 8 ∨ m 108 s = 16 ∨ m 108 s = 32) ∧ 0 ≤ m 109 s ∧ m 109 s ≤ 40 ∧ ∀ j, j < 40 → c (95 + 2 * s) j = m 110 (40 * s + j)
def TR (c m : Mem) : Prop := ∃ n, n ≤ 40 ∧ c 91 1 = nI n ∧ m 102 20 = nI n ∧ ∀ j, j < n → c 92 j = m 112 j
def RO (c m : Mem) (k : Nat) : Prop := (∃ K, KP c m K k) ∧ FD c m ∧ SH c m ∧ TR c m
def RR (c m : Mem) (k : Nat) : Prop := (∃ S, RS c m S) ∧ RO c m k
def CF (c c' : Mem) : Prop := ∀ q, ¬ (1 ≤ q ∧ q < 29) → ¬ (57 ≤ q ∧ q < 91) → c' q = c q
def MF (m m' : Mem) : Prop := (∀ q, q ≠ 102 → q ≠ 103 → q ≠ 105 → q ≠ 106 → q ≠ 111 → m' q = m q) ∧ ∀ j, (j < 7 ∨ 15 ≤ j) → m' 102 j = m 102 j
def CO (c c' : Mem) : Prop := ∀ q, 102 ≤ q → c' q = c q
def MO (m m' : Mem) : Prop := ∀ q, q < 102 → m' q = m q
def PR (A B : Option (Int32 × Mem)) (c m : Mem) (k : Nat) : Prop := ∃ r c' m', A = some (r, c') ∧ B = some (r, m') ∧ RR c' m' (k + 1) ∧ CO c c' ∧ MO m m'
theorem CF.rf {c : Mem} : CF c c := fun _ _ _ => rfl
theorem CF.tr {a b d : Mem} (x : CF a b) (y : CF b d) : CF a d := fun k h1 h2 => (y k h1 h2).trans (x k h1 h2)
theorem CF.co {a b : Mem} (x : CF a b) : CO a b := fun k h => x k (by omega) (by omega)
theorem MF.rf {c : Mem} : MF c c := ⟨fun _ _ _ _ _ _ => rfl, fun _ _ => rfl⟩
theorem MF.tr {a b d : Mem} (x : MF a b) (y : MF b d) : MF a d := ⟨fun k h1 h2 h3 h4 h5 => (y.1 k h1 h2 h3 h4 h5).trans (x.1 k h1 h2 h3 h4 h5), fun j hj => (y.2 j hj).trans (x.2 j hj)⟩
theorem MF.mo {a b : Mem} (x : MF a b) : MO a b := fun k h => x.1 k (by omega) (by omega) (by omega) (by omega) (by omega)
theorem CF.of1 {a b : Mem} (x : FS 1 a b) : CF a b := fun k h1 _ => x k (by omega)
theorem CF.of57 {a b : Mem} (x : FS 57 a b) : CF a b := fun k _ h2 => x k (by omega)
theorem MF.of103 {a b : Mem} (x : E103 a b) : MF a b := ⟨fun k _ h2 _ _ _ => x k h2, fun j _ => by rw [x 102 (by omega)]⟩
theorem MF.of102 {a b : Mem} (x : E102 a b) : MF a b := ⟨fun k h1 _ _ _ _ => x.1 k h1, x.2⟩
theorem MF.ofk {a b : Mem} {q : Nat} (x : ∀ k, k ≠ q → b k = a k) (h : q = 103 ∨ q = 105 ∨ q = 106 ∨ q = 111) : MF a b := ⟨fun k h1 h2 h3 h4 h5 => x k (by omega), fun j _ => by rw [x 102 (by omega)]⟩
theorem SkyN.cg {h h' S : Mem} {c : Nat} (R : SkyN h c S) (e : ∀ k, c ≤ k → k < c + 28 → h' k = h k) : SkyN h' c S := R.off (fun k h1 h2 _ => e k h1 h2)
theorem SkyR.cg {h h' S : Mem} {c : Nat} (R : SkyR h c S) (e : ∀ k, c ≤ k → k < c + 28 → h' k = h k) : SkyR h' c S :=
  ⟨R.1.cg e, R.2.1.cp (by rw [e _ (by omega) (by omega)]) (by rw [e _ (by omega) (by omega)]) (fun j _ => by rw [e _ (by omega) (by omega)]) rfl rfl, R.2.2.cp (by rw [e _ (by omega) (by omega)]) (by rw [e _ (by omega) (by omega)]) (fun j _ => by rw [e _ (by omega) (by omega)]) rfl rfl⟩
theorem KP.up {c m K : Mem} {k : Nat} (h : KP c m K k) : KP c m K (k + 1) := by
  obtain ⟨n, hn, r⟩ := h
  exact ⟨n, by omega, r⟩
theorem RO.fr {c m c' m' : Mem} {k : Nat} (h : RO c m k) (hc : CF c c') (hm : MF m m') : RO c' m' (k + 1) := by
  obtain ⟨⟨K, n, hn, k1, k2, k3, k4⟩, hF, hS, n2, hn2, t1, t2, t3⟩ := h
  refine ⟨⟨K, n, by omega, ?_, ?_, ?_, fun q => ?_⟩, fun j hj => ?_, fun s hs => ?_, n2, hn2, ?_, ?_, fun j hj => ?_⟩
  · rw [hc 0 (by omega) (by omega)]; exact k1
  · rw [hm.2 5 (by omega)]; exact k2
  · rw [hm.2 4 (by omega)]; exact k3
  · obtain ⟨q1, q2, q3⟩ := k4 q
    refine ⟨q1.cg (fun k h1 h2 => hc k (by omega) (by omega)), ?_, q3⟩
    rw [hm.1 104 (by omega) (by omega) (by omega) (by omega) (by omega)]
    exact q2
  · rw [hc 93 (by omega) (by omega), hm.1 107 (by omega) (by omega) (by omega) (by omega) (by omega)]
    exact hF j hj
  · rw [hc (94 + 2 * s) (by omega) (by omega), hc (95 + 2 * s) (by omega) (by omega), hm.1 108 (by omega) (by omega) (by omega) (by omega) (by omega), hm.1 109 (by omega) (by omega) (by omega) (by omega) (by omega), hm.1 110 (by omega) (by omega) (by omega) (by omega) (by omega)]
    exact hS s hs
  · rw [hc 91 (by omega) (by omega)]; exact t1
  · rw [hm.2 20 (by omega)]; exact t2
  · rw [hc 92 (by omega) (by omega), hm.1 112 (by omega) (by omega) (by omega) (by omega) (by omega)]
    exact t3 j hj
theorem PR.ok {A B : Option (Int32 × Mem)} {c m c' m' S' : Mem} {k : Nat} {r : Int32} (O : RO c m k) (a : A = some (r, c')) (b : B = some (r, m')) (s : RS c' m' S') (hc : CF c c') (hm : MF m m') : PR A B c m k := ⟨r, c', m', a, b, ⟨⟨S', s⟩, O.fr hc hm⟩, hc.co, hm.mo⟩
def ER (e : Int32) : Prop := e = -1000000001 ∨ e = -1000000002 ∨ e = -1000000003 ∨ e = -1000000004 ∨ e = -1000000005
theorem C_err {e : Int32} (h : ER e) (c : Mem) : ∃ j, 1 ≤ j ∧ j < 6 ∧ F_X6_refuse 0 e c = some (e, upm c 93 j (c 93 j + 1)) ∧ ∀ m, F_X7_errs 102 e m = some (e, upm m 107 j (m 107 j + 1)) := by
  rcases h with rfl | rfl | rfl | rfl | rfl
  · exact ⟨1, by omega, by omega, rfl, fun _ => rfl⟩
  · exact ⟨2, by omega, by omega, rfl, fun _ => rfl⟩
  · exact ⟨3, by omega, by omega, rfl, fun _ => rfl⟩
  · exact ⟨4, by omega, by omega, rfl, fun _ => rfl⟩
  · exact ⟨5, by omega, by omega, rfl, fun _ => rfl⟩
theorem PR.er {A B : Option (Int32 × Mem)} {c m c1 m1 S : Mem} {k : Nat} {e : Int32} (O : RO c m k) (h : ER e) (s : RS c1 m1 S) (hc : CF c c1) (hm : MF m m1) (a : A = F_X6_refuse 0 e c1) (b : B = F_X7_errs 102 e m1) : PR A B c m k := by
  obtain ⟨j, hj1, hj6, ea, eb⟩ := C_err h c1
  refine ⟨e, _, _, a.trans ea, b.trans (eb m1), ?_, fun q hq => by rw [upm_off q (by omega)]; exact hc.co q hq, fun q hq => by rw [upm_off q (by omega)]; exact hm.mo q hq⟩
  obtain ⟨hK, hF, hS, hT⟩ := O.fr hc hm
  obtain ⟨s1, s2, s3⟩ := s
  refine ⟨⟨S, s1.cg (fun q _ _ => upm_off q (by omega)), by rw [upm_off 103 (by omega)]; exact s2, s3⟩, ?_, fun i hi => ?_, fun s hs => ?_, ?_⟩
  · obtain ⟨K, n, hn, k1, k2, k3, k4⟩ := hK
    refine ⟨K, n, hn, ?_, ?_, ?_, fun q => ?_⟩
    · rw [upm_off 0 (by omega)]; exact k1
    · rw [upm_off 102 (by omega)]; exact k2
    · rw [upm_off 102 (by omega)]; exact k3
    · obtain ⟨q1, q2, q3⟩ := k4 q
      exact ⟨q1.cg (fun q _ _ => upm_off q (by omega)), by rw [upm_off 104 (by omega)]; exact q2, q3⟩
  · have h1 := hF i hi
    have h2 := hF j hj6
    by_cases q : i = j
    · subst q
      simp [upm, h1]
    · simp [upm, q, h1]
  · rw [upm_off (94 + 2 * s) (by omega), upm_off (95 + 2 * s) (by omega), upm_off 108 (by omega), upm_off 109 (by omega), upm_off 110 (by omega)]
    exact hS s hs
  · obtain ⟨n2, hn2, t1, t2, t3⟩ := hT
    refine ⟨n2, hn2, ?_, ?_, fun i hi => ?_⟩
    · rw [upm_off 91 (by omega)]; exact t1
    · rw [upm_off 102 (by omega)]; exact t2
    · rw [upm_off 92 (by omega), upm_off 112 (by omega)]; exact t3 i hi
theorem bnd_id (o : Option (Int32 × Mem)) : bnd o (fun r h => some (r, h)) = o := by
  cases o <;> rfl
theorem i10 : ((1 : Int32) = 0) = False := by decide
theorem in_cs (x a b : Int32) : ((a ≤ x ∧ x ≤ b) ∧ (∀ h, F_X6_within x a b h = some (1, h)) ∧ ∀ h, F_X7_in x a b h = some (1, h)) ∨ (¬ (a ≤ x ∧ x ≤ b) ∧ (∀ h, F_X6_within x a b h = some (0, h)) ∧ ∀ h, F_X7_in x a b h = some (0, h)) := by
  by_cases q : a ≤ x ∧ x ≤ b
  · refine Or.inl ⟨q, fun h => C_in h q, fun h => ?_⟩
    unfold F_X7_in
    rw [if_neg (by grind), if_neg (by grind)]
  · refine Or.inr ⟨q, fun h => ?_, fun h => ?_⟩
    · unfold F_X6_within
      by_cases q1 : x < a
      · rw [if_pos q1]
      · rw [if_neg q1, if_pos (by grind)]
    · unfold F_X7_in
      by_cases q1 : x < a
      · rw [if_pos q1]
      · rw [if_neg q1, if_pos (by grind)]
theorem pl_cs (x : Int32) : ((∃ j, j < 12 ∧ x = nI j) ∧ (∀ h, F_X6_isPlace x h = some (1, h)) ∧ ∀ h, F_X7_isPlace x h = some (1, h)) ∨ (¬ (0 ≤ x ∧ x ≤ 11) ∧ (∀ h, F_X6_isPlace x h = some (0, h)) ∧ ∀ h, F_X7_isPlace x h = some (0, h)) := by
  rcases in_cs x 0 11 with ⟨q, e1, e2⟩ | ⟨q, e1, e2⟩
  · obtain ⟨j, hj, ej⟩ := nat_of (n := 11) (by decide) q.1 q.2
    refine Or.inl ⟨⟨j, by omega, ej⟩, fun h => ?_, fun h => ?_⟩
    · unfold F_X6_isPlace
      rw [e1, bnd_s, gbo_n _ (Or.inr rfl)]
    · unfold F_X7_isPlace
      rw [e2, bnd_s, gbo_n _ (Or.inr rfl)]
  · refine Or.inr ⟨q, fun h => ?_, fun h => ?_⟩
    · unfold F_X6_isPlace
      rw [e1, bnd_s, gbo_n _ (Or.inl rfl)]
    · unfold F_X7_isPlace
      rw [e2, bnd_s, gbo_n _ (Or.inl rfl)]
theorem sh_cs (x : Int32) : ((∃ j, j < 4 ∧ x = nI j) ∧ (∀ h, F_X6_isSheet x h = some (1, h)) ∧ ∀ h, F_X7_isSheet x h = some (1, h)) ∨ (¬ (0 ≤ x ∧ x ≤ 3) ∧ (∀ h, F_X6_isSheet x h = some (0, h)) ∧ ∀ h, F_X7_isSheet x h = some (0, h)) := by
  rcases in_cs x 0 3 with ⟨q, e1, e2⟩ | ⟨q, e1, e2⟩
  · obtain ⟨j, hj, ej⟩ := nat_of (n := 3) (by decide) q.1 q.2
    refine Or.inl ⟨⟨j, by omega, ej⟩, fun h => ?_, fun h => ?_⟩
    · unfold F_X6_isSheet
      rw [e1, bnd_s, gbo_n _ (Or.inr rfl)]
    · unfold F_X7_isSheet
      rw [e2, bnd_s, gbo_n _ (Or.inr rfl)]
  · refine Or.inr ⟨q, fun h => ?_, fun h => ?_⟩
    · unfold F_X6_isSheet
      rw [e1, bnd_s, gbo_n _ (Or.inl rfl)]
    · unfold F_X7_isSheet
      rw [e2, bnd_s, gbo_n _ (Or.inl rfl)]
theorem cl_cs {S : Mem} (hW : WS S) (x : Int32) : ((∃ i, i < 8 ∧ i < ix (S 8 0) ∧ x = nI i) ∧ (∀ c, SkyN c 1 S → F_X6_hasCloud 0 x c = some (1, c)) ∧ ∀ m, RowR (m 103) S → F_X7_isCloud 102 x m = some (1, m)) ∨ ((∀ c, SkyN c 1 S → F_X6_hasCloud 0 x c = some (0, c)) ∧ ∀ m, RowR (m 103) S → F_X7_isCloud 102 x m = some (0, m)) := by
  have u1 : ∀ c, SkyN c 1 S → F_X6_hasCloud 0 x c = bnd (F_X6_within x 0 (S 8 0 - 1) c) (fun r1 h2 => gbo r1 (some (r1, h2))) := fun c R => by
    unfold F_X6_hasCloud
    rw [show c (0 + 1) 1 = S 8 0 from C_made R]
  have u2 : ∀ m, RowR (m 103) S → F_X7_isCloud 102 x m = bnd (F_X7_in x 0 (S 8 0 - 1) m) (fun r1 h2 => gbo r1 (some (r1, h2))) := fun m R => by
    unfold F_X7_isCloud
    rw [gin_d _ (by decide), show m (102 + 1) (ix (0 : Int32)) = S 8 0 from M_row (j := 0) R (by omega)]
  rcases in_cs x 0 (S 8 0 - 1) with ⟨q, e1, e2⟩ | ⟨q, e1, e2⟩
  · left
    obtain ⟨M, hM, e0, ex0⟩ := made_of hW
    have h8 : x ≤ 7 := by have := hW.1; grind
    obtain ⟨j, hj, ej⟩ := nat_of (n := 7) (by decide) q.1 h8
    refine ⟨⟨j, by omega, ?_, ej⟩, fun c R => ?_, fun m R => ?_⟩
    · rw [ex0]
      refine Nat.lt_of_not_le (fun hle => ?_)
      have h9 : nI M ≤ nI j := nI_le hle (by omega)
      have h10 := q.2
      rw [ej, e0] at h10
      have h11 : nI M ≤ 8 := nI_le (b := 8) hM (by omega)
      have h12 : 0 ≤ nI M := nI_pos' (by omega)
      grind
    · rw [u1 c R, e1, bnd_s, gbo_n _ (Or.inr rfl)]
    · rw [u2 m R, e2, bnd_s, gbo_n _ (Or.inr rfl)]
  · right
    refine ⟨fun c R => ?_, fun m R => ?_⟩
    · rw [u1 c R, e1, bnd_s, gbo_n _ (Or.inl rfl)]
    · rw [u2 m R, e2, bnd_s, gbo_n _ (Or.inl rfl)]
