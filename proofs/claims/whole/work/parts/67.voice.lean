section PV
variable {c m S : Mem} {k N : Nat}
theorem PR.tr {A B : Option (Int32 × Mem)} {c m c' m' S' : Mem} {k : Nat} {r : Int32} (O : RO c m k) (a : A = some (r, c')) (b : B = some (r, m')) (s : RS c m S') (hc : VC c c') (hm : VM m m') (h : TR c' m') : PR A B c m k := by
  refine ⟨r, c', m', a, b, ⟨⟨S', s.1.cg (fun q h1 h2 => hc q (by omega) (by omega)), by rw [hm.1 103 (by omega) (by omega)]; exact s.2.1, s.2.2⟩, ?_, ?_, ?_, h⟩, fun q hq => hc q (by omega) (by omega), fun q hq => hm.1 q (by omega) (by omega)⟩
  · obtain ⟨⟨K, n, hn, k1, k2, k3, k4⟩, _⟩ := O
    refine ⟨K, n, by omega, by rw [hc 0 (by omega) (by omega)]; exact k1, by rw [hm.2 5 (by omega)]; exact k2, by rw [hm.2 4 (by omega)]; exact k3, fun q => ?_⟩
    obtain ⟨q1, q2, q3⟩ := k4 q
    exact ⟨q1.cg (fun q h1 h2 => hc q (by omega) (by omega)), by rw [hm.1 104 (by omega) (by omega)]; exact q2, q3⟩
  · intro j hj
    rw [hc 93 (by omega) (by omega), hm.1 107 (by omega) (by omega)]
    exact O.2.1 j hj
  · intro s hs
    rw [hc (94 + 2 * s) (by omega) (by omega), hc (95 + 2 * s) (by omega) (by omega), hm.1 108 (by omega) (by omega), hm.1 109 (by omega) (by omega), hm.1 110 (by omega) (by omega)]
    exact O.2.2.1 s hs
/-- the end of a voice -/
theorem VL.end {q i w : Int32} {p : Nat} {A B : Mem → Option (Int32 × Mem)} {c m c0 m0 : Mem} (h : VL q i w p A B) (hp : p ≤ 40) (O : RO c m k) (s : RS c m S) (hc : VC c c0) (hm : VM m m0) (T : TV c0 m0 q i w 0) : PR (A c0) (B m0) c m k := by
  obtain ⟨r, c', m', n', a, b, e, T', x, y⟩ := h c0 m0 0 (by omega) T
  exact PR.tr O a b s (hc.tr x) (hm.tr y) ⟨n', by omega, T'.1, T'.2.1, T'.2.2.1⟩
theorem P_voice (hN : 1000 ≤ N) (H : RR c m k) (x1 x2 x3 : Int32) : PR (F_X6_voice N 0 x1 x2 x3 c) (F_X7_voice N 102 x1 x2 x3 m) c m k := by
  obtain ⟨⟨S, s⟩, O⟩ := H
  unfold F_X6_voice F_X7_voice
  rcases cl_cs s.2.2.1 x1 with ⟨⟨i, hi, hi2, rfl⟩, e1, e2⟩ | ⟨e1, e2⟩
  · rw [e1 c s.1.1, e2 m s.2.1]
    simp only [bnd_s, i10, if_false]
    rcases in_cs x2 0 3 with ⟨q, e3, e4⟩ | ⟨q, e3, e4⟩
    · simp only [e3, e4, bnd_s, i10, if_false, bnd_id, sq_h, gin_n _ hi (show 8 < 2 ^ 31 by omega), ca1 i (show i < 2 ^ 31 by omega)]
      have hW := s.2.2.1.2.2.2.2.2 i hi
      obtain ⟨kd, hkd, ekd⟩ := nat_of (n := 6) (by decide) (show 0 ≤ S i 0 from hW.1) (show S i 0 ≤ 6 from hW.2.1)
      have r1 : RowR (upm m 102 20 0 103) S := by rw [upm_off 103 (by omega)]; exact s.2.1
      rw [show F_X7_its 102 (nI i) (0 : Int32) (upm m 102 20 0) = _ from M_its (f := 0) r1 hi (by omega), bnd_s]
      have r2 : RowR (upm (upm (upm m 102 20 0) 102 21 (S i 0)) 102 22 (nI i) 103) S := by rw [upm_off 103 (by omega), upm_off 103 (by omega)]; exact r1
      rw [show F_X7_its 102 (nI i) (1 : Int32) (upm (upm (upm m 102 20 0) 102 21 (S i 0)) 102 22 (nI i)) = _ from M_its (f := 1) r2 hi (by omega), bnd_s]
      unfold F_X5_speak
      simp only [sq_h, bnd_id]
      have g1 : upm c (0 + 91) 1 0 (ca 1 i) 0 = S i 0 := by rw [upm_off _ (by unfold ca; omega)]; exact C_0 s.1.1 hi
      rw [g1]
      have g2 : upm (upm (upm c (0 + 91) 1 0) (0 + 91) 2 (S i 0)) (0 + 91) 3 (nI i) (ca 1 i) 1 = S i 1 := by rw [upm_off _ (by unfold ca; omega), upm_off _ (by unfold ca; omega), upm_off _ (by unfold ca; omega)]; exact C_m s.1.1 hi
      rw [g2]
      rw [show 0 + 91 = 91 from rfl]
      generalize hc0 : upm (upm (upm (upm c 91 1 0) 91 2 (S i 0)) 91 3 (nI i)) 91 4 (S i 1) = c0
      generalize hm0 : upm (upm (upm (upm m 102 20 0) 102 21 (S i 0)) 102 22 (nI i)) 102 23 (S i 1) = m0
      have hc : VC c c0 := fun k h1 h2 => by rw [← hc0, upm_off k h1, upm_off k h1, upm_off k h1, upm_off k h1]
      have hm : VM m m0 := ⟨fun k h1 h2 => by rw [← hm0, upm_off k h1, upm_off k h1, upm_off k h1, upm_off k h1], fun j hj => by
        rw [← hm0]
        simp only [upm]
        rw [if_neg (by omega), if_neg (by omega), if_neg (by omega), if_neg (by omega)]⟩
      have T : TV c0 m0 (S i 0) (nI i) (S i 1) 0 := by
        refine ⟨?_, ?_, fun j hj => by omega, ?_, ?_, ?_, ?_, ?_, ?_⟩
        all_goals first | rw [← hc0]; simp [upm]; done | rw [← hm0]; simp [upm]; done | (rw [← hc0]; simp [upm]; rfl) | (rw [← hm0]; simp [upm]; rfl)
      clear hc0 hm0 g1 g2 r1 r2
      obtain ⟨n, rfl⟩ : ∃ n, N = n + 10 := ⟨N - 10, by omega⟩
      obtain ⟨a, ha, rfl⟩ := nat_of (n := 3) (by decide) q.1 q.2
      have hq : ∃ k, k < 7 ∧ S i 0 = nI k := ⟨kd, by omega, ekd⟩
      rcases (show a = 0 ∨ a = 1 ∨ a = 2 ∨ a = 3 by omega) with rfl | rfl | rfl | rfl
      · rw [if_pos (by decide)]
        exact (vo_0 (w := S i 1) (i := nI i) (N := n + 10) (f := 41) (n := n) (d := 0) hq (by omega) x3).end (by omega) O s hc hm T
      · rw [if_neg (by decide), if_pos (by decide)]
        exact (vo_1 (w := S i 1) (i := nI i) (N := n + 10) (f := 38) (n := n) (d := 0) hq (by omega) x3).end (by omega) O s hc hm T
      · rw [if_neg (by decide), if_neg (by decide), if_pos (by decide)]
        exact (vo_2 (w := S i 1) (i := nI i) (N := n + 10) (f := 40) (n := n) (d := 0) hq (by omega) x3).end (by omega) O s hc hm T
      · rw [if_neg (by decide), if_neg (by decide), if_neg (by decide)]
        exact (vo_3 (w := S i 1) (i := nI i) (N := n + 10) (f := 36) (n := n) (d := 0) hq (by omega) x3).end (by omega) O s hc hm T
    · simp only [e3, e4, bnd_s, bnd_id, if_true]
      exact PR.er O (Or.inl rfl) s CF.rf MF.rf rfl rfl
  · rw [e1 c s.1.1, e2 m s.2.1]
    simp only [bnd_s, bnd_id, if_true]
    exact PR.er O (Or.inl rfl) s CF.rf MF.rf rfl rfl
end PV
