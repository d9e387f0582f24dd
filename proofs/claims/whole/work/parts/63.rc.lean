/-! one memory for both -/
theorem RR.cg {c m c' m' : Mem} {k : Nat} (H : RR c m k) (hc : ∀ q, q < 102 → c' q = c q) (hm : ∀ q, 102 ≤ q → m' q = m q) : RR c' m' k := by
  obtain ⟨⟨S, s1, s2, s3⟩, ⟨K, n, hn, k1, k2, k3, k4⟩, hF, hS, n2, hn2, t1, t2, t3⟩ := H
  refine ⟨⟨S, s1.cg (fun q h1 h2 => hc q (by omega)), by rw [hm 103 (by omega)]; exact s2, s3⟩, ⟨K, n, hn, ?_, ?_, ?_, fun q => ?_⟩, fun j hj => ?_, fun s hs => ?_, n2, hn2, ?_, ?_, fun j hj => ?_⟩
  · rw [hc 0 (by omega)]; exact k1
  · rw [hm 102 (by omega)]; exact k2
  · rw [hm 102 (by omega)]; exact k3
  · obtain ⟨q1, q2, q3⟩ := k4 q
    exact ⟨q1.cg (fun q h1 h2 => hc q (by omega)), by rw [hm 104 (by omega)]; exact q2, q3⟩
  · rw [hc 93 (by omega), hm 107 (by omega)]; exact hF j hj
  · rw [hc (94 + 2 * s) (by omega), hc (95 + 2 * s) (by omega), hm 108 (by omega), hm 109 (by omega), hm 110 (by omega)]; exact hS s hs
  · rw [hc 91 (by omega)]; exact t1
  · rw [hm 102 (by omega)]; exact t2
  · rw [hc 92 (by omega), hm 112 (by omega)]; exact t3 j hj
/-- a call of the law: class, then Model, on one memory -/
theorem PR.one {A : Mem → Option (Int32 × Mem)} {B : Mem → Option (Int32 × Mem)} {h : Mem} {k : Nat} (H : RR h h k) (P : ∀ c m, RR c m k → PR (A c) (B m) c m k) : ∃ r h1 h2, A h = some (r, h1) ∧ B h1 = some (r, h2) ∧ RR h2 h2 (k + 1) := by
  obtain ⟨r, c', m', a, b, R, co, mo⟩ := P h h H
  obtain ⟨r2, c2, m2, a2, b2, R2, co2, mo2⟩ := P h c' (H.cg (fun _ _ => rfl) (fun q hq => co q hq))
  rw [a] at a2
  simp only [Option.some.injEq, Prod.mk.injEq] at a2
  obtain ⟨rfl, rfl⟩ := a2
  exact ⟨r, c', m2, a, b2, R2.cg (fun q hq => mo2 q hq) (fun _ _ => rfl)⟩
theorem RR.up {c m : Mem} {k : Nat} (H : RR c m k) : RR c m (k + 1) := by
  obtain ⟨s, ⟨K, n, hn, r⟩, r2⟩ := H
  exact ⟨s, ⟨K, n, by omega, r⟩, r2⟩
