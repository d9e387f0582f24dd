section P5
variable {c m S : Mem} {k N : Nat}
theorem C_hrsR {h : Mem} {q : Nat} (hN : 1000 ≤ N) (R : SkyR h q S) (hW : WS S) (hh : S 8 1 ≤ 10000) {n : Nat} (hn : n ≤ 900) : ∃ h', F_X2_passHours N q (nI n) h = some ((), h') ∧ SkyR h' q (s_hrs S n) ∧ FT q h h' := by
  obtain ⟨h', e, R', F⟩ := C_hrs hN R.1 hW hh hn
  obtain ⟨w1, w2, w3⟩ := hW.hrs hh n (by omega)
  exact ⟨h', e, R.ft R' F (w3 8 6 (by omega) (by omega) (by omega)) (w3 8 7 (by omega) (by omega) (by omega)) (by funext f; exact w3 13 f (by omega) (by omega) (by omega)) (by funext f; exact w3 14 f (by omega) (by omega) (by omega)), F⟩
theorem WF.hrs (W : WF S) {n : Nat} (hn : n ≤ 900) (hb : S 8 1 + nI n ≤ 10000) : WF (s_hrs S n) := by
  obtain ⟨w1, w2, w3⟩ := W.1.hrs W.2.1 n (by omega)
  refine ⟨w1, by rw [w2]; exact hb, ?_, ?_, fun j hj => ?_⟩
  · rw [w3 8 4 (by omega) (by omega) (by omega)]; exact W.2.2.1
  · rw [w3 8 5 (by omega) (by omega) (by omega)]; exact W.2.2.2.1
  · rw [w3 11 j (by omega) (by omega) (by omega)]; exact W.2.2.2.2 j hj
theorem WF.lse (W : WF S) {n : Nat} (hn : n ≤ 900) (hb : S 8 1 + nI n ≤ 10000) : WF (s_lse S n) := by
  obtain ⟨w1, w2, w3⟩ := W.1.lse W.2.1 n (by omega)
  refine ⟨w1, by rw [w2]; exact hb, ?_, ?_, fun j hj => ?_⟩
  · rw [w3 8 4 (by omega) (by omega) (by omega) (by omega)]; exact W.2.2.1
  · rw [w3 8 5 (by omega) (by omega) (by omega) (by omega)]; exact W.2.2.2.1
  · rw [w3 11 j (by omega) (by omega) (by omega) (by omega)]; exact W.2.2.2.2 j hj
theorem P_law (hN : 1000 ≤ N) (H : RR c m k) (x1 x2 x3 x4 : Int32) : PR (F_X6_law N 0 x1 x2 x3 x4 c) (F_X7_law N 102 x1 x2 x3 x4 m) c m k := by
  obtain ⟨⟨S, s⟩, O⟩ := H
  unfold F_X6_law F_X7_law
  rcases in_cs x1 0 1 with ⟨q, e1, e2⟩ | ⟨q, e1, e2⟩
  · obtain ⟨x, hx, rfl⟩ := nat_of (n := 1) (by decide) q.1 q.2
    simp only [e1, e2, bnd_s, i10, if_false, bnd_id]
    obtain ⟨m', b1, b2⟩ := M_lawOf hN s.1 s.2.1 (x := x) (by omega) x2 x3 x4
    rcases (show x = 0 ∨ x = 1 by omega) with rfl | rfl
    · obtain ⟨c', a1, a2⟩ := C_nameBy hN s.1 x2 x3 x4
      rw [if_pos (show nI 0 = 0 from rfl)]
      exact PR.ok O a1 b1 (s.fk a2 b2) (CF.of1 a2.FS) (MF.of102 b2)
    · obtain ⟨c', a1, a2⟩ := C_debtBy hN s.1 x2 x3 x4
      rw [if_neg (show ¬ nI 1 = 0 by decide)]
      exact PR.ok O a1 b1 (s.fk a2 b2) (CF.of1 a2.FS) (MF.of102 b2)
  · simp only [e1, e2, bnd_s, bnd_id, if_true]
    exact PR.er O (Or.inl rfl) s CF.rf MF.rf rfl rfl
theorem C_errH (s : RS c m S) (x1 : Int32) : F_X6_errorOfHours 0 x1 c = some (if 1 ≤ x1 ∧ x1 ≤ 200 then (if S 8 1 + x1 ≤ 9999 then 0 else -1000000003) else -1000000001, c) := by
  unfold F_X6_errorOfHours
  rcases in_cs x1 1 200 with ⟨q, e1, e2⟩ | ⟨q, e1, e2⟩
  · simp only [e1, bnd_s, i10, if_false]
    rw [if_pos q, show c (0 + 1) 4 = S 8 1 from C_hour s.1.1]
    split <;> rfl
  · simp only [e1, bnd_s, if_true]
    rw [if_neg q]
theorem P_hours (hN : 1000 ≤ N) (H : RR c m k) (x1 : Int32) : PR (F_X6_hours N 0 x1 c) (F_X7_hours N 102 x1 m) c m k := by
  obtain ⟨⟨S, s⟩, O⟩ := H
  unfold F_X6_hours F_X7_hours F_X7_goes
  rw [C_errH s, bnd_s, bnd_id]
  rcases in_cs x1 1 200 with ⟨q, e1, e2⟩ | ⟨q, e1, e2⟩
  · simp only [e2, bnd_s, i10, if_false]
    rw [if_pos q, gin_d _ (by decide), show m (102 + 1) (ix (1 : Int32)) = S 8 1 from M_row (j := 1) s.2.1 (by omega)]
    by_cases q2 : S 8 1 + x1 ≤ 9999
    · rw [if_pos q2, if_pos rfl, if_pos q2]
      obtain ⟨n, hn, rfl⟩ := nat_of (n := 200) (by decide) (show 0 ≤ x1 by grind) q.2
      obtain ⟨c1, a1, a2, a3⟩ := C_hrsR (q := 0 + 1) hN s.1 s.2.2.1 s.2.2.2.1 (n := n) (by omega)
      have W := s.2.2.hrs (n := n) (by omega) (by grind)
      obtain ⟨c2, b1, b2⟩ := C_nobodies hN a2 W.1
      rw [a1, bnd_s, b1, bnd_s]
      obtain ⟨m1, d1, d2, d3⟩ := M_goes0 hN s.2.1 s.2.2.1 s.2.2.2.1 (k := n) (by omega) (fun h13 => (bnd (F_X7_nobodies N 102 h13) (fun r14 h15 => (some (r14, h15)))))
      rw [d1]
      obtain ⟨m2, f1, f2⟩ := M_nobodies hN a2 d2 W.1
      rw [f1, bnd_s]
      exact PR.ok O rfl rfl ⟨a2.fk b2, f2.row d2, W⟩ ((CF.of1 a3.FS).tr (CF.of1 b2.FS)) ((MF.of103 d3).tr (MF.of102 f2))
    · rw [if_neg q2, if_neg (by decide), if_neg q2, bnd_id, bnd_id]
      exact PR.er O (Or.inr (Or.inr (Or.inl rfl))) s CF.rf MF.rf rfl rfl
  · simp only [e2, bnd_s, bnd_id, if_true]
    rw [if_neg q, if_neg (by decide)]
    exact PR.er O (Or.inl rfl) s CF.rf MF.rf rfl rfl
theorem P_loose (hN : 1000 ≤ N) (H : RR c m k) (x1 : Int32) : PR (F_X6_loose N 0 x1 c) (F_X7_loose N 102 x1 m) c m k := by
  obtain ⟨⟨S, s⟩, O⟩ := H
  unfold F_X6_loose F_X7_loose F_X7_goes
  rw [C_errH s, bnd_s, bnd_id]
  rcases in_cs x1 1 200 with ⟨q, e1, e2⟩ | ⟨q, e1, e2⟩
  · simp only [e2, bnd_s, i10, if_false]
    rw [if_pos q, gin_d _ (by decide), show m (102 + 1) (ix (1 : Int32)) = S 8 1 from M_row (j := 1) s.2.1 (by omega)]
    by_cases q2 : S 8 1 + x1 ≤ 9999
    · rw [if_pos q2, if_pos rfl, if_pos q2]
      obtain ⟨n, hn, rfl⟩ := nat_of (n := 200) (by decide) (show 0 ≤ x1 by grind) q.2
      obtain ⟨c1, a1, a2, a3⟩ := C_loose18 hN s.1.1 s.2.2.1 s.2.2.2.1 (k := n) (by omega) (fun h7 => (bnd (F_X2_nobodies N (0 + 1) h7) (fun r8 h9 => (some (r8, h9)))))
      have W := s.2.2.lse (n := n) (by omega) (by grind)
      have w3 := (s.2.2.1.lse s.2.2.2.1 n (by omega)).2.2
      have a4 : SkyR c1 1 (s_lse S n) := s.1.ft a2 a3 (w3 8 6 (by omega) (by omega) (by omega) (by omega)) (w3 8 7 (by omega) (by omega) (by omega) (by omega)) (by funext f; exact w3 13 f (by omega) (by omega) (by omega) (by omega)) (by funext f; exact w3 14 f (by omega) (by omega) (by omega) (by omega))
      obtain ⟨c2, b1, b2⟩ := C_nobodies hN a4 W.1
      rw [a1, show F_X2_nobodies N (0 + 1) c1 = _ from b1, bnd_s]
      obtain ⟨m1, d1, d2, d3⟩ := M_goes1 hN s.2.1 s.2.2.1 s.2.2.2.1 (k := n) (by omega) (fun h13 => (bnd (F_X7_nobodies N 102 h13) (fun r14 h15 => (some (r14, h15)))))
      rw [d1]
      obtain ⟨m2, f1, f2⟩ := M_nobodies hN a4 d2 W.1
      rw [f1, bnd_s]
      exact PR.ok O rfl rfl ⟨a4.fk b2, f2.row d2, W⟩ ((CF.of1 a3.FS).tr (CF.of1 b2.FS)) ((MF.of103 d3).tr (MF.of102 f2))
    · rw [if_neg q2, if_neg (by decide), if_neg q2, bnd_id, bnd_id]
      exact PR.er O (Or.inr (Or.inr (Or.inl rfl))) s CF.rf MF.rf rfl rfl
  · simp only [e2, bnd_s, bnd_id, if_true]
    rw [if_neg q, if_neg (by decide)]
    exact PR.er O (Or.inl rfl) s CF.rf MF.rf rfl rfl
theorem P_tell (H : RR c m k) (x1 : Int32) : PR (F_X6_tell 0 x1 c) (F_X7_tell 102 x1 m) c m k := by
  obtain ⟨⟨S, s⟩, O⟩ := H
  unfold F_X6_tell F_X7_tell
  obtain ⟨W1, W2, W3, W4, W5⟩ := s.2.2
  obtain ⟨n, hn, en⟩ := nat_of (n := 20) (by decide) W4.1 W4.2
  have g5 : ∀ o : Option (Int32 × Mem), gin (5 : Int32) 262 o = o := fun o => gin_d o (by decide)
  simp only [g5]
  rw [show c (0 + 1) 12 = S 8 5 from C_waiting s.1.1, show m (102 + 1) (ix (5 : Int32)) = S 8 5 from M_row (j := 5) s.2.1 (by omega), en]
  by_cases q : n = 20
  · subst q
    rw [if_neg (by decide), if_pos (by decide), bnd_id, bnd_id]
    exact PR.er O (Or.inr (Or.inr (Or.inr (Or.inl rfl)))) s CF.rf MF.rf rfl rfl
  · have hne : ¬ nI n = 20 := fun z => q (by have := congrArg ix z; rw [ix_n (by omega)] at this; exact this)
    have hlt : nI n < 20 := by
      have : nI n ≤ 20 := nI_le (b := 20) (by omega) (by omega)
      grind
    rw [if_pos hlt, if_neg hne, gin_n _ (show n < 20 by omega) (by omega), show (142 : Int32) = nI 142 from rfl, nI_add, gin_n _ (by omega) (by omega)]
    simp only [sq_h, ix_n (show n < 2 ^ 31 by omega), ix_n (show 142 + n < 2 ^ 31 by omega)]
    have hW1 : WS (upm S 12 n x1) := W1.upg (by omega) (fun q => by omega) (fun q => by omega) (fun q => by omega) (fun q => by omega) (fun q => by omega)
    obtain ⟨u1, u2, u3⟩ := s.up (x := x1) (v_12 (f := n) (by omega)) cp_12 (J := 142 + n) (by omega) (rp_12 (by omega)) (s.2.2.mk2 hW1 (by omega))
    have e1 : upm c (0 + 1 + 11) n x1 (0 + 1) 12 = nI n := by
      rw [show upm c (0 + 1 + 11) n x1 (0 + 1) 12 = c 1 12 by simp [upm], C_waiting s.1.1, en]
    have e2 : upm m (102 + 1) (142 + n) x1 (102 + 1) (ix (5 : Int32)) = nI n := by
      have : upm m 103 (142 + n) x1 103 5 = upm S 12 n x1 8 5 := by rw [u1.2.1 5 (by omega), ro_8 (by omega)]
      rw [show upm m (102 + 1) (142 + n) x1 (102 + 1) (ix (5 : Int32)) = upm m 103 (142 + n) x1 103 5 from rfl, this]
      simp [upm, en]
    rw [e1, e2]
    have hW2 : WS (upm (upm S 12 n x1) 8 5 (nI n + 1)) := hW1.upg (by omega) (fun _ q => by omega) (fun _ q => by omega) (fun _ q => by omega) (fun q => by omega) (fun q => by omega)
    have hF : WF (upm (upm S 12 n x1) 8 5 (nI n + 1)) := by
      refine ⟨hW2, ?_, ?_, ?_, fun j hj => ?_⟩
      · simp [upm]; exact W2
      · simp [upm]; exact W3
      · simp [upm, nI_1]
        exact ⟨nI_pos' (by omega), nI_le (b := 20) (by omega) (by omega)⟩
      · simp [upm]; exact W5 j hj
    obtain ⟨t1, t2, t3⟩ := u1.up (x := nI n + 1) (v_8 (f := 5) (by omega)) (show cpl 1 8 5 = (1, 12) from rfl) (J := 5) (by omega) (rp_8 (by omega)) hF
    refine PR.ok O (r := nI n + 1) ?_ ?_ t1 (u2.tr t2) (u3.tr t3)
    · simp [upm]
    · simp [upm]
      rfl
theorem P_trace (H : RR c m k) (x1 : Int32) : PR (F_X6_trace 0 x1 c) (F_X7_trace 102 x1 m) c m k := by
  obtain ⟨⟨S, s⟩, O⟩ := H
  obtain ⟨n, hn, t1, t2, t3⟩ := O.2.2.2
  unfold F_X6_trace F_X7_trace
  rw [show c (0 + 91) 1 = nI n from t1, t2]
  rcases in_cs x1 0 (nI n - 1) with ⟨q, e1, e2⟩ | ⟨q, e1, e2⟩
  · simp only [e1, e2, bnd_s, i10, if_false]
    have h40 : nI n ≤ 40 := nI_le (b := 40) hn (by omega)
    have h0 : 0 ≤ nI n := nI_pos' (by omega)
    obtain ⟨j, hj, rfl⟩ := nat_of (n := 39) (x := x1) (m := 39) (by decide) q.1 (by grind)
    have hjn : j < n := Nat.lt_of_not_le (fun z => by
      have : nI n ≤ nI j := nI_le z (by omega)
      grind)
    rw [gin_n _ (by omega) (by omega), gin_n _ (by omega) (by omega), ix_n (by omega)]
    refine PR.ok O (r := c 92 j) rfl ?_ s CF.rf MF.rf
    rw [t3 j hjn]
  · simp only [e1, e2, bnd_s, bnd_id, if_true]
    exact PR.er O (Or.inr (Or.inl rfl)) s CF.rf MF.rf rfl rfl
end P5
