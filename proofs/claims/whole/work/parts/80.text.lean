section PT
variable {c m S : Mem} {k N : Nat}
theorem lay_ro {S : Mem} {x : Nat} (hx : x < 2) {u u' : Nat → Int32} (R : RowR u S) (h1 : ∀ j, j < 50 → u' (162 + 50 * x + j) = u (92 + j)) (h2 : ∀ j, ¬ (162 + 50 * x ≤ j ∧ j < 212 + 50 * x) → u' j = u j) : RowR u' (rwm S (13 + x) (S 11)) := by
  intro j hj
  by_cases q : 162 + 50 * x ≤ j ∧ j < 212 + 50 * x
  · obtain ⟨i, rfl⟩ : ∃ i, j = 162 + 50 * x + i := ⟨j - (162 + 50 * x), by omega⟩
    rw [h1 i (by omega), R _ (by omega), ro_11 (by omega)]
    rcases (show x = 0 ∨ x = 1 by omega) with rfl | rfl
    · rw [show 162 + 50 * 0 + i = 162 + i by omega, ro_13 (by omega)]
      simp [rwm]
    · rw [show 162 + 50 * 1 + i = 212 + i by omega, ro_14 (by omega)]
      simp [rwm]
  · rw [h2 j q, R j hj, ro_pl, ro_pl]
    have hne : ¬ (rpl j).1 = 13 + x := by
      unfold rpl
      repeat' split
      all_goals (simp only; omega)
    simp only [rwm]
    rw [if_neg hne]
theorem lay_ws {S : Mem} {x : Nat} {f : Nat → Int32} (W : WS S) : WS (rwm S (13 + x) f) := by
  have e : ∀ a, a < 13 → rwm S (13 + x) f a = S a := fun a ha => by
    simp only [rwm]
    rw [if_neg (by omega)]
  obtain ⟨g1, g2, g3, g4, g5, g6⟩ := W
  refine ⟨?_, ?_, ?_, fun j hj => ?_, fun j hj => ?_, fun j hj => (g6 j hj).of (fun f9 _ => by rw [e j (by omega)])⟩
  · rw [e 8 (by omega)]; exact g1
  · rw [e 8 (by omega)]; exact g2
  · rw [e 8 (by omega)]; exact g3
  · rw [e 9 (by omega)]; exact g4 j hj
  · rw [e 10 (by omega)]; exact g5 j hj
theorem P_text (hN : 1000 ≤ N) (H : RR c m k) (x1 : Int32) : PR (F_X6_text N 0 x1 c) (F_X7_text N 102 x1 m) c m k := by
  obtain ⟨⟨S, s⟩, O⟩ := H
  unfold F_X6_text F_X7_text
  rcases in_cs x1 0 1 with ⟨q, e1, e2⟩ | ⟨q, e1, e2⟩
  · obtain ⟨x, hx, rfl⟩ := nat_of (n := 1) (by decide) q.1 q.2
    have hx2 : x < 2 := by omega
    have g4 : ∀ o : Option (Int32 × Mem), gin (4 : Int32) 262 o = o := fun o => gin_d o (by decide)
    have g6 : ∀ o : Option (Int32 × Mem), gin ((6 : Int32) + nI x) 262 o = o := fun o => by rw [show (6 : Int32) = nI 6 from rfl, nI_add, gin_n _ (by omega) (by omega)]
    have i6 : ix ((6 : Int32) + nI x) = 6 + x := by rw [show (6 : Int32) = nI 6 from rfl, nI_add, ix_n (by omega)]
    have i4 : ix (4 : Int32) = 4 := rfl
    obtain ⟨W1, W2, W3, W4, W5⟩ := s.2.2
    obtain ⟨e, he, ee⟩ := nat_of (n := 50) (by decide) W3.1 W3.2
    have B : BW (S 11) e := ⟨he, fun j hj => by
      obtain ⟨v, hv, ev⟩ := nat_of (n := 255) (by decide) (W5 j hj).1 (W5 j hj).2
      exact ⟨v, by omega, ev⟩⟩
    have hw : ∀ j, j < 50 → c 5 j = S 11 j := fun j hj => s.1.1.at (v_11 hj) cp_11
    simp only [e1, e2, bnd_s, i10, if_false]
    obtain ⟨m1, b1, b2, b3⟩ := M_all (h := m) (a := 103) (b := 106) hN (by omega)
    rw [show F_X7_moveAll N 102 (102 + 1) 262 (102 + 4) 262 m = _ from b1, bnd_s]
    obtain ⟨m2, d1, d2, d3, d4⟩ := M_lay (m := m1) (x := x) hx2 hN
    rw [d1]
    simp only [g4, g6, sq_h, i6, i4]
    have R1 : RowR (m1 103) S := by rw [b3 103 (by omega)]; exact s.2.1
    have R2 : RowR (m2 103) (rwm S (13 + x) (S 11)) := lay_ro hx2 R1 d2 d3
    have m24 : m2 (102 + 1) 4 = nI e := by
      show m2 103 4 = _
      rw [d3 4 (by omega), R1 4 (by omega), ro_8 (by omega), ee]
    rw [m24]
    have R3 : RowR (upm m2 (102 + 1) (6 + x) (nI e) 103) (upm (rwm S (13 + x) (S 11)) 8 (6 + x) (nI e)) := R2.um (by omega) (rp_8 (by omega))
    have by3 : ∀ j, j < 50 → upm m2 (102 + 1) (6 + x) (nI e) 103 (162 + 50 * x + j) = S 11 j := fun j hj => by
      simp only [upm]
      rw [if_neg (by omega), d2 j hj, R1 _ (by omega), ro_11 hj]
    have sz3 : upm m2 (102 + 1) (6 + x) (nI e) 103 (6 + x) = nI e := by simp [upm]
    have hM3 : MF m (upm m2 (102 + 1) (6 + x) (nI e)) := (MF.ofk (q := 106) b3 (by omega)).tr ((MF.ofk (q := 103) d4 (by omega)).tr (MF.ofk (q := 103) (fun k hk => upm_off k hk) (by omega)))
    have h106 : ∀ j, j < 262 → upm m2 (102 + 1) (6 + x) (nI e) 106 j = m 103 j := fun j hj => by
      rw [upm_off 106 (by omega), d4 106 (by omega), b2 j hj]
    generalize upm m2 (102 + 1) (6 + x) (nI e) = m3 at R3 by3 sz3 hM3 h106 ⊢
    rw [show c (0 + 1) 8 = nI e from (C_taped s.1.1).trans ee]
    rcases READ (N := N) (c := c) hN B hx2 hw with ⟨c1, z, v, t1, t2, t3, t4, t5, t6, t7⟩ | ⟨c1, f, t1, t2, t3, t4⟩
    · -- it is a text
      obtain ⟨m4, u1, u2, u3⟩ := t7 N 1 1 1 m3 hN by3 sz3
      rw [show F_X4_read N (0 + 86) (0 + 1 + 4) 50 (nI e) (nI x) c = _ from t2, bnd_s, u1, bnd_s]
      simp only [jn_e, sq_i, sq_h, u2, i10, if_false, if_true, show ((-1 : Int32) < 0) = True by decide]
      have hc2 : upm c1 (0 + 1) 8 0 87 0 = 1 := by rw [upm_off 87 (by omega)]; exact t3
      obtain ⟨c3, a1, a2, a3, a4, a5⟩ := C_tkT (h := upm c1 (0 + 1) 8 0) (d := 6 + 3 * x) (s := 87) (by omega) (by omega) (by omega) (Or.inr hc2)
      have tx : ∀ g, F_X2_textOf (0 + 1) (nI x) g = some (6 + 3 * x, g) := fun g => by
        unfold F_X2_textOf
        rcases (show x = 0 ∨ x = 1 by omega) with rfl | rfl
        · rw [if_pos nI_0]
        · rw [if_neg (by decide)]
      have gl : ∀ o : Option (Int32 × Mem), gly (6 + 3 * x) 3 o = o := fun o => by
        rcases (show x = 0 ∨ x = 1 by omega) with rfl | rfl
        · rfl
        · rfl
      rw [tx, bnd_s, gl, show F_X3_takeFrom (6 + 3 * x) (0 + 86 + 1) (upm c1 (0 + 1) 8 0) = _ from a1, bnd_s]
      have m4r : m4 103 = m3 103 := u3.1 103 (by omega)
      have R4 : RowR (m4 103) (upm (rwm S (13 + x) (S 11)) 8 (6 + x) (nI e)) := by rw [m4r]; exact R3
      have R5 := R4.um (j := 4) (by omega) (rp_8 (by omega)) (x := 0)
      have sk0 : SkyN c1 1 S := s.1.1.off (fun q h1 h2 _ => t5 q (by omega) (by omega) (by omega))
      have sk1 : SkyN c1 1 (upm (rwm S (13 + x) (S 11)) 8 (6 + x) (nI e)) := fun a f hv => by
        rw [sk0 a f hv]
        unfold V9 at hv
        simp only [upm, rwm]
        rw [if_neg (by omega), if_neg (by omega)]
      have sk2 := sk1.up (v_8 (f := 4) (by omega)) (show cpl 1 8 4 = (0 + 1, 8) from rfl) 0
      have sk3 : SkyN c3 1 (upm (upm (rwm S (13 + x) (S 11)) 8 (6 + x) (nI e)) 8 4 0) := sk2.off (fun q h1 h2 h3 => a5 q (by omega) (by omega))
      have r8 : ∀ i, i ≠ 4 → i ≠ 6 + x → upm (upm (rwm S (13 + x) (S 11)) 8 (6 + x) (nI e)) 8 4 0 8 i = S 8 i := fun i h1 h2 => by
        simp only [upm, rwm]
        rw [if_neg (by omega), if_neg (by omega), if_neg (by omega)]
      have ro : ∀ i, i ≠ 8 → i ≠ 13 + x → upm (upm (rwm S (13 + x) (S 11)) 8 (6 + x) (nI e)) 8 4 0 i = S i := fun i h1 h2 => by
        rw [upm_off i h1, upm_off i h1]
        simp only [rwm]
        rw [if_neg h2]
      have rt : upm (upm (rwm S (13 + x) (S 11)) 8 (6 + x) (nI e)) 8 4 0 (13 + x) = S 11 := by
        rw [upm_off _ (by omega), upm_off _ (by omega)]
        simp [rwm]
      have rs : upm (upm (rwm S (13 + x) (S 11)) 8 (6 + x) (nI e)) 8 4 0 8 (6 + x) = nI e := by
        simp [upm, show ¬ 6 + x = 4 by omega]
      have r4 : upm (upm (rwm S (13 + x) (S 11)) 8 (6 + x) (nI e)) 8 4 0 8 4 = 0 := by simp [upm]
      have WW : WF (upm (upm (rwm S (13 + x) (S 11)) 8 (6 + x) (nI e)) 8 4 0) := by
        have w2 := (lay_ws (x := x) (f := S 11) W1).upg (a := 8) (f := 6 + x) (x := nI e) (by omega) (fun _ z => by omega) (fun _ z => by omega) (fun _ z => by omega) (fun z => by omega) (fun z => by omega)
        have w3 := w2.upg (a := 8) (f := 4) (x := 0) (by omega) (fun _ z => by omega) (fun _ z => by omega) (fun _ z => by omega) (fun z => by omega) (fun z => by omega)
        refine ⟨w3, ?_, ?_, ?_, fun j hj => ?_⟩
        · rw [r8 1 (by omega) (by omega)]; exact W2
        · rw [r4]; decide
        · rw [r8 5 (by omega) (by omega)]; exact W4
        · rw [ro 11 (by omega) (by omega)]; exact W5 j hj
      have TX : TxR c3 1 x (upm (upm (rwm S (13 + x) (S 11)) 8 (6 + x) (nI e)) 8 4 0) := by
        have q6 : 1 + 5 + 3 * x = 6 + 3 * x := by omega
        refine Or.inr ⟨?_, e, he, rs, z, t1, ?_, fun a b d => ⟨v a b d, ?_, ?_⟩⟩
        · rw [q6, a2]; exact hc2
        · rw [q6, a3, upm_off 87 (by omega)]; exact t4
        · rw [q6]
          refine ((t6 a b d).all t1).cg (fun j hj => ?_)
          rw [a4 j hj, upm_off (87 + 1) (by omega)]
        · rw [rt]
          intro M g hM hb hs
          obtain ⟨g', y1, _, y3⟩ := t7 M a b d g hM hb hs
          exact ⟨g', y1, y3⟩
      have oth : ∀ y, y < 2 → y ≠ x → TxR c1 1 y S → TxR c3 1 y (upm (upm (rwm S (13 + x) (S 11)) 8 (6 + x) (nI e)) 8 4 0) := fun y hy hyx T => by
        have k1 : c3 (1 + 5 + 3 * y) = c1 (1 + 5 + 3 * y) := by rw [a5 _ (by omega) (by omega), upm_off _ (by omega)]
        have k2 : c3 (1 + 5 + 3 * y + 1) = c1 (1 + 5 + 3 * y + 1) := by rw [a5 _ (by omega) (by omega), upm_off _ (by omega)]
        exact T.cp (by rw [k1]) (by rw [k1]) (fun j _ => by rw [k2]) (r8 (6 + y) (by omega) (by omega)) (ro (13 + y) (by omega) (by omega))
      have sr1 : SkyR c1 1 S := s.1.cg (fun q h1 h2 => t5 q (by omega) (by omega) (by omega))
      have SR : SkyR c3 1 (upm (upm (rwm S (13 + x) (S 11)) 8 (6 + x) (nI e)) 8 4 0) := by
        rcases (show x = 0 ∨ x = 1 by omega) with rfl | rfl
        · exact ⟨sk3, TX, oth 1 (by omega) (by omega) sr1.2.2⟩
        · exact ⟨sk3, oth 0 (by omega) (by omega) sr1.2.1, TX⟩
      refine PR.ok O rfl rfl ⟨SR, R5, WW⟩ (fun q h1 h2 => ?_) (hM3.tr ((MF.of102 u3).tr (MF.ofk (q := 103) (fun k hk => upm_off k hk) (by omega))))
      rw [a5 q (by omega) (by omega), upm_off q (by omega), t5 q (by omega) (by omega) (by omega)]
    · -- it is none
      obtain ⟨r, m4, u1, u2, u3, u4⟩ := t4 N 1 1 1 m3 hN by3 sz3
      rw [show F_X4_read N (0 + 86) (0 + 1 + 4) 50 (nI e) (nI x) c = _ from t2, bnd_s, u1, bnd_s]
      simp only [jn_e, sq_i, sq_h, u2, if_true]
      rw [if_neg (nI_pos (by omega)), u3]
      obtain ⟨m5, y1, y2, y3⟩ := M_all (h := m4) (a := 106) (b := 103) hN (by omega)
      rw [show F_X7_moveAll N 102 (102 + 4) 262 (102 + 1) 262 m4 = _ from y1, bnd_s]
      have R5 : RowR (m5 103) S := fun j hj => by rw [y2 j hj, u4.1 106 (by omega), h106 j hj, s.2.1 j hj]
      have R6 := R5.um (j := 4) (by omega) (rp_8 (by omega)) (x := 0)
      have sr1 : SkyR c1 1 S := s.1.cg (fun q h1 h2 => t3 q (by omega) (by omega) (by omega))
      have sk2 := sr1.up (v_8 (f := 4) (by omega)) (show cpl 1 8 4 = (0 + 1, 8) from rfl) 0
      have WW : WF (upm S 8 4 0) := by
        have w3 := W1.upg (a := 8) (f := 4) (x := 0) (by omega) (fun _ z => by omega) (fun _ z => by omega) (fun _ z => by omega) (fun z => by omega) (fun z => by omega)
        refine ⟨w3, ?_, ?_, ?_, fun j hj => ?_⟩
        · simp [upm]; exact W2
        · simp [upm]
        · simp [upm]; exact W4
        · simp [upm]; exact W5 j hj
      refine PR.ok O rfl rfl ⟨sk2.1, R6, WW⟩ (fun q h1 h2 => ?_) (hM3.tr ((MF.of102 u4).tr ((MF.ofk (q := 103) y3 (by omega)).tr (MF.ofk (q := 103) (fun k hk => upm_off k hk) (by omega)))))
      rw [upm_off q (by omega), t3 q (by omega) (by omega) (by omega)]
  · simp only [e1, e2, bnd_s, bnd_id, if_true]
    exact PR.er O (Or.inl rfl) s CF.rf MF.rf rfl rfl
end PT
