/-! WHAT IS THOUGHT, AND KEPT -/
theorem hourL_7 {S : Mem} {w : Int32} : ∀ n, n ≤ 8 → ∀ i, i < 8 → s_hourL S w n i 7 = S i 7 := by
  intro n
  induction n with
  | zero => intro _ i _; rfl
  | succ n ih =>
    intro hn i hi
    rw [s_hourL]
    split
    · by_cases q : i = n
      · subst q
        rw [(pass_keeps hi w).2]
        exact ih (by omega) i hi
      · rw [(pass_keeps (by omega) w).1 i 7 q (by omega)]
        exact ih (by omega) i hi
    · exact ih (by omega) i hi
theorem hrs_7 {S : Mem} (hW : WS S) (hh : S 8 1 ≤ 10000) : ∀ n, n ≤ 1000 → ∀ i, i < 8 → s_hrs S n i 7 = S i 7 := by
  intro n
  induction n with
  | zero => intro _ i _; rfl
  | succ n ih =>
    intro hn i hi
    have h1 := (hW.hrs hh n (by omega)).1
    obtain ⟨M, hM, e0, ex0⟩ := made_of h1
    show s_hour (s_hrs S n) _ i 7 = _
    unfold s_hour
    rw [ex0]
    simp only [upm]
    rw [if_neg (by omega), hourL_7 M hM i hi]
    exact ih (by omega) i hi
/-- the Model's work in its row, the row put back after -/
def MB (m m' : Mem) : Prop := (∀ q, q ≠ 102 → q ≠ 103 → m' q = m q) ∧ ∀ j, (j < 7 ∨ 15 ≤ j) → m' 102 j = m 102 j
theorem MB.rf {m : Mem} : MB m m := ⟨fun _ _ _ => rfl, fun _ _ => rfl⟩
theorem MB.tr {a b d : Mem} (x : MB a b) (y : MB b d) : MB a d := ⟨fun q h1 h2 => (y.1 q h1 h2).trans (x.1 q h1 h2), fun j hj => (y.2 j hj).trans (x.2 j hj)⟩
theorem MB.of3 {a b : Mem} (x : E103 a b) : MB a b := ⟨fun q _ h => x q h, fun j _ => by rw [x 102 (by omega)]⟩
theorem MB.of2 {a b : Mem} (x : E102 a b) : MB a b := ⟨fun q h _ => x.1 q h, x.2⟩
theorem M_there {m S : Mem} {N : Nat} (hN : 1000 ≤ N) (R : RowR (m 103) S) : ∃ m1, F_X7_moveAll N 102 103 262 105 262 m = some ((), m1) ∧ RowR (m1 103) S ∧ MF m m1 ∧ ∀ m2, MB m1 m2 → ∃ m3, F_X7_moveAll N 102 105 262 103 262 m2 = some ((), m3) ∧ RowR (m3 103) S ∧ MF m m3 := by
  obtain ⟨m1, a1, a2, a3⟩ := M_all (h := m) (a := 103) (b := 105) hN (by omega)
  refine ⟨m1, a1, by rw [a3 103 (by omega)]; exact R, MF.ofk a3 (by omega), fun m2 hB => ?_⟩
  obtain ⟨m3, b1, b2, b3⟩ := M_all (h := m2) (a := 105) (b := 103) hN (by omega)
  refine ⟨m3, b1, fun j hj => ?_, ?_⟩
  · rw [b2 j hj, hB.1 105 (by omega) (by omega), a2 j hj]
    exact R j hj
  · refine (MF.ofk a3 (by omega)).tr (MF.tr (b := m2) ⟨fun q h1 h2 _ _ _ => hB.1 q h1 h2, hB.2⟩ (MF.ofk b3 (by omega)))
section P6
variable {c m S : Mem} {k N : Nat}
theorem C_there (hN : 1000 ≤ N) (R : SkyR c 1 S) (W : WS S) : ∃ c1, F_X2_takeFrom N (0 + 57) (0 + 1) c = some ((), c1) ∧ SkyR c1 57 S ∧ SkyR c1 1 S ∧ FS 57 c c1 := by
  obtain ⟨c1, a1, a2, a3⟩ := C_take (k0 := 57) (k1 := 1) hN (Or.inr (Or.inr ⟨rfl, rfl⟩)) R W
  exact ⟨c1, a1, a2, R.cg (fun q h1 h2 => a3 q (by omega)), a3⟩
theorem FS.rf {q : Nat} {h : Mem} : FS q h h := fun _ _ => rfl
theorem FS.tr {q : Nat} {a b d : Mem} (x : FS q a b) (y : FS q b d) : FS q a d := fun k hk => (y k hk).trans (x k hk)
theorem SkyR.off57 {h h' : Mem} (R : SkyR h 1 S) (F : FS 57 h h') : SkyR h' 1 S := R.cg (fun q h1 h2 => F q (by omega))
theorem P_image (hN : 1000 ≤ N) (hk : k < 2000) (H : RR c m k) : PR (F_X6_image N 0 c) (F_X7_image N 102 m) c m k := by
  obtain ⟨⟨S, s⟩, O⟩ := H
  unfold F_X6_image F_X7_image
  obtain ⟨c1, a1, a2, a3⟩ := C_take (k0 := 29) (k1 := 1) hN (Or.inl ⟨rfl, rfl⟩) s.1 s.2.2.1
  obtain ⟨m1, b1, b2, b3⟩ := M_all (h := m) (a := 103) (b := 104) hN (by omega)
  rw [show F_X2_takeFrom N (0 + 29) (0 + 1) c = _ from a1, show F_X7_moveAll N 102 (102 + 1) 262 (102 + 2) 262 m = _ from b1, bnd_s, bnd_s]
  simp only [sq_h]
  obtain ⟨⟨K, n, hn, k1, k2, k3, k4⟩, hF, hS, n2, hn2, t1, t2, t3⟩ := O
  have e1 : c1 0 3 = nI n := by rw [a3 0 (by omega)]; exact k1
  have e2 : upm m1 102 4 1 102 5 = nI n := by
    rw [show upm m1 102 4 1 102 5 = m1 102 5 by simp [upm], b3 102 (by omega)]
    exact k2
  rw [e1, e2, nI_1]
  refine ⟨nI (n + 1), upm c1 0 3 (nI (n + 1)), upm (upm m1 102 4 1) 102 5 (nI (n + 1)), ?_, ?_, ⟨⟨S, ?_⟩, ⟨S, n + 1, by omega, ?_, ?_, ?_, fun _ => ⟨?_, ?_, s.2.2⟩⟩, ?_, ?_, n2, hn2, ?_, ?_, ?_⟩, ?_, ?_⟩
  · exact congrArg (fun z => some (z, upm c1 0 3 (nI (n + 1)))) (by simp [upm])
  · exact congrArg (fun z => some (z, upm (upm m1 102 4 1) 102 5 (nI (n + 1)))) (by simp [upm])
  · refine ⟨s.1.cg (fun q h1 h2 => by rw [upm_off q (by omega), a3 q (by omega)]), ?_, s.2.2⟩
    rw [upm_off 103 (by omega), upm_off 103 (by omega), b3 103 (by omega)]
    exact s.2.1
  · simp [upm]
  · simp [upm]
  · simp [upm]
  · exact a2.cg (fun q h1 h2 => upm_off q (by omega))
  · rw [upm_off 104 (by omega), upm_off 104 (by omega)]
    exact fun j hj => by rw [b2 j hj]; exact s.2.1 j hj
  · intro j hj
    rw [upm_off 93 (by omega), upm_off 107 (by omega), upm_off 107 (by omega), a3 93 (by omega), b3 107 (by omega)]
    exact hF j hj
  · intro z hz
    rw [upm_off (94 + 2 * z) (by omega), upm_off (95 + 2 * z) (by omega), upm_off 108 (by omega), upm_off 108 (by omega), upm_off 109 (by omega), upm_off 109 (by omega), upm_off 110 (by omega), upm_off 110 (by omega), a3 (94 + 2 * z) (by omega), a3 (95 + 2 * z) (by omega), b3 108 (by omega), b3 109 (by omega), b3 110 (by omega)]
    exact hS z hz
  · rw [upm_off 91 (by omega), a3 91 (by omega)]; exact t1
  · rw [show upm (upm m1 102 4 1) 102 5 (nI (n + 1)) 102 20 = m1 102 20 by simp [upm], b3 102 (by omega)]; exact t2
  · intro j hj
    rw [upm_off 92 (by omega), upm_off 112 (by omega), upm_off 112 (by omega), a3 92 (by omega), b3 112 (by omega)]
    exact t3 j hj
  · intro q hq
    rw [upm_off q (by omega), a3 q (by omega)]
  · intro q hq
    rw [upm_off q (by omega), upm_off q (by omega), b3 q (by omega)]
theorem P_restore (hN : 1000 ≤ N) (hk : k < 2000) (H : RR c m k) : PR (F_X6_restore N 0 c) (F_X7_restore N 102 m) c m k := by
  obtain ⟨⟨S, s⟩, O⟩ := H
  unfold F_X6_restore F_X7_restore
  have O' := O
  obtain ⟨⟨K, n, hn, k1, k2, k3, k4⟩, hF, hS, n2, hn2, t1, t2, t3⟩ := O
  rw [k1, k3]
  by_cases q : n = 0
  · subst q
    rw [if_pos (show nI 0 = 0 from rfl), if_pos (show (if (0 : Nat) = 0 then (0 : Int32) else 1) = 0 from rfl), bnd_id, bnd_id]
    exact PR.er O' (Or.inr (Or.inl rfl)) s CF.rf MF.rf rfl rfl
  · have hne : ¬ nI n = 0 := fun z => q (by have := congrArg ix z; rw [ix_n (by omega)] at this; exact this)
    rw [if_neg hne, if_neg (show ¬ (if n = 0 then (0 : Int32) else 1) = 0 by rw [if_neg q]; decide)]
    obtain ⟨K1, K2, K3⟩ := k4 q
    obtain ⟨c1, a1, a2, a3⟩ := C_take (k0 := 1) (k1 := 29) hN (Or.inr (Or.inl ⟨rfl, rfl⟩)) K1 K3.1
    obtain ⟨m1, b1, b2, b3⟩ := M_all (h := m) (a := 104) (b := 103) hN (by omega)
    rw [show F_X2_takeFrom N (0 + 1) (0 + 29) c = _ from a1, show F_X7_moveAll N 102 (102 + 2) 262 (102 + 1) 262 m = _ from b1, bnd_s, bnd_s, gin_d _ (by decide)]
    have hR : RowR (m1 103) K := fun j hj => by rw [b2 j hj]; exact K2 j hj
    exact PR.ok O' (r := K 8 1) (by rw [show c1 (0 + 1) 4 = K 8 1 from C_hour a2.1]) (by rw [show m1 (102 + 1) (ix (1 : Int32)) = K 8 1 from M_row (j := 1) hR (by omega)]) ⟨a2, hR, K3⟩ (CF.of1 a3) (MF.ofk b3 (by omega))
theorem l6_cs {x : Int32} (h : (2 ≤ x ∧ x ≤ 6) ∨ x = 8) : x = 2 ∨ x = 3 ∨ x = 4 ∨ x = 5 ∨ x = 6 ∨ x = 8 := by grind
/-- a fact of a sky, of those that hours change -/
theorem C_fact6 {g : Mem} {q i : Nat} (R : SkyR g q S) (W : WS S) (hi : i < 8) {x : Int32} (hx : (2 ≤ x ∧ x ≤ 6) ∨ x = 8) : F_X2_factOf N q (nI i) x g = some (if x = 8 then s_taste S i else S i (ix x), g) := by
  unfold F_X2_factOf
  rw [gin_n _ hi (by omega)]
  simp only [ca_eq q i (by omega)]
  rcases l6_cs hx with rfl | rfl | rfl | rfl | rfl | rfl
  · simp +decide only [if_true, if_false]
    rw [C_2 R.1 hi]
    rfl
  · simp +decide only [if_true, if_false]
    rw [C_3 R.1 hi]
    rfl
  · simp +decide only [if_true, if_false, bnd_id]
    exact C_saltAt (s := 0) R.1 hi (by omega)
  · simp +decide only [if_true, if_false, bnd_id]
    exact C_saltAt (s := 1) R.1 hi (by omega)
  · simp +decide only [if_true, if_false, bnd_id]
    exact C_saltAt (s := 2) R.1 hi (by omega)
  · simp +decide only [if_true, if_false, bnd_id]
    exact C_taste R.1 hi (W.2.2.2.2.2 i hi)
theorem P_then (hN : 1000 ≤ N) (H : RR c m k) (x1 x2 x3 : Int32) : PR (F_X6_then N 0 x1 x2 x3 c) (F_X7_then N 102 x1 x2 x3 m) c m k := by
  obtain ⟨⟨S, s⟩, O⟩ := H
  unfold F_X6_then F_X7_then
  have key1 : ∀ kt : Int32 → Mem → Option (Int32 × Mem), (bnd (F_X6_within x3 (2 : Int32) (6 : Int32) c) (fun r1 h2 => jn kt (fun j3 => (if r1 = 0 then (if x3 = (8 : Int32) then (j3 (1 : Int32) h2) else (j3 (0 : Int32) h2)) else (j3 (1 : Int32) h2))))) = kt (if (2 ≤ x3 ∧ x3 ≤ 6) ∨ x3 = 8 then 1 else 0) c := by
    intro kt
    rcases in_cs x3 2 6 with ⟨q, e1, e2⟩ | ⟨q, e1, e2⟩
    · rw [e1, bnd_s, if_pos (show (2 ≤ x3 ∧ x3 ≤ 6) ∨ x3 = 8 from Or.inl q)]
      rfl
    · rw [e1, bnd_s]
      by_cases q8 : x3 = 8
      · rw [if_pos (show (2 ≤ x3 ∧ x3 ≤ 6) ∨ x3 = 8 from Or.inr q8), jn_e, if_pos rfl, if_pos q8]
      · rw [if_neg (show ¬ ((2 ≤ x3 ∧ x3 ≤ 6) ∨ x3 = 8) from fun z => z.elim q q8), jn_e, if_pos rfl, if_neg q8]
  rw [key1]
  clear key1
  rcases in_cs x1 0 200 with ⟨q, e1, e2⟩ | ⟨q, e1, e2⟩
  · obtain ⟨n, hn, rfl⟩ := nat_of (n := 200) (by decide) q.1 q.2
    simp only [e1, e2, bnd_s, i10, if_false, bnd_id]
    rcases cl_cs s.2.2.1 x2 with ⟨⟨i, hi, hiM, rfl⟩, g1, g2⟩ | ⟨g1, g2⟩
    · rw [g1 c s.1.1, g2 m s.2.1]
      simp only [bnd_s, i10, if_false]
      by_cases q3 : (2 ≤ x3 ∧ x3 ≤ 6) ∨ x3 = 8
      · have h06 : ¬ x3 = 8 → 0 ≤ x3 ∧ x3 ≤ 6 := fun z => ⟨Int32.le_trans (show (0 : Int32) ≤ 2 by decide) (q3.resolve_right z).1, (q3.resolve_right z).2⟩
        rw [if_pos q3, if_neg (show ¬ (1 : Int32) = 0 by decide)]
        obtain ⟨c1, a1, a2, a2', a3⟩ := C_there hN s.1 s.2.2.1
        obtain ⟨c2, b1, b2, b3⟩ := C_hrsR (q := 0 + 57) hN a2 s.2.2.1 s.2.2.2.1 (n := n) (by omega)
        have W := (s.2.2.1.hrs s.2.2.2.1 n (by omega)).1
        rw [a1, bnd_s, b1, bnd_s]
        obtain ⟨m1, d1, d2, d2', d3⟩ := M_there hN s.2.1
        have fin : PR (F_X2_factOf N (0 + 57) (nI i) x3 c2) (bnd (F_X7_moveAll N 102 (102 + 1) 262 (102 + 3) 262 m) (fun _ h14 => (F_X7_then_57 N 102 (nI n) (nI i) x3 (fun (h19 : Mem) => (jn (fun (s21 : Int32) (h22 : Mem) => (bnd (F_X7_moveAll N 102 (102 + 3) 262 (102 + 1) 262 h22) (fun _ h24 => (some (s21, h24))))) (fun j20 => (if x3 = (8 : Int32) then (bnd (F_X7_tasteOf 102 (nI i) h19) (fun r25 h26 => (j20 r25 h26))) else (bnd (F_X7_its 102 (nI i) x3 h19) (fun r27 h28 => (j20 r27 h28))))))) N (0 : Int32) h14))) c m k := by
          rw [show F_X7_moveAll N 102 (102 + 1) 262 (102 + 3) 262 m = _ from d1, bnd_s]
          obtain ⟨m2, f1, f2, f3⟩ := M_then57 hN d2 s.2.2.1 s.2.2.2.1 (k := n) (by omega) (nI i) x3 (fun (h19 : Mem) => (jn (fun (s21 : Int32) (h22 : Mem) => (bnd (F_X7_moveAll N 102 (102 + 3) 262 (102 + 1) 262 h22) (fun _ h24 => (some (s21, h24))))) (fun j20 => (if x3 = (8 : Int32) then (bnd (F_X7_tasteOf 102 (nI i) h19) (fun r25 h26 => (j20 r25 h26))) else (bnd (F_X7_its 102 (nI i) x3 h19) (fun r27 h28 => (j20 r27 h28)))))))
          rw [f1]
          obtain ⟨m3, o1, o2, o3⟩ := d3 m2 (MB.of3 f3)
          have eb : ∀ v : Int32, (bnd (F_X7_moveAll N 102 (102 + 3) 262 (102 + 1) 262 m2) (fun _ h24 => (some (v, h24)))) = some (v, m3) := fun v => by
            rw [show F_X7_moveAll N 102 (102 + 3) 262 (102 + 1) 262 m2 = _ from o1, bnd_s]
          have SR : RS c2 m3 S := ⟨a2'.off57 b3.FS, o2, s.2.2⟩
          refine PR.ok O (C_fact6 b2 W hi q3) ?_ SR ((CF.of57 a3).tr (CF.of57 b3.FS)) o3
          rw [jn_e]
          by_cases q8 : x3 = 8
          · rw [if_pos q8, if_pos q8, M_tasteOf f2 hi, bnd_s]
            exact eb _
          · rw [if_neg q8, if_neg q8]
            obtain ⟨f, hf, rfl⟩ := nat_of (x := x3) (m := 6) (n := 6) (by decide) (h06 q8).1 (h06 q8).2
            rw [M_its f2 hi (by omega), bnd_s, ix_n (by omega)]
            exact eb _
        rcases in_cs x3 2 6 with ⟨z, e3, e4⟩ | ⟨z, e3, e4⟩
        · rw [e4, bnd_s, jn_e, if_neg (by decide)]
          exact fin
        · rw [e4, bnd_s, jn_e, if_pos rfl, if_pos (q3.resolve_left z)]
          exact fin
      · rw [if_neg q3, if_pos rfl]
        rcases in_cs x3 2 6 with ⟨z, e3, e4⟩ | ⟨z, e3, e4⟩
        · exact absurd (Or.inl z) q3
        · rw [e4, bnd_s, jn_e, if_pos rfl, if_neg (fun z8 => q3 (Or.inr z8))]
          exact PR.er O (Or.inl rfl) s CF.rf MF.rf rfl rfl
    · rw [g1 c s.1.1, g2 m s.2.1]
      simp only [bnd_s, bnd_id, if_true]
      exact PR.er O (Or.inl rfl) s CF.rf MF.rf rfl rfl
  · simp only [e1, e2, bnd_s, bnd_id, if_true]
    exact PR.er O (Or.inl rfl) s CF.rf MF.rf rfl rfl
end P6
