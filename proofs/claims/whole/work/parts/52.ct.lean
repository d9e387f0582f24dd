def popx (x : Nat) : Int32 := (((((((0 + bitx (nI x) 0) + bitx (nI x) 1) + bitx (nI x) 2) + bitx (nI x) 3) + bitx (nI x) 4) + bitx (nI x) 5) + bitx (nI x) 6) + bitx (nI x) 7
def popc (x : Int32) : Int32 :=
  let v1 := x - ((iush x 1) &&& 1431655765)
  let v2 := (v1 &&& 858993459) + ((iush v1 2) &&& 858993459)
  let v3 := (v2 + (iush v2 4)) &&& 252645135
  let v4 := v3 + (iush v3 8)
  let v5 := v4 + (iush v4 16)
  v5 &&& 63
theorem pop_eq : ∀ x, x < 256 → popc (nI x) = popx x := by decide +kernel
section CT
variable {c m S : Mem} {k N : Nat}
theorem C_pop {x : Nat} (hx : x < 256) (h : Mem) : F_J6_bitCount_0f7a4 (nI x) h = some (popx x, h) := by
  rw [← pop_eq x hx]
  rfl
theorem M_pop (hN : 1000 ≤ N) {x : Nat} (hx : x < 256) (h : Mem) : F_X7_bits N (nI x) h = some (popx x, h) := by
  obtain ⟨n, rfl⟩ : ∃ n, N = n + 9 := ⟨N - 9, by omega⟩
  unfold F_X7_bits
  have st : ∀ (i q : Nat) (u : Int32) (kt : Int32 → Mem → Option (Int32 × Mem)), i < 8 → F_X7_bits_4 (n + 9) (nI x) kt (q + 1) u (nI i) h = F_X7_bits_4 (n + 9) (nI x) kt q (u + bitx (nI x) i) (nI (i + 1)) h := fun i q u kt hi => by
    rw [F_X7_bits_4, if_neg (show ¬ (8 : Int32) ≤ nI i from nI_ge (b := 8) hi (by omega)), sq_i, nI_1]
    rfl
  have e0 := st 0 (n + 8) 0 (fun v2 h3 => some (v2, h3)) (by omega)
  rw [show F_X7_bits_4 (n + 9) (nI x) (fun v2 h3 => some (v2, h3)) (n + 9) 0 0 h = _ from e0, st 1 _ _ _ (by omega), st 2 _ _ _ (by omega), st 3 _ _ _ (by omega), st 4 _ _ _ (by omega), st 5 _ _ _ (by omega), st 6 _ _ _ (by omega), st 7 _ _ _ (by omega), F_X7_bits_4, if_pos (show (8 : Int32) ≤ nI (7 + 1) by decide)]
  rfl
theorem mask_lt (hW : WS S) : s_mask S (ix (S 8 0)) < 256 := by
  obtain ⟨M, hM, e0, ex0⟩ := made_of hW
  rw [ex0]
  have := (mask_in S M hM).1
  have := pw_le hM
  omega
theorem l10_cs {x : Int32} : x = 0 ∨ x = 1 ∨ x = 2 ∨ x = 3 ∨ x = 4 ∨ x = 5 ∨ x = 6 ∨ x = 7 ∨ x = 8 ∨ x = 9 ∨ (¬ x = 0 ∧ ¬ x = 1 ∧ ¬ x = 2 ∧ ¬ x = 3 ∧ ¬ x = 4 ∧ ¬ x = 5 ∧ ¬ x = 6 ∧ ¬ x = 7 ∧ ¬ x = 8 ∧ ¬ x = 9) := by grind
theorem P_count (hN : 1000 ≤ N) (H : RR c m k) (x1 : Int32) : PR (F_X6_count N 0 x1 c) (F_X7_count N 102 x1 m) c m k := by
  obtain ⟨⟨S, s⟩, O⟩ := H
  unfold F_X6_count F_X7_count
  have row : ∀ (j : Nat) (i : Int32), j < 8 → i = nI j → gin i 262 (some (m (102 + 1) (ix i), m)) = some (S 8 j, m) := fun j i hj e => by
    subst e
    rw [gin_n _ (by omega) (by omega), M_row s.2.1 (by omega), rp_8 hj]
  rcases l10_cs (x := x1) with rfl | rfl | rfl | rfl | rfl | rfl | rfl | rfl | rfl | rfl | ⟨h0, h1, h2, h3, h4, h5, h6, h7, h8, h9⟩
  · simp +decide only [if_true, if_false]
    exact PR.ok O (by rw [show c (0 + 1) 1 = S 8 0 from C_made s.1.1]) (row 0 _ (by omega) rfl) s CF.rf MF.rf
  · simp +decide only [if_true, if_false]
    exact PR.ok O (by rw [show c (0 + 1) 4 = S 8 1 from C_hour s.1.1]) (row 1 _ (by omega) rfl) s CF.rf MF.rf
  · simp +decide only [if_true, if_false]
    exact PR.ok O (by rw [show c (0 + 1) 5 = S 8 2 from C_sea s.1.1]) (row 2 _ (by omega) rfl) s CF.rf MF.rf
  · simp +decide only [if_true, if_false, bnd_id]
    rw [show F_X2_setOfAll N (0 + 1) c = _ from C_set hN s.1.1 s.2.2.1, bnd_s, M_set hN s.2.1 s.2.2.1, bnd_s]
    exact PR.ok O (C_pop (mask_lt s.2.2.1) _) (M_pop hN (mask_lt s.2.2.1) _) s CF.rf MF.rf
  · simp +decide only [if_true, if_false, bnd_id]
    obtain ⟨c', a1, a2⟩ := C_nobodies hN s.1 s.2.2.1
    obtain ⟨m', b1, b2⟩ := M_nobodies hN s.1 s.2.1 s.2.2.1
    exact PR.ok O a1 b1 (s.fk a2 b2) (CF.of1 a2.FS) (MF.of102 b2)
  · simp +decide only [if_true, if_false, bnd_id]
    rw [show F_X2_setOfAll N (0 + 1) c = _ from C_set hN s.1.1 s.2.2.1, bnd_s]
    refine PR.ok O (C_tot (f := 0) hN s.1.1 s.2.2.1 _ (by omega)) ?_ s CF.rf MF.rf
    rw [show F_X7_sumOf N 102 (255 : Int32) (3 : Int32) m = _ from M_tot (f := 3) hN s.2.1 s.2.2.1 255 (by omega), ← tot_all s.2.2.1]
  · simp +decide only [if_true, if_false]
    exact PR.ok O (by rw [show c (0 + 1) 8 = S 8 4 from C_taped s.1.1]) (row 4 _ (by omega) rfl) s CF.rf MF.rf
  · simp +decide only [if_true, if_false]
    exact PR.ok O (by rw [show c (0 + 1) 12 = S 8 5 from C_waiting s.1.1]) (row 5 _ (by omega) rfl) s CF.rf MF.rf
  · simp +decide only [if_true, if_false]
    obtain ⟨n, hn, t1, t2, t3⟩ := O.2.2.2
    exact PR.ok O (by rw [show c (0 + 91) 1 = nI n from t1]) (by rw [t2]) s CF.rf MF.rf
  · simp +decide only [if_true, if_false]
    exact PR.ok O (by rw [show c (0 + 1) 6 = S 8 3 from C_z s.1.1]) (row 3 _ (by omega) rfl) s CF.rf MF.rf
  · rw [if_neg h0, if_neg h1, if_neg h2, if_neg h3, if_neg h4, if_neg h5, if_neg h6, if_neg h7, if_neg h8, if_neg h9, if_neg h0, if_neg h1, if_neg h2, if_neg h3, if_neg h4, if_neg h5, if_neg h6, if_neg h7, if_neg h8, if_neg h9, bnd_id, bnd_id]
    exact PR.er O (Or.inl rfl) s CF.rf MF.rf rfl rfl
theorem M_tried {m m1 : Mem} (hN : 1000 ≤ N) (R : RowR (m 103) S) (e : F_X7_moveAll N 102 103 262 105 262 m = some ((), m1)) : RowR (m1 105) S := by
  obtain ⟨m2, a1, a2, a3⟩ := M_all (h := m) (a := 103) (b := 105) hN (by omega)
  rw [a1] at e
  simp only [Option.some.injEq, Prod.mk.injEq, true_and] at e
  subst e
  exact fun j hj => by rw [a2 j hj]; exact R j hj
theorem P_check (hN : 1000 ≤ N) (H : RR c m k) : PR (F_X6_check N 0 c) (F_X7_check N 102 m) c m k := by
  obtain ⟨⟨S, s⟩, O⟩ := H
  unfold F_X6_check F_X7_check
  have g5 : ∀ o : Option (Int32 × Mem), gin (5 : Int32) 262 o = o := fun o => gin_d o (by decide)
  obtain ⟨W1, W2, W3, W4, W5⟩ := s.2.2
  obtain ⟨w, hw, ew⟩ := nat_of (n := 20) (by decide) W4.1 W4.2
  simp only [g5, sq_h, sq_i]
  rw [show c (0 + 1) 12 = nI w from (C_waiting s.1.1).trans ew, show m (102 + 1) (ix (5 : Int32)) = nI w from (M_row (j := 5) s.2.1 (by omega)).trans ew]
  -- what waits goes
  have hW1 : WS (upm S 8 5 0) := W1.upg (by omega) (fun _ q => by omega) (fun _ q => by omega) (fun _ q => by omega) (fun q => by omega) (fun q => by omega)
  have hF : WF (upm S 8 5 0) := by
    refine ⟨hW1, ?_, ?_, ?_, fun j hj => ?_⟩
    · simp [upm]; exact W2
    · simp [upm]; exact W3
    · simp [upm]
    · simp [upm]; exact W5 j hj
  obtain ⟨s1, f1, f2⟩ := s.up (x := 0) (v_8 (f := 5) (by omega)) (show cpl 1 8 5 = (1, 12) from rfl) (J := 5) (by omega) (rp_8 (by omega)) hF
  have hws : ∀ j, upm S 8 5 0 12 j = S 12 j := fun j => by simp [upm]
  revert s1 f1 f2 hW1 hF hws
  rw [show upm c (0 + 1) 12 0 = upm c 1 12 0 from rfl, show upm m (102 + 1) (ix (5 : Int32)) 0 = upm m 103 5 0 from rfl]
  generalize upm S 8 5 0 = T
  generalize upm c 1 12 0 = c0
  generalize upm m 103 5 0 = m0
  intro hW1 hF s1 f1 f2 hws
  obtain ⟨c1, a1, a2, a2', a3⟩ := C_there hN s1.1 hW1
  obtain ⟨m1, d1, d2, d2', d3⟩ := M_there hN s1.2.1
  rw [a1, bnd_s, show F_X7_moveAll N 102 (102 + 1) 262 (102 + 3) 262 m0 = _ from d1, bnd_s]
  have lp : ∀ (d n mc mm : Nat) (g h : Mem), n + d = w → d < mc → d < mm → SkyR g 57 (s_hrs T n) → SkyR g 1 T → RowR (h 103) (s_hrs T n) → FS 57 c1 g → MB m1 h → ∃ g' h', FS 57 c1 g' ∧ MB m1 h' ∧ (((∀ kt, F_X6_check_29 N 0 (nI w) kt mc (nI n) g = kt g') ∧ ∃ v, ∀ kt, F_X7_check_30 N 102 (nI w) kt mm (nI n) 1 h = kt v 1 h') ∨ ∃ v, (∀ kt, F_X6_check_29 N 0 (nI w) kt mc (nI n) g = some (1 + v, g')) ∧ ∀ kt, F_X7_check_30 N 102 (nI w) kt mm (nI n) 1 h = kt v 0 h') := by
    intro d
    induction d with
    | zero =>
      intro n mc mm g h hn h1 h2 R R1 Q F B
      obtain ⟨mc, rfl⟩ : ∃ q, mc = q + 1 := ⟨mc - 1, by omega⟩
      obtain ⟨mm, rfl⟩ : ∃ q, mm = q + 1 := ⟨mm - 1, by omega⟩
      refine ⟨g, h, F, B, Or.inl ⟨fun kt => ?_, nI n, fun kt => ?_⟩⟩
      · rw [F_X6_check_29, if_pos (nI_le (by omega) (by omega))]
      · rw [F_X7_check_30, if_pos (nI_le (by omega) (by omega))]
    | succ d ih =>
      intro n mc mm g h hn h1 h2 R R1 Q F B
      obtain ⟨mc, rfl⟩ : ∃ q, mc = q + 1 := ⟨mc - 1, by omega⟩
      obtain ⟨mm, rfl⟩ : ∃ q, mm = q + 1 := ⟨mm - 1, by omega⟩
      have hlt : ¬ nI w ≤ nI n := nI_ge (by omega) (by omega)
      have w0 := (hW1.hrs hF.2.1 n (by omega)).1
      have w1 := (hW1.hrs hF.2.1 (n + 1) (by omega)).1
      obtain ⟨g2, b1, b2, b3⟩ := C_hr1 hN hW1 hF.2.1 (by omega) R
      obtain ⟨h2, o1, o2, o3⟩ := M_hour (by omega : 10 ≤ N) Q w0 w0.wind
      have R2 := R1.off57 b3
      have hwt : g2 (0 + 1 + 11) n = T 12 n := R2.1.at (v_12 (f := n) (by omega)) cp_12
      have hmt : h2 (102 + 3) (142 + n) = T 12 n := by
        show h2 105 _ = _
        rw [(B.tr (MB.of3 o3)).1 105 (by omega) (by omega), M_tried hN s1.2.1 d1 _ (by omega), ro_12 (by omega)]
      have eC : ∀ kt, F_X6_check_29 N 0 (nI w) kt (mc + 1) (nI n) g = if s_tot (s_hrs T (n + 1)) 255 3 (ix (s_hrs T (n + 1) 8 0)) = T 12 n then F_X6_check_29 N 0 (nI w) kt mc (nI (n + 1)) g2 else some (1 + nI n, g2) := fun kt => by
        rw [F_X6_check_29, if_neg hlt, b1, bnd_s, show F_X2_setOfAll N (0 + 57) g2 = _ from C_set hN b2.1 w1, bnd_s, show F_X2_totalOf N (0 + 57) _ (0 : Int32) g2 = _ from C_tot (f := 0) hN b2.1 w1 _ (by omega), bnd_s, gin_n _ (show n < 20 by omega) (by omega), ix_n (by omega), hwt, nI_1, tot_all w1]
      have eM : ∀ kt, F_X7_check_30 N 102 (nI w) kt (mm + 1) (nI n) 1 h = if s_tot (s_hrs T (n + 1)) 255 3 (ix (s_hrs T (n + 1) 8 0)) = T 12 n then F_X7_check_30 N 102 (nI w) kt mm (nI (n + 1)) 1 h2 else F_X7_check_30 N 102 (nI w) kt mm (nI n) 0 h2 := fun kt => by
        rw [F_X7_check_30, if_neg hlt, if_neg (show ¬ (1 : Int32) = 0 by decide), M_wind Q w0, bnd_s, o1, bnd_s, show F_X7_sumOf N 102 (255 : Int32) (3 : Int32) h2 = _ from M_tot (f := 3) hN o2 w1 255 (by omega), bnd_s, show (142 : Int32) = nI 142 from rfl, nI_add, sq_i, gin_n _ (by omega) (by omega), ix_n (by omega), hmt]
        simp only [jn_e, sq_i]
        by_cases z : s_tot (s_hrs T (n + 1)) 255 3 (ix (s_hrs T (n + 1) 8 0)) = T 12 n
        · rw [if_pos (show s_tot (s_hour (s_hrs T n) (s_wind (s_hrs T n))) 255 3 (ix (s_hour (s_hrs T n) (s_wind (s_hrs T n)) 8 0)) = T 12 n from z), if_pos z, if_neg (show ¬ (1 : Int32) = 0 by decide), nI_1]
        · rw [if_neg (show ¬ s_tot (s_hour (s_hrs T n) (s_wind (s_hrs T n))) 255 3 (ix (s_hour (s_hrs T n) (s_wind (s_hrs T n)) 8 0)) = T 12 n from z), if_neg z, if_pos trivial, show nI n + 0 = nI n by grind]
      by_cases z : s_tot (s_hrs T (n + 1)) 255 3 (ix (s_hrs T (n + 1) 8 0)) = T 12 n
      · obtain ⟨g', h', y1, y2, y3⟩ := ih (n + 1) mc mm g2 h2 (by omega) (by omega) (by omega) b2 R2 o2 (F.tr b3) (B.tr (MB.of3 o3))
        refine ⟨g', h', y1, y2, ?_⟩
        rcases y3 with ⟨y3, v, y4⟩ | ⟨v, y3, y4⟩
        · exact Or.inl ⟨fun kt => by rw [eC, if_pos z, y3], v, fun kt => by rw [eM, if_pos z, y4]⟩
        · exact Or.inr ⟨v, fun kt => by rw [eC, if_pos z, y3], fun kt => by rw [eM, if_pos z, y4]⟩
      · refine ⟨g2, h2, F.tr b3, B.tr (MB.of3 o3), Or.inr ⟨nI n, fun kt => by rw [eC, if_neg z], fun kt => ?_⟩⟩
        obtain ⟨mm, rfl⟩ : ∃ q, mm = q + 1 := ⟨mm - 1, by omega⟩
        rw [eM, if_neg z, F_X7_check_30, if_neg hlt, if_pos rfl]
  obtain ⟨g', h', y1, y2, y3⟩ := lp w 0 N N c1 m1 (by omega) (by omega) (by omega) a2 a2' d2 FS.rf MB.rf
  obtain ⟨m3, o1, o2, o3⟩ := d3 h' y2
  have sR : RS g' m3 T := ⟨a2'.off57 y1, o2, hF⟩
  have fC := f1.tr ((CF.of57 a3).tr (CF.of57 y1))
  have fM := f2.tr o3
  rcases y3 with ⟨y3, v, y4⟩ | ⟨v, y3, y4⟩
  · have y3' : ∀ kt, F_X6_check_29 N 0 (nI w) kt N 0 c1 = _ := y3
    have y4' : ∀ kt, F_X7_check_30 N 102 (nI w) kt N 0 1 m1 = _ := y4
    rw [y3', y4', show F_X7_moveAll N 102 (102 + 3) 262 (102 + 1) 262 h' = _ from o1, bnd_s, if_neg (show ¬ (1 : Int32) = 0 by decide)]
    exact PR.ok O rfl rfl sR fC fM
  · have y3' : ∀ kt, F_X6_check_29 N 0 (nI w) kt N 0 c1 = _ := y3
    have y4' : ∀ kt, F_X7_check_30 N 102 (nI w) kt N 0 1 m1 = _ := y4
    rw [y3', y4', show F_X7_moveAll N 102 (102 + 3) 262 (102 + 1) 262 h' = _ from o1, bnd_s, if_pos rfl]
    exact PR.ok O rfl rfl sR fC fM
end CT
