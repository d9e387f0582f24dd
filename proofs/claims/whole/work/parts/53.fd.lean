theorem bt_eq (w : BitVec 64) (s : Nat) (hs : s ≤ 56) : (w >>> s).setWidth 32 &&& 255#32 = (w.sshiftRight s &&& 255#64).setWidth 32 := by
  apply BitVec.eq_of_getLsbD_eq
  intro i hi
  have h255 : ∀ i, i < 32 → (255#32).getLsbD i = decide (i < 8) ∧ (255#64).getLsbD i = decide (i < 8) := by decide
  rw [BitVec.getLsbD_and, BitVec.getLsbD_setWidth, BitVec.getLsbD_setWidth, BitVec.getLsbD_and, (h255 i hi).1, (h255 i hi).2, BitVec.getLsbD_ushiftRight, BitVec.getLsbD_sshiftRight]
  by_cases q : i < 8
  · simp [q, hi, show ¬ 64 ≤ i by omega, show s + i < 64 by omega]
  · simp [q]
theorem bs_eq (w : BitVec 64) (s : Nat) (hs : s ≤ 56) : (w >>> s).signExtend 32 &&& 255#32 = (w.sshiftRight s &&& 255#64).signExtend 32 := by
  rw [BitVec.signExtend_eq_setWidth_of_le _ (by omega), BitVec.signExtend_eq_setWidth_of_le _ (by omega)]
  exact bt_eq w s hs
theorem fd_eq (w : Int64) : ∀ n, n < 8 → ((lush w ((8 : Int32) * nI n)).toInt32) &&& (255 : Int32) = ((lshr w ((8 : Int32) * nI n)) &&& (255 : Int64)).toInt32 := by
  intro n hn
  apply Int32.toBitVec_inj.mp
  rcases (show n = 0 ∨ n = 1 ∨ n = 2 ∨ n = 3 ∨ n = 4 ∨ n = 5 ∨ n = 6 ∨ n = 7 by omega) with rfl | rfl | rfl | rfl | rfl | rfl | rfl | rfl
  · exact bs_eq w.toBitVec 0 (by omega)
  · exact bs_eq w.toBitVec 8 (by omega)
  · exact bs_eq w.toBitVec 16 (by omega)
  · exact bs_eq w.toBitVec 24 (by omega)
  · exact bs_eq w.toBitVec 32 (by omega)
  · exact bs_eq w.toBitVec 40 (by omega)
  · exact bs_eq w.toBitVec 48 (by omega)
  · exact bs_eq w.toBitVec 56 (by omega)
theorem b255 (x : Int32) : 0 ≤ x &&& 255 ∧ x &&& 255 ≤ 255 := by
  have h : (x &&& 255).toBitVec.toNat ≤ 255 := by
    show (x.toBitVec &&& 255#32).toNat ≤ 255
    rw [BitVec.toNat_and]
    exact Nat.and_le_right
  have h2 : (x &&& 255).toInt = ((x &&& 255).toBitVec.toNat : Int) := by
    show (x &&& 255).toBitVec.toInt = _
    rw [BitVec.toInt_eq_toNat_of_lt (by omega)]
  exact ⟨Int32.le_iff_toInt_le.mpr (by rw [h2]; exact Int.natCast_nonneg _), Int32.le_iff_toInt_le.mpr (by rw [h2]; show _ ≤ (255 : Int); omega)⟩
section FDS
variable {c m S : Mem} {k N : Nat}
theorem P_feed (hN : 1000 ≤ N) (H : RR c m k) (x1 : Int64) (x3 : Int32) : PR (F_X6_feed N 0 x1 x3 c) (F_X7_feed N 102 x1 x3 m) c m k := by
  obtain ⟨⟨S, s⟩, O⟩ := H
  unfold F_X6_feed F_X7_feed
  rcases in_cs x3 1 8 with ⟨q, e1, e2⟩ | ⟨q, e1, e2⟩
  · obtain ⟨l, hl, rfl⟩ := nat_of (n := 8) (by decide) (Int32.le_trans (show (0 : Int32) ≤ 1 by decide) q.1) q.2
    have g4 : ∀ o : Option (Int32 × Mem), gin (4 : Int32) 262 o = o := fun o => gin_d o (by decide)
    simp only [e1, e2, bnd_s, i10, if_false, bnd_id, g4]
    obtain ⟨W1, W2, W3, W4, W5⟩ := s.2.2
    obtain ⟨n, hn, en⟩ := nat_of (n := 50) (by decide) W3.1 W3.2
    rw [show c (0 + 1) 8 = nI n from (C_taped s.1.1).trans en, show m (102 + 1) (ix (4 : Int32)) = nI n from (M_row (j := 4) s.2.1 (by omega)).trans en, nI_add]
    by_cases z : n + l ≤ 50
    · rw [if_pos (show nI (n + l) ≤ 50 from nI_le (b := 50) z (by omega)), if_pos (show nI (n + l) ≤ 50 from nI_le (b := 50) z (by omega))]
      -- the class keeps its count till the end; the Model counts as it goes: T is the state with the class's count, and the Model's is T with the count n + i
      have lp : ∀ (d i mc mm : Nat) (g h T : Mem), i + d = l → d < mc → d < mm → SkyR g 1 T → T 8 4 = nI n → WF T → RowR (h 103) (upm T 8 4 (nI (n + i))) → FT 1 c g → E103 m h → ∃ g' h' T', (∀ kt, F_X6_feed_41 N 0 x1 (nI l) kt mc (nI i) g = kt g') ∧ (∀ kt, F_X7_feed_40 N 102 x1 (nI l) kt mm (nI i) h = kt h') ∧ SkyR g' 1 T' ∧ T' 8 4 = nI n ∧ WF T' ∧ RowR (h' 103) (upm T' 8 4 (nI (n + l))) ∧ FT 1 c g' ∧ E103 m h' := by
        intro d
        induction d with
        | zero =>
          intro i mc mm g h T hi h1 h2 R t4 WT Q F E
          obtain ⟨mc, rfl⟩ : ∃ q, mc = q + 1 := ⟨mc - 1, by omega⟩
          obtain ⟨mm, rfl⟩ : ∃ q, mm = q + 1 := ⟨mm - 1, by omega⟩
          have hil : i = l := by omega
          subst hil
          exact ⟨g, h, T, fun kt => by rw [F_X6_feed_41, if_pos (nI_le (by omega) (by omega))], fun kt => by rw [F_X7_feed_40, if_pos (nI_le (by omega) (by omega))], R, t4, WT, Q, F, E⟩
        | succ d ih =>
          intro i mc mm g h T hi h1 h2 R t4 WT Q F E
          obtain ⟨mc, rfl⟩ : ∃ q, mc = q + 1 := ⟨mc - 1, by omega⟩
          obtain ⟨mm, rfl⟩ : ∃ q, mm = q + 1 := ⟨mm - 1, by omega⟩
          have hlt : ¬ nI l ≤ nI i := nI_ge (by omega) (by omega)
          have hb := b255 ((lush x1 ((8 : Int32) * nI i)).toInt32)
          have hfd := fd_eq x1 i (by omega)
          generalize hx : ((lush x1 ((8 : Int32) * nI i)).toInt32) &&& (255 : Int32) = x at hb hfd
          obtain ⟨R1, F1⟩ := R.up (v_11 (f := n + i) (by omega)) cp_11 x
          have w1 : WS (upm T 11 (n + i) x) := WT.1.upg (by omega) (fun q => by omega) (fun q => by omega) (fun q => by omega) (fun q => by omega) (fun q => by omega)
          have WT1 : WF (upm T 11 (n + i) x) := by
            refine ⟨w1, ?_, ?_, ?_, fun j hj => ?_⟩
            · simp [upm]; exact WT.2.1
            · simp [upm]; exact WT.2.2.1
            · simp [upm]; exact WT.2.2.2.1
            · simp only [upm]
              split
              · exact hb
              · exact WT.2.2.2.2 j hj
          have m4 : ∀ q f, q ≠ 8 → upm T 8 4 (nI (n + i)) q f = T q f := fun q f hq => by simp [upm, hq]
          have Q1 := (Q.um (j := 92 + (n + i)) (by omega) (rp_11 (by omega)) (x := x)).um (j := 4) (by omega) (rp_8 (by omega)) (x := nI (n + (i + 1)))
          have eq1 : upm (upm (upm T 8 4 (nI (n + i))) 11 (n + i) x) 8 4 (nI (n + (i + 1))) = upm (upm T 11 (n + i) x) 8 4 (nI (n + (i + 1))) := by
            funext a f
            simp only [upm]
            by_cases y : a = 8 ∧ f = 4
            · rw [if_pos y, if_pos y]
            · simp [y]
          rw [eq1] at Q1
          obtain ⟨g', h', T', i1, i2, i3⟩ := ih (i + 1) mc mm _ _ _ (by omega) (by omega) (by omega) R1 (by simp [upm]; exact t4) WT1 Q1 (F.tr F1) (E.tr (E103.up.tr E103.up))
          refine ⟨g', h', T', fun kt => ?_, fun kt => ?_, i3⟩
          · rw [F_X6_feed_41, if_neg hlt, show g (0 + 1) 8 = nI n from (C_taped R.1).trans t4, nI_add, gin_n _ (show n + i < 50 by omega) (by omega), sq_h, hx, ix_n (by omega), nI_1]
            exact i1 kt
          · have h4 : h (102 + 1) (ix (4 : Int32)) = nI (n + i) := (M_row (j := 4) Q (by omega)).trans (by rw [rp_8 (by omega)]; simp [upm])
            rw [F_X7_feed_40, if_neg hlt]
            simp only [g4]
            rw [h4, show (92 : Int32) = nI 92 from rfl, nI_add, gin_n _ (by omega) (by omega), sq_h, ← hfd, ix_n (show 92 + (n + i) < 2 ^ 31 by omega), sq_h, show upm h (102 + 1) (92 + (n + i)) x (102 + 1) (ix (4 : Int32)) = nI (n + i) by rw [← h4]; simp [upm, show ix (4 : Int32) = 4 from rfl, show ¬ 4 = 92 + (n + i) by omega], nI_1, nI_1]
            exact i2 kt
      obtain ⟨g', h', T', i1, i2, i3, i4, i5, i6, i7, i8⟩ := lp l 0 N N c m S (by omega) (by omega) (by omega) s.1 en s.2.2 (by rw [Nat.add_zero, ← en, upm_self]; exact s.2.1) FT.rf E103.rf
      have i1' : ∀ kt, F_X6_feed_41 N 0 x1 (nI l) kt N 0 c = _ := i1
      have i2' : ∀ kt, F_X7_feed_40 N 102 x1 (nI l) kt N 0 m = _ := i2
      rw [i1', i2', sq_h, show g' (0 + 1) 8 = nI n from (C_taped i3.1).trans i4, nI_add]
      obtain ⟨R2, F2⟩ := i3.up (v_8 (f := 4) (by omega)) (show cpl 1 8 4 = (0 + 1, 8) from rfl) (nI (n + l))
      have w2 : WS (upm T' 8 4 (nI (n + l))) := i5.1.upg (by omega) (fun _ q => by omega) (fun _ q => by omega) (fun _ q => by omega) (fun q => by omega) (fun q => by omega)
      have WF2 : WF (upm T' 8 4 (nI (n + l))) := by
        refine ⟨w2, ?_, ?_, ?_, fun j hj => ?_⟩
        · simp [upm]; exact i5.2.1
        · simp [upm]
          exact ⟨nI_pos' (by omega), nI_le (b := 50) z (by omega)⟩
        · simp [upm]; exact i5.2.2.2.1
        · simp [upm]; exact i5.2.2.2.2 j hj
      refine PR.ok O (r := nI (n + l)) ?_ ?_ ⟨R2, i6, WF2⟩ (CF.of1 (i7.tr F2).FS) (MF.of103 i8)
      · simp [upm]
      · rw [show h' (102 + 1) (ix (4 : Int32)) = nI (n + l) from (M_row (j := 4) i6 (by omega)).trans (by rw [rp_8 (by omega)]; simp [upm])]
    · rw [if_neg (show ¬ nI (n + l) ≤ 50 from nI_ge (a := 50) (by omega) (by omega)), if_neg (show ¬ nI (n + l) ≤ 50 from nI_ge (a := 50) (by omega) (by omega))]
      exact PR.er O (Or.inr (Or.inr (Or.inr (Or.inl rfl)))) s CF.rf MF.rf rfl rfl
  · simp only [e1, e2, bnd_s, bnd_id, if_true]
    exact PR.er O (Or.inl rfl) s CF.rf MF.rf rfl rfl
end FDS
