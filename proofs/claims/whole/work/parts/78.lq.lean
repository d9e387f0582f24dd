/-! TEXTS: Q of class and Model, side by side -/
section LQ3
variable {w : Nat → Int32} {e x N : Nat}
theorem LK.Q (hN : 1000 ≤ N) (B : BW w e) (hx : x < 2) : ∀ n o, n + o = 7 → o ≤ 5 → LK w e x o (fun c => F_X4_readQ N n 86 (nI o) c) (fun M m => F_X7_factor M n 102 m) := by
  intro n
  have h50 := B.1
  induction n with
  | zero => intro o h1 h2; omega
  | succ n ih =>
    intro o hno ho c p z C hz hp
    have s4 : ∀ s, inS 4 s ↔ s = 41 := fun s => by simp [inS, bytS]
    by_cases hd : dgt (bt w e p)
    · -- a number
      have hlt : p < e := bt_of B (fun z => by rw [z] at hd; exact absurd hd (by unfold dgt; decide))
      obtain ⟨p', y, b1, b2, b3, b4, b5, b6⟩ := num (z := z) B hx 4 N 0 p 0 (fun M => M) c (by omega) (by omega) (fun M hM => by omega) (by omega) C hp
      have b7 := b3 hd (by omega)
      obtain ⟨c2, a1, a2, a3, a4⟩ := C_add1 (C.mv p') (show z < 50 by omega) (nI y)
      have e88 : ∀ j, upm c 86 4 (nI p') 88 j = c 88 j := fun j => by rw [upm_off 88 (by omega)]
      have y0 : 0 ≤ nI y := nI_pos' (by omega)
      refine Or.inl ⟨c2, p', z + 1, fun _ _ _ => nI y, ?_, a2, FX.mv.tr a3, by omega, b2, by omega, by omega, fun j hj => by rw [a4, if_neg (by omega), e88], fun a b d => ?_, fun M a b d m hM X => ?_⟩
      · show F_X4_readQ N (n + 1) 86 (nI o) c = _
        rw [F_X4_readQ, (C_dg B C hp).1 hd, bnd_s, if_neg (by decide)]
        unfold F_X4_readNumber
        rw [show ∀ kt, F_X4_readNumber_4 N 86 kt N (0 : Int32) (0 : Int32) c = kt (nI y) (upm c 86 4 (nI p')) from b5]
        show bnd (bnd (F_X3_add (86 + 1) (nI y) (upm c 86 4 (nI p'))) _) _ = _
        rw [a1, bnd_s, bnd_s]
      · refine EV.leaf (s := nI y) (by rw [a4, if_pos rfl]) (fun q => ?_) ?_
        · have : nI y < 0 := by grind
          exact nI_pos (by omega) this
        · rw [if_neg (fun q => by rw [q] at y0; exact absurd y0 (by decide)), if_neg (fun q => by rw [q] at y0; exact absurd y0 (by decide)), if_neg (fun q => by rw [q] at y0; exact absurd y0 (by decide))]
      · refine ⟨upm m 102 8 (nI p'), ?_, X.mv p', E102.up (by omega)⟩
        show F_X7_factor M (n + 1) 102 m = _
        rw [F_X7_factor, M_byte B hx X hp, bnd_s, (M_dgt _ m).1 hd, bnd_s, if_neg (by decide)]
        unfold F_X7_number
        rw [show F_X7_number_4 M 102 (fun v9 h10 => some (v9, h10)) M (0 : Int32) (0 : Int32) m = _ from b6 M a b d m hM X, bnd_s]
    · by_cases hn : inS (x + 1) (bt w e p)
      · -- a name
        have hlt : p < e := bt_s B (k := x + 1) (by omega) hn
        obtain ⟨v, hv, ev⟩ := B.2 p (by omega)
        have eb : bt w e p = nI v := by rw [bt_lt hlt, ev]
        rw [eb] at hn hd
        obtain ⟨r, f, n1, n2, n3, n4⟩ := nm hN hx hv hn
        obtain ⟨c2, a1, a2, a3, a4⟩ := C_add1 (C.mv (p + 1)) (show z < 50 by omega) (-1 - r)
        have e88 : ∀ j, upm c 86 4 (nI (p + 1)) 88 j = c 88 j := fun j => by rw [upm_off 88 (by omega)]
        have nz : ¬ nI v = 0 ∧ ¬ nI v = 33 ∧ ¬ nI v = 40 := by
          rcases (sg_n hx _).mp hn with ⟨_, q | q | q⟩ | ⟨_, q | q | q⟩
          all_goals (rw [q]; decide)
        refine Or.inl ⟨c2, p + 1, z + 1, f, ?_, a2, FX.mv.tr a3, by omega, by omega, by omega, by omega, fun j hj => by rw [a4, if_neg (by omega), e88], fun a b d => EV.leaf (s := -1 - r) (by rw [a4, if_pos rfl]) n2 (n3 a b d), fun M a b d m hM X => ?_⟩
        · show F_X4_readQ N (n + 1) 86 (nI o) c = _
          rw [F_X4_readQ, (C_dg B C hp).2 (by rw [eb]; exact hd), bnd_s, if_pos rfl, C.2.2.1, gst_x hx, (C_tk hN B C hp (k := x + 1) (by omega)).1 (by rw [eb]; exact hn), bnd_s, eb, if_neg nz.1, (C.mv (p + 1)).2.2.1, gst_x hx, n1, bnd_s, a1, bnd_s]
        · refine ⟨upm m 102 8 (nI (p + 1)), ?_, X.mv (p + 1), E102.up (by omega)⟩
          show F_X7_factor M (n + 1) 102 m = _
          rw [M_else B hx X hp (by rw [eb]; exact hd) (by rw [eb]; exact nz.2.1) (by rw [eb]; exact nz.2.2), eb]
          exact n4 a b d m p X
      · by_cases hop : o < 5 ∧ (bt w e p = 33 ∨ bt w e p = 40)
        · obtain ⟨ho5, hs⟩ := hop
          have hlt : p < e := bt_of B (fun z => by rw [z] at hs; exact absurd hs (by decide))
          have KQ := ih (o + 1) (by omega) (by omega)
          have FQ : RF x (fun c => F_X4_readQ N n 86 (nI (o + 1)) c) := by
            obtain ⟨k, rfl⟩ : ∃ k, n = k + 1 := ⟨n - 1, by omega⟩
            exact RF.Q hx
          have C1 := C.mv (p + 1)
          have F1 : FX c (upm c 86 4 (nI (p + 1))) := FX.mv
          have e88 : ∀ j, upm c 86 4 (nI (p + 1)) 88 j = c 88 j := fun j => by rw [upm_off 88 (by omega)]
          have g14 : ∀ (m : Mem) q, upm m 102 10 q 102 14 = m 102 14 := fun m q => by simp only [upm]; rw [if_neg (by omega)]
          have g8 : ∀ (m : Mem) q, upm m 102 10 q 102 8 = m 102 8 := fun m q => by simp only [upm]; rw [if_neg (by omega)]
          have g108 : ∀ (m : Mem) q, upm m 102 14 q 102 8 = m 102 8 := fun m q => by simp only [upm]; rw [if_neg (by omega)]
          have g1414 : ∀ (m : Mem), upm m 102 14 0 102 14 = 0 := fun m => by simp [upm]
          rcases hs with hs | hs
          · -- !
            have eg := (C_open (o := o) (n := n) hN B C hp hx hd hn).1 ho5 hs
            rcases KQ _ (p + 1) z C1 (by omega) (by omega) with ⟨c2, p2, z2, v2, a1, a2, a3, a4, a5, a6, a7, a8, a9, a10⟩ | ⟨c2, p2, a1, a2, a3, a4⟩
            · replace a1 : F_X4_readQ N n 86 (nI (o + 1)) _ = _ := a1
              obtain ⟨c3, b1, b2, b3, b4⟩ := C_add1 a2 (show z2 < 50 by omega) (-33)
              refine Or.inl ⟨c3, p2, z2 + 1, fun a b d => if v2 a b d = 0 then 1 else 0, ?_, b2, F1.tr (a3.tr b3), by omega, a5, by omega, by omega, fun j hj => ?_, fun a b d => ?_, fun M a b d m hM X => ?_⟩
              · show F_X4_readQ N (n + 1) 86 (nI o) c = _
                rw [eg, a1, bnd_s, b1, bnd_s]
              · rw [b4, if_neg (by omega), a8 j (by omega), e88]
              · refine EV.not (j := z2) (v := v2 a b d) ((a9 a b d).cg (fun k q1 q2 => ?_)) ?_ rfl
                · rw [b4, if_neg (by omega)]
                · rw [b4, if_pos rfl]
              · obtain ⟨X2, E2⟩ := X.op (p + 1)
                obtain ⟨m2, q1, q2, q3⟩ := a10 M a b d _ hM X2
                replace q1 : F_X7_factor M n 102 _ = _ := q1
                refine ⟨upm m2 102 10 (nI o), ?_, q2.cl, E2.tr (q3.tr (E102.up (by omega)))⟩
                show F_X7_factor M (n + 1) 102 m = _
                rw [(M_open B hx X hp hd ho5).1 hs, q1, bnd_s, q2.2.2.2.1, nI_pred]
                show _ = some (if v2 a b d = 0 then (1 : Int32) else 0, upm m2 102 10 (nI o))
                split <;> rfl
            · replace a1 : F_X4_readQ N n 86 (nI (o + 1)) _ = _ := a1
              obtain ⟨c3, b1, b2, b3⟩ := C_addF a2 (-33)
              refine Or.inr ⟨c3, p2, ?_, b2, F1.tr (a3.tr b3), fun M a b d m hM X => ?_⟩
              · show F_X4_readQ N (n + 1) 86 (nI o) c = _
                rw [eg, a1, bnd_s, b1, bnd_s]
              · obtain ⟨X2, E2⟩ := X.op (p + 1)
                obtain ⟨r, m2, q1, q2, q3, q4⟩ := a4 M a b d _ hM X2
                replace q1 : F_X7_factor M n 102 _ = _ := q1
                refine ⟨if r = 0 then 1 else 0, upm m2 102 10 (m2 102 10 - 1), ?_, by rw [g14]; exact q2, by rw [g8]; exact q3, E2.tr (q4.tr (E102.up (by omega)))⟩
                show F_X7_factor M (n + 1) 102 m = _
                rw [(M_open B hx X hp hd ho5).1 hs, q1, bnd_s]
                split <;> rfl
          · -- (
            have eg := (C_open (o := o) (n := n) hN B C hp hx hd hn).2.1 ho5 hs
            obtain ⟨KT, FT⟩ := LK.T (oq := F_X4_readQ N n) (ov := fun M => F_X7_factor M n) hN B hx KQ FQ
            rcases KT _ (p + 1) z C1 (by omega) (by omega) with ⟨c2, p2, z2, v2, a1, a2, a3, a4, a5, a6, a7, a8, a9, a10⟩ | ⟨c2, p2, a1, a2, a3, a4⟩
            · replace a1 : F_X4_readT (F_X4_readQ N n) N 86 (nI (o + 1)) _ = _ := a1
              have md : ∀ M a b d m, 1000 ≤ M → MS w e x o a b d m p → ∃ m2, F_X7_factor M (n + 1) 102 m = (if bt w e p2 = 41 then some (v2 a b d, upm m2 102 8 (nI (p2 + 1))) else bnd (F_X7_fails 102 m2) (fun r h => some (r, h))) ∧ MS w e x o a b d m2 p2 ∧ E102 m m2 := fun M a b d m hM X => by
                obtain ⟨X2, E2⟩ := X.op (p + 1)
                obtain ⟨m2, q1, q2, q3⟩ := a10 M a b d _ hM X2
                replace q1 : F_X7_whole (F_X7_factor M n) M 102 _ = _ := q1
                refine ⟨upm m2 102 10 (nI o), ?_, q2.cl, E2.tr (q3.tr (E102.up (by omega)))⟩
                rw [(M_open B hx X hp hd ho5).2 hs, q1, bnd_s, q2.2.2.2.1, nI_pred, if_neg q2.cl.gd, M_byte B hx q2.cl a5, bnd_s, q2.cl.2.1, nI_1]
              by_cases h41 : bt w e p2 = 41
              · have hlt2 : p2 < e := bt_s B (k := 4) (by omega) ((s4 _).mpr h41)
                refine Or.inl ⟨upm c2 86 4 (nI (p2 + 1)), p2 + 1, z2, v2, ?_, a2.mv (p2 + 1), F1.tr (a3.tr FX.mv), by omega, by omega, by omega, by omega, fun j hj => ?_, fun a b d => ?_, fun M a b d m hM X => ?_⟩
                · show F_X4_readQ N (n + 1) 86 (nI o) c = _
                  rw [eg, a1, bnd_s, (C_tk hN B a2 a5 (k := 4) (by omega)).1 ((s4 _).mpr h41), bnd_s, h41, if_neg (by decide)]
                · rw [upm_off 88 (by omega), a8 j (by omega), e88]
                · refine (a9 a b d).cg (fun k q1 q2 => ?_)
                  rw [upm_off 88 (by omega)]
                · obtain ⟨m2, q1, q2, q3⟩ := md M a b d m hM X
                  refine ⟨_, q1.trans (if_pos h41), q2.mv (p2 + 1), q3.tr (E102.up (by omega))⟩
              · obtain ⟨b1, b2, b3⟩ := C_stop a2 (by omega) (by omega)
                refine Or.inr ⟨_, p2, ?_, b2, F1.tr (a3.tr b3), fun M a b d m hM X => ?_⟩
                · show F_X4_readQ N (n + 1) 86 (nI o) c = _
                  rw [eg, a1, bnd_s, (C_tk hN B a2 a5 (k := 4) (by omega)).2 (fun q => h41 ((s4 _).mp q)), bnd_s, if_pos rfl, b1, bnd_s]
                · obtain ⟨m2, q1, q2, q3⟩ := md M a b d m hM X
                  obtain ⟨r1, r2, r3⟩ := bad_up q2
                  refine ⟨0, upm m2 102 14 0, ?_, r1, r2, q3.tr r3⟩
                  show F_X7_factor M (n + 1) 102 m = _
                  rw [q1, if_neg h41]
                  rfl
            · replace a1 : F_X4_readT (F_X4_readQ N n) N 86 (nI (o + 1)) _ = _ := a1
              refine Or.inr ⟨c2, p2, ?_, a2, F1.tr a3, fun M a b d m hM X => ?_⟩
              · show F_X4_readQ N (n + 1) 86 (nI o) c = _
                rw [eg, a1, bnd_s, C_tkF a2.f, bnd_s, if_pos rfl, C_stopF a2.f, bnd_s]
              · obtain ⟨X2, E2⟩ := X.op (p + 1)
                obtain ⟨r, m2, q1, q2, q3, q4⟩ := a4 M a b d _ hM X2
                replace q1 : F_X7_whole (F_X7_factor M n) M 102 _ = _ := q1
                refine ⟨0, upm (upm m2 102 10 (m2 102 10 - 1)) 102 14 0, ?_, g1414 _, by rw [g108, g8]; exact q3, E2.tr (q4.tr ((E102.up (by omega)).tr (E102.up (by omega))))⟩
                show F_X7_factor M (n + 1) 102 m = _
                rw [(M_open B hx X hp hd ho5).2 hs, q1, bnd_s, g14, if_pos q2]
                rfl
        · -- nothing that goes on
          have hor : o = 5 ∨ ¬ (bt w e p = 33 ∨ bt w e p = 40) := by
            by_cases h5 : o = 5
            · exact Or.inl h5
            · exact Or.inr (fun q => hop ⟨by omega, q⟩)
          obtain ⟨b1, b2, b3⟩ := C_stop C (by omega) (by omega)
          refine Or.inr ⟨_, p, ((C_open (o := o) (n := n) hN B C hp hx hd hn).2.2 ho hor).trans b1, b2, b3, fun M a b d m hM X => ?_⟩
          obtain ⟨r1, r2, r3⟩ := bad_up X
          refine ⟨0, upm m 102 14 0, ?_, r1, r2, r3⟩
          show F_X7_factor M (n + 1) 102 m = _
          by_cases hs : bt w e p = 33 ∨ bt w e p = 40
          · rcases hor with h5 | h5
            · exact M_open5 B hx X hp hd h5 hs
            · exact absurd hs h5
          · rw [M_else B hx X hp hd (fun q => hs (Or.inl q)) (fun q => hs (Or.inr q))]
            exact M_nm0 hx X _ hn
end LQ3
