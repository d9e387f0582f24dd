section ST2
variable {c m S : Mem} {k N : Nat}
theorem M_96 (hN : 1000 ≤ N) (R : RowR (m 103) S) (hW : WS S) {j : Nat} (hj : j < 4) (x2 w3 w4 w5 : Int32) (u : Nat) (kt : Int32 → Mem → Option (Int32 × Mem)) : F_X7_storm_96 N 102 (nI j) x2 w3 w4 w5 (nI u) kt N 1 0 m = kt (if s_tot S (nI u) 3 (ix (S 8 0)) = m 110 (40 * j + 0) ∧ s_tot S (nI u) 4 (ix (S 8 0)) = m 110 (40 * j + 1) ∧ s_tot S (nI u) 5 (ix (S 8 0)) = m 110 (40 * j + 2) ∧ s_tot S (nI u) 6 (ix (S 8 0)) = m 110 (40 * j + 3) then 1 else 0) m := by
  obtain ⟨n, rfl⟩ : ∃ n, N = n + 6 := ⟨N - 6, by omega⟩
  have z0 : ∀ (f q : Nat), f < 5 → F_X7_storm_96 (n + 6) 102 (nI j) x2 w3 w4 w5 (nI u) kt (q + 1) 0 (nI f) m = kt 0 m := fun f q hf => by
    rw [F_X7_storm_96]
    by_cases y : (4 : Int32) ≤ nI f
    · rw [if_pos y]
    · rw [if_neg y, if_pos rfl]
  have st : ∀ (f q : Nat), f < 4 → F_X7_storm_96 (n + 6) 102 (nI j) x2 w3 w4 w5 (nI u) kt (q + 2) 1 (nI f) m = if s_tot S (nI u) (3 + f) (ix (S 8 0)) = m 110 (40 * j + f) then F_X7_storm_96 (n + 6) 102 (nI j) x2 w3 w4 w5 (nI u) kt (q + 1) 1 (nI (f + 1)) m else kt 0 m := fun f q hf => by
    rw [F_X7_storm_96, if_neg (show ¬ (4 : Int32) ≤ nI f from nI_ge (b := 4) hf (by omega)), if_neg (show ¬ (1 : Int32) = 0 by decide), show (3 : Int32) = nI 3 from rfl, nI_add, M_tot hN R hW _ (show 3 + f < 8 by omega), bnd_s, e_sh, sq_i, gin_n _ (by omega) (by omega), ix_n (show 40 * j + f < 2 ^ 31 by omega), nI_1]
    by_cases y : s_tot S (nI u) (3 + f) (ix (S 8 0)) = m 110 (40 * j + f)
    · rw [if_pos (show s_tot S (nI u) (3 + f) (ix (S 8 0)) = m (102 + 8) (40 * j + f) from y), if_pos y]
    · rw [if_neg (show ¬ s_tot S (nI u) (3 + f) (ix (S 8 0)) = m (102 + 8) (40 * j + f) from y), if_neg y]
      exact z0 (f + 1) q (by omega)
  rw [show F_X7_storm_96 (n + 6) 102 (nI j) x2 w3 w4 w5 (nI u) kt (n + 6) 1 0 m = _ from st 0 (n + 4) (by omega)]
  by_cases q0 : s_tot S (nI u) 3 (ix (S 8 0)) = m 110 (40 * j + 0)
  · rw [if_pos q0, st 1 (n + 3) (by omega)]
    by_cases q1 : s_tot S (nI u) 4 (ix (S 8 0)) = m 110 (40 * j + 1)
    · rw [if_pos q1, st 2 (n + 2) (by omega)]
      by_cases q2 : s_tot S (nI u) 5 (ix (S 8 0)) = m 110 (40 * j + 2)
      · rw [if_pos q2, st 3 (n + 1) (by omega)]
        by_cases q3 : s_tot S (nI u) 6 (ix (S 8 0)) = m 110 (40 * j + 3)
        · rw [if_pos q3, F_X7_storm_96, if_pos (show (4 : Int32) ≤ nI (3 + 1) by decide), if_pos ⟨q0, q1, q2, q3⟩]
        · rw [if_neg q3, if_neg (fun z => q3 z.2.2.2)]
      · rw [if_neg q2, if_neg (fun z => q2 z.2.2.1)]
    · rw [if_neg q1, if_neg (fun z => q1 z.2.1)]
  · rw [if_neg q0, if_neg (fun z => q0 z.1)]
theorem M_96z (hN : 1000 ≤ N) (x1 x2 w3 w4 w5 w6 : Int32) (kt : Int32 → Mem → Option (Int32 × Mem)) : F_X7_storm_96 N 102 x1 x2 w3 w4 w5 w6 kt N 0 0 m = kt 0 m := by
  obtain ⟨n, rfl⟩ : ∃ n, N = n + 1 := ⟨N - 1, by omega⟩
  rw [F_X7_storm_96, if_neg (by decide), if_pos rfl]
theorem M_72 (hN : 1000 ≤ N) (R : RowR (m 103) S) (hW : WS S) {j st top : Nat} (hj : j < 4) (ht : top < 256) (x2 : Int32) : ∀ (u mc : Nat) (kt : Int32 → Int32 → Mem → Option (Int32 × Mem)), u ≤ top → u < mc → F_X7_storm_72 N 102 (nI j) x2 (nI st) kt mc (nI (lsS (gdS S (fun f => m 110 (40 * j + f)) st) u (top - u))) (nI (cdS (gdS S (fun f => m 110 (40 * j + f)) st) top - cdS (gdS S (fun f => m 110 (40 * j + f)) st) u)) (nI u) m = kt (nI (lsS (gdS S (fun f => m 110 (40 * j + f)) st) 0 top)) (nI (cdS (gdS S (fun f => m 110 (40 * j + f)) st) top)) m := by
  intro u
  induction u with
  | zero =>
    intro mc kt hu hm
    obtain ⟨mc, rfl⟩ : ∃ q, mc = q + 1 := ⟨mc - 1, by omega⟩
    rw [F_X7_storm_72, if_pos (show nI 0 ≤ 0 by decide)]
    rfl
  | succ u ih =>
    intro mc kt hu hm
    obtain ⟨mc, rfl⟩ : ∃ q, mc = q + 1 := ⟨mc - 1, by omega⟩
    have i1 := ih mc kt (by omega) (by omega)
    generalize hg : gdS S (fun f => m 110 (40 * j + f)) st = g at i1 ⊢
    have hdn : nI (u + 1) + (-1) = nI u := by
      rw [← nI_1]
      grind
    have hmon : ∀ a b, cdS g a ≤ cdS g (a + b) := by
      intro a b
      induction b with
      | zero => exact Nat.le_refl _
      | succ b ihb =>
        rw [← Nat.add_assoc, cdS]
        omega
    have hle := hmon (u + 1) (top - (u + 1))
    rw [show u + 1 + (top - (u + 1)) = top by omega] at hle
    have hcd : cdS g (u + 1) = cdS g u + (if g (u + 1) = true then 1 else 0) := rfl
    rw [show top - u = top - (u + 1) + 1 by omega, lsS] at i1
    rw [F_X7_storm_72, if_neg (show ¬ nI (u + 1) ≤ 0 from nI_ge (b := u + 1) (a := 0) (by omega) (by omega))]
    by_cases q : g (u + 1) = true
    · have qd : gdS S (fun f => m 110 (40 * j + f)) st (u + 1) = true := by rw [hg]; exact q
      replace qd := of_decide_eq_true qd
      rw [if_pos q] at i1 hcd
      simp only [jn_e, if_pos qd.1, M_96 hN R hW hj]
      rw [if_pos qd.2]
      simp only [i10, if_false, sq_i, hdn, nI_1]
      rw [show cdS g top - cdS g (u + 1) + 1 = cdS g top - cdS g u by omega]
      exact i1
    · have same : ∀ kt2 : Int32 → Mem → Option (Int32 × Mem), ∀ w3 w4 w5, (if (nI (u + 1) &&& (nI st ^^^ (-1 : Int32))) = 0 then F_X7_storm_96 N 102 (nI j) x2 w3 w4 w5 (nI (u + 1)) kt2 N 1 0 m else F_X7_storm_96 N 102 (nI j) x2 w3 w4 w5 (nI (u + 1)) kt2 N 0 0 m) = kt2 0 m := fun kt2 w3 w4 w5 => by
        by_cases y : (nI (u + 1) &&& (nI st ^^^ (-1 : Int32))) = 0
        · rw [if_pos y, M_96 hN R hW hj, if_neg (fun v => q (by rw [← hg]; exact decide_eq_true ⟨y, v⟩))]
        · rw [if_neg y, M_96z hN]
      rw [if_neg q] at i1 hcd
      simp only [jn_e]
      rw [same]
      simp only [if_true, sq_i, hdn, show ∀ v : Int32, v + 0 = v from fun v => by grind]
      rw [show cdS g top - cdS g (u + 1) = cdS g top - cdS g u by omega]
      exact i1
end ST2
