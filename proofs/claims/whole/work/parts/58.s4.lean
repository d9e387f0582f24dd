section ST
variable {c m S : Mem} {k N : Nat}
theorem C_has (hN : 1000 ≤ N) (R : SkyN c 1 S) (hW : WS S) {kk : Nat} {w : Nat → Int32} (hw : ∀ f, f < 4 → c kk f = w f) (u : Nat) : F_X2_hasTotals N (0 + 1) (nI u) kk 40 c = some (if s_tot S (nI u) 3 (ix (S 8 0)) = w 0 ∧ s_tot S (nI u) 4 (ix (S 8 0)) = w 1 ∧ s_tot S (nI u) 5 (ix (S 8 0)) = w 2 ∧ s_tot S (nI u) 6 (ix (S 8 0)) = w 3 then 1 else 0, c) := by
  obtain ⟨n, rfl⟩ : ∃ n, N = n + 5 := ⟨N - 5, by omega⟩
  have st : ∀ (f q : Nat) (kt : Mem → Option (Int32 × Mem)), f < 4 → F_X2_hasTotals_2 (n + 5) (0 + 1) (nI u) kk 40 kt (q + 1) (nI f) c = if s_tot S (nI u) (3 + f) (ix (S 8 0)) = w f then F_X2_hasTotals_2 (n + 5) (0 + 1) (nI u) kk 40 kt q (nI (f + 1)) c else some (0, c) := fun f q kt hf => by
    rw [F_X2_hasTotals_2, if_neg (show ¬ (4 : Int32) ≤ nI f from nI_ge (b := 4) hf (by omega)), if_neg (nI_ge (by omega) (by omega)), show F_X2_totalOf (n + 5) (0 + 1) (nI u) (nI f) c = _ from C_tot hN R hW _ hf, bnd_s, gin_n _ (show f < 40 by omega) (by omega), ix_n (show f < 2 ^ 31 by omega), hw f hf, nI_1]
  unfold F_X2_hasTotals
  rw [show F_X2_hasTotals_2 (n + 5) (0 + 1) (nI u) kk 40 _ (n + 5) 0 c = _ from st 0 (n + 4) _ (by omega)]
  by_cases q0 : s_tot S (nI u) 3 (ix (S 8 0)) = w 0
  · rw [if_pos q0, st 1 _ _ (by omega)]
    by_cases q1 : s_tot S (nI u) 4 (ix (S 8 0)) = w 1
    · rw [if_pos q1, st 2 _ _ (by omega)]
      by_cases q2 : s_tot S (nI u) 5 (ix (S 8 0)) = w 2
      · rw [if_pos q2, st 3 _ _ (by omega)]
        by_cases q3 : s_tot S (nI u) 6 (ix (S 8 0)) = w 3
        · rw [if_pos q3, F_X2_hasTotals_2, if_pos (show (4 : Int32) ≤ nI (3 + 1) by decide), if_pos ⟨q0, q1, q2, q3⟩]
        · rw [if_neg q3, if_neg (fun z => q3 z.2.2.2)]
      · rw [if_neg q2, if_neg (fun z => q2 z.2.2.1)]
    · rw [if_neg q1, if_neg (fun z => q1 z.2.1)]
  · rw [if_neg q0, if_neg (fun z => q0 z.1)]
theorem C_sets (hN : 1000 ≤ N) (R : SkyN c 1 S) (hW : WS S) {kk st : Nat} {w : Nat → Int32} (hw : ∀ f, f < 4 → c kk f = w f) (hst : st < 256) (w2 : Int32) : ∀ (d u mc : Nat) (kt : Int32 → Mem → Option (Int32 × Mem)), u + d = st → d < mc → F_X2_setsOfTotals_11 N (0 + 1) kk 40 w2 (nI st) kt mc (nI (if w2 = 0 then cdS (gdS S w st) u else 0)) (nI (u + 1)) c = if w2 = 0 then kt (nI (cdS (gdS S w st) st)) c else if lsS (gdS S w st) u d = 0 then kt 0 c else some (nI (lsS (gdS S w st) u d), c) := by
  intro d
  induction d with
  | zero =>
    intro u mc kt hu hm
    obtain ⟨mc, rfl⟩ : ∃ q, mc = q + 1 := ⟨mc - 1, by omega⟩
    have h7 : u = st := by omega
    subst h7
    rw [F_X2_setsOfTotals_11, if_pos (Int32.not_le.mp (nI_ge (by omega) (by omega)))]
    by_cases z : w2 = 0
    · rw [if_pos z, if_pos z]
    · rw [if_neg z, if_neg z, if_pos (show lsS (gdS S w u) u 0 = 0 from rfl)]
      rfl
  | succ d ih =>
    intro u mc kt hu hm
    obtain ⟨mc, rfl⟩ : ∃ q, mc = q + 1 := ⟨mc - 1, by omega⟩
    have i1 := ih (u + 1) mc kt (by omega) (by omega)
    rw [F_X2_setsOfTotals_11, if_neg (Int32.not_lt.mpr (nI_le (by omega) (by omega))), C_has hN R hW hw, bnd_s, lsS, nI_1]
    by_cases q : gdS S w st (u + 1) = true
    · have qd := of_decide_eq_true q
      rw [if_pos qd.1, if_pos qd.2, if_neg (show ¬ (1 : Int32) = 0 by decide), if_pos q]
      by_cases z : w2 = 0
      · rw [if_pos z, if_pos z, if_pos z, nI_1]
        rw [if_pos z, if_pos z, cdS, if_pos q] at i1
        exact i1
      · rw [if_neg z, if_neg z, if_neg (show ¬ u + 1 = 0 by omega)]
    · have same : (if w2 = 0 then cdS (gdS S w st) (u + 1) else 0) = (if w2 = 0 then cdS (gdS S w st) u else 0) := by
        by_cases z : w2 = 0
        · rw [if_pos z, if_pos z, cdS, if_neg q]
          rfl
        · rw [if_neg z, if_neg z]
      rw [same] at i1
      rw [if_neg q]
      by_cases y : (nI (u + 1) &&& (nI st ^^^ (-1 : Int32))) = 0
      · rw [if_pos y, if_neg (fun v => q (decide_eq_true ⟨y, v⟩)), if_pos (show (0 : Int32) = 0 from rfl)]
        exact i1
      · rw [if_neg y]
        exact i1
end ST
