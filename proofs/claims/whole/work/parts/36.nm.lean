/-! NAMES AND DEBTS -/
def cMem (S : Mem) : Mem := fun k j => if k = 103 then rowOf S j else 0
def s_lw (S : Mem) (x : Nat) (a b d : Int32) : Int32 := match F_X7_walks 4000 102 (nI x) a b d (cMem S) with
  | some (v, _) => v
  | none => 0
def FK (c : Nat) (h h' : Mem) : Prop := ∀ k, k ≠ c + 7 → k ≠ c + 10 → h' k = h k
theorem FK.rf {c : Nat} {h : Mem} : FK c h h := fun _ _ _ => rfl
theorem FK.tr {c : Nat} {a b d : Mem} (x : FK c a b) (y : FK c b d) : FK c a d := fun k h1 h2 => (y k h1 h2).trans (x k h1 h2)
theorem FK.FS {c : Nat} {h h' : Mem} (x : FK c h h') : FS c h h' := fun k hk => x k (by omega) (by omega)
theorem E102.rf {h : Mem} : E102 h h := ⟨fun _ _ => rfl, fun _ _ => rfl⟩
theorem E102.tr {a b d : Mem} (x : E102 a b) (y : E102 b d) : E102 a d := ⟨fun k hk => (y.1 k hk).trans (x.1 k hk), fun j hj => (y.2 j hj).trans (x.2 j hj)⟩
theorem SkyR.fk {h h' S : Mem} {c : Nat} (R : SkyR h c S) (E : FK c h h') : SkyR h' c S :=
  ⟨R.1.off (fun k _ _ h3 => E k (by omega) (by omega)), R.2.1.cp (by rw [E _ (by omega) (by omega)]) (by rw [E _ (by omega) (by omega)]) (fun j _ => by rw [E _ (by omega) (by omega)]) rfl rfl, R.2.2.cp (by rw [E _ (by omega) (by omega)]) (by rw [E _ (by omega) (by omega)]) (fun j _ => by rw [E _ (by omega) (by omega)]) rfl rfl⟩
theorem row_tx {S : Mem} {w : Nat → Int32} (R : RowR w S) {x : Nat} (hx : x < 2) : (∀ j, j < 50 → w (162 + 50 * x + j) = S (13 + x) j) ∧ w (6 + x) = S 8 (6 + x) := by
  refine ⟨fun j hj => ?_, ?_⟩
  · rw [R _ (by omega)]
    rcases (show x = 0 ∨ x = 1 by omega) with rfl | rfl
    · exact ro_13 hj
    · exact ro_14 hj
  · rw [R _ (by omega), ro_8 (by omega)]
theorem rowR_self (S : Mem) : RowR (rowOf S) S := fun _ _ => rfl
theorem TxR.get {h S : Mem} {c x : Nat} (T : TxR h c x S) (hx : x < 2) (h0 : ¬ S 8 (6 + x) < 0) : h (c + 5 + 3 * x) 0 = 1 ∧ ∀ a b d, (∀ N, 1000 ≤ N → ∃ h', F_X3_workOut N (c + 5 + 3 * x) a b d h = some (s_lw S x a b d, h') ∧ ∀ k, k ≠ c + 5 + 3 * x + 2 → h' k = h k) ∧ ∀ N g, 1000 ≤ N → RowR (g 103) S → ∃ g', F_X7_walks N 102 (nI x) a b d g = some (s_lw S x a b d, g') ∧ E102 g g' := by
  rcases T with ⟨t1, t2⟩ | ⟨t1, n, hn, t2, m, hm, t3, t4⟩
  · exact absurd t2 h0
  refine ⟨t1, fun a b d => ?_⟩
  obtain ⟨v, v1, v2⟩ := t4 a b d
  have e : s_lw S x a b d = v := by
    have hr := row_tx (rowR_self S) hx
    obtain ⟨h', e', _⟩ := v2 4000 (cMem S) (by omega) (fun j hj => hr.1 j hj) (hr.2.trans t2)
    unfold s_lw
    rw [e']
  rw [e]
  refine ⟨fun N hN => v1 N h _ hN (fun _ _ => rfl) t3, fun N g hN hg => ?_⟩
  have hr := row_tx hg hx
  exact v2 N g hN hr.1 (hr.2.trans t2)
theorem TxR.un {h S : Mem} {c x : Nat} (T : TxR h c x S) (h0 : S 8 (6 + x) < 0) : h (c + 5 + 3 * x) 0 = 0 := by
  rcases T with ⟨t1, t2⟩ | ⟨t1, n, hn, t2, m, hm, t3, t4⟩
  · exact t1
  · rw [t2] at h0
    exact absurd h0 (nI_pos (by omega))
def s_name (S : Mem) (a b d : Int32) : Int32 := if S 8 6 < 0 then a / 10 else s_lw S 0 a b d
def s_debt (S : Mem) (a b d : Int32) : Int32 := hld (if S 8 7 < 0 then (if a ≤ b then 0 else irm (a - b) 9) else s_lw S 1 a b d) 0 99
def s_nm (S : Mem) (i : Nat) : Int32 := s_name S (s_taste S i) (S i 3) (S i 4)
def s_nob (S : Mem) (i : Nat) : Int32 := if S i 7 = 1 then (if s_nm S i = 0 then 1 else 0) else 1
def s_nobs (S : Mem) : Nat → Int32
  | 0 => 0
  | n + 1 => s_nobs S n + s_nob S n
theorem nob_bo (S : Mem) (i : Nat) : s_nob S i = 0 ∨ s_nob S i = 1 := by
  unfold s_nob
  repeat' split
  all_goals simp
section NM
variable {h S : Mem} {c i N : Nat}
theorem C_nameBy (hN : 1000 ≤ N) (R : SkyR h c S) (a b d : Int32) : ∃ h', F_X2_nameBy N c a b d h = some (s_name S a b d, h') ∧ FK c h h' := by
  unfold F_X2_nameBy s_name
  by_cases q : S 8 6 < 0
  · rw [if_pos q, if_pos (show h (c + 5) 0 = 0 from R.2.1.un q), gnz_n _ (by decide)]
    exact ⟨h, rfl, FK.rf⟩
  · rw [if_neg q]
    obtain ⟨g1, g2⟩ := R.2.1.get (by omega) q
    rw [if_neg (by rw [show h (c + 5) 0 = 1 from g1]; decide)]
    obtain ⟨h', e, f⟩ := (g2 a b d).1 N hN
    rw [show F_X3_workOut N (c + 5) a b d h = _ from e, bnd_s]
    exact ⟨h', rfl, fun k _ h2 => f k (by omega)⟩
theorem C_debtBy (hN : 1000 ≤ N) (R : SkyR h c S) (a b d : Int32) : ∃ h', F_X2_debtBy N c a b d h = some (s_debt S a b d, h') ∧ FK c h h' := by
  unfold F_X2_debtBy s_debt
  have key : ∀ s2 : Int32, (S 8 7 < 0 → s2 = if a ≤ b then 0 else irm (a - b) 9) → ∃ h', (if (h (c + 8) 0) = 0 then (bnd (F_J9_min_7cf53 (99 : Int32) s2 h) (fun r7 h8 => (bnd (F_J9_max_7cf53 (0 : Int32) r7 h8) (fun r9 h10 => (some (r9, h10)))))) else (bnd (F_X3_workOut N (c + 8) a b d h) (fun r11 h12 => (bnd (F_J9_min_7cf53 (99 : Int32) r11 h12) (fun r7 h8 => (bnd (F_J9_max_7cf53 (0 : Int32) r7 h8) (fun r9 h10 => (some (r9, h10))))))))) = some (hld (if S 8 7 < 0 then (if a ≤ b then 0 else irm (a - b) 9) else s_lw S 1 a b d) 0 99, h') ∧ FK c h h' := by
    intro s2 hs
    have hm : ∀ x : Int32, (if 0 < (if x < 99 then x else 99) then (if x < 99 then x else 99) else (0 : Int32)) = hld x 0 99 := by
      intro x
      unfold hld
      grind
    by_cases q : S 8 7 < 0
    · rw [if_pos q, if_pos (show h (c + 8) 0 = 0 from R.2.2.un q), C_min, bnd_s, C_max, bnd_s, hm, hs q]
      exact ⟨h, rfl, FK.rf⟩
    · rw [if_neg q]
      obtain ⟨g1, g2⟩ := R.2.2.get (by omega) q
      rw [if_neg (by rw [show h (c + 8) 0 = 1 from g1]; decide)]
      obtain ⟨h', e, f⟩ := (g2 a b d).1 N hN
      rw [show F_X3_workOut N (c + 8) a b d h = _ from e, bnd_s, C_min, bnd_s, C_max, bnd_s, hm]
      exact ⟨h', rfl, fun k h1 h2 => f k (by omega)⟩
  simp only [jn_e]
  by_cases q : a ≤ b
  · rw [if_pos q]
    have := key 0 (fun _ => by rw [if_pos q])
    rw [if_pos q] at this
    rw [if_pos q]
    exact this
  · rw [if_neg q, gnz_n _ (by decide)]
    have := key (irm (a - b) 9) (fun _ => by rw [if_neg q])
    rw [if_neg q] at this
    rw [if_neg q]
    exact this
theorem C_saltAt (R : SkyN h c S) (hi : i < 8) {s : Nat} (hs : s < 3) : F_X0_saltAt (ca c i) (nI s) h = some (S i (4 + s), h) := by
  unfold F_X0_saltAt
  rw [if_neg (nI_pos (by omega)), if_neg (show ¬ (3 : Int32) ≤ nI s from nI_ge (b := 3) hs (by omega)), gin_n _ hs (by omega), ix_n (by omega), C_s R hi hs]
theorem C_nameOf (hN : 1000 ≤ N) (R : SkyR h c S) (hi : i < 8) (hC : WC S i) : ∃ h', F_X2_nameOf N c (ca c i) h = some (s_nm S i, h') ∧ FK c h h' := by
  unfold F_X2_nameOf s_nm
  rw [C_taste R.1 hi hC, bnd_s, show F_X0_saltAt (ca c i) (0 : Int32) h = _ from C_saltAt (s := 0) R.1 hi (by omega), bnd_s, C_3 R.1 hi]
  obtain ⟨h', e, f⟩ := C_nameBy hN R (s_taste S i) (S i 3) (S i (4 + 0))
  rw [e, bnd_s]
  exact ⟨h', rfl, f⟩
theorem C_isNobody (hN : 1000 ≤ N) (R : SkyR h c S) (hi : i < 8) (hC : WC S i) : ∃ h', F_X2_isNobody N c (nI i) h = some (s_nob S i, h') ∧ FK c h h' := by
  unfold F_X2_isNobody s_nob
  rw [gin_n _ hi (by omega), ca_eq _ _ (by omega), C_7 R.1 hi]
  by_cases q : S i 7 = 1
  · rw [if_neg (by rw [q]; decide), if_pos q, gin_n _ hi (by omega)]
    obtain ⟨h', e, f⟩ := C_nameOf hN R hi hC
    rw [e, bnd_s]
    split
    · exact ⟨h', rfl, f⟩
    · exact ⟨h', rfl, f⟩
  · rw [if_pos (by unfold WC at hC; grind), if_neg q]
    exact ⟨h, rfl, FK.rf⟩
theorem C_nobodies (hN : 1000 ≤ N) (R : SkyR h c S) (hW : WS S) : ∃ h', F_X2_nobodies N c h = some (s_nobs S (ix (S 8 0)), h') ∧ FK c h h' := by
  obtain ⟨M, hM, e0, ex0⟩ := made_of hW
  rw [ex0]
  have key : ∀ (d n m : Nat) (g : Mem), n + d = M → d < m → FK c h g → ∃ g', (∀ kt, F_X2_nobodies_4 N c kt m (s_nobs S n) (nI n) g = kt (s_nobs S M) g') ∧ FK c h g' := by
    intro d
    induction d with
    | zero =>
      intro n m g hn hm hE
      obtain ⟨m, rfl⟩ : ∃ q, m = q + 1 := ⟨m - 1, by omega⟩
      have hnM : n = M := by omega
      subst hnM
      exact ⟨g, fun kt => by rw [F_X2_nobodies_4, C_made (R.fk hE).1, e0, if_pos (nI_le (Nat.le_refl n) (by omega))], hE⟩
    | succ d ih =>
      intro n m g hn hm hE
      obtain ⟨m, rfl⟩ : ∃ q, m = q + 1 := ⟨m - 1, by omega⟩
      obtain ⟨g1, e1, f1⟩ := C_isNobody hN (R.fk hE) (show n < 8 by omega) (hW.2.2.2.2.2 n (by omega))
      obtain ⟨g2, e2, f2⟩ := ih (n + 1) m g1 (by omega) (by omega) (hE.tr f1)
      refine ⟨g2, fun kt => ?_, f2⟩
      rw [F_X2_nobodies_4, C_made (R.fk hE).1, e0, if_neg (nI_ge (by omega) (by omega)), e1, bnd_s, nI_1]
      have hs : s_nobs S (n + 1) = s_nobs S n + s_nob S n := rfl
      rcases nob_bo S n with q | q
      · rw [if_pos q, ← e2 kt, hs, q]
        congr 1
        grind
      · rw [if_neg (by rw [q]; decide), ← e2 kt, hs, q]
  unfold F_X2_nobodies
  obtain ⟨g, eg, f⟩ := key M 0 N h (by omega) (by omega) FK.rf
  have eg' : ∀ kt, F_X2_nobodies_4 N c kt N 0 0 h = kt (s_nobs S M) g := eg
  rw [eg']
  exact ⟨g, rfl, f⟩
end NM
/-! the Model's names: the sky at c stands for S, in some memory hc -/
section NMM
variable {hc h S : Mem} {c i N : Nat}
theorem E102.row {h h' S : Mem} (E : E102 h h') (hR : RowR (h 103) S) : RowR (h' 103) S := by
  rw [E.1 103 (by omega)]
  exact hR
theorem M_lawOf (hN : 1000 ≤ N) (T : SkyR hc c S) (hR : RowR (h 103) S) {x : Nat} (hx : x < 2) (a b d : Int32) : ∃ h', F_X7_lawOf N 102 (nI x) a b d h = some (if x = 0 then s_name S a b d else s_debt S a b d, h') ∧ E102 h h' := by
  unfold F_X7_lawOf
  have e6 : h (102 + 1) (ix (nI (6 + x))) = S 8 (6 + x) := by rw [M_row hR (by omega), rp_8 (by omega)]
  rw [show (6 : Int32) = nI 6 from rfl, nI_add, sq_i, gin_n _ (by omega) (by omega), e6]
  rcases (show x = 0 ∨ x = 1 by omega) with rfl | rfl
  · unfold s_name
    by_cases q : S 8 6 < 0
    · rw [if_neg (by show ¬ 0 ≤ S 8 6; grind)]
      simp only [show nI 0 = (0 : Int32) from rfl, if_true, if_pos q, gnz_n _ (show ¬ (10 : Int32) = 0 by decide)]
      exact ⟨h, rfl, E102.rf⟩
    · rw [if_pos (by show 0 ≤ S 8 6; grind)]
      obtain ⟨g', e, f⟩ := ((T.2.1.get (by omega) q).2 a b d).2 N h hN hR
      rw [e, bnd_s]
      simp only [show nI 0 = (0 : Int32) from rfl, if_true, if_neg q]
      exact ⟨g', rfl, f⟩
  · unfold s_debt
    by_cases q : S 8 7 < 0
    · rw [if_neg (by show ¬ 0 ≤ S 8 7; grind), if_neg (by decide), if_neg (by omega), if_pos q, jn_e]
      by_cases q2 : a ≤ b
      · rw [if_pos q2, if_pos q2]
        simp only [gnz_n _ (show ¬ (9 : Int32) = 0 by decide), M_held, bnd_s, show (0 : Int32) * (a - b) = 0 by grind, show irm 0 9 = 0 by decide]
        exact ⟨h, rfl, E102.rf⟩
      · rw [if_neg q2, if_neg q2]
        simp only [gnz_n _ (show ¬ (9 : Int32) = 0 by decide), M_held, bnd_s, show (1 : Int32) * (a - b) = a - b by grind]
        exact ⟨h, rfl, E102.rf⟩
    · rw [if_pos (by show 0 ≤ S 8 7; grind), if_neg (by omega), if_neg q]
      obtain ⟨g', e, f⟩ := ((T.2.2.get (by omega) q).2 a b d).2 N h hN hR
      rw [e, bnd_s, if_neg (by decide), M_held, bnd_s]
      exact ⟨g', rfl, f⟩
theorem M_nameOf (hN : 1000 ≤ N) (T : SkyR hc c S) (hR : RowR (h 103) S) (hi : i < 8) : ∃ h', F_X7_nameOf N 102 (nI i) h = some (s_nm S i, h') ∧ E102 h h' := by
  unfold F_X7_nameOf s_nm
  rw [M_tasteOf hR hi, bnd_s]
  rw [show F_X7_its 102 (nI i) (3 : Int32) h = _ from M_its (f := 3) hR hi (by omega), bnd_s]
  rw [show F_X7_its 102 (nI i) (4 : Int32) h = _ from M_its (f := 4) hR hi (by omega), bnd_s]
  obtain ⟨h', e, f⟩ := M_lawOf hN T hR (x := 0) (by omega) (s_taste S i) (S i 3) (S i 4)
  rw [show F_X7_lawOf N 102 (0 : Int32) (s_taste S i) (S i 3) (S i 4) h = _ from e, bnd_s]
  exact ⟨h', rfl, f⟩
theorem M_isNobody (hN : 1000 ≤ N) (T : SkyR hc c S) (hR : RowR (h 103) S) (hi : i < 8) : ∃ h', F_X7_isNobody N 102 (nI i) h = some (s_nob S i, h') ∧ E102 h h' := by
  unfold F_X7_isNobody s_nob
  rw [M_isThere hR hi, bnd_s]
  by_cases q : S i 7 = 1
  · rw [if_pos q, if_neg (by decide), if_pos q]
    obtain ⟨h', e, f⟩ := M_nameOf hN T hR hi
    rw [e, bnd_s]
    split
    · exact ⟨h', rfl, f⟩
    · exact ⟨h', rfl, f⟩
  · rw [if_neg q, if_pos rfl, if_neg q]
    exact ⟨h, rfl, E102.rf⟩
theorem M_nobodies (hN : 1000 ≤ N) (T : SkyR hc c S) (hR : RowR (h 103) S) (hW : WS S) : ∃ h', F_X7_nobodies N 102 h = some (s_nobs S (ix (S 8 0)), h') ∧ E102 h h' := by
  obtain ⟨M, hM, e0, ex0⟩ := made_of hW
  rw [ex0]
  have key : ∀ (d n m : Nat) (g : Mem), n + d = M → d < m → E102 h g → ∃ g', (∀ kt, F_X7_nobodies_4 N 102 kt m (s_nobs S n) (nI n) g = kt (s_nobs S M) g') ∧ E102 h g' := by
    intro d
    induction d with
    | zero =>
      intro n m g hn hm hE
      obtain ⟨m, rfl⟩ : ∃ q, m = q + 1 := ⟨m - 1, by omega⟩
      have hnM : n = M := by omega
      subst hnM
      refine ⟨g, fun kt => ?_, hE⟩
      rw [F_X7_nobodies_4, gin_d _ (by decide), show g (102 + 1) (ix (0 : Int32)) = S 8 0 from M_row (j := 0) (hE.row hR) (by omega), e0, if_pos (nI_le (Nat.le_refl n) (by omega))]
    | succ d ih =>
      intro n m g hn hm hE
      obtain ⟨m, rfl⟩ : ∃ q, m = q + 1 := ⟨m - 1, by omega⟩
      obtain ⟨g1, e1, f1⟩ := M_isNobody hN T (hE.row hR) (show n < 8 by omega)
      obtain ⟨g2, e2, f2⟩ := ih (n + 1) m g1 (by omega) (by omega) (hE.tr f1)
      refine ⟨g2, fun kt => ?_, f2⟩
      rw [F_X7_nobodies_4, gin_d _ (by decide), show g (102 + 1) (ix (0 : Int32)) = S 8 0 from M_row (j := 0) (hE.row hR) (by omega), e0, if_neg (nI_ge (by omega) (by omega)), e1, bnd_s, nI_1]
      have hs : s_nobs S (n + 1) = s_nobs S n + s_nob S n := rfl
      rcases nob_bo S n with q | q
      · rw [if_pos q, ← e2 kt, hs, q, sq_i]
      · rw [if_neg (by rw [q]; decide), ← e2 kt, hs, q, sq_i]
  unfold F_X7_nobodies
  obtain ⟨g, eg, f⟩ := key M 0 N h (by omega) (by omega) E102.rf
  have eg' : ∀ kt, F_X7_nobodies_4 N 102 kt N 0 0 h = kt (s_nobs S M) g := eg
  rw [eg']
  exact ⟨g, rfl, f⟩
end NMM
