/-! SETS AND SUMS -/
def s_mask (S : Mem) : Nat → Nat
  | 0 => 0
  | n + 1 => s_mask S n + (if S n 7 = 1 then 2 ^ n else 0)
def bitx (v : Int32) (i : Nat) : Int32 := (v >>> (nI i &&& 31)) &&& 1
def s_tot (S : Mem) (v : Int32) (f : Nat) : Nat → Int32
  | 0 => 0
  | n + 1 => if bitx v n = 1 then s_tot S v f n + S n f else s_tot S v f n
theorem mask_or : ∀ n, n < 8 → ∀ x, x < 2 ^ n → nI x ||| ((1 : Int32) <<< (nI n &&& 31)) = nI (x + 2 ^ n) := by decide +kernel
theorem mask_z : ∀ n, n < 8 → (0 : Int32) <<< (nI n &&& 31) = 0 := by decide +kernel
theorem mask_k : ∀ n, n < 8 → ∀ x, x < 2 ^ n → ∀ i, i < n → (x + 2 ^ n) / 2 ^ i % 2 = x / 2 ^ i % 2 := by decide +kernel
theorem mask_t : ∀ n, n < 8 → ∀ x, x < 2 ^ n → (x + 2 ^ n) / 2 ^ n % 2 = 1 ∧ x / 2 ^ n % 2 = 0 := by decide +kernel
theorem mask_b : ∀ x, x < 256 → ∀ i, i < 8 → bitx (nI x) i = nI (x / 2 ^ i % 2) := by decide +kernel
theorem or_z (x : Int32) : x ||| 0 = x := Int32.or_zero
theorem and1 (v : Int32) (i : Nat) : bitx v i = 0 ∨ bitx v i = 1 := by
  unfold bitx
  generalize v >>> (nI i &&& 31) = w
  have h : ∀ b : BitVec 32, b &&& 1#32 = 0#32 ∨ b &&& 1#32 = 1#32 := by
    intro b
    have : (b &&& 1#32).toNat = b.toNat % 2 := by simp [BitVec.toNat_and, Nat.and_one_is_mod]
    rcases Nat.mod_two_eq_zero_or_one b.toNat with q | q
    · left
      exact BitVec.eq_of_toNat_eq (by rw [this, q]; rfl)
    · right
      exact BitVec.eq_of_toNat_eq (by rw [this, q]; rfl)
  rcases h w.toBitVec with q | q
  · left
    exact Int32.toBitVec_inj.mp q
  · right
    exact Int32.toBitVec_inj.mp q
theorem pw_le {n : Nat} (h : n ≤ 8) : 2 ^ n ≤ 256 := Nat.pow_le_pow_right (by omega) h
theorem mask_in (S : Mem) : ∀ n, n ≤ 8 → s_mask S n < 2 ^ n ∧ ∀ i, i < n → s_mask S n / 2 ^ i % 2 = if S i 7 = 1 then 1 else 0 := by
  intro n
  induction n with
  | zero => intro _; exact ⟨by show 0 < 1; omega, fun _ h => by omega⟩
  | succ n ih =>
    intro hn
    obtain ⟨h1, h2⟩ := ih (by omega)
    have hp : 2 ^ (n + 1) = 2 ^ n + 2 ^ n := by rw [Nat.pow_succ]; omega
    rw [s_mask]
    refine ⟨by split <;> omega, fun i hi => ?_⟩
    by_cases z : i = n
    · subst z
      have := mask_t i (by omega) _ h1
      split
      · exact this.1
      · rw [Nat.add_zero]; exact this.2
    · rw [← h2 i (by omega)]
      split
      · exact mask_k n (by omega) _ h1 i (by omega)
      · rw [Nat.add_zero]
section SU
variable {c m S : Mem} {k N : Nat}
theorem C_set {g : Mem} {q : Nat} (hN : 1000 ≤ N) (R : SkyN g q S) (hW : WS S) : F_X2_setOfAll N q g = some (nI (s_mask S (ix (S 8 0))), g) := by
  obtain ⟨M, hM, e0, ex0⟩ := made_of hW
  rw [ex0]
  have key : ∀ (d n mc : Nat) (kt : Int32 → Mem → Option (Int32 × Mem)), n + d = M → d < mc → F_X2_setOfAll_4 N q kt mc (nI (s_mask S n)) (nI n) g = kt (nI (s_mask S M)) g := by
    intro d
    induction d with
    | zero =>
      intro n mc kt hn hm
      obtain ⟨mc, rfl⟩ : ∃ q, mc = q + 1 := ⟨mc - 1, by omega⟩
      have hnM : n = M := by omega
      subst hnM
      rw [F_X2_setOfAll_4, C_made R, e0, if_pos (nI_le (Nat.le_refl n) (by omega))]
    | succ d ih =>
      intro n mc kt hn hm
      obtain ⟨mc, rfl⟩ : ∃ q, mc = q + 1 := ⟨mc - 1, by omega⟩
      have hC := hW.2.2.2.2.2 n (by omega)
      rw [F_X2_setOfAll_4, C_made R, e0, if_neg (nI_ge (by omega) (by omega)), gin_n _ (show n < 8 by omega) (by omega), ca_eq _ _ (by omega), C_7 R (by omega), nI_1, ← ih (n + 1) mc kt (by omega) (by omega), s_mask]
      by_cases z : S n 7 = 1
      · rw [if_neg (by rw [z]; decide), sq_i, if_pos z, mask_or n (by omega) _ (mask_in S n (by omega)).1]
      · rw [if_pos (by unfold WC at hC; grind), if_neg z]
        rfl
  unfold F_X2_setOfAll
  exact key M 0 N _ (by omega) (by omega)
theorem M_set {g : Mem} (hN : 1000 ≤ N) (R : RowR (g 103) S) (hW : WS S) : F_X7_thereOnes N 102 g = some (nI (s_mask S (ix (S 8 0))), g) := by
  obtain ⟨M, hM, e0, ex0⟩ := made_of hW
  rw [ex0]
  have key : ∀ (d n mc : Nat) (kt : Int32 → Mem → Option (Int32 × Mem)), n + d = M → d < mc → F_X7_thereOnes_4 N 102 kt mc (nI (s_mask S n)) (nI n) g = kt (nI (s_mask S M)) g := by
    intro d
    induction d with
    | zero =>
      intro n mc kt hn hm
      obtain ⟨mc, rfl⟩ : ∃ q, mc = q + 1 := ⟨mc - 1, by omega⟩
      have hnM : n = M := by omega
      subst hnM
      rw [F_X7_thereOnes_4, gin_d _ (by decide), ro_0 R, e0, if_pos (nI_le (Nat.le_refl n) (by omega))]
    | succ d ih =>
      intro n mc kt hn hm
      obtain ⟨mc, rfl⟩ : ∃ q, mc = q + 1 := ⟨mc - 1, by omega⟩
      have hC := hW.2.2.2.2.2 n (by omega)
      rw [F_X7_thereOnes_4, gin_d _ (by decide), ro_0 R, e0, if_neg (nI_ge (by omega) (by omega)), show F_X7_its 102 (nI n) (7 : Int32) g = _ from M_its (f := 7) R (by omega) (by omega), bnd_s, sq_i, nI_1, ← ih (n + 1) mc kt (by omega) (by omega), s_mask]
      by_cases z : S n 7 = 1
      · rw [z, if_pos rfl, mask_or n (by omega) _ (mask_in S n (by omega)).1]
      · have z0 : S n 7 = 0 := by unfold WC at hC; grind
        rw [z0, if_neg (by decide), mask_z n (by omega), or_z]
        rfl
  unfold F_X7_thereOnes
  exact key M 0 N _ (by omega) (by omega)
theorem C_tot {g : Mem} {q : Nat} (hN : 1000 ≤ N) (R : SkyN g q S) (hW : WS S) (v : Int32) {f : Nat} (hf : f < 4) : F_X2_totalOf N q v (nI f) g = some (s_tot S v (3 + f) (ix (S 8 0)), g) := by
  obtain ⟨M, hM, e0, ex0⟩ := made_of hW
  rw [ex0]
  have key : ∀ (d n mc : Nat) (kt : Int32 → Mem → Option (Int32 × Mem)), n + d = M → d < mc → F_X2_totalOf_5 N q v (nI f) kt mc (s_tot S v (3 + f) n) (nI n) g = kt (s_tot S v (3 + f) M) g := by
    intro d
    induction d with
    | zero =>
      intro n mc kt hn hm
      obtain ⟨mc, rfl⟩ : ∃ q, mc = q + 1 := ⟨mc - 1, by omega⟩
      have hnM : n = M := by omega
      subst hnM
      rw [F_X2_totalOf_5, C_made R, e0, if_pos (nI_le (Nat.le_refl n) (by omega))]
    | succ d ih =>
      intro n mc kt hn hm
      obtain ⟨mc, rfl⟩ : ∃ q, mc = q + 1 := ⟨mc - 1, by omega⟩
      have hn8 : n < 8 := by omega
      rw [F_X2_totalOf_5, C_made R, e0, if_neg (nI_ge (by omega) (by omega)), nI_1, ← ih (n + 1) mc kt (by omega) (by omega), s_tot, show (v >>> (nI n &&& 31)) &&& 1 = bitx v n from rfl]
      by_cases z : bitx v n = 1
      · rw [if_pos z, if_pos z, ca_eq _ _ (by omega)]
        rcases (show f = 0 ∨ f = 1 ∨ f = 2 ∨ f = 3 by omega) with rfl | rfl | rfl | rfl
        · rw [if_pos (show nI 0 = 0 from rfl), gin_n _ hn8 (by omega), sq_i, C_3 R hn8]
        · rw [if_neg (show ¬ nI 1 = 0 by decide), gin_n _ hn8 (by omega), show F_X0_saltAt (ca q n) (nI 1 - 1) g = _ from C_saltAt (s := 0) R hn8 (by omega), bnd_s, sq_i]
        · rw [if_neg (show ¬ nI 2 = 0 by decide), gin_n _ hn8 (by omega), show F_X0_saltAt (ca q n) (nI 2 - 1) g = _ from C_saltAt (s := 1) R hn8 (by omega), bnd_s, sq_i]
        · rw [if_neg (show ¬ nI 3 = 0 by decide), gin_n _ hn8 (by omega), show F_X0_saltAt (ca q n) (nI 3 - 1) g = _ from C_saltAt (s := 2) R hn8 (by omega), bnd_s, sq_i]
      · rw [if_neg z, if_neg z]
  unfold F_X2_totalOf
  exact key M 0 N _ (by omega) (by omega)
theorem M_tot {g : Mem} (hN : 1000 ≤ N) (R : RowR (g 103) S) (hW : WS S) (v : Int32) {f : Nat} (hf : f < 8) : F_X7_sumOf N 102 v (nI f) g = some (s_tot S v f (ix (S 8 0)), g) := by
  obtain ⟨M, hM, e0, ex0⟩ := made_of hW
  rw [ex0]
  have key : ∀ (d n mc : Nat) (kt : Int32 → Mem → Option (Int32 × Mem)), n + d = M → d < mc → F_X7_sumOf_5 N 102 v (nI f) kt mc (s_tot S v f n) (nI n) g = kt (s_tot S v f M) g := by
    intro d
    induction d with
    | zero =>
      intro n mc kt hn hm
      obtain ⟨mc, rfl⟩ : ∃ q, mc = q + 1 := ⟨mc - 1, by omega⟩
      have hnM : n = M := by omega
      subst hnM
      rw [F_X7_sumOf_5, gin_d _ (by decide), ro_0 R, e0, if_pos (nI_le (Nat.le_refl n) (by omega))]
    | succ d ih =>
      intro n mc kt hn hm
      obtain ⟨mc, rfl⟩ : ∃ q, mc = q + 1 := ⟨mc - 1, by omega⟩
      have hn8 : n < 8 := by omega
      rw [F_X7_sumOf_5, gin_d _ (by decide), ro_0 R, e0, if_neg (nI_ge (by omega) (by omega)), M_its R hn8 hf, bnd_s, sq_i, nI_1, ← ih (n + 1) mc kt (by omega) (by omega), s_tot, show (v >>> (nI n &&& 31)) &&& 1 = bitx v n from rfl]
      rcases and1 v n with z | z
      · rw [z, if_neg (by decide), show (0 : Int32) * S n f = 0 by grind, show s_tot S v f n + 0 = s_tot S v f n by grind]
      · rw [z, if_pos rfl, show (1 : Int32) * S n f = S n f by grind]
  unfold F_X7_sumOf
  exact key M 0 N _ (by omega) (by omega)
/-- the water of all that is there, told two ways -/
theorem tot_all (hW : WS S) : s_tot S (nI (s_mask S (ix (S 8 0)))) 3 (ix (S 8 0)) = s_tot S 255 3 (ix (S 8 0)) := by
  obtain ⟨M, hM, e0, ex0⟩ := made_of hW
  rw [ex0]
  have hm := mask_in S M hM
  have hp := pw_le hM
  have key : ∀ n, n ≤ M → s_tot S (nI (s_mask S M)) 3 n = s_tot S 255 3 n := by
    intro n
    induction n with
    | zero => intro _; rfl
    | succ n ih =>
      intro hn
      have hC := hW.2.2.2.2.2 n (by omega)
      rw [s_tot, s_tot, ih (by omega), mask_b _ (by omega) n (by omega), hm.2 n (by omega), show bitx 255 n = 1 from (by decide +kernel : ∀ n, n < 8 → bitx 255 n = 1) n (by omega), if_pos rfl]
      by_cases z : S n 7 = 1
      · rw [if_pos z, if_pos (by decide)]
      · rw [if_neg z, if_neg (by decide)]
        have z3 : S n 3 = 0 := by unfold WC at hC; grind
        rw [z3]
        grind
  exact key M (Nat.le_refl _)
theorem P_stays (hN : 1000 ≤ N) (H : RR c m k) (x1 : Int32) : PR (F_X6_stays N 0 x1 c) (F_X7_stays N 102 x1 m) c m k := by
  obtain ⟨⟨S, s⟩, O⟩ := H
  unfold F_X6_stays F_X7_stays
  rcases in_cs x1 0 3 with ⟨q, e1, e2⟩ | ⟨q, e1, e2⟩
  · obtain ⟨f, hf, rfl⟩ := nat_of (n := 3) (by decide) q.1 q.2
    simp only [e1, e2, bnd_s, i10, if_false, bnd_id]
    rw [show F_X2_setOfAll N (0 + 1) c = _ from C_set hN s.1.1 s.2.2.1, bnd_s, M_set hN s.2.1 s.2.2.1, bnd_s, show (3 : Int32) = nI 3 from rfl, nI_add]
    exact PR.ok O (C_tot hN s.1.1 s.2.2.1 _ (by omega)) (M_tot hN s.2.1 s.2.2.1 _ (by omega)) s CF.rf MF.rf
  · simp only [e1, e2, bnd_s, bnd_id, if_true]
    exact PR.er O (Or.inl rfl) s CF.rf MF.rf rfl rfl
end SU
