def mt (a s X : Nat) : Nat → Nat → Nat
  | n, 0 => n
  | n, d + 1 => if a - (s + 1) * n < X then n else mt a s X (n + 1) d
theorem mt_le (a s X : Nat) : ∀ d n, mt a s X n d ≤ n + d := by
  intro d
  induction d with
  | zero => intro n; exact Nat.le_refl _
  | succ d ih =>
    intro n
    rw [mt]
    split
    · omega
    · have := ih (n + 1)
      omega
theorem sun_mx : ∀ l, l < 100 → ∀ s, s < 3 → (if 0 < nI l - (nI s + 1) then nI l - (nI s + 1) else 0) = nI (l - (s + 1)) := by decide +kernel
theorem sun_lt {a b X : Nat} (ha : a ≤ 99) (hb : b ≤ 400) (hX : 1 ≤ X ∧ X ≤ 99) : nI a - nI b < nI X ↔ a - b < X := by
  have h1 : nI a ≤ 99 := nI_le (b := 99) ha (by omega)
  have h0 : 0 ≤ nI a := nI_pos' (by omega)
  have h2 : nI b ≤ 400 := nI_le (b := 400) hb (by omega)
  have h3 : 1 ≤ nI X := nI_le (a := 1) hX.1 (by omega)
  by_cases q : b ≤ a
  · have e : nI (a - b) + nI b = nI a := by rw [nI_add, Nat.sub_add_cancel q]
    have e2 : nI a - nI b = nI (a - b) := by grind
    rw [e2]
    exact ⟨fun z => Nat.lt_of_not_le (fun y => absurd (nI_le (a := X) (b := a - b) y (by omega)) (Int32.not_le.mpr z)), fun z => Int32.not_le.mp (nI_ge z (by omega))⟩
  · have h4 : nI a < nI b := Int32.not_le.mp (nI_ge (by omega) (by omega))
    exact ⟨fun _ => by omega, fun _ => by grind⟩
section SN
variable {c m S : Mem} {k N : Nat}
def mm (S : Mem) (i X s : Nat) : Nat := mt (ix (S i (4 + s))) s X 0 100
theorem salt_n (hW : WS S) {i s : Nat} (hi : i < 8) (hs : s < 3) : ∃ a, a ≤ 99 ∧ S i (4 + s) = nI a ∧ ix (S i (4 + s)) = a := by
  have hC := hW.2.2.2.2.2 i hi
  obtain ⟨a, ha, ea⟩ := nat_of (x := S i (4 + s)) (n := 99) (m := 99) (by decide) (by unfold WC at hC; rcases (show s = 0 ∨ s = 1 ∨ s = 2 by omega) with rfl | rfl | rfl <;> grind) (by unfold WC at hC; rcases (show s = 0 ∨ s = 1 ∨ s = 2 by omega) with rfl | rfl | rfl <;> grind)
  exact ⟨a, ha, ea, by rw [ea, ix_n (by omega)]⟩
theorem C_mins (hN : 1000 ≤ N) (R : SkyN c 1 S) (hW : WS S) {i s X : Nat} (hi : i < 8) (hs : s < 3) (hX : 1 ≤ X ∧ X ≤ 99) : F_X0_minutesToBelow N (ca 1 i) (nI s) (nI X) c = some (nI (mm S i X s), c) := by
  obtain ⟨a, ha, ea, ea2⟩ := salt_n hW hi hs
  unfold F_X0_minutesToBelow mm
  rw [C_saltAt R hi hs, bnd_s, ea2, ea]
  have key : ∀ (d n mc : Nat) (kt : Int32 → Mem → Option (Int32 × Mem)), n + d = 100 → d < mc → F_X0_minutesToBelow_9 N (nI s) (nI X) kt mc (nI (a - (s + 1) * n)) (nI n) c = kt (nI (mt a s X n d)) c := by
    intro d
    induction d with
    | zero =>
      intro n mc kt hn hm
      obtain ⟨mc, rfl⟩ : ∃ q, mc = q + 1 := ⟨mc - 1, by omega⟩
      have hn8 : n = 100 := by omega
      subst hn8
      rw [F_X0_minutesToBelow_9, if_pos (Int32.not_le.mp (nI_ge (by omega) (by omega))), mt]
    | succ d ih =>
      intro n mc kt hn hm
      obtain ⟨mc, rfl⟩ : ∃ q, mc = q + 1 := ⟨mc - 1, by omega⟩
      rw [F_X0_minutesToBelow_9, mt]
      by_cases z : a - (s + 1) * n < X
      · rw [if_pos z, if_pos (Int32.not_le.mp (nI_ge z (by omega)))]
      · rw [if_neg z, if_neg (Int32.not_lt.mpr (nI_le (by omega) (by omega))), if_neg (show ¬ (99 : Int32) < nI n from Int32.not_lt.mpr (nI_le (b := 99) (by omega) (by omega))), C_max, bnd_s, sun_mx _ (by omega) s hs, nI_1, show a - (s + 1) * n - (s + 1) = a - (s + 1) * (n + 1) by rw [Nat.mul_add]; omega]
        exact ih (n + 1) mc kt (by omega) (by omega)
  have e := key 100 0 N (fun v5 h6 => some (v5, h6)) (by omega) (by omega)
  rw [Nat.mul_zero, Nat.sub_zero] at e
  exact e
theorem M_mins (hN : 1000 ≤ N) (R : RowR (m 103) S) (hW : WS S) {i s X : Nat} (hi : i < 8) (hs : s < 3) (hX : 1 ≤ X ∧ X ≤ 99) (x3 u4 u5 : Int32) (kt : Int32 → Mem → Option (Int32 × Mem)) : F_X7_sun_52 N 102 (nI i) (nI X) x3 u4 u5 (nI s) kt N 0 m = kt (nI (mm S i X s)) m := by
  obtain ⟨a, ha, ea, ea2⟩ := salt_n hW hi hs
  unfold mm
  rw [ea2]
  have key : ∀ (d n mc : Nat), n + d = 100 → d < mc → F_X7_sun_52 N 102 (nI i) (nI X) x3 u4 u5 (nI s) kt mc (nI n) m = kt (nI (mt a s X n d)) m := by
    intro d
    induction d with
    | zero =>
      intro n mc hn hm
      obtain ⟨mc, rfl⟩ : ∃ q, mc = q + 1 := ⟨mc - 1, by omega⟩
      have hn8 : n = 100 := by omega
      subst hn8
      rw [F_X7_sun_52, show (4 : Int32) = nI 4 from rfl, nI_add, M_its R hi (by omega), bnd_s, ea, nI_1, pk_mul, if_pos ((sun_lt ha (by rcases (show s = 0 ∨ s = 1 ∨ s = 2 by omega) with rfl | rfl | rfl <;> omega) hX).mpr (by omega)), mt]
    | succ d ih =>
      intro n mc hn hm
      obtain ⟨mc, rfl⟩ : ∃ q, mc = q + 1 := ⟨mc - 1, by omega⟩
      have hb : (s + 1) * n ≤ 400 := by rcases (show s = 0 ∨ s = 1 ∨ s = 2 by omega) with rfl | rfl | rfl <;> omega
      rw [F_X7_sun_52, show (4 : Int32) = nI 4 from rfl, nI_add, M_its R hi (by omega), bnd_s, ea, nI_1, pk_mul, mt]
      by_cases z : a - (s + 1) * n < X
      · rw [if_pos z, if_pos ((sun_lt ha hb hX).mpr z)]
      · rw [if_neg z, if_neg (fun y => z ((sun_lt ha hb hX).mp y)), nI_1]
        exact ih (n + 1) mc (by omega) (by omega)
  exact key 100 0 N (by omega) (by omega)
theorem nle_iff {a b : Nat} (ha : a < 2 ^ 31) (hb : b < 2 ^ 31) : nI a ≤ nI b ↔ a ≤ b := ⟨fun z => Nat.le_of_not_lt (fun y => nI_ge y ha z), fun z => nI_le z hb⟩
theorem P_sun (hN : 1000 ≤ N) (H : RR c m k) (x1 x2 x3 : Int32) : PR (F_X6_sun N 0 x1 x2 x3 c) (F_X7_sun N 102 x1 x2 x3 m) c m k := by
  obtain ⟨⟨S, s⟩, O⟩ := H
  unfold F_X6_sun F_X7_sun
  rcases cl_cs s.2.2.1 x1 with ⟨⟨i, hi, hiM, rfl⟩, g1, g2⟩ | ⟨g1, g2⟩
  · rw [g1 c s.1.1, g2 m s.2.1]
    simp only [bnd_s, i10, if_false]
    rcases in_cs x2 1 99 with ⟨q, e1, e2⟩ | ⟨q, e1, e2⟩
    · obtain ⟨X, hX, rfl⟩ := nat_of (n := 99) (by decide) (Int32.le_trans (show (0 : Int32) ≤ 1 by decide) q.1) q.2
      have hX1 : 1 ≤ X := (nle_iff (a := 1) (by omega) (by omega)).mp q.1
      simp only [e1, e2, bnd_s, i10, if_false]
      rcases in_cs x3 0 1 with ⟨q3, e1, e2⟩ | ⟨q3, e1, e2⟩
      · simp only [e1, e2, bnd_s, i10, if_false, bnd_id]
        rw [gin_n _ hi (by omega), ca1 i (by omega)]
        have hl : ∀ s, mm S i X s ≤ 100 := fun s => by
          have := mt_le (ix (S i (4 + s))) s X 100 0
          unfold mm
          omega
        obtain ⟨n, rfl⟩ : ∃ n, N = n + 5 := ⟨N - 5, by omega⟩
        -- the least one
        obtain ⟨b, hb, cB, mB⟩ : ∃ b, b < 3 ∧ F_X0_firstSaltBelow (n + 5) (ca 1 i) (nI X) c = some (nI b, c) ∧ ∀ kt, F_X7_sun_43 (n + 5) 102 (nI i) (nI X) x3 kt (n + 5) 0 (-1) 0 m = kt (nI b) (nI (mm S i X b)) m := by
          have C1 : ∀ (z t q : Nat) (kt : Int32 → Mem → Option (Int32 × Mem)), z < 3 → t < 3 → F_X0_firstSaltBelow_4 (n + 5) (ca 1 i) (nI X) kt (q + 1) (nI z) (nI t) c = F_X0_firstSaltBelow_4 (n + 5) (ca 1 i) (nI X) kt q (nI (if mm S i X z ≤ mm S i X t then z else t)) (nI (t + 1)) c := fun z t q kt hz ht => by
            rw [F_X0_firstSaltBelow_4, if_neg (show ¬ (3 : Int32) ≤ nI t from nI_ge (b := 3) ht (by omega)), C_mins hN s.1.1 s.2.2.1 hi ht ⟨hX1, hX⟩, bnd_s, C_mins hN s.1.1 s.2.2.1 hi hz ⟨hX1, hX⟩, bnd_s, nI_1]
            have h1 := hl z
            have h2 := hl t
            by_cases y : mm S i X z ≤ mm S i X t
            · rw [if_pos y, if_pos (nI_le y (by omega))]
            · rw [if_neg y, if_neg (nI_ge (by omega) (by omega))]
          have M1 : ∀ (z t q : Nat) (kt : Int32 → Int32 → Mem → Option (Int32 × Mem)), z < 3 → t < 3 → F_X7_sun_43 (n + 5) 102 (nI i) (nI X) x3 kt (q + 1) (nI z) (nI (mm S i X z)) (nI t) m = F_X7_sun_43 (n + 5) 102 (nI i) (nI X) x3 kt q (nI (if mm S i X z ≤ mm S i X t then z else t)) (nI (mm S i X (if mm S i X z ≤ mm S i X t then z else t))) (nI (t + 1)) m := fun z t q kt hz ht => by
            have h1 := hl z
            have h2 := hl t
            rw [F_X7_sun_43, if_neg (show ¬ (3 : Int32) ≤ nI t from nI_ge (b := 3) ht (by omega)), M_mins hN s.2.1 s.2.2.1 hi ht ⟨hX1, hX⟩, jn_e, if_neg (nI_pos (by omega))]
            by_cases y : mm S i X z ≤ mm S i X t
            · have y' : nI (mm S i X z) ≤ nI (mm S i X t) := nI_le y (by omega)
              simp only [if_pos y, if_pos y', if_neg (nI_pos (show mm S i X z < 2 ^ 31 by omega)), nI_1]
            · have y' : ¬ nI (mm S i X z) ≤ nI (mm S i X t) := nI_ge (by omega) (by omega)
              simp only [if_neg y, if_neg y', if_neg (nI_pos (show mm S i X z < 2 ^ 31 by omega)), nI_1]
          have M0 : ∀ (q : Nat) (kt : Int32 → Int32 → Mem → Option (Int32 × Mem)), F_X7_sun_43 (n + 5) 102 (nI i) (nI X) x3 kt (q + 1) 0 (-1) 0 m = F_X7_sun_43 (n + 5) 102 (nI i) (nI X) x3 kt q (nI 0) (nI (mm S i X 0)) (nI 1) m := fun q kt => by
            rw [F_X7_sun_43, if_neg (by decide)]
            have e := M_mins hN s.2.1 s.2.2.1 hi (s := 0) (by omega) ⟨hX1, hX⟩ x3 0 (-1)
            rw [show (0 : Int32) = nI 0 from rfl] at e ⊢
            rw [show nI 0 = (0 : Int32) from rfl] at e ⊢
            rw [show (F_X7_sun_52 (n + 5) 102 (nI i) (nI X) x3 0 (-1) 0 _ (n + 5) 0 m) = _ from e _]
            rfl
          refine ⟨if mm S i X (if mm S i X 0 ≤ mm S i X 1 then 0 else 1) ≤ mm S i X 2 then (if mm S i X 0 ≤ mm S i X 1 then 0 else 1) else 2, ?_, ?_, fun kt => ?_⟩
          rotate_left
          · unfold F_X0_firstSaltBelow
            rw [show F_X0_firstSaltBelow_4 (n + 5) (ca 1 i) (nI X) _ (n + 5) 0 1 c = _ from C1 0 1 (n + 4) _ (by omega) (by omega), C1 _ 2 _ _ (by split <;> omega) (by omega), F_X0_firstSaltBelow_4, if_pos (show (3 : Int32) ≤ nI (2 + 1) by decide)]
          · rw [show n + 5 = n + 4 + 1 from rfl, M0]
            rw [show n + 4 + 1 = n + 5 from rfl, show n + 4 = n + 3 + 1 from rfl, M1 0 1 _ _ (by omega) (by omega), M1 _ 2 _ _ (by split <;> omega) (by omega), F_X7_sun_43, if_pos (show (3 : Int32) ≤ nI (2 + 1) by decide)]
          · repeat' split
            all_goals omega
        rw [cB, bnd_s, mB]
        by_cases z : x3 = 0
        · rw [if_pos z, if_pos z]
          exact PR.ok O rfl rfl s CF.rf MF.rf
        · rw [if_neg z, if_neg z, gin_n _ hi (by omega)]
          exact PR.ok O (C_mins hN s.1.1 s.2.2.1 hi hb ⟨hX1, hX⟩) rfl s CF.rf MF.rf
      · simp only [e1, e2, bnd_s, bnd_id, if_true]
        exact PR.er O (Or.inl rfl) s CF.rf MF.rf rfl rfl
    · simp only [e1, e2, bnd_s, bnd_id, if_true]
      exact PR.er O (Or.inl rfl) s CF.rf MF.rf rfl rfl
  · rw [g1 c s.1.1, g2 m s.2.1]
    simp only [bnd_s, bnd_id, if_true]
    exact PR.er O (Or.inl rfl) s CF.rf MF.rf rfl rfl
end SN
