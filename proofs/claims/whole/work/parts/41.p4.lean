/-! join and part -/
def j_salt (T : Mem) (a b s : Nat) : Mem := upm (upm T a (4 + s) (hld (T a (4 + s) + T b (4 + s)) 0 99)) b (4 + s) 0
def p_salt (T : Mem) (a b f : Nat) : Mem := upm (upm T b f (T a f / 2)) a f (T a f - T a f / 2)
theorem j_salt_cm {T : Mem} {a b s : Nat} (hab : a ≠ b) : j_salt (upm T b 3 0) a b s = upm (j_salt T a b s) b 3 0 := by
  unfold j_salt
  rw [show upm T b 3 0 a (4 + s) = T a (4 + s) by simp [upm, hab], show upm T b 3 0 b (4 + s) = T b (4 + s) by simp only [upm]; rw [if_neg (by omega)]]
  rw [upm_cm (a := b) (f := 3) (b := a) (g := 4 + s) (by omega), upm_cm (a := b) (f := 3) (b := b) (g := 4 + s) (by omega)]
theorem p_salt_cm {T : Mem} {a b f g : Nat} {x : Int32} (hab : a ≠ b) (h : f ≠ g) : p_salt (upm T b g x) a b f = upm (p_salt T a b f) b g x := by
  unfold p_salt
  rw [show upm T b g x a f = T a f by simp [upm, hab]]
  rw [upm_cm (a := b) (f := g) (b := b) (g := f) (by omega), upm_cm (a := b) (f := g) (b := a) (g := f) (by omega)]
theorem half_in {x n : Int32} (hn : n ≤ 1000) (h : 0 ≤ x ∧ x ≤ n) : (0 ≤ x / 2 ∧ x / 2 ≤ n) ∧ 0 ≤ x - x / 2 ∧ x - x / 2 ≤ n := by
  have key : ∀ a, a < 1001 → (0 ≤ nI a / 2 ∧ nI a / 2 ≤ nI a) ∧ 0 ≤ nI a - nI a / 2 ∧ nI a - nI a / 2 ≤ nI a := by decide +kernel
  obtain ⟨a, ha, rfl⟩ := nat_of (x := x) (m := 1000) (n := 1000) (by decide) h.1 (by grind)
  have := key a (by omega)
  grind
theorem WF.ws {S T : Mem} (W : WF S) (h : WS T) (e : ∀ a, 8 ≤ a → T a = S a) : WF T := by
  obtain ⟨w1, w2, w3, w4, w5⟩ := W
  refine ⟨h, ?_, ?_, ?_, fun j hj => ?_⟩
  · rw [e 8 (by omega)]; exact w2
  · rw [e 8 (by omega)]; exact w3
  · rw [e 8 (by omega)]; exact w4
  · rw [e 11 (by omega)]; exact w5 j hj
theorem WS.js {T : Mem} {a b s : Nat} (hW : WS T) (ha : a < 8) (hb : b < 8) (hab : a ≠ b) (hs : s < 3) (h7 : T a 7 = 1) : WS (j_salt T a b s) ∧ (∀ q f, f ≠ 4 + s → j_salt T a b s q f = T q f) ∧ j_salt T a b s b (4 + s) = 0 := by
  unfold j_salt
  refine ⟨?_, fun q f hf => by simp [upm, hf], by simp [upm]⟩
  have hl := hld_in (x := T a (4 + s) + T b (4 + s)) (a := 0) (b := 99) (by decide)
  have w1 : WS (upm T a (4 + s) (hld (T a (4 + s) + T b (4 + s)) 0 99)) := hW.upc ha (by
    have := hW.2.2.2.2.2 a ha
    rcases (show s = 0 ∨ s = 1 ∨ s = 2 by omega) with rfl | rfl | rfl <;> (unfold WC at *; simp [upm] at *; grind))
  exact w1.upc hb (by
    have := w1.2.2.2.2.2 b hb
    rcases (show s = 0 ∨ s = 1 ∨ s = 2 by omega) with rfl | rfl | rfl <;> (unfold WC at *; simp [upm] at *; grind))
theorem WS.ps {T : Mem} {a b f : Nat} (hW : WS T) (ha : a < 8) (hb : b < 8) (hab : a ≠ b) (hf : f = 3 ∨ f = 4 ∨ f = 5 ∨ f = 6) (h7 : T a 7 = 1) (h8 : T b 7 = 1) : WS (p_salt T a b f) ∧ ∀ q g, g ≠ f → p_salt T a b f q g = T q g := by
  unfold p_salt
  refine ⟨?_, fun q g hg => by simp [upm, hg]⟩
  have hC := hW.2.2.2.2.2 a ha
  have h1 : (0 ≤ T a f / 2 ∧ T a f / 2 ≤ (if f = 3 then 999 else 99)) ∧ 0 ≤ T a f - T a f / 2 ∧ T a f - T a f / 2 ≤ (if f = 3 then 999 else 99) := by
    refine half_in (by split <;> decide) ?_
    unfold WC at hC
    rcases hf with rfl | rfl | rfl | rfl <;> simp +decide only [if_true, if_false] <;> grind
  generalize T a f / 2 = y at h1
  generalize T a f - y = z at h1
  have w1 : WS (upm T b f y) := hW.upc hb (by
    have := hW.2.2.2.2.2 b hb
    rcases hf with rfl | rfl | rfl | rfl <;> (simp +decide only [if_true, if_false] at h1; unfold WC at *; simp [upm] at *; grind))
  exact w1.upc ha (by
    have := w1.2.2.2.2.2 a ha
    rcases hf with rfl | rfl | rfl | rfl <;> (simp +decide only [if_true, if_false] at h1; unfold WC at *; simp [upm, hab] at *; grind))
section P4
variable {c m S : Mem} {k N : Nat}
theorem C_js {g T : Mem} {a b s : Nat} (ha : a < 8) (hb : b < 8) (hab : a ≠ b) (hs : s < 3) (R : SkyR g 1 T) (hW : WS T) : ∃ g', (∀ n kt, F_X0_takeIn_21 N (ca 1 a) (ca 1 b) kt (n + 1) (nI s) g = F_X0_takeIn_21 N (ca 1 a) (ca 1 b) kt n (nI (s + 1)) g') ∧ SkyR g' 1 (j_salt T a b s) ∧ FT 1 g g' := by
  have hA := hW.2.2.2.2.2 a ha
  have hB := hW.2.2.2.2.2 b hb
  obtain ⟨r1, f1⟩ := R.up (v_c ha (f := 4 + s) (by omega)) (ck_s ha hs) (hld (T a (4 + s) + T b (4 + s)) 0 99)
  obtain ⟨r2, f2⟩ := r1.up (v_c hb (f := 4 + s) (by omega)) (ck_s hb hs) 0
  refine ⟨_, fun n kt => ?_, r2, f1.tr f2⟩
  rw [F_X0_takeIn_21, if_neg (show ¬ (3 : Int32) ≤ nI s from nI_ge (b := 3) hs (by omega))]
  simp only [gin_n _ hs (by omega : 3 < 2 ^ 31), ix_n (show s < 2 ^ 31 by omega), C_min, bnd_s, sq_h, nI_1]
  rw [C_s R.1 ha hs, C_s R.1 hb hs]
  have e : (if T a (4 + s) + T b (4 + s) < 99 then T a (4 + s) + T b (4 + s) else 99) = hld (T a (4 + s) + T b (4 + s)) 0 99 := by
    have : 0 ≤ T a (4 + s) + T b (4 + s) := by
      unfold WC at hA hB
      rcases (show s = 0 ∨ s = 1 ∨ s = 2 by omega) with rfl | rfl | rfl <;> grind
    unfold hld
    grind
  rw [e]
theorem M_js {g T : Mem} {a b f : Nat} (ha : a < 8) (hb : b < 8) (hab : a ≠ b) (hf : 3 ≤ f ∧ f < 7) (R : RowR (g 103) T) : ∃ g', (∀ n kt, F_X7_join_68 N 102 (nI a) (nI b) kt (n + 1) (nI f) g = F_X7_join_68 N 102 (nI a) (nI b) kt n (nI (f + 1)) g') ∧ RowR (g' 103) (upm (upm T a f (hld (T a f + T b f) 0 (if f = 3 then 999 else 99))) b f 0) ∧ E103 g g' := by
  have r1 := R.um (j := 28 + 8 * a + f) (by omega) (rp_c ha (by omega)) (x := hld (T a f + T b f) 0 (if f = 3 then 999 else 99))
  have r2 := r1.um (j := 28 + 8 * b + f) (by omega) (rp_c hb (by omega)) (x := 0)
  refine ⟨_, fun n kt => ?_, r2, E103.up.tr E103.up⟩
  rw [F_X7_join_68, if_neg (show ¬ (7 : Int32) ≤ nI f from nI_ge (b := 7) (by omega) (by omega)), M_its R ha (by omega), bnd_s, M_its R hb (by omega), bnd_s, jn_e]
  by_cases q : f = 3
  · subst q
    rw [if_pos (show nI 3 = 3 from rfl)]
    simp only [M_held, bnd_s, M_puts1 ha (show 3 < 8 by omega), M_puts1 hb (show 3 < 8 by omega), nI_1, if_true]
  · rw [if_neg (show ¬ nI f = 3 from fun z => q (by have := congrArg ix z; rw [ix_n (by omega)] at this; exact this)), if_neg q]
    simp only [M_held, bnd_s, M_puts1 ha (show f < 8 by omega), M_puts1 hb (show f < 8 by omega), nI_1]
theorem C_areTogether {g T : Mem} {a b : Nat} {q : Nat} (R : SkyN g q T) (ha : a < 8) (hb : b < 8) (hA : WC T a) (hB : WC T b) : F_X2_areTogether q (nI a) (nI b) g = some (if T a 7 = 1 ∧ T b 7 = 1 ∧ T a 2 = T b 2 then 1 else 0, g) := by
  unfold F_X2_areTogether
  rw [gin_n _ ha (by omega), ca_eq _ _ (by omega), C_7 R ha]
  unfold WC at hA hB
  by_cases qa : T a 7 = 1
  · rw [if_neg (by rw [qa]; decide), gin_n _ hb (by omega), ca_eq _ _ (by omega), C_7 R hb]
    by_cases qb : T b 7 = 1
    · rw [if_neg (by rw [qb]; decide), gin_n _ ha (by omega), gin_n _ hb (by omega), C_2 R ha, C_2 R hb]
      by_cases qp : T a 2 = T b 2
      · rw [if_pos qp, if_pos ⟨qa, qb, qp⟩]
      · rw [if_neg qp, if_neg (fun z => qp z.2.2)]
    · rw [if_pos (by grind), if_neg (fun z => qb z.2.1)]
  · rw [if_pos (by grind), if_neg (fun z => qa z.1)]
theorem two_cs (W : WS S) (x1 x2 : Int32) : ((∃ a b, a < 8 ∧ b < 8 ∧ a ≠ b ∧ x1 = nI a ∧ x2 = nI b ∧ a < ix (S 8 0) ∧ b < ix (S 8 0)) ∧ (∀ c, SkyN c 1 S → F_X6_areTwo 0 x1 x2 c = some (1, c)) ∧ (∀ m, RowR (m 103) S → F_X7_isCloud 102 x1 m = some (1, m) ∧ F_X7_isCloud 102 x2 m = some (1, m)) ∧ x1 ≠ x2) ∨ ((∀ c, SkyN c 1 S → F_X6_areTwo 0 x1 x2 c = some (0, c)) ∧ ∀ (m : Mem) (kt : Mem → Option (Int32 × Mem)), RowR (m 103) S → (bnd (F_X7_isCloud 102 x1 m) fun r1 h2 => if r1 = 0 then bnd (F_X7_errs 102 (-1000000001 : Int32) h2) (fun r3 h4 => some (r3, h4)) else bnd (F_X7_isCloud 102 x2 h2) fun r5 h6 => if r5 = 0 then bnd (F_X7_errs 102 (-1000000001 : Int32) h6) (fun r7 h8 => some (r7, h8)) else if x1 = x2 then bnd (F_X7_errs 102 (-1000000001 : Int32) h6) (fun r9 h10 => some (r9, h10)) else kt h6) = F_X7_errs 102 (-1000000001 : Int32) m) := by
  unfold F_X6_areTwo
  rcases cl_cs W x1 with ⟨⟨a, ha, haM, rfl⟩, e1, e2⟩ | ⟨e1, e2⟩
  · rcases cl_cs W x2 with ⟨⟨b, hb, hbM, rfl⟩, g1, g2⟩ | ⟨g1, g2⟩
    · by_cases q : a = b
      · subst q
        right
        refine ⟨fun c R => ?_, fun m kt R => ?_⟩
        · rw [e1 c R, bnd_s, if_neg (by decide), e1 c R, bnd_s, if_neg (by decide), if_pos rfl]
        · rw [e2 m R, bnd_s, if_neg (by decide), e2 m R, bnd_s, if_neg (by decide), if_pos rfl, bnd_id]
      · have hne : nI a ≠ nI b := fun z => q (by have := congrArg ix z; rw [ix_n (by omega), ix_n (by omega)] at this; exact this)
        left
        refine ⟨⟨a, b, ha, hb, q, rfl, rfl, haM, hbM⟩, fun c R => ?_, fun m R => ⟨e2 m R, g2 m R⟩, hne⟩
        rw [e1 c R, bnd_s, if_neg (by decide), g1 c R, bnd_s, if_neg (by decide), if_neg hne]
    · right
      refine ⟨fun c R => ?_, fun m kt R => ?_⟩
      · rw [e1 c R, bnd_s, if_neg (by decide), g1 c R, bnd_s, if_pos rfl]
      · rw [e2 m R, bnd_s, if_neg (by decide), g2 m R, bnd_s, if_pos rfl, bnd_id]
  · right
    refine ⟨fun c R => ?_, fun m kt R => ?_⟩
    · rw [e1 c R, bnd_s, if_pos rfl]
    · rw [e2 m R, bnd_s, if_pos rfl, bnd_id]
theorem P_join (hN : 1000 ≤ N) (H : RR c m k) (x1 x2 : Int32) : PR (F_X6_join N 0 x1 x2 c) (F_X7_join N 102 x1 x2 m) c m k := by
  obtain ⟨⟨S, s⟩, O⟩ := H
  unfold F_X6_join F_X7_join
  rcases two_cs s.2.2.1 x1 x2 with ⟨⟨a, b, ha, hb, hab, rfl, rfl, _, _⟩, e1, e2, hne⟩ | ⟨e1, e2⟩
  · have hA := s.2.2.1.2.2.2.2.2 a ha
    have hB := s.2.2.1.2.2.2.2.2 b hb
    rw [e1 c s.1.1, bnd_s, if_neg (by decide), (e2 m s.2.1).1, bnd_s, if_neg (by decide), (e2 m s.2.1).2, bnd_s, if_neg (by decide), if_neg hne, C_areTogether (q := 0 + 1) s.1.1 ha hb hA hB, bnd_s, M_isThere s.2.1 ha, bnd_s]
    by_cases qa : S a 7 = 1
    · rw [if_pos qa, if_neg (show ¬ (1 : Int32) = 0 by decide), M_isThere s.2.1 hb, bnd_s]
      by_cases qb : S b 7 = 1
      · rw [if_pos qb, if_neg (show ¬ (1 : Int32) = 0 by decide), show F_X7_its 102 (nI a) (2 : Int32) m = _ from M_its (f := 2) s.2.1 ha (by omega), bnd_s, show F_X7_its 102 (nI b) (2 : Int32) m = _ from M_its (f := 2) s.2.1 hb (by omega), bnd_s]
        by_cases qp : S a 2 = S b 2
        · rw [if_pos (show S a 7 = 1 ∧ S b 7 = 1 ∧ S a 2 = S b 2 from ⟨qa, qb, qp⟩), if_neg (show ¬ (1 : Int32) = 0 by decide), if_pos qp, gin_n _ ha (by omega), gin_n _ hb (by omega), ca1 a (by omega), ca1 b (by omega)]
          -- the class
          unfold F_X0_takeIn
          rw [C_min, bnd_s, sq_h, C_3 s.1.1 ha, C_3 s.1.1 hb]
          have ew : (if S a 3 + S b 3 < 999 then S a 3 + S b 3 else 999) = hld (S a 3 + S b 3) 0 999 := by
            unfold WC at hA hB
            unfold hld
            grind
          rw [ew]
          have hl := hld_in (x := S a 3 + S b 3) (a := 0) (b := 999) (by decide)
          generalize hw : hld (S a 3 + S b 3) 0 999 = w at hl
          obtain ⟨n, rfl⟩ : ∃ n, N = n + 6 := ⟨N - 6, by omega⟩
          have w1 : WS (upm S a 3 w) := s.2.2.1.upc ha (by unfold WC at *; simp [upm]; grind)
          obtain ⟨r1, f1⟩ := s.1.up (v_c ha (f := 3) (by omega)) (ck_0 ha (by omega)) w
          have a7 : upm S a 3 w a 7 = 1 := by simp [upm, qa]
          have b7 : upm S a 3 w b 7 = 1 := by simp [upm, qb]
          obtain ⟨g1, c1, c2, c3⟩ := C_js (N := n + 6) ha hb hab (s := 0) (by omega) r1 w1
          obtain ⟨y1, y2, y3⟩ := w1.js ha hb hab (s := 0) (by omega) a7
          obtain ⟨g2, d1, d2, d3⟩ := C_js (N := n + 6) ha hb hab (s := 1) (by omega) c2 y1
          obtain ⟨z1, z2, z3⟩ := y1.js ha hb hab (s := 1) (by omega) (by rw [y2 _ _ (by omega)]; exact a7)
          obtain ⟨g3, i1, i2, i3⟩ := C_js (N := n + 6) ha hb hab (s := 2) (by omega) d2 z1
          obtain ⟨t1, t2, t3⟩ := z1.js ha hb hab (s := 2) (by omega) (by rw [z2 _ _ (by omega), y2 _ _ (by omega)]; exact a7)
          have c1' : ∀ kt, F_X0_takeIn_21 (n + 6) (ca 1 a) (ca 1 b) kt (n + 6) 0 _ = _ := fun kt => c1 (n + 5) kt
          rw [c1', d1, i1, F_X0_takeIn_21, if_pos (show (3 : Int32) ≤ nI (2 + 1) by decide)]
          simp only [sq_h, bnd_s]
          obtain ⟨j1, j2⟩ := i2.up (v_c hb (f := 3) (by omega)) (ck_0 hb (by omega)) 0
          obtain ⟨l1, l2⟩ := j1.up (v_c hb (f := 7) (by omega)) (ck_7 hb) 0
          rw [gin_n _ ha (by omega), C_3 l1.1 ha]
          -- the Model
          obtain ⟨h1, o1, o2, o3⟩ := M_js (N := n + 6) ha hb hab (f := 3) (by omega) s.2.1
          rw [if_pos rfl, hw] at o2
          obtain ⟨h2, p1, p2, p3⟩ := M_js (N := n + 6) ha hb hab (f := 4) (by omega) o2
          replace p2 : RowR (h2 103) (j_salt (upm (upm S a 3 w) b 3 0) a b 0) := p2
          obtain ⟨h3, q1, q2, q3⟩ := M_js (N := n + 6) ha hb hab (f := 5) (by omega) p2
          replace q2 : RowR (h3 103) (j_salt (j_salt (upm (upm S a 3 w) b 3 0) a b 0) a b 1) := q2
          obtain ⟨h4, u1, u2, u3⟩ := M_js (N := n + 6) ha hb hab (f := 6) (by omega) q2
          replace u2 : RowR (h4 103) (j_salt (j_salt (j_salt (upm (upm S a 3 w) b 3 0) a b 0) a b 1) a b 2) := u2
          rw [j_salt_cm hab, j_salt_cm hab, j_salt_cm hab] at u2
          have m1 := u2.um (j := 28 + 8 * b + 7) (by omega) (rp_c hb (by omega)) (x := 0)
          have o1' : ∀ kt, F_X7_join_68 (n + 6) 102 (nI a) (nI b) kt (n + 6) 3 m = _ := fun kt => o1 (n + 5) kt
          rw [o1', p1, q1, u1, F_X7_join_68, if_pos (show (7 : Int32) ≤ nI (6 + 1) by decide), show F_X7_puts 102 (nI b) (7 : Int32) 0 h4 = _ from M_puts1 (f := 7) hb (by omega) 0, bnd_s, bnd_id]
          have hT : ∀ q f, f ≠ 4 → f ≠ 5 → f ≠ 6 → j_salt (j_salt (j_salt (upm S a 3 w) a b 0) a b 1) a b 2 q f = upm S a 3 w q f := fun q f q4 q5 q6 => by rw [t2 _ _ (by omega), z2 _ _ (by omega), y2 _ _ (by omega)]
          have hT4 : j_salt (j_salt (j_salt (upm S a 3 w) a b 0) a b 1) a b 2 b 4 = 0 := by rw [t2 _ _ (by omega), z2 _ _ (by omega)]; exact y3
          have hT5 : j_salt (j_salt (j_salt (upm S a 3 w) a b 0) a b 1) a b 2 b 5 = 0 := by rw [t2 _ _ (by omega)]; exact z3
          have hT6 : j_salt (j_salt (j_salt (upm S a 3 w) a b 0) a b 1) a b 2 b 6 = 0 := t3
          have hTb : b ≠ a := fun z => hab z.symm
          have wf : WF (j_salt (j_salt (j_salt (upm S a 3 w) a b 0) a b 1) a b 2) := (s.2.2.mk2 w1 (by omega)).ws t1 (fun q hq => by
            funext f
            simp [j_salt, upm, show q ≠ a by omega, show q ≠ b by omega])
          generalize j_salt (j_salt (j_salt (upm S a 3 w) a b 0) a b 1) a b 2 = T at *
          have v1 : WS (upm T b 3 0) := t1.upc hb (by have := t1.2.2.2.2.2 b hb; unfold WC at *; simp [upm] at *; grind)
          have v2 : WS (upm (upm T b 3 0) b 7 0) := v1.upc hb (by have := v1.2.2.2.2.2 b hb; unfold WC at *; simp [upm] at *; grind)
          exact PR.ok O rfl (M_its (f := 3) m1 ha (by omega)) ⟨l1, m1, (wf.mk2 v1 (by omega)).mk2 v2 (by omega)⟩ (CF.of1 (f1.tr (c3.tr (d3.tr (i3.tr (j2.tr l2))))).FS) (MF.of103 (o3.tr (p3.tr (q3.tr (u3.tr E103.up)))))
        · rw [if_neg (show ¬ (S a 7 = 1 ∧ S b 7 = 1 ∧ S a 2 = S b 2) from fun z => qp z.2.2), if_pos rfl, if_neg qp, bnd_id, bnd_id]
          exact PR.er O (Or.inr (Or.inr (Or.inl rfl))) s CF.rf MF.rf rfl rfl
      · rw [if_neg qb, if_pos rfl, if_neg (show ¬ (S a 7 = 1 ∧ S b 7 = 1 ∧ S a 2 = S b 2) from fun z => qb z.2.1), if_pos rfl, bnd_id, bnd_id]
        exact PR.er O (Or.inr (Or.inr (Or.inl rfl))) s CF.rf MF.rf rfl rfl
    · rw [if_neg qa, if_pos rfl, if_neg (show ¬ (S a 7 = 1 ∧ S b 7 = 1 ∧ S a 2 = S b 2) from fun z => qa z.1), if_pos rfl, bnd_id, bnd_id]
      exact PR.er O (Or.inr (Or.inr (Or.inl rfl))) s CF.rf MF.rf rfl rfl
  · rw [e1 c s.1.1, bnd_s, if_pos rfl, bnd_id]
    exact PR.er O (Or.inl rfl) s CF.rf MF.rf rfl (e2 m _ s.2.1)
theorem C_ps {g T : Mem} {a b s : Nat} (ha : a < 8) (hb : b < 8) (hab : a ≠ b) (hs : s < 3) (R : SkyR g 1 T) : ∃ g', (∀ n kt, F_X0_halveInto_38 N (ca 1 a) (ca 1 b) kt (n + 1) (nI s) g = F_X0_halveInto_38 N (ca 1 a) (ca 1 b) kt n (nI (s + 1)) g') ∧ SkyR g' 1 (p_salt T a b (4 + s)) ∧ FT 1 g g' := by
  obtain ⟨r1, f1⟩ := R.up (v_c hb (f := 4 + s) (by omega)) (ck_s hb hs) (T a (4 + s) / 2)
  obtain ⟨r2, f2⟩ := r1.up (v_c ha (f := 4 + s) (by omega)) (ck_s ha hs) (T a (4 + s) - T a (4 + s) / 2)
  refine ⟨_, fun n kt => ?_, r2, f1.tr f2⟩
  rw [F_X0_halveInto_38, if_neg (show ¬ (3 : Int32) ≤ nI s from nI_ge (b := 3) hs (by omega))]
  simp only [gin_n _ hs (by omega : 3 < 2 ^ 31), ix_n (show s < 2 ^ 31 by omega), gnz_n _ (show ¬ (2 : Int32) = 0 by decide), sq_h, nI_1]
  rw [C_s R.1 ha hs, C_s r1.1 ha hs, C_s r1.1 hb hs, show upm T b (4 + s) (T a (4 + s) / 2) a (4 + s) = T a (4 + s) by simp [upm, hab], show upm T b (4 + s) (T a (4 + s) / 2) b (4 + s) = T a (4 + s) / 2 by simp [upm]]
theorem M_ps {g T : Mem} {a b f : Nat} (ha : a < 8) (hb : b < 8) (hab : a ≠ b) (hf : 3 ≤ f ∧ f < 7) (R : RowR (g 103) T) : ∃ g', (∀ n kt, F_X7_part_53 N 102 (nI a) (nI b) kt (n + 1) (nI f) g = F_X7_part_53 N 102 (nI a) (nI b) kt n (nI (f + 1)) g') ∧ RowR (g' 103) (p_salt T a b f) ∧ E103 g g' := by
  have r1 := R.um (j := 28 + 8 * b + f) (by omega) (rp_c hb (by omega)) (x := T a f / 2)
  have r2 := r1.um (j := 28 + 8 * a + f) (by omega) (rp_c ha (by omega)) (x := T a f - T a f / 2)
  refine ⟨_, fun n kt => ?_, r2, E103.up.tr E103.up⟩
  rw [F_X7_part_53, if_neg (show ¬ (7 : Int32) ≤ nI f from nI_ge (b := 7) (by omega) (by omega)), M_its R ha (by omega), bnd_s, gnz_n _ (by decide), M_puts1 hb (by omega), bnd_s, M_its r1 ha (by omega), bnd_s, M_its r1 hb (by omega), bnd_s, show upm T b f (T a f / 2) a f = T a f by simp [upm, hab], show upm T b f (T a f / 2) b f = T a f / 2 by simp [upm], M_puts1 ha (by omega), bnd_s, nI_1]
theorem P_part (hN : 1000 ≤ N) (H : RR c m k) (x1 x2 : Int32) : PR (F_X6_part N 0 x1 x2 c) (F_X7_part N 102 x1 x2 m) c m k := by
  obtain ⟨⟨S, s⟩, O⟩ := H
  unfold F_X6_part F_X7_part
  rcases two_cs s.2.2.1 x1 x2 with ⟨⟨a, b, ha, hb, hab, rfl, rfl, _, _⟩, e1, e2, hne⟩ | ⟨e1, e2⟩
  · have hA := s.2.2.1.2.2.2.2.2 a ha
    have hB := s.2.2.1.2.2.2.2.2 b hb
    rw [e1 c s.1.1, bnd_s, if_neg (show ¬ (1 : Int32) = 0 by decide), (e2 m s.2.1).1, bnd_s, if_neg (show ¬ (1 : Int32) = 0 by decide), (e2 m s.2.1).2, bnd_s, if_neg (show ¬ (1 : Int32) = 0 by decide), if_neg hne, M_isThere s.2.1 ha, bnd_s, gin_n _ ha (by omega), ca1 a (by omega), C_7 s.1.1 ha]
    by_cases qa : S a 7 = 1
    · rw [if_pos qa, if_neg (show ¬ (1 : Int32) = 0 by decide), M_isThere s.2.1 hb, bnd_s, if_neg (show ¬ S a 7 = 0 by rw [qa]; decide), gin_n _ hb (by omega), ca1 b (by omega), C_7 s.1.1 hb]
      by_cases qb : S b 7 = 1
      · rw [if_pos qb, if_neg (show ¬ (1 : Int32) = 0 by decide), if_neg (show ¬ S b 7 = 0 by rw [qb]; decide), bnd_id, bnd_id]
        exact PR.er O (Or.inr (Or.inr (Or.inl rfl))) s CF.rf MF.rf rfl rfl
      · have qb0 : S b 7 = 0 := by unfold WC at hB; grind
        rw [if_neg qb, if_pos (show (0 : Int32) = 0 from rfl), if_pos qb0, gin_n _ ha (by omega), gin_n _ hb (by omega)]
        -- the class
        unfold F_X0_halveInto
        simp only [sq_h, gnz_n _ (show ¬ (2 : Int32) = 0 by decide)]
        obtain ⟨n, rfl⟩ : ∃ n, N = n + 6 := ⟨N - 6, by omega⟩
        obtain ⟨r1, f1⟩ := s.1.up (v_c hb (f := 7) (by omega)) (ck_7 hb) 1
        rw [C_2 r1.1 ha]
        obtain ⟨r2, f2⟩ := r1.up (v_c hb (f := 2) (by omega)) (ck_0 hb (by omega)) (upm S b 7 1 a 2)
        rw [C_3 r2.1 ha]
        obtain ⟨r3, f3⟩ := r2.up (v_c hb (f := 3) (by omega)) (ck_0 hb (by omega)) (upm (upm S b 7 1) b 2 (upm S b 7 1 a 2) a 3 / 2)
        rw [C_3 r3.1 ha, C_3 r3.1 hb]
        have ea2 : upm S b 7 1 a 2 = S a 2 := by simp [upm, hab]
        rw [ea2] at r2 r3 f2 f3 ⊢
        have ea3 : upm (upm S b 7 1) b 2 (S a 2) a 3 = S a 3 := by simp [upm, hab]
        rw [ea3] at r3 f3 ⊢
        have ea4 : upm (upm (upm S b 7 1) b 2 (S a 2)) b 3 (S a 3 / 2) a 3 = S a 3 := by simp [upm, hab]
        have ea5 : upm (upm (upm S b 7 1) b 2 (S a 2)) b 3 (S a 3 / 2) b 3 = S a 3 / 2 := by simp [upm]
        rw [ea4, ea5]
        obtain ⟨r4, f4⟩ := r3.up (v_c ha (f := 3) (by omega)) (ck_0 ha (by omega)) (S a 3 - S a 3 / 2)
        have w1 : WS (upm S b 7 1) := s.2.2.1.upc hb (by unfold WC at *; simp [upm]; grind)
        have w2 : WS (upm (upm S b 7 1) b 2 (S a 2)) := w1.upc hb (by have := w1.2.2.2.2.2 b hb; unfold WC at *; simp [upm] at *; grind)
        have a7 : upm (upm S b 7 1) b 2 (S a 2) a 7 = 1 := by simp [upm, hab, qa]
        have b7 : upm (upm S b 7 1) b 2 (S a 2) b 7 = 1 := by simp [upm]
        have e4 : upm (upm (upm (upm S b 7 1) b 2 (S a 2)) b 3 (S a 3 / 2)) a 3 (S a 3 - S a 3 / 2) = p_salt (upm (upm S b 7 1) b 2 (S a 2)) a b 3 := by
          unfold p_salt
          rw [ea3]
        rw [e4] at r4
        obtain ⟨x1, x2⟩ := w2.ps ha hb hab (f := 3) (by omega) a7 b7
        obtain ⟨g1, c1, c2, c3⟩ := C_ps (N := n + 6) ha hb hab (s := 0) (by omega) r4
        obtain ⟨y1, y2⟩ := x1.ps ha hb hab (f := 4) (by omega) (by rw [x2 _ _ (by omega)]; exact a7) (by rw [x2 _ _ (by omega)]; exact b7)
        obtain ⟨g2, d1, d2, d3⟩ := C_ps (N := n + 6) ha hb hab (s := 1) (by omega) c2
        obtain ⟨z1, z2⟩ := y1.ps ha hb hab (f := 5) (by omega) (by rw [y2 _ _ (by omega), x2 _ _ (by omega)]; exact a7) (by rw [y2 _ _ (by omega), x2 _ _ (by omega)]; exact b7)
        obtain ⟨g3, i1, i2, i3⟩ := C_ps (N := n + 6) ha hb hab (s := 2) (by omega) d2
        obtain ⟨t1, t2⟩ := z1.ps ha hb hab (f := 6) (by omega) (by rw [z2 _ _ (by omega), y2 _ _ (by omega), x2 _ _ (by omega)]; exact a7) (by rw [z2 _ _ (by omega), y2 _ _ (by omega), x2 _ _ (by omega)]; exact b7)
        have c1' : ∀ kt, F_X0_halveInto_38 (n + 6) (ca 1 a) (ca 1 b) kt (n + 6) 0 _ = _ := fun kt => c1 (n + 5) kt
        rw [c1', d1, i1, F_X0_halveInto_38, if_pos (show (3 : Int32) ≤ nI (2 + 1) by decide), bnd_s, gin_n _ hb (by omega), C_3 i2.1 hb]
        -- the Model
        obtain ⟨h1, o1, o2, o3⟩ := M_ps (N := n + 6) ha hb hab (f := 3) (by omega) s.2.1
        obtain ⟨h2, p1, p2, p3⟩ := M_ps (N := n + 6) ha hb hab (f := 4) (by omega) o2
        obtain ⟨h3, q1, q2, q3⟩ := M_ps (N := n + 6) ha hb hab (f := 5) (by omega) p2
        obtain ⟨h4, u1, u2, u3⟩ := M_ps (N := n + 6) ha hb hab (f := 6) (by omega) q2
        have m1 := u2.um (j := 28 + 8 * b + 7) (by omega) (rp_c hb (by omega)) (x := 1)
        rw [← p_salt_cm hab (by omega), ← p_salt_cm hab (by omega), ← p_salt_cm hab (by omega), ← p_salt_cm hab (by omega)] at m1
        have o1' : ∀ kt, F_X7_part_53 (n + 6) 102 (nI a) (nI b) kt (n + 6) 3 m = _ := fun kt => o1 (n + 5) kt
        rw [o1', p1, q1, u1, F_X7_part_53, if_pos (show (7 : Int32) ≤ nI (6 + 1) by decide), show F_X7_puts 102 (nI b) (7 : Int32) 1 h4 = _ from M_puts1 (f := 7) hb (by omega) 1, bnd_s, show F_X7_its 102 (nI a) (2 : Int32) _ = _ from M_its (f := 2) m1 ha (by omega), bnd_s]
        have m2 := m1.um (j := 28 + 8 * b + 2) (by omega) (rp_c hb (by omega)) (x := S a 2)
        have es : p_salt (p_salt (p_salt (p_salt (upm S b 7 1) a b 3) a b 4) a b 5) a b 6 a 2 = S a 2 := by simp [p_salt, upm, hab]
        rw [es, show F_X7_puts 102 (nI b) (2 : Int32) (S a 2) _ = _ from M_puts1 (f := 2) hb (by omega) (S a 2), bnd_s, bnd_id]
        rw [← p_salt_cm hab (by omega), ← p_salt_cm hab (by omega), ← p_salt_cm hab (by omega), ← p_salt_cm hab (by omega)] at m2
        have wf : WF (p_salt (p_salt (p_salt (p_salt (upm (upm S b 7 1) b 2 (S a 2)) a b 3) a b 4) a b 5) a b 6) := s.2.2.ws t1 (fun q hq => by
          funext f
          simp [p_salt, upm, show q ≠ a by omega, show q ≠ b by omega])
        exact PR.ok O rfl (M_its (f := 3) m2 hb (by omega)) ⟨i2, m2, wf⟩ (CF.of1 (f1.tr (f2.tr (f3.tr (f4.tr (c3.tr (d3.tr i3)))))).FS) (MF.of103 (o3.tr (p3.tr (q3.tr (u3.tr (E103.up.tr E103.up))))))
    · rw [if_neg qa, if_pos rfl, if_pos (show S a 7 = 0 by unfold WC at hA; grind), bnd_id, bnd_id]
      exact PR.er O (Or.inr (Or.inr (Or.inl rfl))) s CF.rf MF.rf rfl rfl
  · rw [e1 c s.1.1, bnd_s, if_pos rfl, bnd_id]
    exact PR.er O (Or.inl rfl) s CF.rf MF.rf rfl (e2 m _ s.2.1)
end P4
