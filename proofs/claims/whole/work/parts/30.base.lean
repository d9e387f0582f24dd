/-! LEVEL 2: numbers and guards -/
theorem sq_h {α : Type} (h : Mem) (k : Mem → α) : seqh h k = k h := rfl
theorem sq_i {α : Type} (x : Int32) (k : Int32 → α) : seqi x k = k x := rfl
theorem jn_e {α β : Type} (k : β) (f : β → α) : jn k f = f k := rfl
theorem bnd_s {ρ σ : Type} (r : ρ) (h : Mem) (k : ρ → Mem → Option (σ × Mem)) : bnd (some (r, h)) k = k r h := rfl
theorem gin_n {α : Type} {a n : Nat} (o : Option α) (h : a < n) (hn : n < 2 ^ 31) : gin (nI a) n o = o := by
  unfold gin
  rw [if_neg]
  rintro (q | q)
  · exact nI_pos (by omega) q
  · rw [nI_clamp (by omega)] at q
    omega
theorem gin_v {α : Type} {i : Int32} {n : Nat} (o : Option α) (h : vp_in i n) : gin i n o = o := by
  unfold gin
  rw [if_neg h]
theorem gnz_n {α : Type} {y : Int32} (o : Option α) (h : ¬ y = 0) : gnz y o = o := by
  unfold gnz
  rw [if_neg h]
theorem gbo_n {α : Type} {x : Int32} (o : Option α) (h : x = 0 ∨ x = 1) : gbo x o = o := by
  unfold gbo
  rw [if_pos h]
theorem ix_n {a : Nat} (h : a < 2 ^ 31) : ix (nI a) = a := nI_clamp h
theorem nI_lit : (0 : Int32) = nI 0 ∧ (1 : Int32) = nI 1 ∧ (2 : Int32) = nI 2 ∧ (3 : Int32) = nI 3 ∧ (4 : Int32) = nI 4 ∧ (5 : Int32) = nI 5 ∧ (6 : Int32) = nI 6 ∧ (7 : Int32) = nI 7 ∧ (8 : Int32) = nI 8 ∧ (16 : Int32) = nI 16 ∧ (28 : Int32) = nI 28 := by decide

/-! THE SPEC's STATE: S i f, i < 8: a cloud's row (kind, m, place, water, three salts, there); S 8: made, hour, sea, z, taped, waiting, sizes; S 9 winds; S 10 heights; S 11 tape; S 12 waits; S 13, S 14 texts -/
def rowOf (S : Mem) (j : Nat) : Int32 :=
  if j < 8 then S 8 j else if j < 16 then S 9 (j - 8) else if j < 28 then S 10 (j - 16) else if j < 92 then S ((j - 28) / 8) ((j - 28) % 8)
  else if j < 142 then S 11 (j - 92) else if j < 162 then S 12 (j - 142) else if j < 212 then S 13 (j - 162) else S 14 (j - 212)
def RowR (w : Nat → Int32) (S : Mem) : Prop := ∀ j, j < 262 → w j = rowOf S j
def E103 (h h' : Mem) : Prop := ∀ k, k ≠ 103 → h' k = h k
theorem E103.rf {h : Mem} : E103 h h := fun _ _ => rfl
theorem E103.tr {a b c : Mem} (x : E103 a b) (y : E103 b c) : E103 a c := fun k hk => (y k hk).trans (x k hk)
theorem E103.up {h : Mem} {j : Nat} {x : Int32} : E103 h (upm h 103 j x) := fun k hk => upm_off k hk
theorem ro_8 {S : Mem} {j : Nat} (h : j < 8) : rowOf S j = S 8 j := by simp [rowOf, h]
theorem ro_9 {S : Mem} {j : Nat} (h : j < 8) : rowOf S (8 + j) = S 9 j := by
  unfold rowOf
  rw [if_neg (by omega), if_pos (by omega), Nat.add_sub_cancel_left]
theorem ro_10 {S : Mem} {j : Nat} (h : j < 12) : rowOf S (16 + j) = S 10 j := by
  unfold rowOf
  rw [if_neg (by omega), if_neg (by omega), if_pos (by omega), Nat.add_sub_cancel_left]
theorem ro_c {S : Mem} {i f : Nat} (hi : i < 8) (hf : f < 8) : rowOf S (28 + 8 * i + f) = S i f := by
  unfold rowOf
  rw [if_neg (by omega), if_neg (by omega), if_neg (by omega), if_pos (by omega), show (28 + 8 * i + f - 28) / 8 = i by omega, show (28 + 8 * i + f - 28) % 8 = f by omega]
theorem ro_11 {S : Mem} {j : Nat} (h : j < 50) : rowOf S (92 + j) = S 11 j := by
  unfold rowOf
  rw [if_neg (by omega), if_neg (by omega), if_neg (by omega), if_neg (by omega), if_pos (by omega), Nat.add_sub_cancel_left]
theorem ro_12 {S : Mem} {j : Nat} (h : j < 20) : rowOf S (142 + j) = S 12 j := by
  unfold rowOf
  rw [if_neg (by omega), if_neg (by omega), if_neg (by omega), if_neg (by omega), if_neg (by omega), if_pos (by omega), Nat.add_sub_cancel_left]
theorem ro_13 {S : Mem} {j : Nat} (h : j < 50) : rowOf S (162 + j) = S 13 j := by
  unfold rowOf
  rw [if_neg (by omega), if_neg (by omega), if_neg (by omega), if_neg (by omega), if_neg (by omega), if_neg (by omega), if_pos (by omega), Nat.add_sub_cancel_left]
theorem ro_14 {S : Mem} {j : Nat} (h : j < 50) : rowOf S (212 + j) = S 14 j := by
  unfold rowOf
  rw [if_neg (by omega), if_neg (by omega), if_neg (by omega), if_neg (by omega), if_neg (by omega), if_neg (by omega), if_neg (by omega), Nat.add_sub_cancel_left]
/-- a place of the row and its place in the spec's state -/
def rpl (j : Nat) : Nat × Nat :=
  if j < 8 then (8, j) else if j < 16 then (9, j - 8) else if j < 28 then (10, j - 16) else if j < 92 then ((j - 28) / 8, (j - 28) % 8)
  else if j < 142 then (11, j - 92) else if j < 162 then (12, j - 142) else if j < 212 then (13, j - 162) else (14, j - 212)
theorem ro_pl (S : Mem) (j : Nat) : rowOf S j = S (rpl j).1 (rpl j).2 := by
  unfold rowOf rpl
  repeat' split
  all_goals first | rfl | omega
theorem rpl_inj {a b : Nat} (ha : a < 262) (hb : b < 262) (e : rpl a = rpl b) : a = b := by
  unfold rpl at e
  repeat' split at e
  all_goals (simp only [Prod.mk.injEq] at e; omega)
theorem RowR.up {w : Nat → Int32} {S : Mem} {j a b : Nat} {x : Int32} (h : RowR w S) (hj : j < 262) (e : rpl j = (a, b)) : RowR (upd w j x) (upm S a b x) := by
  intro q hq
  rw [ro_pl]
  by_cases hqj : q = j
  · subst hqj
    simp [upd, upm, e]
  · have hne : ¬ ((rpl q).1 = a ∧ (rpl q).2 = b) := by
      rintro ⟨e1, e2⟩
      exact hqj (rpl_inj hq hj (by rw [e]; exact Prod.ext e1 e2))
    simp only [upd, upm, if_neg hqj, if_neg hne]
    rw [h q hq, ro_pl]
theorem upm_103 {h : Mem} {j : Nat} {x : Int32} : upm h 103 j x 103 = upd (h 103) j x := upm_row
theorem rp_8 {j : Nat} (h : j < 8) : rpl j = (8, j) := by simp [rpl, h]
theorem rp_9 {j : Nat} (h : j < 8) : rpl (8 + j) = (9, j) := by
  unfold rpl
  rw [if_neg (by omega), if_pos (by omega), Nat.add_sub_cancel_left]
theorem rp_10 {j : Nat} (h : j < 12) : rpl (16 + j) = (10, j) := by
  unfold rpl
  rw [if_neg (by omega), if_neg (by omega), if_pos (by omega), Nat.add_sub_cancel_left]
theorem rp_c {i f : Nat} (hi : i < 8) (hf : f < 8) : rpl (28 + 8 * i + f) = (i, f) := by
  unfold rpl
  rw [if_neg (by omega), if_neg (by omega), if_neg (by omega), if_pos (by omega), show (28 + 8 * i + f - 28) / 8 = i by omega, show (28 + 8 * i + f - 28) % 8 = f by omega]
theorem rp_11 {j : Nat} (h : j < 50) : rpl (92 + j) = (11, j) := by
  unfold rpl
  rw [if_neg (by omega), if_neg (by omega), if_neg (by omega), if_neg (by omega), if_pos (by omega), Nat.add_sub_cancel_left]
theorem rp_12 {j : Nat} (h : j < 20) : rpl (142 + j) = (12, j) := by
  unfold rpl
  rw [if_neg (by omega), if_neg (by omega), if_neg (by omega), if_neg (by omega), if_neg (by omega), if_pos (by omega), Nat.add_sub_cancel_left]
theorem rp_13 {j : Nat} (h : j < 50) : rpl (162 + j) = (13, j) := by
  unfold rpl
  rw [if_neg (by omega), if_neg (by omega), if_neg (by omega), if_neg (by omega), if_neg (by omega), if_neg (by omega), if_pos (by omega), Nat.add_sub_cancel_left]
theorem rp_14 {j : Nat} (h : j < 50) : rpl (212 + j) = (14, j) := by
  unfold rpl
  rw [if_neg (by omega), if_neg (by omega), if_neg (by omega), if_neg (by omega), if_neg (by omega), if_neg (by omega), if_neg (by omega), Nat.add_sub_cancel_left]
/-! THE SPEC -/
def hld (x a b : Int32) : Int32 := if a ≤ x then (if x ≤ b then x else b) else a
def s_drift (k m wind : Int32) : Int32 := if k = 1 then wind / 2 else if k = 4 then wind / 2 + irm m 2 else if k = 2 then 2 * wind else if k = 5 then 2 * wind else if k = 6 then 0 else wind
def s_rainv (k m t : Int32) : Int32 := if k = 1 then 0 else if k = 4 then 0 else if k = 2 then 2 * t + m else if k = 5 then 2 * (2 * t + m) else if k = 3 then 2 * t - m else if k = 6 then 2 * t - m else 2 * t
def s_keep (k s : Int32) : Int32 := if k = 2 then (if s = 2 then 0 else 1) else if k = 5 then (if s = 0 then 1 else 0) else if k = 3 then (if s = 0 then 0 else 1) else if k = 6 then (if s = 0 then 0 else 1) else 1
def s_tst (s y : Int32) : Int32 := if y = 0 then 9999 else hld (100 * s / y) 0 9999
def s_taste (S : Mem) (i : Nat) : Int32 := s_tst (S i 4 + S i 5 + S i 6) (S i 3)
def s_wind (S : Mem) : Int32 := S 9 (ix (irm (S 8 1) 8))
def s_height (S : Mem) (i : Nat) : Int32 := S 10 (ix (S i 2))
def s_rains (S : Mem) (i : Nat) (t : Int32) : Int32 := hld (s_rainv (S i 0) (S i 1) t) 0 (S i 3)
def s_salt (S : Mem) (i s : Nat) : Mem := upm S i (4 + s) (if s_keep (S i 0) (nI s) = 0 then S i (4 + s) - S i (4 + s) / 10 else S i (4 + s))
def s_rain (S : Mem) (i : Nat) (t : Int32) : Mem :=
  let r := s_rains S i t
  let S1 := upm S i 3 (S i 3 - r)
  let S2 := upm S1 8 2 (hld (S1 8 2 + r) 0 999999)
  if r ≤ 0 then S2 else s_salt (s_salt (s_salt S2 i 0) i 1) i 2
def s_pass (S : Mem) (i : Nat) (wind : Int32) : Mem :=
  let S1 := upm S i 2 (irm (S i 2 + s_drift (S i 0) (S i 1) wind + 24) 12)
  if s_height S1 i ≤ 0 then (if irm (S1 i 1) 2 = 0 then upm S1 i 3 (hld (S1 i 3 + 1) 0 999) else S1) else s_rain S1 i (s_height S1 i)
def s_hourL (S : Mem) (wind : Int32) : Nat → Mem
  | 0 => S
  | n + 1 => if s_hourL S wind n n 7 = 1 then s_pass (s_hourL S wind n) n wind else s_hourL S wind n
def s_hour (S : Mem) (wind : Int32) : Mem := upm (s_hourL S wind (ix (S 8 0))) 8 1 (s_hourL S wind (ix (S 8 0)) 8 1 + 1)
/-- what is so of a row, always -/
def WC (S : Mem) (i : Nat) : Prop :=
  0 ≤ S i 0 ∧ S i 0 ≤ 6 ∧ 0 ≤ S i 1 ∧ S i 1 ≤ 9 ∧ 0 ≤ S i 2 ∧ S i 2 ≤ 11 ∧ 0 ≤ S i 3 ∧ S i 3 ≤ 999 ∧ 0 ≤ S i 4 ∧ S i 4 ≤ 99 ∧ 0 ≤ S i 5 ∧ S i 5 ≤ 99 ∧ 0 ≤ S i 6 ∧ S i 6 ≤ 99 ∧ (S i 7 = 0 ∨ S i 7 = 1) ∧ (S i 7 = 0 → S i 3 = 0 ∧ S i 4 = 0 ∧ S i 5 = 0 ∧ S i 6 = 0)
def WS (S : Mem) : Prop :=
  (0 ≤ S 8 0 ∧ S 8 0 ≤ 8) ∧ (0 ≤ S 8 1 ∧ S 8 1 ≤ 20000) ∧ (0 ≤ S 8 2 ∧ S 8 2 ≤ 999999) ∧ (∀ j, j < 8 → -3 ≤ S 9 j ∧ S 9 j ≤ 3) ∧ (∀ j, j < 12 → 0 ≤ S 10 j ∧ S 10 j ≤ 9) ∧ ∀ i, i < 8 → WC S i
