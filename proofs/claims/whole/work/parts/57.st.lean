def gdS (S : Mem) (w : Nat → Int32) (st u : Nat) : Bool := decide ((nI u &&& (nI st ^^^ (-1 : Int32))) = 0 ∧ s_tot S (nI u) 3 (ix (S 8 0)) = w 0 ∧ s_tot S (nI u) 4 (ix (S 8 0)) = w 1 ∧ s_tot S (nI u) 5 (ix (S 8 0)) = w 2 ∧ s_tot S (nI u) 6 (ix (S 8 0)) = w 3)
def cdS (g : Nat → Bool) : Nat → Nat
  | 0 => 0
  | n + 1 => cdS g n + (if g (n + 1) = true then 1 else 0)
def lsS (g : Nat → Bool) : Nat → Nat → Nat
  | _, 0 => 0
  | n, d + 1 => if g (n + 1) = true then n + 1 else lsS g (n + 1) d
theorem cd_le (g : Nat → Bool) : ∀ n, cdS g n ≤ n := by
  intro n
  induction n with
  | zero => exact Nat.le_refl _
  | succ n ih =>
    rw [cdS]
    split <;> omega
theorem cd_top (g : Nat → Bool) (st : Nat) (h : ∀ u, st < u → u < 256 → ¬ g u = true) : ∀ d, st + d < 256 → cdS g (st + d) = cdS g st := by
  intro d
  induction d with
  | zero => intro _; rfl
  | succ d ih =>
    intro hd
    rw [← Nat.add_assoc, cdS, ih (by omega), if_neg (h (st + d + 1) (by omega) (by omega))]
    rfl
theorem ls_top (g : Nat → Bool) (st : Nat) (h : ∀ u, st < u → u < 256 → ¬ g u = true) : ∀ d n e, n + d = st → st + e < 256 → lsS g n (d + e) = lsS g n d := by
  intro d
  induction d with
  | zero =>
    intro n e hn he
    have hz : ∀ e n, st ≤ n → n + e < 256 → lsS g n e = 0 := by
      intro e
      induction e with
      | zero => intro n _ _; rfl
      | succ e ih =>
        intro n h1 h2
        rw [lsS, if_neg (h (n + 1) (by omega) (by omega))]
        exact ih (n + 1) (by omega) (by omega)
    rw [Nat.zero_add, hz e n (by omega) (by omega)]
    rfl
  | succ d ih =>
    intro n e hn he
    rw [show d + 1 + e = d + e + 1 by omega, lsS, lsS, ih (n + 1) e (by omega) he]
theorem ls_cd (g : Nat → Bool) : ∀ d n, (lsS g n d = 0 ↔ cdS g (n + d) = cdS g n) ∧ lsS g n d ≤ n + d := by
  intro d
  induction d with
  | zero => intro n; exact ⟨⟨fun _ => rfl, fun _ => rfl⟩, by show 0 ≤ _; omega⟩
  | succ d ih =>
    intro n
    have hm : ∀ a b, cdS g a ≤ cdS g (a + b) := by
      intro a b
      induction b with
      | zero => exact Nat.le_refl _
      | succ b ihb =>
        rw [← Nat.add_assoc, cdS]
        omega
    obtain ⟨h1, h2⟩ := ih (n + 1)
    rw [lsS, show n + (d + 1) = n + 1 + d by omega]
    have h3 : cdS g (n + 1) = cdS g n + (if g (n + 1) = true then 1 else 0) := rfl
    have h4 := hm (n + 1) d
    by_cases q : g (n + 1) = true
    · rw [if_pos q] at h3 ⊢
      exact ⟨⟨fun z => by omega, fun z => by omega⟩, by omega⟩
    · rw [if_neg q] at h3 ⊢
      rw [h1]
      exact ⟨⟨fun z => by omega, fun z => by omega⟩, h2⟩
