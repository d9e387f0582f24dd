/-! the block behind the two constructors -/
def h0row : Nat → Int32 := upd (upd (upd (fun _ => 0) (3 : Int32).toNatClampNeg 1) (6 : Int32).toNatClampNeg (-1)) (7 : Int32).toNatClampNeg (-1)
def h0sky : Nat → Int32 := fun j => if j = 6 then 1 else 0
def h0rd : Nat → Int32 := fun j => if j = 1 then nI 90 else if j = 3 then -(nI (0 + 1)) else if j = 5 then -1 else 0
def h0 : Mem := fun k => if k = 103 then h0row else if k = 1 then h0sky else if k = 29 then h0sky else if k = 57 then h0sky else if k = 86 then h0rd else fun _ => 0
theorem adr_c (ω : WX) {a : Nat} (h : a < 2 ^ 31) : adr ω (nI a) = ω.1 + a := by
  simp only [adr]
  rw [if_neg (nI_pos h), nI_clamp h]
theorem adr_s (ω : WX) {a : Nat} (ha : a < 10) : adr ω (-(nI (a + 1))) = ω.2.2.2.1 a := by
  have hd : ∀ z, z < 10 → -(nI (z + 1)) < 0 ∧ (-(-(nI (z + 1)))).toNatClampNeg - 1 = z := by decide +kernel
  obtain ⟨h1, h2⟩ := hd a ha
  simp only [adr]
  rw [if_pos h1, h2]
theorem at_refs {D : va_G} {cl : List vw_C} {H : Heap} {a n : Nat} {c : ClassId} {f g : Nat → Option Nat} (h : ∀ i, i < n → f i = g i) (hf : va_at D cl (a, .inl (c, n, .inr (.inr (.inr (.inr f))))) H) : va_at D cl (a, .inl (c, n, .inr (.inr (.inr (.inr g))))) H := by
  have e : vp_cell c (n, .inr (.inr (.inr (.inr f)))) = vp_cell c (n, .inr (.inr (.inr (.inr g)))) := by
    rw [vp_cell_q, vp_cell_q]
    unfold arrV
    congr 2
    funext j
    show va_rf (f j.val) = va_rf (g j.val)
    rw [h j.val j.isLt]
  show H[a]? = some _
  rw [← e]
  exact hf
def W0 (ω : WX) : va_W := [] ++ WX6_init ω ω.1 (ω.1 + 1) ++ WX7_init ω (ω.1 + 1 + 101) (ω.1 + 1 + 101 + 1)
set_option maxRecDepth 20000 in
theorem hw_0 {ω : WX} {H : Heap} (hP : va_P ω.2.1 vwCl (W0 ω) H) : va_at ω.2.1 vwCl (ω.1 + 0, cont ω h0 0) H := hP 0 _ rfl
set_option maxRecDepth 20000 in
theorem hw_1 {ω : WX} {H : Heap} (hP : va_P ω.2.1 vwCl (W0 ω) H) : va_at ω.2.1 vwCl (ω.1 + 1, cont ω h0 1) H := hP 74 _ rfl
set_option maxRecDepth 20000 in
theorem hw_2 {ω : WX} {H : Heap} (hP : va_P ω.2.1 vwCl (W0 ω) H) : va_at ω.2.1 vwCl (ω.1 + 2, cont ω h0 2) H := at_refs (g := fun i => some (ω.1 + (2 + 11 + 2 * i))) (fun i hi => by rcases (show i = 0 ∨ i = 1 ∨ i = 2 ∨ i = 3 ∨ i = 4 ∨ i = 5 ∨ i = 6 ∨ i = 7 by omega) with rfl | rfl | rfl | rfl | rfl | rfl | rfl | rfl <;> rfl) (hP 75 _ rfl)
set_option maxRecDepth 20000 in
theorem hw_3 {ω : WX} {H : Heap} (hP : va_P ω.2.1 vwCl (W0 ω) H) : va_at ω.2.1 vwCl (ω.1 + 3, cont ω h0 3) H := hP 101 _ rfl
set_option maxRecDepth 20000 in
theorem hw_4 {ω : WX} {H : Heap} (hP : va_P ω.2.1 vwCl (W0 ω) H) : va_at ω.2.1 vwCl (ω.1 + 4, cont ω h0 4) H := hP 100 _ rfl
set_option maxRecDepth 20000 in
theorem hw_5 {ω : WX} {H : Heap} (hP : va_P ω.2.1 vwCl (W0 ω) H) : va_at ω.2.1 vwCl (ω.1 + 5, cont ω h0 5) H := hP 99 _ rfl
set_option maxRecDepth 20000 in
theorem hw_6 {ω : WX} {H : Heap} (hP : va_P ω.2.1 vwCl (W0 ω) H) : va_at ω.2.1 vwCl (ω.1 + 6, cont ω h0 6) H := hP 96 _ rfl
set_option maxRecDepth 20000 in
theorem hw_7 {ω : WX} {H : Heap} (hP : va_P ω.2.1 vwCl (W0 ω) H) : va_at ω.2.1 vwCl (ω.1 + 7, cont ω h0 7) H := hP 98 _ rfl
set_option maxRecDepth 20000 in
theorem hw_8 {ω : WX} {H : Heap} (hP : va_P ω.2.1 vwCl (W0 ω) H) : va_at ω.2.1 vwCl (ω.1 + 8, cont ω h0 8) H := hP 97 _ rfl
set_option maxRecDepth 20000 in
theorem hw_9 {ω : WX} {H : Heap} (hP : va_P ω.2.1 vwCl (W0 ω) H) : va_at ω.2.1 vwCl (ω.1 + 9, cont ω h0 9) H := hP 93 _ rfl
set_option maxRecDepth 20000 in
theorem hw_10 {ω : WX} {H : Heap} (hP : va_P ω.2.1 vwCl (W0 ω) H) : va_at ω.2.1 vwCl (ω.1 + 10, cont ω h0 10) H := hP 95 _ rfl
set_option maxRecDepth 20000 in
theorem hw_11 {ω : WX} {H : Heap} (hP : va_P ω.2.1 vwCl (W0 ω) H) : va_at ω.2.1 vwCl (ω.1 + 11, cont ω h0 11) H := hP 94 _ rfl
set_option maxRecDepth 20000 in
theorem hw_12 {ω : WX} {H : Heap} (hP : va_P ω.2.1 vwCl (W0 ω) H) : va_at ω.2.1 vwCl (ω.1 + 12, cont ω h0 12) H := hP 92 _ rfl
set_option maxRecDepth 20000 in
theorem hw_13 {ω : WX} {H : Heap} (hP : va_P ω.2.1 vwCl (W0 ω) H) : va_at ω.2.1 vwCl (ω.1 + 13, cont ω h0 13) H := hP 90 _ rfl
set_option maxRecDepth 20000 in
theorem hw_14 {ω : WX} {H : Heap} (hP : va_P ω.2.1 vwCl (W0 ω) H) : va_at ω.2.1 vwCl (ω.1 + 14, cont ω h0 14) H := hP 91 _ rfl
set_option maxRecDepth 20000 in
theorem hw_15 {ω : WX} {H : Heap} (hP : va_P ω.2.1 vwCl (W0 ω) H) : va_at ω.2.1 vwCl (ω.1 + 15, cont ω h0 15) H := hP 88 _ rfl
set_option maxRecDepth 20000 in
theorem hw_16 {ω : WX} {H : Heap} (hP : va_P ω.2.1 vwCl (W0 ω) H) : va_at ω.2.1 vwCl (ω.1 + 16, cont ω h0 16) H := hP 89 _ rfl
set_option maxRecDepth 20000 in
theorem hw_17 {ω : WX} {H : Heap} (hP : va_P ω.2.1 vwCl (W0 ω) H) : va_at ω.2.1 vwCl (ω.1 + 17, cont ω h0 17) H := hP 86 _ rfl
set_option maxRecDepth 20000 in
theorem hw_18 {ω : WX} {H : Heap} (hP : va_P ω.2.1 vwCl (W0 ω) H) : va_at ω.2.1 vwCl (ω.1 + 18, cont ω h0 18) H := hP 87 _ rfl
set_option maxRecDepth 20000 in
theorem hw_19 {ω : WX} {H : Heap} (hP : va_P ω.2.1 vwCl (W0 ω) H) : va_at ω.2.1 vwCl (ω.1 + 19, cont ω h0 19) H := hP 84 _ rfl
set_option maxRecDepth 20000 in
theorem hw_20 {ω : WX} {H : Heap} (hP : va_P ω.2.1 vwCl (W0 ω) H) : va_at ω.2.1 vwCl (ω.1 + 20, cont ω h0 20) H := hP 85 _ rfl
set_option maxRecDepth 20000 in
theorem hw_21 {ω : WX} {H : Heap} (hP : va_P ω.2.1 vwCl (W0 ω) H) : va_at ω.2.1 vwCl (ω.1 + 21, cont ω h0 21) H := hP 82 _ rfl
set_option maxRecDepth 20000 in
theorem hw_22 {ω : WX} {H : Heap} (hP : va_P ω.2.1 vwCl (W0 ω) H) : va_at ω.2.1 vwCl (ω.1 + 22, cont ω h0 22) H := hP 83 _ rfl
set_option maxRecDepth 20000 in
theorem hw_23 {ω : WX} {H : Heap} (hP : va_P ω.2.1 vwCl (W0 ω) H) : va_at ω.2.1 vwCl (ω.1 + 23, cont ω h0 23) H := hP 80 _ rfl
set_option maxRecDepth 20000 in
theorem hw_24 {ω : WX} {H : Heap} (hP : va_P ω.2.1 vwCl (W0 ω) H) : va_at ω.2.1 vwCl (ω.1 + 24, cont ω h0 24) H := hP 81 _ rfl
set_option maxRecDepth 20000 in
theorem hw_25 {ω : WX} {H : Heap} (hP : va_P ω.2.1 vwCl (W0 ω) H) : va_at ω.2.1 vwCl (ω.1 + 25, cont ω h0 25) H := hP 78 _ rfl
set_option maxRecDepth 20000 in
theorem hw_26 {ω : WX} {H : Heap} (hP : va_P ω.2.1 vwCl (W0 ω) H) : va_at ω.2.1 vwCl (ω.1 + 26, cont ω h0 26) H := hP 79 _ rfl
set_option maxRecDepth 20000 in
theorem hw_27 {ω : WX} {H : Heap} (hP : va_P ω.2.1 vwCl (W0 ω) H) : va_at ω.2.1 vwCl (ω.1 + 27, cont ω h0 27) H := hP 76 _ rfl
set_option maxRecDepth 20000 in
theorem hw_28 {ω : WX} {H : Heap} (hP : va_P ω.2.1 vwCl (W0 ω) H) : va_at ω.2.1 vwCl (ω.1 + 28, cont ω h0 28) H := hP 77 _ rfl
set_option maxRecDepth 20000 in
theorem hw_29 {ω : WX} {H : Heap} (hP : va_P ω.2.1 vwCl (W0 ω) H) : va_at ω.2.1 vwCl (ω.1 + 29, cont ω h0 29) H := hP 46 _ rfl
set_option maxRecDepth 20000 in
theorem hw_30 {ω : WX} {H : Heap} (hP : va_P ω.2.1 vwCl (W0 ω) H) : va_at ω.2.1 vwCl (ω.1 + 30, cont ω h0 30) H := at_refs (g := fun i => some (ω.1 + (30 + 11 + 2 * i))) (fun i hi => by rcases (show i = 0 ∨ i = 1 ∨ i = 2 ∨ i = 3 ∨ i = 4 ∨ i = 5 ∨ i = 6 ∨ i = 7 by omega) with rfl | rfl | rfl | rfl | rfl | rfl | rfl | rfl <;> rfl) (hP 47 _ rfl)
set_option maxRecDepth 20000 in
theorem hw_31 {ω : WX} {H : Heap} (hP : va_P ω.2.1 vwCl (W0 ω) H) : va_at ω.2.1 vwCl (ω.1 + 31, cont ω h0 31) H := hP 73 _ rfl
set_option maxRecDepth 20000 in
theorem hw_32 {ω : WX} {H : Heap} (hP : va_P ω.2.1 vwCl (W0 ω) H) : va_at ω.2.1 vwCl (ω.1 + 32, cont ω h0 32) H := hP 72 _ rfl
set_option maxRecDepth 20000 in
theorem hw_33 {ω : WX} {H : Heap} (hP : va_P ω.2.1 vwCl (W0 ω) H) : va_at ω.2.1 vwCl (ω.1 + 33, cont ω h0 33) H := hP 71 _ rfl
set_option maxRecDepth 20000 in
theorem hw_34 {ω : WX} {H : Heap} (hP : va_P ω.2.1 vwCl (W0 ω) H) : va_at ω.2.1 vwCl (ω.1 + 34, cont ω h0 34) H := hP 68 _ rfl
set_option maxRecDepth 20000 in
theorem hw_35 {ω : WX} {H : Heap} (hP : va_P ω.2.1 vwCl (W0 ω) H) : va_at ω.2.1 vwCl (ω.1 + 35, cont ω h0 35) H := hP 70 _ rfl
set_option maxRecDepth 20000 in
theorem hw_36 {ω : WX} {H : Heap} (hP : va_P ω.2.1 vwCl (W0 ω) H) : va_at ω.2.1 vwCl (ω.1 + 36, cont ω h0 36) H := hP 69 _ rfl
set_option maxRecDepth 20000 in
theorem hw_37 {ω : WX} {H : Heap} (hP : va_P ω.2.1 vwCl (W0 ω) H) : va_at ω.2.1 vwCl (ω.1 + 37, cont ω h0 37) H := hP 65 _ rfl
set_option maxRecDepth 20000 in
theorem hw_38 {ω : WX} {H : Heap} (hP : va_P ω.2.1 vwCl (W0 ω) H) : va_at ω.2.1 vwCl (ω.1 + 38, cont ω h0 38) H := hP 67 _ rfl
set_option maxRecDepth 20000 in
theorem hw_39 {ω : WX} {H : Heap} (hP : va_P ω.2.1 vwCl (W0 ω) H) : va_at ω.2.1 vwCl (ω.1 + 39, cont ω h0 39) H := hP 66 _ rfl
set_option maxRecDepth 20000 in
theorem hw_40 {ω : WX} {H : Heap} (hP : va_P ω.2.1 vwCl (W0 ω) H) : va_at ω.2.1 vwCl (ω.1 + 40, cont ω h0 40) H := hP 64 _ rfl
set_option maxRecDepth 20000 in
theorem hw_41 {ω : WX} {H : Heap} (hP : va_P ω.2.1 vwCl (W0 ω) H) : va_at ω.2.1 vwCl (ω.1 + 41, cont ω h0 41) H := hP 62 _ rfl
set_option maxRecDepth 20000 in
theorem hw_42 {ω : WX} {H : Heap} (hP : va_P ω.2.1 vwCl (W0 ω) H) : va_at ω.2.1 vwCl (ω.1 + 42, cont ω h0 42) H := hP 63 _ rfl
set_option maxRecDepth 20000 in
theorem hw_43 {ω : WX} {H : Heap} (hP : va_P ω.2.1 vwCl (W0 ω) H) : va_at ω.2.1 vwCl (ω.1 + 43, cont ω h0 43) H := hP 60 _ rfl
set_option maxRecDepth 20000 in
theorem hw_44 {ω : WX} {H : Heap} (hP : va_P ω.2.1 vwCl (W0 ω) H) : va_at ω.2.1 vwCl (ω.1 + 44, cont ω h0 44) H := hP 61 _ rfl
set_option maxRecDepth 20000 in
theorem hw_45 {ω : WX} {H : Heap} (hP : va_P ω.2.1 vwCl (W0 ω) H) : va_at ω.2.1 vwCl (ω.1 + 45, cont ω h0 45) H := hP 58 _ rfl
set_option maxRecDepth 20000 in
theorem hw_46 {ω : WX} {H : Heap} (hP : va_P ω.2.1 vwCl (W0 ω) H) : va_at ω.2.1 vwCl (ω.1 + 46, cont ω h0 46) H := hP 59 _ rfl
set_option maxRecDepth 20000 in
theorem hw_47 {ω : WX} {H : Heap} (hP : va_P ω.2.1 vwCl (W0 ω) H) : va_at ω.2.1 vwCl (ω.1 + 47, cont ω h0 47) H := hP 56 _ rfl
set_option maxRecDepth 20000 in
theorem hw_48 {ω : WX} {H : Heap} (hP : va_P ω.2.1 vwCl (W0 ω) H) : va_at ω.2.1 vwCl (ω.1 + 48, cont ω h0 48) H := hP 57 _ rfl
set_option maxRecDepth 20000 in
theorem hw_49 {ω : WX} {H : Heap} (hP : va_P ω.2.1 vwCl (W0 ω) H) : va_at ω.2.1 vwCl (ω.1 + 49, cont ω h0 49) H := hP 54 _ rfl
set_option maxRecDepth 20000 in
theorem hw_50 {ω : WX} {H : Heap} (hP : va_P ω.2.1 vwCl (W0 ω) H) : va_at ω.2.1 vwCl (ω.1 + 50, cont ω h0 50) H := hP 55 _ rfl
set_option maxRecDepth 20000 in
theorem hw_51 {ω : WX} {H : Heap} (hP : va_P ω.2.1 vwCl (W0 ω) H) : va_at ω.2.1 vwCl (ω.1 + 51, cont ω h0 51) H := hP 52 _ rfl
set_option maxRecDepth 20000 in
theorem hw_52 {ω : WX} {H : Heap} (hP : va_P ω.2.1 vwCl (W0 ω) H) : va_at ω.2.1 vwCl (ω.1 + 52, cont ω h0 52) H := hP 53 _ rfl
set_option maxRecDepth 20000 in
theorem hw_53 {ω : WX} {H : Heap} (hP : va_P ω.2.1 vwCl (W0 ω) H) : va_at ω.2.1 vwCl (ω.1 + 53, cont ω h0 53) H := hP 50 _ rfl
set_option maxRecDepth 20000 in
theorem hw_54 {ω : WX} {H : Heap} (hP : va_P ω.2.1 vwCl (W0 ω) H) : va_at ω.2.1 vwCl (ω.1 + 54, cont ω h0 54) H := hP 51 _ rfl
set_option maxRecDepth 20000 in
theorem hw_55 {ω : WX} {H : Heap} (hP : va_P ω.2.1 vwCl (W0 ω) H) : va_at ω.2.1 vwCl (ω.1 + 55, cont ω h0 55) H := hP 48 _ rfl
set_option maxRecDepth 20000 in
theorem hw_56 {ω : WX} {H : Heap} (hP : va_P ω.2.1 vwCl (W0 ω) H) : va_at ω.2.1 vwCl (ω.1 + 56, cont ω h0 56) H := hP 49 _ rfl
set_option maxRecDepth 20000 in
theorem hw_57 {ω : WX} {H : Heap} (hP : va_P ω.2.1 vwCl (W0 ω) H) : va_at ω.2.1 vwCl (ω.1 + 57, cont ω h0 57) H := hP 18 _ rfl
set_option maxRecDepth 20000 in
theorem hw_58 {ω : WX} {H : Heap} (hP : va_P ω.2.1 vwCl (W0 ω) H) : va_at ω.2.1 vwCl (ω.1 + 58, cont ω h0 58) H := at_refs (g := fun i => some (ω.1 + (58 + 11 + 2 * i))) (fun i hi => by rcases (show i = 0 ∨ i = 1 ∨ i = 2 ∨ i = 3 ∨ i = 4 ∨ i = 5 ∨ i = 6 ∨ i = 7 by omega) with rfl | rfl | rfl | rfl | rfl | rfl | rfl | rfl <;> rfl) (hP 19 _ rfl)
set_option maxRecDepth 20000 in
theorem hw_59 {ω : WX} {H : Heap} (hP : va_P ω.2.1 vwCl (W0 ω) H) : va_at ω.2.1 vwCl (ω.1 + 59, cont ω h0 59) H := hP 45 _ rfl
set_option maxRecDepth 20000 in
theorem hw_60 {ω : WX} {H : Heap} (hP : va_P ω.2.1 vwCl (W0 ω) H) : va_at ω.2.1 vwCl (ω.1 + 60, cont ω h0 60) H := hP 44 _ rfl
set_option maxRecDepth 20000 in
theorem hw_61 {ω : WX} {H : Heap} (hP : va_P ω.2.1 vwCl (W0 ω) H) : va_at ω.2.1 vwCl (ω.1 + 61, cont ω h0 61) H := hP 43 _ rfl
set_option maxRecDepth 20000 in
theorem hw_62 {ω : WX} {H : Heap} (hP : va_P ω.2.1 vwCl (W0 ω) H) : va_at ω.2.1 vwCl (ω.1 + 62, cont ω h0 62) H := hP 40 _ rfl
set_option maxRecDepth 20000 in
theorem hw_63 {ω : WX} {H : Heap} (hP : va_P ω.2.1 vwCl (W0 ω) H) : va_at ω.2.1 vwCl (ω.1 + 63, cont ω h0 63) H := hP 42 _ rfl
set_option maxRecDepth 20000 in
theorem hw_64 {ω : WX} {H : Heap} (hP : va_P ω.2.1 vwCl (W0 ω) H) : va_at ω.2.1 vwCl (ω.1 + 64, cont ω h0 64) H := hP 41 _ rfl
set_option maxRecDepth 20000 in
theorem hw_65 {ω : WX} {H : Heap} (hP : va_P ω.2.1 vwCl (W0 ω) H) : va_at ω.2.1 vwCl (ω.1 + 65, cont ω h0 65) H := hP 37 _ rfl
set_option maxRecDepth 20000 in
theorem hw_66 {ω : WX} {H : Heap} (hP : va_P ω.2.1 vwCl (W0 ω) H) : va_at ω.2.1 vwCl (ω.1 + 66, cont ω h0 66) H := hP 39 _ rfl
set_option maxRecDepth 20000 in
theorem hw_67 {ω : WX} {H : Heap} (hP : va_P ω.2.1 vwCl (W0 ω) H) : va_at ω.2.1 vwCl (ω.1 + 67, cont ω h0 67) H := hP 38 _ rfl
set_option maxRecDepth 20000 in
theorem hw_68 {ω : WX} {H : Heap} (hP : va_P ω.2.1 vwCl (W0 ω) H) : va_at ω.2.1 vwCl (ω.1 + 68, cont ω h0 68) H := hP 36 _ rfl
set_option maxRecDepth 20000 in
theorem hw_69 {ω : WX} {H : Heap} (hP : va_P ω.2.1 vwCl (W0 ω) H) : va_at ω.2.1 vwCl (ω.1 + 69, cont ω h0 69) H := hP 34 _ rfl
set_option maxRecDepth 20000 in
theorem hw_70 {ω : WX} {H : Heap} (hP : va_P ω.2.1 vwCl (W0 ω) H) : va_at ω.2.1 vwCl (ω.1 + 70, cont ω h0 70) H := hP 35 _ rfl
set_option maxRecDepth 20000 in
theorem hw_71 {ω : WX} {H : Heap} (hP : va_P ω.2.1 vwCl (W0 ω) H) : va_at ω.2.1 vwCl (ω.1 + 71, cont ω h0 71) H := hP 32 _ rfl
set_option maxRecDepth 20000 in
theorem hw_72 {ω : WX} {H : Heap} (hP : va_P ω.2.1 vwCl (W0 ω) H) : va_at ω.2.1 vwCl (ω.1 + 72, cont ω h0 72) H := hP 33 _ rfl
set_option maxRecDepth 20000 in
theorem hw_73 {ω : WX} {H : Heap} (hP : va_P ω.2.1 vwCl (W0 ω) H) : va_at ω.2.1 vwCl (ω.1 + 73, cont ω h0 73) H := hP 30 _ rfl
set_option maxRecDepth 20000 in
theorem hw_74 {ω : WX} {H : Heap} (hP : va_P ω.2.1 vwCl (W0 ω) H) : va_at ω.2.1 vwCl (ω.1 + 74, cont ω h0 74) H := hP 31 _ rfl
set_option maxRecDepth 20000 in
theorem hw_75 {ω : WX} {H : Heap} (hP : va_P ω.2.1 vwCl (W0 ω) H) : va_at ω.2.1 vwCl (ω.1 + 75, cont ω h0 75) H := hP 28 _ rfl
set_option maxRecDepth 20000 in
theorem hw_76 {ω : WX} {H : Heap} (hP : va_P ω.2.1 vwCl (W0 ω) H) : va_at ω.2.1 vwCl (ω.1 + 76, cont ω h0 76) H := hP 29 _ rfl
set_option maxRecDepth 20000 in
theorem hw_77 {ω : WX} {H : Heap} (hP : va_P ω.2.1 vwCl (W0 ω) H) : va_at ω.2.1 vwCl (ω.1 + 77, cont ω h0 77) H := hP 26 _ rfl
set_option maxRecDepth 20000 in
theorem hw_78 {ω : WX} {H : Heap} (hP : va_P ω.2.1 vwCl (W0 ω) H) : va_at ω.2.1 vwCl (ω.1 + 78, cont ω h0 78) H := hP 27 _ rfl
set_option maxRecDepth 20000 in
theorem hw_79 {ω : WX} {H : Heap} (hP : va_P ω.2.1 vwCl (W0 ω) H) : va_at ω.2.1 vwCl (ω.1 + 79, cont ω h0 79) H := hP 24 _ rfl
set_option maxRecDepth 20000 in
theorem hw_80 {ω : WX} {H : Heap} (hP : va_P ω.2.1 vwCl (W0 ω) H) : va_at ω.2.1 vwCl (ω.1 + 80, cont ω h0 80) H := hP 25 _ rfl
set_option maxRecDepth 20000 in
theorem hw_81 {ω : WX} {H : Heap} (hP : va_P ω.2.1 vwCl (W0 ω) H) : va_at ω.2.1 vwCl (ω.1 + 81, cont ω h0 81) H := hP 22 _ rfl
set_option maxRecDepth 20000 in
theorem hw_82 {ω : WX} {H : Heap} (hP : va_P ω.2.1 vwCl (W0 ω) H) : va_at ω.2.1 vwCl (ω.1 + 82, cont ω h0 82) H := hP 23 _ rfl
set_option maxRecDepth 20000 in
theorem hw_83 {ω : WX} {H : Heap} (hP : va_P ω.2.1 vwCl (W0 ω) H) : va_at ω.2.1 vwCl (ω.1 + 83, cont ω h0 83) H := hP 20 _ rfl
set_option maxRecDepth 20000 in
theorem hw_84 {ω : WX} {H : Heap} (hP : va_P ω.2.1 vwCl (W0 ω) H) : va_at ω.2.1 vwCl (ω.1 + 84, cont ω h0 84) H := hP 21 _ rfl
set_option maxRecDepth 20000 in
theorem hw_85 {ω : WX} {H : Heap} (hP : va_P ω.2.1 vwCl (W0 ω) H) : va_at ω.2.1 vwCl (ω.1 + 85, cont ω h0 85) H := at_refs (g := fun i => some (ω.1 + (85 + 9 + 2 * i))) (fun i hi => by rcases (show i = 0 ∨ i = 1 ∨ i = 2 ∨ i = 3 by omega) with rfl | rfl | rfl | rfl <;> rfl) (hP 1 _ rfl)
set_option maxRecDepth 20000 in
theorem hw_86 {ω : WX} {H : Heap} (hP : va_P ω.2.1 vwCl (W0 ω) H) : va_at ω.2.1 vwCl (ω.1 + 86, cont ω h0 86) H := by
  have h := hP 13 _ rfl
  have e : cont ω h0 86 = .inr (4, [.ref (ω.1 + (86 + 1)), .ref (adr ω (nI 90)), .int 0, .ref (adr ω (-(nI (0 + 1)))), .int 0, .int (-1)]) := rfl
  rw [e, adr_c ω (by decide), adr_s ω (by decide)]
  exact h
set_option maxRecDepth 20000 in
theorem hw_87 {ω : WX} {H : Heap} (hP : va_P ω.2.1 vwCl (W0 ω) H) : va_at ω.2.1 vwCl (ω.1 + 87, cont ω h0 87) H := hP 15 _ rfl
set_option maxRecDepth 20000 in
theorem hw_88 {ω : WX} {H : Heap} (hP : va_P ω.2.1 vwCl (W0 ω) H) : va_at ω.2.1 vwCl (ω.1 + 88, cont ω h0 88) H := hP 17 _ rfl
set_option maxRecDepth 20000 in
theorem hw_89 {ω : WX} {H : Heap} (hP : va_P ω.2.1 vwCl (W0 ω) H) : va_at ω.2.1 vwCl (ω.1 + 89, cont ω h0 89) H := hP 16 _ rfl
set_option maxRecDepth 20000 in
theorem hw_90 {ω : WX} {H : Heap} (hP : va_P ω.2.1 vwCl (W0 ω) H) : va_at ω.2.1 vwCl (ω.1 + 90, cont ω h0 90) H := hP 14 _ rfl
set_option maxRecDepth 20000 in
theorem hw_91 {ω : WX} {H : Heap} (hP : va_P ω.2.1 vwCl (W0 ω) H) : va_at ω.2.1 vwCl (ω.1 + 91, cont ω h0 91) H := hP 11 _ rfl
set_option maxRecDepth 20000 in
theorem hw_92 {ω : WX} {H : Heap} (hP : va_P ω.2.1 vwCl (W0 ω) H) : va_at ω.2.1 vwCl (ω.1 + 92, cont ω h0 92) H := hP 12 _ rfl
set_option maxRecDepth 20000 in
theorem hw_93 {ω : WX} {H : Heap} (hP : va_P ω.2.1 vwCl (W0 ω) H) : va_at ω.2.1 vwCl (ω.1 + 93, cont ω h0 93) H := hP 10 _ rfl
set_option maxRecDepth 20000 in
theorem hw_94 {ω : WX} {H : Heap} (hP : va_P ω.2.1 vwCl (W0 ω) H) : va_at ω.2.1 vwCl (ω.1 + 94, cont ω h0 94) H := hP 8 _ rfl
set_option maxRecDepth 20000 in
theorem hw_95 {ω : WX} {H : Heap} (hP : va_P ω.2.1 vwCl (W0 ω) H) : va_at ω.2.1 vwCl (ω.1 + 95, cont ω h0 95) H := hP 9 _ rfl
set_option maxRecDepth 20000 in
theorem hw_96 {ω : WX} {H : Heap} (hP : va_P ω.2.1 vwCl (W0 ω) H) : va_at ω.2.1 vwCl (ω.1 + 96, cont ω h0 96) H := hP 6 _ rfl
set_option maxRecDepth 20000 in
theorem hw_97 {ω : WX} {H : Heap} (hP : va_P ω.2.1 vwCl (W0 ω) H) : va_at ω.2.1 vwCl (ω.1 + 97, cont ω h0 97) H := hP 7 _ rfl
set_option maxRecDepth 20000 in
theorem hw_98 {ω : WX} {H : Heap} (hP : va_P ω.2.1 vwCl (W0 ω) H) : va_at ω.2.1 vwCl (ω.1 + 98, cont ω h0 98) H := hP 4 _ rfl
set_option maxRecDepth 20000 in
theorem hw_99 {ω : WX} {H : Heap} (hP : va_P ω.2.1 vwCl (W0 ω) H) : va_at ω.2.1 vwCl (ω.1 + 99, cont ω h0 99) H := hP 5 _ rfl
set_option maxRecDepth 20000 in
theorem hw_100 {ω : WX} {H : Heap} (hP : va_P ω.2.1 vwCl (W0 ω) H) : va_at ω.2.1 vwCl (ω.1 + 100, cont ω h0 100) H := hP 2 _ rfl
set_option maxRecDepth 20000 in
theorem hw_101 {ω : WX} {H : Heap} (hP : va_P ω.2.1 vwCl (W0 ω) H) : va_at ω.2.1 vwCl (ω.1 + 101, cont ω h0 101) H := hP 3 _ rfl
set_option maxRecDepth 20000 in
theorem hw_102 {ω : WX} {H : Heap} (hP : va_P ω.2.1 vwCl (W0 ω) H) : va_at ω.2.1 vwCl (ω.1 + 102, cont ω h0 102) H := hP 102 _ rfl
set_option maxRecDepth 20000 in
theorem hw_103 {ω : WX} {H : Heap} (hP : va_P ω.2.1 vwCl (W0 ω) H) : va_at ω.2.1 vwCl (ω.1 + 103, cont ω h0 103) H := hP 103 _ rfl
set_option maxRecDepth 20000 in
theorem hw_104 {ω : WX} {H : Heap} (hP : va_P ω.2.1 vwCl (W0 ω) H) : va_at ω.2.1 vwCl (ω.1 + 104, cont ω h0 104) H := hP 112 _ rfl
set_option maxRecDepth 20000 in
theorem hw_105 {ω : WX} {H : Heap} (hP : va_P ω.2.1 vwCl (W0 ω) H) : va_at ω.2.1 vwCl (ω.1 + 105, cont ω h0 105) H := hP 111 _ rfl
set_option maxRecDepth 20000 in
theorem hw_106 {ω : WX} {H : Heap} (hP : va_P ω.2.1 vwCl (W0 ω) H) : va_at ω.2.1 vwCl (ω.1 + 106, cont ω h0 106) H := hP 110 _ rfl
set_option maxRecDepth 20000 in
theorem hw_107 {ω : WX} {H : Heap} (hP : va_P ω.2.1 vwCl (W0 ω) H) : va_at ω.2.1 vwCl (ω.1 + 107, cont ω h0 107) H := hP 109 _ rfl
set_option maxRecDepth 20000 in
theorem hw_108 {ω : WX} {H : Heap} (hP : va_P ω.2.1 vwCl (W0 ω) H) : va_at ω.2.1 vwCl (ω.1 + 108, cont ω h0 108) H := hP 108 _ rfl
set_option maxRecDepth 20000 in
theorem hw_109 {ω : WX} {H : Heap} (hP : va_P ω.2.1 vwCl (W0 ω) H) : va_at ω.2.1 vwCl (ω.1 + 109, cont ω h0 109) H := hP 107 _ rfl
set_option maxRecDepth 20000 in
theorem hw_110 {ω : WX} {H : Heap} (hP : va_P ω.2.1 vwCl (W0 ω) H) : va_at ω.2.1 vwCl (ω.1 + 110, cont ω h0 110) H := hP 106 _ rfl
set_option maxRecDepth 20000 in
theorem hw_111 {ω : WX} {H : Heap} (hP : va_P ω.2.1 vwCl (W0 ω) H) : va_at ω.2.1 vwCl (ω.1 + 111, cont ω h0 111) H := hP 105 _ rfl
set_option maxRecDepth 20000 in
theorem hw_112 {ω : WX} {H : Heap} (hP : va_P ω.2.1 vwCl (W0 ω) H) : va_at ω.2.1 vwCl (ω.1 + 112, cont ω h0 112) H := hP 104 _ rfl
theorem hw0 {ω : WX} {H : Heap} (hP : va_P ω.2.1 vwCl (W0 ω) H) : va_P ω.2.1 vwCl (wsOf ω h0) H := by
  intro k q hk
  obtain ⟨hk2, rfl⟩ := ws_inv hk
  clear hk
  match k, hk2 with
  | 0, _ => exact hw_0 hP
  | 1, _ => exact hw_1 hP
  | 2, _ => exact hw_2 hP
  | 3, _ => exact hw_3 hP
  | 4, _ => exact hw_4 hP
  | 5, _ => exact hw_5 hP
  | 6, _ => exact hw_6 hP
  | 7, _ => exact hw_7 hP
  | 8, _ => exact hw_8 hP
  | 9, _ => exact hw_9 hP
  | 10, _ => exact hw_10 hP
  | 11, _ => exact hw_11 hP
  | 12, _ => exact hw_12 hP
  | 13, _ => exact hw_13 hP
  | 14, _ => exact hw_14 hP
  | 15, _ => exact hw_15 hP
  | 16, _ => exact hw_16 hP
  | 17, _ => exact hw_17 hP
  | 18, _ => exact hw_18 hP
  | 19, _ => exact hw_19 hP
  | 20, _ => exact hw_20 hP
  | 21, _ => exact hw_21 hP
  | 22, _ => exact hw_22 hP
  | 23, _ => exact hw_23 hP
  | 24, _ => exact hw_24 hP
  | 25, _ => exact hw_25 hP
  | 26, _ => exact hw_26 hP
  | 27, _ => exact hw_27 hP
  | 28, _ => exact hw_28 hP
  | 29, _ => exact hw_29 hP
  | 30, _ => exact hw_30 hP
  | 31, _ => exact hw_31 hP
  | 32, _ => exact hw_32 hP
  | 33, _ => exact hw_33 hP
  | 34, _ => exact hw_34 hP
  | 35, _ => exact hw_35 hP
  | 36, _ => exact hw_36 hP
  | 37, _ => exact hw_37 hP
  | 38, _ => exact hw_38 hP
  | 39, _ => exact hw_39 hP
  | 40, _ => exact hw_40 hP
  | 41, _ => exact hw_41 hP
  | 42, _ => exact hw_42 hP
  | 43, _ => exact hw_43 hP
  | 44, _ => exact hw_44 hP
  | 45, _ => exact hw_45 hP
  | 46, _ => exact hw_46 hP
  | 47, _ => exact hw_47 hP
  | 48, _ => exact hw_48 hP
  | 49, _ => exact hw_49 hP
  | 50, _ => exact hw_50 hP
  | 51, _ => exact hw_51 hP
  | 52, _ => exact hw_52 hP
  | 53, _ => exact hw_53 hP
  | 54, _ => exact hw_54 hP
  | 55, _ => exact hw_55 hP
  | 56, _ => exact hw_56 hP
  | 57, _ => exact hw_57 hP
  | 58, _ => exact hw_58 hP
  | 59, _ => exact hw_59 hP
  | 60, _ => exact hw_60 hP
  | 61, _ => exact hw_61 hP
  | 62, _ => exact hw_62 hP
  | 63, _ => exact hw_63 hP
  | 64, _ => exact hw_64 hP
  | 65, _ => exact hw_65 hP
  | 66, _ => exact hw_66 hP
  | 67, _ => exact hw_67 hP
  | 68, _ => exact hw_68 hP
  | 69, _ => exact hw_69 hP
  | 70, _ => exact hw_70 hP
  | 71, _ => exact hw_71 hP
  | 72, _ => exact hw_72 hP
  | 73, _ => exact hw_73 hP
  | 74, _ => exact hw_74 hP
  | 75, _ => exact hw_75 hP
  | 76, _ => exact hw_76 hP
  | 77, _ => exact hw_77 hP
  | 78, _ => exact hw_78 hP
  | 79, _ => exact hw_79 hP
  | 80, _ => exact hw_80 hP
  | 81, _ => exact hw_81 hP
  | 82, _ => exact hw_82 hP
  | 83, _ => exact hw_83 hP
  | 84, _ => exact hw_84 hP
  | 85, _ => exact hw_85 hP
  | 86, _ => exact hw_86 hP
  | 87, _ => exact hw_87 hP
  | 88, _ => exact hw_88 hP
  | 89, _ => exact hw_89 hP
  | 90, _ => exact hw_90 hP
  | 91, _ => exact hw_91 hP
  | 92, _ => exact hw_92 hP
  | 93, _ => exact hw_93 hP
  | 94, _ => exact hw_94 hP
  | 95, _ => exact hw_95 hP
  | 96, _ => exact hw_96 hP
  | 97, _ => exact hw_97 hP
  | 98, _ => exact hw_98 hP
  | 99, _ => exact hw_99 hP
  | 100, _ => exact hw_100 hP
  | 101, _ => exact hw_101 hP
  | 102, _ => exact hw_102 hP
  | 103, _ => exact hw_103 hP
  | 104, _ => exact hw_104 hP
  | 105, _ => exact hw_105 hP
  | 106, _ => exact hw_106 hP
  | 107, _ => exact hw_107 hP
  | 108, _ => exact hw_108 hP
  | 109, _ => exact hw_109 hP
  | 110, _ => exact hw_110 hP
  | 111, _ => exact hw_111 hP
  | 112, _ => exact hw_112 hP
  | k + 113, h => exact absurd h (by show ¬ k + 113 < 113; omega)
