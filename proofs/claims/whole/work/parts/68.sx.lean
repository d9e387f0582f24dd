/-! TEXTS: bytes, signs, the class's state c and the Model's m over the same bytes w, end e, use x -/
def byL : List Int32 := [116, 119, 115, 97, 98, 104, 33, 40, 41, 42, 47, 37, 43, 45, 60, 61, 62, 38, 124]
theorem by_c : ∀ v, v < 256 → i2c (nI v) = nI v ∧ ¬ nI v < 0 ∧ ¬ (255 : Int32) < nI v ∧ ∀ t ∈ byL, (t = i2b (nI v) ↔ nI v = t) := by
  decide +kernel
theorem ix_01 : ix (0 + 1) = 1 := by decide
theorem ix_02 : ix (0 + 1 + 1) = 2 := by decide
section SX
variable {k0 v n : Nat} {x y z : Int32}
theorem sx3 (hv : v < 256) (hl : lenS.getD k0 0 = 3) (hb : bytS.getD k0 [] = [x, y, z]) (hx : x ∈ byL) (hy : y ∈ byL) (hz : z ∈ byL) (h : Mem) : F_J0_indexOf_0f7a4 (n + 4) k0 (i2c (nI v)) h = some (if nI v = x then 0 else if nI v = y then 1 else if nI v = z then 2 else -1, h) := by
  obtain ⟨e1, e2, e3, e4⟩ := by_c v hv
  unfold F_J0_indexOf_0f7a4 F_J0_indexOf_7cf53 F_J0_isLatin1_aae02 F_J0_length_8abf5 F_J0_coder_7d493 F_J1_indexOf_4cfef F_J1_canEncode_9a6ad F_J1_indexOfChar_4cfef
  rw [e1, hl, bnd_id]
  simp only [i10, if_false, if_true, bnd_s, if_neg e2, if_neg e3, C_max, C_min, bnd_id, sq_i]
  rw [show (if (0 : Int32) < 0 then (0 : Int32) else 0) = 0 by decide, show nI 3 >>> ((0 : Int32) &&& 31) = 3 by decide, show (if nI 3 < (3 : Int32) then nI 3 else 3) = 3 by decide, if_pos (by decide)]
  rw [show n + 4 = n + 3 + 1 from rfl, F_J1_indexOfChar_4cfef_7, if_neg (by decide), hl, gin_d _ (by decide), hb, ix_0, show ([x, y, z] : List Int32).getD 0 0 = x from rfl]
  by_cases q1 : nI v = x
  · rw [if_pos ((e4 x hx).mpr q1), if_pos q1]
  · rw [if_neg (fun z9 => q1 ((e4 x hx).mp z9)), if_neg q1]
    rw [F_J1_indexOfChar_4cfef_7, if_neg (by decide), hl, gin_d _ (by decide), hb, ix_01, show ([x, y, z] : List Int32).getD 1 0 = y from rfl]
    by_cases q2 : nI v = y
    · rw [if_pos ((e4 y hy).mpr q2), if_pos q2]; rfl
    · rw [if_neg (fun z9 => q2 ((e4 y hy).mp z9)), if_neg q2]
      rw [F_J1_indexOfChar_4cfef_7, if_neg (by decide), hl, gin_d _ (by decide), hb, ix_02, show ([x, y, z] : List Int32).getD 2 0 = z from rfl]
      by_cases q3 : nI v = z
      · rw [if_pos ((e4 z hz).mpr q3), if_pos q3]; rfl
      · rw [if_neg (fun z9 => q3 ((e4 z hz).mp z9)), if_neg q3, F_J1_indexOfChar_4cfef_7, if_pos (by decide)]
theorem sx2 (hv : v < 256) (hl : lenS.getD k0 0 = 2) (hb : bytS.getD k0 [] = [x, y]) (hx : x ∈ byL) (hy : y ∈ byL) (h : Mem) : F_J0_indexOf_0f7a4 (n + 4) k0 (i2c (nI v)) h = some (if nI v = x then 0 else if nI v = y then 1 else -1, h) := by
  obtain ⟨e1, e2, e3, e4⟩ := by_c v hv
  unfold F_J0_indexOf_0f7a4 F_J0_indexOf_7cf53 F_J0_isLatin1_aae02 F_J0_length_8abf5 F_J0_coder_7d493 F_J1_indexOf_4cfef F_J1_canEncode_9a6ad F_J1_indexOfChar_4cfef
  rw [e1, hl, bnd_id]
  simp only [i10, if_false, if_true, bnd_s, if_neg e2, if_neg e3, C_max, C_min, bnd_id, sq_i]
  rw [show (if (0 : Int32) < 0 then (0 : Int32) else 0) = 0 by decide, show nI 2 >>> ((0 : Int32) &&& 31) = 2 by decide, show (if nI 2 < (2 : Int32) then nI 2 else 2) = 2 by decide, if_pos (by decide)]
  rw [show n + 4 = n + 3 + 1 from rfl, F_J1_indexOfChar_4cfef_7, if_neg (by decide), hl, gin_d _ (by decide), hb, ix_0, show ([x, y] : List Int32).getD 0 0 = x from rfl]
  by_cases q1 : nI v = x
  · rw [if_pos ((e4 x hx).mpr q1), if_pos q1]
  · rw [if_neg (fun z9 => q1 ((e4 x hx).mp z9)), if_neg q1]
    rw [F_J1_indexOfChar_4cfef_7, if_neg (by decide), hl, gin_d _ (by decide), hb, ix_01, show ([x, y] : List Int32).getD 1 0 = y from rfl]
    by_cases q2 : nI v = y
    · rw [if_pos ((e4 y hy).mpr q2), if_pos q2]; rfl
    · rw [if_neg (fun z9 => q2 ((e4 y hy).mp z9)), if_neg q2, F_J1_indexOfChar_4cfef_7, if_pos (by decide)]
theorem sx1 (hv : v < 256) (hl : lenS.getD k0 0 = 1) (hb : bytS.getD k0 [] = [x]) (hx : x ∈ byL) (h : Mem) : F_J0_indexOf_0f7a4 (n + 4) k0 (i2c (nI v)) h = some (if nI v = x then 0 else -1, h) := by
  obtain ⟨e1, e2, e3, e4⟩ := by_c v hv
  unfold F_J0_indexOf_0f7a4 F_J0_indexOf_7cf53 F_J0_isLatin1_aae02 F_J0_length_8abf5 F_J0_coder_7d493 F_J1_indexOf_4cfef F_J1_canEncode_9a6ad F_J1_indexOfChar_4cfef
  rw [e1, hl, bnd_id]
  simp only [i10, if_false, if_true, bnd_s, if_neg e2, if_neg e3, C_max, C_min, bnd_id, sq_i]
  rw [show (if (0 : Int32) < 0 then (0 : Int32) else 0) = 0 by decide, show nI 1 >>> ((0 : Int32) &&& 31) = 1 by decide, show (if nI 1 < (1 : Int32) then nI 1 else 1) = 1 by decide, if_pos (by decide)]
  rw [show n + 4 = n + 3 + 1 from rfl, F_J1_indexOfChar_4cfef_7, if_neg (by decide), hl, gin_d _ (by decide), hb, ix_0, show ([x] : List Int32).getD 0 0 = x from rfl]
  by_cases q1 : nI v = x
  · rw [if_pos ((e4 x hx).mpr q1), if_pos q1]
  · rw [if_neg (fun z9 => q1 ((e4 x hx).mp z9)), if_neg q1, F_J1_indexOfChar_4cfef_7, if_pos (by decide)]
end SX
