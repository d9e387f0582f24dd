/-! methods, by program: X7_isSheet, X7_storm, X7_paid, X7_sun, X7_windFor, X7_winds, X7_seed, X7_ran, X7_driftsIn, X7_tastesIn, X7_rainsIn, X7_tellsIn, X7_voice, X7_trace, X7_narrow, X7_sheet -/
def F_X7_isSheet (x0 : Int32) (h : Mem) : Option (Int32 × Mem) :=
  (bnd (F_X7_in x0 (0 : Int32) (3 : Int32) h) (fun r1 h2 =>
  (gbo r1 (some (r1, h2)))))
set_option maxRecDepth 10000 in
set_option maxHeartbeats 1000000 in
theorem ok_X7_isSheet (l : Launch) (ω : WX) (x0 : Int32) (h : Mem) : MC rvI l ω yX7_isSheet cX7_isSheet 1 (some .boolean) 1 [.int x0] h (F_X7_isSheet x0 h) := by
  refine MC.of (by decide +kernel) [(0, .int x0)] rfl (Nat.le_of_ble_eq_true rfl) (fun χ K => ?_)
  have K : Kok ω χ "SaltCloudsModel" cX7_isSheet 1 (some .boolean) 1 := K
  unfold F_X7_isSheet
  refine J_iload_n (pc := 0) K dX7_isSheet_0 0 rfl 0 rfl ?_
  refine J_iconst (pc := 1) K (0) dX7_isSheet_1 (by decide) ?_
  refine J_iconst (pc := 2) K (3) dX7_isSheet_2 (by decide) ?_
  refine J_callTI (As := [.int x0, .int (0 : Int32), .int (3 : Int32)]) (rest := []) (pc := 3) K cs_SaltCloudsModel_41 (ok_X7_in l ω x0 (0 : Int32) (3 : Int32) h) (by decide) rfl rfl (Nat.le_of_ble_eq_true rfl) dX7_isSheet_3 (fun r1 h2 => ?_)
  exact J_zret (pc := 6) K dX7_isSheet_6
def F_X7_storm_96 (N : Nat) (k0 : Nat) (w1 : Int32) (w2 : Int32) (w3 : Int32) (w4 : Int32) (w5 : Int32) (w6 : Int32) (kt : Int32 → Mem → Option (Int32 × Mem)) : Nat → Int32 → Int32 → Mem → Option (Int32 × Mem)
  | 0, _, _, _ => none
  | n + 1, u7, u8, h =>
    (if (4 : Int32) ≤ u8 then
      (kt u7 h)
    else
      (if u7 = 0 then
        (kt u7 h)
      else
        (bnd (F_X7_sumOf N k0 w6 ((3 : Int32) + u8) h) (fun r20 h21 =>
        (seqi (((40 : Int32) * w1) + u8) (fun v22 =>
        (gin v22 160
        (if r20 = (h21 (k0 + 8) (ix v22)) then
          (F_X7_storm_96 N k0 w1 w2 w3 w4 w5 w6 kt n (1 : Int32) (u8 + 1) h21)
        else
          (F_X7_storm_96 N k0 w1 w2 w3 w4 w5 w6 kt n (0 : Int32) (u8 + 1) h21)))))))))
set_option maxRecDepth 10000 in
set_option maxHeartbeats 1000000 in
theorem okL_X7_storm_96 {l : Launch} {ω : WX} {χ : KT} {d : Nat} (K : Kok ω χ "SaltCloudsModel" cX7_storm 9 (some .int) d) (hd : 2 ≤ d) (N : Nat) {k0 : Nat} (hk0 : lay k0 = 7) {w1 : Int32} {w2 : Int32} {w3 : Int32} {w4 : Int32} {w5 : Int32} {w6 : Int32} {kt : Int32 → Mem → Option (Int32 × Mem)} (hK : ∀ (u7 : Int32) (h : Mem), J (ZM rvI ω χ) l ω χ 145 9 [(0, .ref (ω.1 + k0)), (1, .int w1), (2, .int w2), (3, .int w3), (4, .int w4), (5, .int w5), (6, .int w6), (7, .int u7)] [] h (kt u7 h)) : ∀ (n : Nat) (u7 : Int32) (u8 : Int32) (h : Mem), J (ZM rvI ω χ) l ω χ 96 9 [(0, .ref (ω.1 + k0)), (1, .int w1), (2, .int w2), (3, .int w3), (4, .int w4), (5, .int w5), (6, .int w6), (7, .int u7), (8, .int u8)] [] h (F_X7_storm_96 N k0 w1 w2 w3 w4 w5 w6 kt n u7 u8 h) := by
  intro n
  induction n with
  | zero =>
    intro u7 u8 h
    exact J_none rfl
  | succ n ih =>
    intro u7 u8 h
    rw [F_X7_storm_96]
    refine J_iload (pc := 96) K dX7_storm_96 8 rfl ?_
    refine J_iconst (pc := 98) K (4) dX7_storm_98 (by decide) ?_
    refine J_icmp_ge (pc := 99) K 145 dX7_storm_99 (by decide) ?_ ?_
    · refine J_lv [0, 1, 2, 3, 4, 5, 6, 7] [(0, .ref (ω.1 + k0)), (1, .int w1), (2, .int w2), (3, .int w3), (4, .int w4), (5, .int w5), (6, .int w6), (7, .int u7)] rfl ?_
      exact hK u7 h
    · refine J_iload (pc := 102) K dX7_storm_102 7 rfl ?_
      refine J_if_eq (pc := 104) K 145 dX7_storm_104 (by decide) ?_ ?_
      · refine J_lv [0, 1, 2, 3, 4, 5, 6, 7] [(0, .ref (ω.1 + k0)), (1, .int w1), (2, .int w2), (3, .int w3), (4, .int w4), (5, .int w5), (6, .int w6), (7, .int u7)] rfl ?_
        exact hK u7 h
      · refine J_aload_n (pc := 107) K dX7_storm_107 0 rfl 0 rfl ?_
        refine J_iload (pc := 108) K dX7_storm_108 6 rfl ?_
        refine J_iconst (pc := 110) K (3) dX7_storm_110 (by decide) ?_
        refine J_iload (pc := 111) K dX7_storm_111 8 rfl ?_
        refine J_iadd (pc := 113) K dX7_storm_113 ?_
        refine J_callVI (As := [.int w6, .int ((3 : Int32) + u8)]) (rest := []) (pc := 114) K cs_SaltCloudsModel_218 (ok_X7_sumOf l ω N hk0 w6 ((3 : Int32) + u8) h) hk0 (by omega) rfl rfl (Nat.le_of_ble_eq_true rfl) dX7_storm_114 (fun r20 h21 => ?_)
        refine J_aload_n (pc := 117) K dX7_storm_117 0 rfl 0 rfl ?_
        refine J_getR (pc := 118) K gf_SaltCloudsModel_31 hk0 8 rfl dX7_storm_118 ?_
        refine J_bipush (pc := 121) K (40) dX7_storm_121 (by decide) ?_
        refine J_iload_n (pc := 123) K dX7_storm_123 1 rfl 1 rfl ?_
        refine J_imul (pc := 124) K dX7_storm_124 ?_
        refine J_iload (pc := 125) K dX7_storm_125 8 rfl ?_
        refine J_iadd (pc := 127) K dX7_storm_127 ?_
        refine J_topi (fun v22 => ?_)
        refine J_iald (pc := 128) K (a := k0 + 8) (n := 160) (ty_7_8 hk0) dX7_storm_128 ?_
        refine J_icmp_ne (pc := 129) K 136 dX7_storm_129 (by decide) ?_ ?_
        · refine J_iconst (pc := 132) K (1) dX7_storm_132 (by decide) ?_
          refine J_goto (pc := 133) K 137 dX7_storm_133 (by decide) ?_
          refine J_istore (pc := 137) K dX7_storm_137 (by decide) [(7, .int (1 : Int32)), (0, .ref (ω.1 + k0)), (1, .int w1), (2, .int w2), (3, .int w3), (4, .int w4), (5, .int w5), (6, .int w6), (8, .int u8)] rfl ?_
          refine J_iinc (pc := 139) K (1) dX7_storm_139 8 rfl (by decide) (by decide) [(8, .int (u8 + 1)), (7, .int (1 : Int32)), (0, .ref (ω.1 + k0)), (1, .int w1), (2, .int w2), (3, .int w3), (4, .int w4), (5, .int w5), (6, .int w6)] rfl ?_
          refine J_goto (pc := 142) K 96 dX7_storm_142 (by decide) ?_
          refine J_lv [2, 3, 4, 5, 6, 7, 8, 1, 0] [(0, .ref (ω.1 + k0)), (1, .int w1), (2, .int w2), (3, .int w3), (4, .int w4), (5, .int w5), (6, .int w6), (7, .int (1 : Int32)), (8, .int (u8 + 1))] rfl ?_
          exact ih (1 : Int32) (u8 + 1) h21
        · refine J_iconst (pc := 136) K (0) dX7_storm_136 (by decide) ?_
          refine J_istore (pc := 137) K dX7_storm_137 (by decide) [(7, .int (0 : Int32)), (0, .ref (ω.1 + k0)), (1, .int w1), (2, .int w2), (3, .int w3), (4, .int w4), (5, .int w5), (6, .int w6), (8, .int u8)] rfl ?_
          refine J_iinc (pc := 139) K (1) dX7_storm_139 8 rfl (by decide) (by decide) [(8, .int (u8 + 1)), (7, .int (0 : Int32)), (0, .ref (ω.1 + k0)), (1, .int w1), (2, .int w2), (3, .int w3), (4, .int w4), (5, .int w5), (6, .int w6)] rfl ?_
          refine J_goto (pc := 142) K 96 dX7_storm_142 (by decide) ?_
          refine J_lv [2, 3, 4, 5, 6, 7, 8, 1, 0] [(0, .ref (ω.1 + k0)), (1, .int w1), (2, .int w2), (3, .int w3), (4, .int w4), (5, .int w5), (6, .int w6), (7, .int (0 : Int32)), (8, .int (u8 + 1))] rfl ?_
          exact ih (0 : Int32) (u8 + 1) h21
def F_X7_storm_72 (N : Nat) (k0 : Nat) (w1 : Int32) (w2 : Int32) (w3 : Int32) (kt : Int32 → Int32 → Mem → Option (Int32 × Mem)) : Nat → Int32 → Int32 → Int32 → Mem → Option (Int32 × Mem)
  | 0, _, _, _, _ => none
  | n + 1, u4, u5, u6, h =>
    (if u6 ≤ 0 then
      (kt u4 u5 h)
    else
      (jn (fun (v15 v16 v17 s18 : Int32) (h19 : Mem) =>
        (F_X7_storm_96 N k0 w1 w2 w3 v15 v16 v17 (fun (v23 : Int32) (h24 : Mem) =>
          (jn (fun (v26 v27 s28 : Int32) (h29 : Mem) =>
            (if v23 = 0 then
              (seqi (v26 + (0 : Int32)) (fun v30 =>
              (F_X7_storm_72 N k0 w1 w2 w3 kt n s28 v30 (v27 + (-1)) h29)))
            else
              (seqi (v26 + (1 : Int32)) (fun v31 =>
              (F_X7_storm_72 N k0 w1 w2 w3 kt n s28 v31 (v27 + (-1)) h29))))) (fun j25 =>
            (if v23 = 0 then
              (j25 v16 v17 v15 h24)
            else
              (j25 v16 v17 v17 h24))))) N s18 (0 : Int32) h19)) (fun j14 =>
        (if (u6 &&& (w3 ^^^ (-1 : Int32))) = 0 then
          (j14 u4 u5 u6 (1 : Int32) h)
        else
          (j14 u4 u5 u6 (0 : Int32) h)))))
set_option maxRecDepth 10000 in
set_option maxHeartbeats 1000000 in
theorem okL_X7_storm_72 {l : Launch} {ω : WX} {χ : KT} {d : Nat} (K : Kok ω χ "SaltCloudsModel" cX7_storm 9 (some .int) d) (hd : 2 ≤ d) (N : Nat) {k0 : Nat} (hk0 : lay k0 = 7) {w1 : Int32} {w2 : Int32} {w3 : Int32} {kt : Int32 → Int32 → Mem → Option (Int32 × Mem)} (hK : ∀ (u4 : Int32) (u5 : Int32) (h : Mem), J (ZM rvI ω χ) l ω χ 180 9 [(0, .ref (ω.1 + k0)), (2, .int w2), (4, .int u4), (5, .int u5)] [] h (kt u4 u5 h)) : ∀ (n : Nat) (u4 : Int32) (u5 : Int32) (u6 : Int32) (h : Mem), J (ZM rvI ω χ) l ω χ 72 9 [(0, .ref (ω.1 + k0)), (1, .int w1), (2, .int w2), (3, .int w3), (4, .int u4), (5, .int u5), (6, .int u6)] [] h (F_X7_storm_72 N k0 w1 w2 w3 kt n u4 u5 u6 h) := by
  intro n
  induction n with
  | zero =>
    intro u4 u5 u6 h
    exact J_none rfl
  | succ n ih =>
    intro u4 u5 u6 h
    rw [F_X7_storm_72]
    refine J_iload (pc := 72) K dX7_storm_72 6 rfl ?_
    refine J_if_le (pc := 74) K 180 dX7_storm_74 (by decide) ?_ ?_
    · refine J_lv [0, 2, 4, 5] [(0, .ref (ω.1 + k0)), (2, .int w2), (4, .int u4), (5, .int u5)] rfl ?_
      exact hK u4 u5 h
    · refine J_iload (pc := 77) K dX7_storm_77 6 rfl ?_
      refine J_iload_n (pc := 79) K dX7_storm_79 3 rfl 3 rfl ?_
      refine J_iconst (pc := 80) K (-1) dX7_storm_80 (by decide) ?_
      refine J_ixor (pc := 81) K dX7_storm_81 ?_
      refine J_iand (pc := 82) K dX7_storm_82 ?_
      refine J_jn (fun j14 => ∀ (v15 v16 v17 s18 : Int32) (h19 : Mem), J (ZM rvI ω χ) l ω χ 91 9 [(0, .ref (ω.1 + k0)), (1, .int w1), (2, .int w2), (3, .int w3), (4, .int v15), (5, .int v16), (6, .int v17)] [.int s18] h19 (j14 v15 v16 v17 s18 h19)) ?_ ?_
      · intro v15 v16 v17 s18 h19
        refine J_istore (pc := 91) K dX7_storm_91 (by decide) [(7, .int s18), (0, .ref (ω.1 + k0)), (1, .int w1), (2, .int w2), (3, .int w3), (4, .int v15), (5, .int v16), (6, .int v17)] rfl ?_
        refine J_iconst (pc := 93) K (0) dX7_storm_93 (by decide) ?_
        refine J_istore (pc := 94) K dX7_storm_94 (by decide) [(8, .int (0 : Int32)), (7, .int s18), (0, .ref (ω.1 + k0)), (1, .int w1), (2, .int w2), (3, .int w3), (4, .int v15), (5, .int v16), (6, .int v17)] rfl ?_
        refine J_lv [2, 3, 4, 5, 6, 7, 8, 1, 0] [(0, .ref (ω.1 + k0)), (1, .int w1), (2, .int w2), (3, .int w3), (4, .int v15), (5, .int v16), (6, .int v17), (7, .int s18), (8, .int (0 : Int32))] rfl ?_
        refine okL_X7_storm_96 K  (by omega) N hk0 (fun v23 h24 => ?_) _ _ _ _
        refine J_iload (pc := 145) K dX7_storm_145 7 rfl ?_
        refine J_jn (fun j25 => ∀ (v26 v27 s28 : Int32) (h29 : Mem), J (ZM rvI ω χ) l ω χ 157 9 [(0, .ref (ω.1 + k0)), (1, .int w1), (2, .int w2), (3, .int w3), (5, .int v26), (6, .int v27), (7, .int v23)] [.int s28] h29 (j25 v26 v27 s28 h29)) ?_ ?_
        · intro v26 v27 s28 h29
          refine J_istore (pc := 157) K dX7_storm_157 (by decide) [(4, .int s28), (0, .ref (ω.1 + k0)), (1, .int w1), (2, .int w2), (3, .int w3), (5, .int v26), (6, .int v27), (7, .int v23)] rfl ?_
          refine J_iload (pc := 159) K dX7_storm_159 5 rfl ?_
          refine J_iload (pc := 161) K dX7_storm_161 7 rfl ?_
          refine J_if_eq (pc := 163) K 170 dX7_storm_163 (by decide) ?_ ?_
          · refine J_iconst (pc := 170) K (0) dX7_storm_170 (by decide) ?_
            refine J_iadd (pc := 171) K dX7_storm_171 ?_
            refine J_topi (fun v30 => ?_)
            refine J_istore (pc := 172) K dX7_storm_172 (by decide) [(5, .int v30), (4, .int s28), (0, .ref (ω.1 + k0)), (1, .int w1), (2, .int w2), (3, .int w3), (6, .int v27), (7, .int v23)] rfl ?_
            refine J_iinc (pc := 174) K (-1) dX7_storm_174 6 rfl (by decide) (by decide) [(6, .int (v27 + (-1))), (5, .int v30), (4, .int s28), (0, .ref (ω.1 + k0)), (1, .int w1), (2, .int w2), (3, .int w3), (7, .int v23)] rfl ?_
            refine J_goto (pc := 177) K 72 dX7_storm_177 (by decide) ?_
            refine J_lv [3, 4, 5, 6, 2, 1, 0] [(0, .ref (ω.1 + k0)), (1, .int w1), (2, .int w2), (3, .int w3), (4, .int s28), (5, .int v30), (6, .int (v27 + (-1)))] rfl ?_
            exact ih s28 v30 (v27 + (-1)) h29
          · refine J_iconst (pc := 166) K (1) dX7_storm_166 (by decide) ?_
            refine J_goto (pc := 167) K 171 dX7_storm_167 (by decide) ?_
            refine J_iadd (pc := 171) K dX7_storm_171 ?_
            refine J_topi (fun v31 => ?_)
            refine J_istore (pc := 172) K dX7_storm_172 (by decide) [(5, .int v31), (4, .int s28), (0, .ref (ω.1 + k0)), (1, .int w1), (2, .int w2), (3, .int w3), (6, .int v27), (7, .int v23)] rfl ?_
            refine J_iinc (pc := 174) K (-1) dX7_storm_174 6 rfl (by decide) (by decide) [(6, .int (v27 + (-1))), (5, .int v31), (4, .int s28), (0, .ref (ω.1 + k0)), (1, .int w1), (2, .int w2), (3, .int w3), (7, .int v23)] rfl ?_
            refine J_goto (pc := 177) K 72 dX7_storm_177 (by decide) ?_
            refine J_lv [3, 4, 5, 6, 2, 1, 0] [(0, .ref (ω.1 + k0)), (1, .int w1), (2, .int w2), (3, .int w3), (4, .int s28), (5, .int v31), (6, .int (v27 + (-1)))] rfl ?_
            exact ih s28 v31 (v27 + (-1)) h29
        · intro j25 hj25
          refine J_if_eq (pc := 147) K 155 dX7_storm_147 (by decide) ?_ ?_
          · refine J_iload (pc := 155) K dX7_storm_155 4 rfl ?_
            refine J_lv [0, 1, 2, 3, 5, 6, 7] [(0, .ref (ω.1 + k0)), (1, .int w1), (2, .int w2), (3, .int w3), (5, .int v16), (6, .int v17), (7, .int v23)] rfl ?_
            exact hj25 v16 v17 v15 h24
          · refine J_iload (pc := 150) K dX7_storm_150 6 rfl ?_
            refine J_goto (pc := 152) K 157 dX7_storm_152 (by decide) ?_
            refine J_lv [0, 1, 2, 3, 5, 6, 7] [(0, .ref (ω.1 + k0)), (1, .int w1), (2, .int w2), (3, .int w3), (5, .int v16), (6, .int v17), (7, .int v23)] rfl ?_
            exact hj25 v16 v17 v17 h24
      · intro j14 hj14
        refine J_if_ne (pc := 83) K 90 dX7_storm_83 (by decide) ?_ ?_
        · refine J_iconst (pc := 86) K (1) dX7_storm_86 (by decide) ?_
          refine J_goto (pc := 87) K 91 dX7_storm_87 (by decide) ?_
          exact hj14 u4 u5 u6 (1 : Int32) h
        · refine J_iconst (pc := 90) K (0) dX7_storm_90 (by decide) ?_
          exact hj14 u4 u5 u6 (0 : Int32) h
def F_X7_storm (N : Nat) (k0 : Nat) (x1 : Int32) (x2 : Int32) (h : Mem) : Option (Int32 × Mem) :=
  (bnd (F_X7_isSheet x1 h) (fun r1 h2 =>
  (if r1 = 0 then
    (bnd (F_X7_errs k0 (-1000000001 : Int32) h2) (fun r3 h4 =>
    (some (r3, h4))))
  else
    (bnd (F_X7_in x2 (0 : Int32) (1 : Int32) h2) (fun r5 h6 =>
    (if r5 = 0 then
      (bnd (F_X7_errs k0 (-1000000001 : Int32) h6) (fun r7 h8 =>
      (some (r7, h8))))
    else
      (gin x1 4
      (if (h6 (k0 + 6) (ix x1)) = 0 then
        (bnd (F_X7_errs k0 (-1000000002 : Int32) h6) (fun r9 h10 =>
        (some (r9, h10))))
      else
        (gin x1 4
        (if (h6 (k0 + 7) (ix x1)) = (4 : Int32) then
          (bnd (F_X7_thereOnes N k0 h6) (fun r11 h12 =>
          (gin (0 : Int32) 262
          (seqi (((1 : Int32) <<< ((h12 (k0 + 1) (ix (0 : Int32))) &&& 31)) - (1 : Int32)) (fun v13 =>
          (F_X7_storm_72 N k0 x1 x2 r11 (fun (v32 v33 : Int32) (h34 : Mem) =>
            (if v33 = 0 then
              (bnd (F_X7_errs k0 (-1000000002 : Int32) h34) (fun r35 h36 =>
              (some (r35, h36))))
            else
              (if x2 = 0 then
                (some (v32, h34))
              else
                (some (v33, h34))))) N (0 : Int32) (0 : Int32) v13 h12))))))
        else
          (bnd (F_X7_errs k0 (-1000000002 : Int32) h6) (fun r37 h38 =>
          (some (r37, h38))))))))))))))
set_option maxRecDepth 10000 in
set_option maxHeartbeats 1000000 in
theorem ok_X7_storm (l : Launch) (ω : WX) (N : Nat) {k0 : Nat} (hk0 : lay k0 = 7) (x1 : Int32) (x2 : Int32) (h : Mem) : MC rvI l ω yX7_storm cX7_storm 9 (some .int) 2 [.ref (ω.1 + k0), .int x1, .int x2] h (F_X7_storm N k0 x1 x2 h) := by
  refine MC.of (by decide +kernel) [(0, .ref (ω.1 + k0)), (1, .int x1), (2, .int x2)] rfl (Nat.le_of_ble_eq_true rfl) (fun χ K => ?_)
  have K : Kok ω χ "SaltCloudsModel" cX7_storm 9 (some .int) 2 := K
  unfold F_X7_storm
  refine J_iload_n (pc := 0) K dX7_storm_0 1 rfl 1 rfl ?_
  refine J_callTI (As := [.int x1]) (rest := []) (pc := 1) K cs_SaltCloudsModel_221 (ok_X7_isSheet l ω x1 h) (by decide) rfl rfl (Nat.le_of_ble_eq_true rfl) dX7_storm_1 (fun r1 h2 => ?_)
  refine J_if_eq (pc := 4) K 16 dX7_storm_4 (by decide) ?_ ?_
  · refine J_aload_n (pc := 16) K dX7_storm_16 0 rfl 0 rfl ?_
    refine J_ldc (pc := 17) K kc_SaltCloudsModel_53 dX7_storm_17 ?_
    refine J_callVI (As := [.int (-1000000001 : Int32)]) (rest := []) (pc := 19) K cs_SaltCloudsModel_54 (ok_X7_errs l ω hk0 (-1000000001 : Int32) h2) hk0 (by decide) rfl rfl (Nat.le_of_ble_eq_true rfl) dX7_storm_19 (fun r3 h4 => ?_)
    exact J_iret (pc := 22) K dX7_storm_22
  · refine J_iload_n (pc := 7) K dX7_storm_7 2 rfl 2 rfl ?_
    refine J_iconst (pc := 8) K (0) dX7_storm_8 (by decide) ?_
    refine J_iconst (pc := 9) K (1) dX7_storm_9 (by decide) ?_
    refine J_callTI (As := [.int x2, .int (0 : Int32), .int (1 : Int32)]) (rest := []) (pc := 10) K cs_SaltCloudsModel_41 (ok_X7_in l ω x2 (0 : Int32) (1 : Int32) h2) (by decide) rfl rfl (Nat.le_of_ble_eq_true rfl) dX7_storm_10 (fun r5 h6 => ?_)
    refine J_if_ne (pc := 13) K 23 dX7_storm_13 (by decide) ?_ ?_
    · refine J_aload_n (pc := 16) K dX7_storm_16 0 rfl 0 rfl ?_
      refine J_ldc (pc := 17) K kc_SaltCloudsModel_53 dX7_storm_17 ?_
      refine J_callVI (As := [.int (-1000000001 : Int32)]) (rest := []) (pc := 19) K cs_SaltCloudsModel_54 (ok_X7_errs l ω hk0 (-1000000001 : Int32) h6) hk0 (by decide) rfl rfl (Nat.le_of_ble_eq_true rfl) dX7_storm_19 (fun r7 h8 => ?_)
      exact J_iret (pc := 22) K dX7_storm_22
    · refine J_aload_n (pc := 23) K dX7_storm_23 0 rfl 0 rfl ?_
      refine J_getR (pc := 24) K gf_SaltCloudsModel_25 hk0 6 rfl dX7_storm_24 ?_
      refine J_iload_n (pc := 27) K dX7_storm_27 1 rfl 1 rfl ?_
      refine J_iald (pc := 28) K (a := k0 + 6) (n := 4) (ty_7_6 hk0) dX7_storm_28 ?_
      refine J_if_eq (pc := 29) K 42 dX7_storm_29 (by decide) ?_ ?_
      · refine J_aload_n (pc := 42) K dX7_storm_42 0 rfl 0 rfl ?_
        refine J_ldc (pc := 43) K kc_SaltCloudsModel_211 dX7_storm_43 ?_
        refine J_callVI (As := [.int (-1000000002 : Int32)]) (rest := []) (pc := 45) K cs_SaltCloudsModel_54 (ok_X7_errs l ω hk0 (-1000000002 : Int32) h6) hk0 (by decide) rfl rfl (Nat.le_of_ble_eq_true rfl) dX7_storm_45 (fun r9 h10 => ?_)
        exact J_iret (pc := 48) K dX7_storm_48
      · refine J_aload_n (pc := 32) K dX7_storm_32 0 rfl 0 rfl ?_
        refine J_getR (pc := 33) K gf_SaltCloudsModel_28 hk0 7 rfl dX7_storm_33 ?_
        refine J_iload_n (pc := 36) K dX7_storm_36 1 rfl 1 rfl ?_
        refine J_iald (pc := 37) K (a := k0 + 7) (n := 4) (ty_7_7 hk0) dX7_storm_37 ?_
        refine J_iconst (pc := 38) K (4) dX7_storm_38 (by decide) ?_
        refine J_icmp_eq (pc := 39) K 49 dX7_storm_39 (by decide) ?_ ?_
        · refine J_aload_n (pc := 49) K dX7_storm_49 0 rfl 0 rfl ?_
          refine J_callVI (As := []) (rest := []) (pc := 50) K cs_SaltCloudsModel_212 (ok_X7_thereOnes l ω N hk0 h6) hk0 (by decide) rfl rfl (Nat.le_of_ble_eq_true rfl) dX7_storm_50 (fun r11 h12 => ?_)
          refine J_istore_n (pc := 53) K dX7_storm_53 3 rfl (by decide) [(3, .int r11), (0, .ref (ω.1 + k0)), (1, .int x1), (2, .int x2)] rfl ?_
          refine J_iconst (pc := 54) K (0) dX7_storm_54 (by decide) ?_
          refine J_istore (pc := 55) K dX7_storm_55 (by decide) [(4, .int (0 : Int32)), (3, .int r11), (0, .ref (ω.1 + k0)), (1, .int x1), (2, .int x2)] rfl ?_
          refine J_iconst (pc := 57) K (0) dX7_storm_57 (by decide) ?_
          refine J_istore (pc := 58) K dX7_storm_58 (by decide) [(5, .int (0 : Int32)), (4, .int (0 : Int32)), (3, .int r11), (0, .ref (ω.1 + k0)), (1, .int x1), (2, .int x2)] rfl ?_
          refine J_iconst (pc := 60) K (1) dX7_storm_60 (by decide) ?_
          refine J_aload_n (pc := 61) K dX7_storm_61 0 rfl 3 rfl ?_
          refine J_getR (pc := 62) K gf_SaltCloudsModel_7 hk0 1 rfl dX7_storm_62 ?_
          refine J_iconst (pc := 65) K (0) dX7_storm_65 (by decide) ?_
          refine J_iald (pc := 66) K (a := k0 + 1) (n := 262) (ty_7_1 hk0) dX7_storm_66 ?_
          refine J_ishl (pc := 67) K dX7_storm_67 ?_
          refine J_iconst (pc := 68) K (1) dX7_storm_68 (by decide) ?_
          refine J_isub (pc := 69) K dX7_storm_69 ?_
          refine J_topi (fun v13 => ?_)
          refine J_istore (pc := 70) K dX7_storm_70 (by decide) [(6, .int v13), (5, .int (0 : Int32)), (4, .int (0 : Int32)), (3, .int r11), (0, .ref (ω.1 + k0)), (1, .int x1), (2, .int x2)] rfl ?_
          refine J_lv [4, 5, 6, 3, 2, 1, 0] [(0, .ref (ω.1 + k0)), (1, .int x1), (2, .int x2), (3, .int r11), (4, .int (0 : Int32)), (5, .int (0 : Int32)), (6, .int v13)] rfl ?_
          refine okL_X7_storm_72 K  (by decide) N hk0 (fun v32 v33 h34 => ?_) _ _ _ _ _
          refine J_iload (pc := 180) K dX7_storm_180 3 rfl ?_
          refine J_if_ne (pc := 182) K 192 dX7_storm_182 (by decide) ?_ ?_
          · refine J_aload_n (pc := 185) K dX7_storm_185 0 rfl 0 rfl ?_
            refine J_ldc (pc := 186) K kc_SaltCloudsModel_211 dX7_storm_186 ?_
            refine J_callVI (As := [.int (-1000000002 : Int32)]) (rest := []) (pc := 188) K cs_SaltCloudsModel_54 (ok_X7_errs l ω hk0 (-1000000002 : Int32) h34) hk0 (by decide) rfl rfl (Nat.le_of_ble_eq_true rfl) dX7_storm_188 (fun r35 h36 => ?_)
            exact J_iret (pc := 191) K dX7_storm_191
          · refine J_iload_n (pc := 192) K dX7_storm_192 2 rfl 1 rfl ?_
            refine J_if_ne (pc := 193) K 201 dX7_storm_193 (by decide) ?_ ?_
            · refine J_iload (pc := 196) K dX7_storm_196 2 rfl ?_
              refine J_goto (pc := 198) K 203 dX7_storm_198 (by decide) ?_
              exact J_iret (pc := 203) K dX7_storm_203
            · refine J_iload (pc := 201) K dX7_storm_201 3 rfl ?_
              exact J_iret (pc := 203) K dX7_storm_203
        · refine J_aload_n (pc := 42) K dX7_storm_42 0 rfl 0 rfl ?_
          refine J_ldc (pc := 43) K kc_SaltCloudsModel_211 dX7_storm_43 ?_
          refine J_callVI (As := [.int (-1000000002 : Int32)]) (rest := []) (pc := 45) K cs_SaltCloudsModel_54 (ok_X7_errs l ω hk0 (-1000000002 : Int32) h6) hk0 (by decide) rfl rfl (Nat.le_of_ble_eq_true rfl) dX7_storm_45 (fun r37 h38 => ?_)
          exact J_iret (pc := 48) K dX7_storm_48
def F_X7_paid (N : Nat) (k0 : Nat) (h : Mem) : Option (Int32 × Mem) :=
  (bnd (F_X7_moveAll N k0 (k0 + 1) 262 (k0 + 3) 262 h) (fun _ h2 =>
  (bnd (F_X7_allPay N k0 h2) (fun r3 h4 =>
  (bnd (F_X7_moveAll N k0 (k0 + 3) 262 (k0 + 1) 262 h4) (fun _ h6 =>
  (some (r3, h6))))))))
set_option maxRecDepth 10000 in
set_option maxHeartbeats 1000000 in
theorem ok_X7_paid (l : Launch) (ω : WX) (N : Nat) {k0 : Nat} (hk0 : lay k0 = 7) (h : Mem) : MC rvI l ω yX7_paid cX7_paid 2 (some .int) 56 [.ref (ω.1 + k0)] h (F_X7_paid N k0 h) := by
  refine MC.of (by decide +kernel) [(0, .ref (ω.1 + k0))] rfl (Nat.le_of_ble_eq_true rfl) (fun χ K => ?_)
  have K : Kok ω χ "SaltCloudsModel" cX7_paid 2 (some .int) 56 := K
  unfold F_X7_paid
  refine J_aload_n (pc := 0) K dX7_paid_0 0 rfl 0 rfl ?_
  refine J_aload_n (pc := 1) K dX7_paid_1 0 rfl 0 rfl ?_
  refine J_getR (pc := 2) K gf_SaltCloudsModel_7 hk0 1 rfl dX7_paid_2 ?_
  refine J_aload_n (pc := 5) K dX7_paid_5 0 rfl 0 rfl ?_
  refine J_getR (pc := 6) K gf_SaltCloudsModel_16 hk0 3 rfl dX7_paid_6 ?_
  refine J_callVU (As := [.ref (ω.1 + (k0 + 1)), .ref (ω.1 + (k0 + 3))]) (rest := []) (pc := 9) K cs_SaltCloudsModel_168 (ok_X7_moveAll l ω N hk0 (n1 := 262) (ty_7_1 hk0) (n2 := 262) (ty_7_3 hk0) h) hk0 (by decide) rfl rfl (Nat.le_of_ble_eq_true rfl) dX7_paid_9 (fun _ h2 => ?_)
  refine J_aload_n (pc := 12) K dX7_paid_12 0 rfl 0 rfl ?_
  refine J_callVI (As := []) (rest := []) (pc := 13) K cs_SaltCloudsModel_205 (ok_X7_allPay l ω N hk0 h2) hk0 (by decide) rfl rfl (Nat.le_of_ble_eq_true rfl) dX7_paid_13 (fun r3 h4 => ?_)
  refine J_istore_n (pc := 16) K dX7_paid_16 1 rfl (by decide) [(1, .int r3), (0, .ref (ω.1 + k0))] rfl ?_
  refine J_aload_n (pc := 17) K dX7_paid_17 0 rfl 1 rfl ?_
  refine J_aload_n (pc := 18) K dX7_paid_18 0 rfl 1 rfl ?_
  refine J_getR (pc := 19) K gf_SaltCloudsModel_16 hk0 3 rfl dX7_paid_19 ?_
  refine J_aload_n (pc := 22) K dX7_paid_22 0 rfl 1 rfl ?_
  refine J_getR (pc := 23) K gf_SaltCloudsModel_7 hk0 1 rfl dX7_paid_23 ?_
  refine J_callVU (As := [.ref (ω.1 + (k0 + 3)), .ref (ω.1 + (k0 + 1))]) (rest := []) (pc := 26) K cs_SaltCloudsModel_168 (ok_X7_moveAll l ω N hk0 (n1 := 262) (ty_7_3 hk0) (n2 := 262) (ty_7_1 hk0) h4) hk0 (by decide) rfl rfl (Nat.le_of_ble_eq_true rfl) dX7_paid_26 (fun _ h6 => ?_)
  refine J_iload_n (pc := 29) K dX7_paid_29 1 rfl 0 rfl ?_
  exact J_iret (pc := 30) K dX7_paid_30
def F_X7_sun_52 (N : Nat) (k0 : Nat) (w1 : Int32) (w2 : Int32) (w3 : Int32) (w4 : Int32) (w5 : Int32) (w6 : Int32) (kt : Int32 → Mem → Option (Int32 × Mem)) : Nat → Int32 → Mem → Option (Int32 × Mem)
  | 0, _, _ => none
  | n + 1, u7, h =>
    (bnd (F_X7_its k0 w1 ((4 : Int32) + w6) h) (fun r13 h14 =>
    (if (r13 - ((w6 + (1 : Int32)) * u7)) < w2 then
      (kt u7 h14)
    else
      (F_X7_sun_52 N k0 w1 w2 w3 w4 w5 w6 kt n (u7 + 1) h14))))
set_option maxRecDepth 10000 in
set_option maxHeartbeats 1000000 in
theorem okL_X7_sun_52 {l : Launch} {ω : WX} {χ : KT} {d : Nat} (K : Kok ω χ "SaltCloudsModel" cX7_sun 8 (some .int) d) (hd : 1 ≤ d) (N : Nat) {k0 : Nat} (hk0 : lay k0 = 7) {w1 : Int32} {w2 : Int32} {w3 : Int32} {w4 : Int32} {w5 : Int32} {w6 : Int32} {kt : Int32 → Mem → Option (Int32 × Mem)} (hK : ∀ (u7 : Int32) (h : Mem), J (ZM rvI ω χ) l ω χ 79 8 [(0, .ref (ω.1 + k0)), (1, .int w1), (2, .int w2), (3, .int w3), (4, .int w4), (5, .int w5), (6, .int w6), (7, .int u7)] [] h (kt u7 h)) : ∀ (n : Nat) (u7 : Int32) (h : Mem), J (ZM rvI ω χ) l ω χ 52 8 [(0, .ref (ω.1 + k0)), (1, .int w1), (2, .int w2), (3, .int w3), (4, .int w4), (5, .int w5), (6, .int w6), (7, .int u7)] [] h (F_X7_sun_52 N k0 w1 w2 w3 w4 w5 w6 kt n u7 h) := by
  intro n
  induction n with
  | zero =>
    intro u7 h
    exact J_none rfl
  | succ n ih =>
    intro u7 h
    rw [F_X7_sun_52]
    refine J_aload_n (pc := 52) K dX7_sun_52 0 rfl 0 rfl ?_
    refine J_iload_n (pc := 53) K dX7_sun_53 1 rfl 1 rfl ?_
    refine J_iconst (pc := 54) K (4) dX7_sun_54 (by decide) ?_
    refine J_iload (pc := 55) K dX7_sun_55 6 rfl ?_
    refine J_iadd (pc := 57) K dX7_sun_57 ?_
    refine J_callVI (As := [.int w1, .int ((4 : Int32) + w6)]) (rest := []) (pc := 58) K cs_SaltCloudsModel_45 (ok_X7_its l ω hk0 w1 ((4 : Int32) + w6) h) hk0 (by omega) rfl rfl (Nat.le_of_ble_eq_true rfl) dX7_sun_58 (fun r13 h14 => ?_)
    refine J_iload (pc := 61) K dX7_sun_61 6 rfl ?_
    refine J_iconst (pc := 63) K (1) dX7_sun_63 (by decide) ?_
    refine J_iadd (pc := 64) K dX7_sun_64 ?_
    refine J_iload (pc := 65) K dX7_sun_65 7 rfl ?_
    refine J_imul (pc := 67) K dX7_sun_67 ?_
    refine J_isub (pc := 68) K dX7_sun_68 ?_
    refine J_iload_n (pc := 69) K dX7_sun_69 2 rfl 2 rfl ?_
    refine J_icmp_lt (pc := 70) K 79 dX7_sun_70 (by decide) ?_ ?_
    · exact hK u7 h14
    · refine J_iinc (pc := 73) K (1) dX7_sun_73 7 rfl (by decide) (by decide) [(7, .int (u7 + 1)), (0, .ref (ω.1 + k0)), (1, .int w1), (2, .int w2), (3, .int w3), (4, .int w4), (5, .int w5), (6, .int w6)] rfl ?_
      refine J_goto (pc := 76) K 52 dX7_sun_76 (by decide) ?_
      refine J_lv [1, 2, 3, 4, 5, 6, 7, 0] [(0, .ref (ω.1 + k0)), (1, .int w1), (2, .int w2), (3, .int w3), (4, .int w4), (5, .int w5), (6, .int w6), (7, .int (u7 + 1))] rfl ?_
      exact ih (u7 + 1) h14
def F_X7_sun_43 (N : Nat) (k0 : Nat) (w1 : Int32) (w2 : Int32) (w3 : Int32) (kt : Int32 → Int32 → Mem → Option (Int32 × Mem)) : Nat → Int32 → Int32 → Int32 → Mem → Option (Int32 × Mem)
  | 0, _, _, _, _ => none
  | n + 1, u4, u5, u6, h =>
    (if (3 : Int32) ≤ u6 then
      (kt u4 u5 h)
    else
      (F_X7_sun_52 N k0 w1 w2 w3 u4 u5 u6 (fun (v15 : Int32) (h16 : Mem) =>
        (jn (fun (v18 v19 s20 : Int32) (h21 : Mem) =>
          (if v18 < 0 then
            (F_X7_sun_43 N k0 w1 w2 w3 kt n s20 v15 (v19 + 1) h21)
          else
            (if v18 ≤ v15 then
              (F_X7_sun_43 N k0 w1 w2 w3 kt n s20 v18 (v19 + 1) h21)
            else
              (F_X7_sun_43 N k0 w1 w2 w3 kt n s20 v15 (v19 + 1) h21)))) (fun j17 =>
          (if u5 < 0 then
            (j17 u5 u6 u6 h16)
          else
            (if u5 ≤ v15 then
              (j17 u5 u6 u4 h16)
            else
              (j17 u5 u6 u6 h16)))))) N (0 : Int32) h))
set_option maxRecDepth 10000 in
set_option maxHeartbeats 1000000 in
theorem okL_X7_sun_43 {l : Launch} {ω : WX} {χ : KT} {d : Nat} (K : Kok ω χ "SaltCloudsModel" cX7_sun 8 (some .int) d) (hd : 1 ≤ d) (N : Nat) {k0 : Nat} (hk0 : lay k0 = 7) {w1 : Int32} {w2 : Int32} {w3 : Int32} {kt : Int32 → Int32 → Mem → Option (Int32 × Mem)} (hK : ∀ (u4 : Int32) (u5 : Int32) (h : Mem), J (ZM rvI ω χ) l ω χ 127 8 [(3, .int w3), (4, .int u4), (5, .int u5)] [] h (kt u4 u5 h)) : ∀ (n : Nat) (u4 : Int32) (u5 : Int32) (u6 : Int32) (h : Mem), J (ZM rvI ω χ) l ω χ 43 8 [(0, .ref (ω.1 + k0)), (1, .int w1), (2, .int w2), (3, .int w3), (4, .int u4), (5, .int u5), (6, .int u6)] [] h (F_X7_sun_43 N k0 w1 w2 w3 kt n u4 u5 u6 h) := by
  intro n
  induction n with
  | zero =>
    intro u4 u5 u6 h
    exact J_none rfl
  | succ n ih =>
    intro u4 u5 u6 h
    rw [F_X7_sun_43]
    refine J_iload (pc := 43) K dX7_sun_43 6 rfl ?_
    refine J_iconst (pc := 45) K (3) dX7_sun_45 (by decide) ?_
    refine J_icmp_ge (pc := 46) K 127 dX7_sun_46 (by decide) ?_ ?_
    · refine J_lv [3, 4, 5] [(3, .int w3), (4, .int u4), (5, .int u5)] rfl ?_
      exact hK u4 u5 h
    · refine J_iconst (pc := 49) K (0) dX7_sun_49 (by decide) ?_
      refine J_istore (pc := 50) K dX7_sun_50 (by decide) [(7, .int (0 : Int32)), (0, .ref (ω.1 + k0)), (1, .int w1), (2, .int w2), (3, .int w3), (4, .int u4), (5, .int u5), (6, .int u6)] rfl ?_
      refine J_lv [1, 2, 3, 4, 5, 6, 7, 0] [(0, .ref (ω.1 + k0)), (1, .int w1), (2, .int w2), (3, .int w3), (4, .int u4), (5, .int u5), (6, .int u6), (7, .int (0 : Int32))] rfl ?_
      refine okL_X7_sun_52 K  (by omega) N hk0 (fun v15 h16 => ?_) _ _ _
      refine J_iload (pc := 79) K dX7_sun_79 5 rfl ?_
      refine J_jn (fun j17 => ∀ (v18 v19 s20 : Int32) (h21 : Mem), J (ZM rvI ω χ) l ω χ 98 8 [(0, .ref (ω.1 + k0)), (1, .int w1), (2, .int w2), (3, .int w3), (5, .int v18), (6, .int v19), (7, .int v15)] [.int s20] h21 (j17 v18 v19 s20 h21)) ?_ ?_
      · intro v18 v19 s20 h21
        refine J_istore (pc := 98) K dX7_sun_98 (by decide) [(4, .int s20), (0, .ref (ω.1 + k0)), (1, .int w1), (2, .int w2), (3, .int w3), (5, .int v18), (6, .int v19), (7, .int v15)] rfl ?_
        refine J_iload (pc := 100) K dX7_sun_100 5 rfl ?_
        refine J_if_lt (pc := 102) K 112 dX7_sun_102 (by decide) ?_ ?_
        · refine J_iload (pc := 112) K dX7_sun_112 7 rfl ?_
          refine J_goto (pc := 114) K 119 dX7_sun_114 (by decide) ?_
          refine J_istore (pc := 119) K dX7_sun_119 (by decide) [(5, .int v15), (4, .int s20), (0, .ref (ω.1 + k0)), (1, .int w1), (2, .int w2), (3, .int w3), (6, .int v19), (7, .int v15)] rfl ?_
          refine J_iinc (pc := 121) K (1) dX7_sun_121 6 rfl (by decide) (by decide) [(6, .int (v19 + 1)), (5, .int v15), (4, .int s20), (0, .ref (ω.1 + k0)), (1, .int w1), (2, .int w2), (3, .int w3), (7, .int v15)] rfl ?_
          refine J_goto (pc := 124) K 43 dX7_sun_124 (by decide) ?_
          refine J_lv [3, 4, 5, 6, 2, 1, 0] [(0, .ref (ω.1 + k0)), (1, .int w1), (2, .int w2), (3, .int w3), (4, .int s20), (5, .int v15), (6, .int (v19 + 1))] rfl ?_
          exact ih s20 v15 (v19 + 1) h21
        · refine J_iload (pc := 105) K dX7_sun_105 7 rfl ?_
          refine J_iload (pc := 107) K dX7_sun_107 5 rfl ?_
          refine J_icmp_ge (pc := 109) K 117 dX7_sun_109 (by decide) ?_ ?_
          · refine J_iload (pc := 117) K dX7_sun_117 5 rfl ?_
            refine J_istore (pc := 119) K dX7_sun_119 (by decide) [(5, .int v18), (4, .int s20), (0, .ref (ω.1 + k0)), (1, .int w1), (2, .int w2), (3, .int w3), (6, .int v19), (7, .int v15)] rfl ?_
            refine J_iinc (pc := 121) K (1) dX7_sun_121 6 rfl (by decide) (by decide) [(6, .int (v19 + 1)), (5, .int v18), (4, .int s20), (0, .ref (ω.1 + k0)), (1, .int w1), (2, .int w2), (3, .int w3), (7, .int v15)] rfl ?_
            refine J_goto (pc := 124) K 43 dX7_sun_124 (by decide) ?_
            refine J_lv [3, 4, 5, 6, 2, 1, 0] [(0, .ref (ω.1 + k0)), (1, .int w1), (2, .int w2), (3, .int w3), (4, .int s20), (5, .int v18), (6, .int (v19 + 1))] rfl ?_
            exact ih s20 v18 (v19 + 1) h21
          · refine J_iload (pc := 112) K dX7_sun_112 7 rfl ?_
            refine J_goto (pc := 114) K 119 dX7_sun_114 (by decide) ?_
            refine J_istore (pc := 119) K dX7_sun_119 (by decide) [(5, .int v15), (4, .int s20), (0, .ref (ω.1 + k0)), (1, .int w1), (2, .int w2), (3, .int w3), (6, .int v19), (7, .int v15)] rfl ?_
            refine J_iinc (pc := 121) K (1) dX7_sun_121 6 rfl (by decide) (by decide) [(6, .int (v19 + 1)), (5, .int v15), (4, .int s20), (0, .ref (ω.1 + k0)), (1, .int w1), (2, .int w2), (3, .int w3), (7, .int v15)] rfl ?_
            refine J_goto (pc := 124) K 43 dX7_sun_124 (by decide) ?_
            refine J_lv [3, 4, 5, 6, 2, 1, 0] [(0, .ref (ω.1 + k0)), (1, .int w1), (2, .int w2), (3, .int w3), (4, .int s20), (5, .int v15), (6, .int (v19 + 1))] rfl ?_
            exact ih s20 v15 (v19 + 1) h21
      · intro j17 hj17
        refine J_if_lt (pc := 81) K 91 dX7_sun_81 (by decide) ?_ ?_
        · refine J_iload (pc := 91) K dX7_sun_91 6 rfl ?_
          refine J_goto (pc := 93) K 98 dX7_sun_93 (by decide) ?_
          refine J_lv [0, 1, 2, 3, 5, 6, 7] [(0, .ref (ω.1 + k0)), (1, .int w1), (2, .int w2), (3, .int w3), (5, .int u5), (6, .int u6), (7, .int v15)] rfl ?_
          exact hj17 u5 u6 u6 h16
        · refine J_iload (pc := 84) K dX7_sun_84 7 rfl ?_
          refine J_iload (pc := 86) K dX7_sun_86 5 rfl ?_
          refine J_icmp_ge (pc := 88) K 96 dX7_sun_88 (by decide) ?_ ?_
          · refine J_iload (pc := 96) K dX7_sun_96 4 rfl ?_
            refine J_lv [0, 1, 2, 3, 5, 6, 7] [(0, .ref (ω.1 + k0)), (1, .int w1), (2, .int w2), (3, .int w3), (5, .int u5), (6, .int u6), (7, .int v15)] rfl ?_
            exact hj17 u5 u6 u4 h16
          · refine J_iload (pc := 91) K dX7_sun_91 6 rfl ?_
            refine J_goto (pc := 93) K 98 dX7_sun_93 (by decide) ?_
            refine J_lv [0, 1, 2, 3, 5, 6, 7] [(0, .ref (ω.1 + k0)), (1, .int w1), (2, .int w2), (3, .int w3), (5, .int u5), (6, .int u6), (7, .int v15)] rfl ?_
            exact hj17 u5 u6 u6 h16
def F_X7_sun (N : Nat) (k0 : Nat) (x1 : Int32) (x2 : Int32) (x3 : Int32) (h : Mem) : Option (Int32 × Mem) :=
  (bnd (F_X7_isCloud k0 x1 h) (fun r1 h2 =>
  (if r1 = 0 then
    (bnd (F_X7_errs k0 (-1000000001 : Int32) h2) (fun r3 h4 =>
    (some (r3, h4))))
  else
    (bnd (F_X7_in x2 (1 : Int32) (99 : Int32) h2) (fun r5 h6 =>
    (if r5 = 0 then
      (bnd (F_X7_errs k0 (-1000000001 : Int32) h6) (fun r7 h8 =>
      (some (r7, h8))))
    else
      (bnd (F_X7_in x3 (0 : Int32) (1 : Int32) h6) (fun r9 h10 =>
      (if r9 = 0 then
        (bnd (F_X7_errs k0 (-1000000001 : Int32) h10) (fun r11 h12 =>
        (some (r11, h12))))
      else
        (F_X7_sun_43 N k0 x1 x2 x3 (fun (v22 v23 : Int32) (h24 : Mem) =>
          (if x3 = 0 then
            (some (v22, h24))
          else
            (some (v23, h24)))) N (0 : Int32) (-1 : Int32) (0 : Int32) h10))))))))))
set_option maxRecDepth 10000 in
set_option maxHeartbeats 1000000 in
theorem ok_X7_sun (l : Launch) (ω : WX) (N : Nat) {k0 : Nat} (hk0 : lay k0 = 7) (x1 : Int32) (x2 : Int32) (x3 : Int32) (h : Mem) : MC rvI l ω yX7_sun cX7_sun 8 (some .int) 2 [.ref (ω.1 + k0), .int x1, .int x2, .int x3] h (F_X7_sun N k0 x1 x2 x3 h) := by
  refine MC.of (by decide +kernel) [(0, .ref (ω.1 + k0)), (1, .int x1), (2, .int x2), (3, .int x3)] rfl (Nat.le_of_ble_eq_true rfl) (fun χ K => ?_)
  have K : Kok ω χ "SaltCloudsModel" cX7_sun 8 (some .int) 2 := K
  unfold F_X7_sun
  refine J_aload_n (pc := 0) K dX7_sun_0 0 rfl 0 rfl ?_
  refine J_iload_n (pc := 1) K dX7_sun_1 1 rfl 1 rfl ?_
  refine J_callVI (As := [.int x1]) (rest := []) (pc := 2) K cs_SaltCloudsModel_83 (ok_X7_isCloud l ω hk0 x1 h) hk0 (by decide) rfl rfl (Nat.le_of_ble_eq_true rfl) dX7_sun_2 (fun r1 h2 => ?_)
  refine J_if_eq (pc := 5) K 27 dX7_sun_5 (by decide) ?_ ?_
  · refine J_aload_n (pc := 27) K dX7_sun_27 0 rfl 0 rfl ?_
    refine J_ldc (pc := 28) K kc_SaltCloudsModel_53 dX7_sun_28 ?_
    refine J_callVI (As := [.int (-1000000001 : Int32)]) (rest := []) (pc := 30) K cs_SaltCloudsModel_54 (ok_X7_errs l ω hk0 (-1000000001 : Int32) h2) hk0 (by decide) rfl rfl (Nat.le_of_ble_eq_true rfl) dX7_sun_30 (fun r3 h4 => ?_)
    exact J_iret (pc := 33) K dX7_sun_33
  · refine J_iload_n (pc := 8) K dX7_sun_8 2 rfl 2 rfl ?_
    refine J_iconst (pc := 9) K (1) dX7_sun_9 (by decide) ?_
    refine J_bipush (pc := 10) K (99) dX7_sun_10 (by decide) ?_
    refine J_callTI (As := [.int x2, .int (1 : Int32), .int (99 : Int32)]) (rest := []) (pc := 12) K cs_SaltCloudsModel_41 (ok_X7_in l ω x2 (1 : Int32) (99 : Int32) h2) (by decide) rfl rfl (Nat.le_of_ble_eq_true rfl) dX7_sun_12 (fun r5 h6 => ?_)
    refine J_if_eq (pc := 15) K 27 dX7_sun_15 (by decide) ?_ ?_
    · refine J_aload_n (pc := 27) K dX7_sun_27 0 rfl 0 rfl ?_
      refine J_ldc (pc := 28) K kc_SaltCloudsModel_53 dX7_sun_28 ?_
      refine J_callVI (As := [.int (-1000000001 : Int32)]) (rest := []) (pc := 30) K cs_SaltCloudsModel_54 (ok_X7_errs l ω hk0 (-1000000001 : Int32) h6) hk0 (by decide) rfl rfl (Nat.le_of_ble_eq_true rfl) dX7_sun_30 (fun r7 h8 => ?_)
      exact J_iret (pc := 33) K dX7_sun_33
    · refine J_iload_n (pc := 18) K dX7_sun_18 3 rfl 3 rfl ?_
      refine J_iconst (pc := 19) K (0) dX7_sun_19 (by decide) ?_
      refine J_iconst (pc := 20) K (1) dX7_sun_20 (by decide) ?_
      refine J_callTI (As := [.int x3, .int (0 : Int32), .int (1 : Int32)]) (rest := []) (pc := 21) K cs_SaltCloudsModel_41 (ok_X7_in l ω x3 (0 : Int32) (1 : Int32) h6) (by decide) rfl rfl (Nat.le_of_ble_eq_true rfl) dX7_sun_21 (fun r9 h10 => ?_)
      refine J_if_ne (pc := 24) K 34 dX7_sun_24 (by decide) ?_ ?_
      · refine J_aload_n (pc := 27) K dX7_sun_27 0 rfl 0 rfl ?_
        refine J_ldc (pc := 28) K kc_SaltCloudsModel_53 dX7_sun_28 ?_
        refine J_callVI (As := [.int (-1000000001 : Int32)]) (rest := []) (pc := 30) K cs_SaltCloudsModel_54 (ok_X7_errs l ω hk0 (-1000000001 : Int32) h10) hk0 (by decide) rfl rfl (Nat.le_of_ble_eq_true rfl) dX7_sun_30 (fun r11 h12 => ?_)
        exact J_iret (pc := 33) K dX7_sun_33
      · refine J_iconst (pc := 34) K (0) dX7_sun_34 (by decide) ?_
        refine J_istore (pc := 35) K dX7_sun_35 (by decide) [(4, .int (0 : Int32)), (0, .ref (ω.1 + k0)), (1, .int x1), (2, .int x2), (3, .int x3)] rfl ?_
        refine J_iconst (pc := 37) K (-1) dX7_sun_37 (by decide) ?_
        refine J_istore (pc := 38) K dX7_sun_38 (by decide) [(5, .int (-1 : Int32)), (4, .int (0 : Int32)), (0, .ref (ω.1 + k0)), (1, .int x1), (2, .int x2), (3, .int x3)] rfl ?_
        refine J_iconst (pc := 40) K (0) dX7_sun_40 (by decide) ?_
        refine J_istore (pc := 41) K dX7_sun_41 (by decide) [(6, .int (0 : Int32)), (5, .int (-1 : Int32)), (4, .int (0 : Int32)), (0, .ref (ω.1 + k0)), (1, .int x1), (2, .int x2), (3, .int x3)] rfl ?_
        refine J_lv [3, 4, 5, 6, 2, 1, 0] [(0, .ref (ω.1 + k0)), (1, .int x1), (2, .int x2), (3, .int x3), (4, .int (0 : Int32)), (5, .int (-1 : Int32)), (6, .int (0 : Int32))] rfl ?_
        refine okL_X7_sun_43 K  (by decide) N hk0 (fun v22 v23 h24 => ?_) _ _ _ _ _
        refine J_iload_n (pc := 127) K dX7_sun_127 3 rfl 0 rfl ?_
        refine J_if_ne (pc := 128) K 136 dX7_sun_128 (by decide) ?_ ?_
        · refine J_iload (pc := 131) K dX7_sun_131 1 rfl ?_
          refine J_goto (pc := 133) K 138 dX7_sun_133 (by decide) ?_
          exact J_iret (pc := 138) K dX7_sun_138
        · refine J_iload (pc := 136) K dX7_sun_136 2 rfl ?_
          exact J_iret (pc := 138) K dX7_sun_138
def F_X7_windFor_4 (N : Nat) (k0 : Nat) (w1 : Int32) (w2 : Int32) (w3 : Int32) (kt : Int32 → Mem → Option (Int32 × Mem)) : Nat → Int32 → Mem → Option (Int32 × Mem)
  | 0, _, _ => none
  | n + 1, u4, h =>
    (if (4 : Int32) ≤ u4 then
      (kt u4 h)
    else
      (bnd (F_X7_driftsBy k0 w1 u4 h) (fun r1 h2 =>
      (gnz (12 : Int32)
      (if (irm ((w2 + r1) + (24 : Int32)) (12 : Int32)) = w3 then
        (kt u4 h2)
      else
        (F_X7_windFor_4 N k0 w1 w2 w3 kt n (u4 + 1) h2))))))
set_option maxRecDepth 10000 in
set_option maxHeartbeats 1000000 in
theorem okL_X7_windFor_4 {l : Launch} {ω : WX} {χ : KT} {d : Nat} (K : Kok ω χ "SaltCloudsModel" cX7_windFor 5 (some .int) d) (hd : 2 ≤ d) (N : Nat) {k0 : Nat} (hk0 : lay k0 = 7) {w1 : Int32} {w2 : Int32} {w3 : Int32} {kt : Int32 → Mem → Option (Int32 × Mem)} (hK : ∀ (u4 : Int32) (h : Mem), J (ZM rvI ω χ) l ω χ 35 5 [(4, .int u4)] [] h (kt u4 h)) : ∀ (n : Nat) (u4 : Int32) (h : Mem), J (ZM rvI ω χ) l ω χ 4 5 [(0, .ref (ω.1 + k0)), (1, .int w1), (2, .int w2), (3, .int w3), (4, .int u4)] [] h (F_X7_windFor_4 N k0 w1 w2 w3 kt n u4 h) := by
  intro n
  induction n with
  | zero =>
    intro u4 h
    exact J_none rfl
  | succ n ih =>
    intro u4 h
    rw [F_X7_windFor_4]
    refine J_iload (pc := 4) K dX7_windFor_4 4 rfl ?_
    refine J_iconst (pc := 6) K (4) dX7_windFor_6 (by decide) ?_
    refine J_icmp_ge (pc := 7) K 35 dX7_windFor_7 (by decide) ?_ ?_
    · refine J_lv [4] [(4, .int u4)] rfl ?_
      exact hK u4 h
    · refine J_iload_n (pc := 10) K dX7_windFor_10 2 rfl 2 rfl ?_
      refine J_aload_n (pc := 11) K dX7_windFor_11 0 rfl 0 rfl ?_
      refine J_iload_n (pc := 12) K dX7_windFor_12 1 rfl 1 rfl ?_
      refine J_iload (pc := 13) K dX7_windFor_13 4 rfl ?_
      refine J_callVI (As := [.int w1, .int u4]) (rest := [.int w2]) (pc := 15) K cs_SaltCloudsModel_90 (ok_X7_driftsBy l ω hk0 w1 u4 h) hk0 (by omega) rfl rfl (Nat.le_of_ble_eq_true rfl) dX7_windFor_15 (fun r1 h2 => ?_)
      refine J_iadd (pc := 18) K dX7_windFor_18 ?_
      refine J_bipush (pc := 19) K (24) dX7_windFor_19 (by decide) ?_
      refine J_iadd (pc := 21) K dX7_windFor_21 ?_
      refine J_bipush (pc := 22) K (12) dX7_windFor_22 (by decide) ?_
      refine J_irem (pc := 24) K dX7_windFor_24 ?_
      refine J_iload_n (pc := 25) K dX7_windFor_25 3 rfl 3 rfl ?_
      refine J_icmp_eq (pc := 26) K 35 dX7_windFor_26 (by decide) ?_ ?_
      · refine J_lv [4] [(4, .int u4)] rfl ?_
        exact hK u4 h2
      · refine J_iinc (pc := 29) K (1) dX7_windFor_29 4 rfl (by decide) (by decide) [(4, .int (u4 + 1)), (0, .ref (ω.1 + k0)), (1, .int w1), (2, .int w2), (3, .int w3)] rfl ?_
        refine J_goto (pc := 32) K 4 dX7_windFor_32 (by decide) ?_
        refine J_lv [1, 2, 3, 4, 0] [(0, .ref (ω.1 + k0)), (1, .int w1), (2, .int w2), (3, .int w3), (4, .int (u4 + 1))] rfl ?_
        exact ih (u4 + 1) h2
def F_X7_windFor (N : Nat) (k0 : Nat) (x1 : Int32) (x2 : Int32) (x3 : Int32) (h : Mem) : Option (Int32 × Mem) :=
  (F_X7_windFor_4 N k0 x1 x2 x3 (fun (v3 : Int32) (h4 : Mem) =>
    (if (4 : Int32) ≤ v3 then
      (some ((9 : Int32), h4))
    else
      (some (v3, h4)))) N (-3 : Int32) h)
set_option maxRecDepth 10000 in
set_option maxHeartbeats 1000000 in
theorem ok_X7_windFor (l : Launch) (ω : WX) (N : Nat) {k0 : Nat} (hk0 : lay k0 = 7) (x1 : Int32) (x2 : Int32) (x3 : Int32) (h : Mem) : MC rvI l ω yX7_windFor cX7_windFor 5 (some .int) 2 [.ref (ω.1 + k0), .int x1, .int x2, .int x3] h (F_X7_windFor N k0 x1 x2 x3 h) := by
  refine MC.of (by decide +kernel) [(0, .ref (ω.1 + k0)), (1, .int x1), (2, .int x2), (3, .int x3)] rfl (Nat.le_of_ble_eq_true rfl) (fun χ K => ?_)
  have K : Kok ω χ "SaltCloudsModel" cX7_windFor 5 (some .int) 2 := K
  unfold F_X7_windFor
  refine J_bipush (pc := 0) K (-3) dX7_windFor_0 (by decide) ?_
  refine J_istore (pc := 2) K dX7_windFor_2 (by decide) [(4, .int (-3 : Int32)), (0, .ref (ω.1 + k0)), (1, .int x1), (2, .int x2), (3, .int x3)] rfl ?_
  refine J_lv [1, 2, 3, 4, 0] [(0, .ref (ω.1 + k0)), (1, .int x1), (2, .int x2), (3, .int x3), (4, .int (-3 : Int32))] rfl ?_
  refine okL_X7_windFor_4 K  (by decide) N hk0 (fun v3 h4 => ?_) _ _ _
  refine J_iload (pc := 35) K dX7_windFor_35 0 rfl ?_
  refine J_iconst (pc := 37) K (4) dX7_windFor_37 (by decide) ?_
  refine J_icmp_ge (pc := 38) K 46 dX7_windFor_38 (by decide) ?_ ?_
  · refine J_bipush (pc := 46) K (9) dX7_windFor_46 (by decide) ?_
    exact J_iret (pc := 48) K dX7_windFor_48
  · refine J_iload (pc := 41) K dX7_windFor_41 0 rfl ?_
    refine J_goto (pc := 43) K 48 dX7_windFor_43 (by decide) ?_
    exact J_iret (pc := 48) K dX7_windFor_48
def F_X7_winds_91 (N : Nat) (k0 : Nat) (w1 : Int32) (w2 : Int32) (w3 : Int32) (kt : Int32 → Int32 → Mem → Option (Int32 × Mem)) : Nat → Int32 → Int32 → Int32 → Int32 → Mem → Option (Int32 × Mem)
  | 0, _, _, _, _, _ => none
  | n + 1, u4, u5, u6, u7, h =>
    (gin w2 4
    (if (h (k0 + 7) (ix w2)) ≤ u7 then
      (kt u5 u6 h)
    else
      (if (8 : Int32) ≤ u7 then
        (kt u5 u6 h)
      else
        (if u6 = 0 then
          (kt u5 u6 h)
        else
          (seqi (((40 : Int32) * w2) + u7) (fun v21 =>
          (gin v21 160
          (seqi (h (k0 + 8) (ix v21)) (fun v22 =>
          (bnd (F_X7_isPlace v22 h) (fun r23 h24 =>
          (jn (fun (v26 v27 s28 : Int32) (h29 : Mem) =>
            (jn (fun (v31 v32 s33 : Int32) (h34 : Mem) =>
              (if v32 = w3 then
                (F_X7_winds_91 N k0 w1 w2 w3 kt n v22 s28 s33 (v32 + 1) h34)
              else
                (F_X7_winds_91 N k0 w1 w2 w3 kt n v22 v31 s33 (v32 + 1) h34))) (fun j30 =>
              (if (9 : Int32) ≤ s28 then
                (j30 v26 v27 (0 : Int32) h29)
              else
                (j30 v26 v27 (1 : Int32) h29))))) (fun j25 =>
            (if r23 = 0 then
              (j25 u5 u7 (9 : Int32) h24)
            else
              (bnd (F_X7_windFor N k0 w1 u4 v22 h24) (fun r35 h36 =>
              (j25 u5 u7 r35 h36)))))))))))))))))
set_option maxRecDepth 10000 in
set_option maxHeartbeats 1000000 in
theorem okL_X7_winds_91 {l : Launch} {ω : WX} {χ : KT} {d : Nat} (K : Kok ω χ "SaltCloudsModel" cX7_winds 10 (some .int) d) (hd : 3 ≤ d) (N : Nat) {k0 : Nat} (hk0 : lay k0 = 7) {w1 : Int32} {w2 : Int32} {w3 : Int32} {kt : Int32 → Int32 → Mem → Option (Int32 × Mem)} (hK : ∀ (u5 : Int32) (u6 : Int32) (h : Mem), J (ZM rvI ω χ) l ω χ 191 10 [(0, .ref (ω.1 + k0)), (5, .int u5), (6, .int u6)] [] h (kt u5 u6 h)) : ∀ (n : Nat) (u4 : Int32) (u5 : Int32) (u6 : Int32) (u7 : Int32) (h : Mem), J (ZM rvI ω χ) l ω χ 91 10 [(0, .ref (ω.1 + k0)), (1, .int w1), (2, .int w2), (3, .int w3), (4, .int u4), (5, .int u5), (6, .int u6), (7, .int u7)] [] h (F_X7_winds_91 N k0 w1 w2 w3 kt n u4 u5 u6 u7 h) := by
  intro n
  induction n with
  | zero =>
    intro u4 u5 u6 u7 h
    exact J_none rfl
  | succ n ih =>
    intro u4 u5 u6 u7 h
    rw [F_X7_winds_91]
    refine J_iload (pc := 91) K dX7_winds_91 7 rfl ?_
    refine J_aload_n (pc := 93) K dX7_winds_93 0 rfl 0 rfl ?_
    refine J_getR (pc := 94) K gf_SaltCloudsModel_28 hk0 7 rfl dX7_winds_94 ?_
    refine J_iload_n (pc := 97) K dX7_winds_97 2 rfl 2 rfl ?_
    refine J_iald (pc := 98) K (a := k0 + 7) (n := 4) (ty_7_7 hk0) dX7_winds_98 ?_
    refine J_icmp_ge (pc := 99) K 191 dX7_winds_99 (by decide) ?_ ?_
    · refine J_lv [0, 5, 6] [(0, .ref (ω.1 + k0)), (5, .int u5), (6, .int u6)] rfl ?_
      exact hK u5 u6 h
    · refine J_iload (pc := 102) K dX7_winds_102 7 rfl ?_
      refine J_bipush (pc := 104) K (8) dX7_winds_104 (by decide) ?_
      refine J_icmp_ge (pc := 106) K 191 dX7_winds_106 (by decide) ?_ ?_
      · refine J_lv [0, 5, 6] [(0, .ref (ω.1 + k0)), (5, .int u5), (6, .int u6)] rfl ?_
        exact hK u5 u6 h
      · refine J_iload (pc := 109) K dX7_winds_109 6 rfl ?_
        refine J_if_eq (pc := 111) K 191 dX7_winds_111 (by decide) ?_ ?_
        · refine J_lv [0, 5, 6] [(0, .ref (ω.1 + k0)), (5, .int u5), (6, .int u6)] rfl ?_
          exact hK u5 u6 h
        · refine J_aload_n (pc := 114) K dX7_winds_114 0 rfl 0 rfl ?_
          refine J_getR (pc := 115) K gf_SaltCloudsModel_31 hk0 8 rfl dX7_winds_115 ?_
          refine J_bipush (pc := 118) K (40) dX7_winds_118 (by decide) ?_
          refine J_iload_n (pc := 120) K dX7_winds_120 2 rfl 2 rfl ?_
          refine J_imul (pc := 121) K dX7_winds_121 ?_
          refine J_iload (pc := 122) K dX7_winds_122 7 rfl ?_
          refine J_iadd (pc := 124) K dX7_winds_124 ?_
          refine J_topi (fun v21 => ?_)
          refine J_iald (pc := 125) K (a := k0 + 8) (n := 160) (ty_7_8 hk0) dX7_winds_125 ?_
          refine J_topi (fun v22 => ?_)
          refine J_istore (pc := 126) K dX7_winds_126 (by decide) [(8, .int v22), (0, .ref (ω.1 + k0)), (1, .int w1), (2, .int w2), (3, .int w3), (4, .int u4), (5, .int u5), (6, .int u6), (7, .int u7)] rfl ?_
          refine J_iload (pc := 128) K dX7_winds_128 0 rfl ?_
          refine J_callTI (As := [.int v22]) (rest := []) (pc := 130) K cs_SaltCloudsModel_49 (ok_X7_isPlace l ω v22 h) (by omega) rfl rfl (Nat.le_of_ble_eq_true rfl) dX7_winds_130 (fun r23 h24 => ?_)
          refine J_jn (fun j25 => ∀ (v26 v27 s28 : Int32) (h29 : Mem), J (ZM rvI ω χ) l ω χ 150 10 [(0, .ref (ω.1 + k0)), (1, .int w1), (2, .int w2), (3, .int w3), (5, .int v26), (7, .int v27), (8, .int v22)] [.int s28] h29 (j25 v26 v27 s28 h29)) ?_ ?_
          · intro v26 v27 s28 h29
            refine J_istore (pc := 150) K dX7_winds_150 (by decide) [(9, .int s28), (0, .ref (ω.1 + k0)), (1, .int w1), (2, .int w2), (3, .int w3), (5, .int v26), (7, .int v27), (8, .int v22)] rfl ?_
            refine J_iload (pc := 152) K dX7_winds_152 0 rfl ?_
            refine J_bipush (pc := 154) K (9) dX7_winds_154 (by decide) ?_
            refine J_jn (fun j30 => ∀ (v31 v32 s33 : Int32) (h34 : Mem), J (ZM rvI ω χ) l ω χ 164 10 [(0, .ref (ω.1 + k0)), (1, .int w1), (2, .int w2), (3, .int w3), (5, .int v31), (7, .int v32), (8, .int v22), (9, .int s28)] [.int s33] h34 (j30 v31 v32 s33 h34)) ?_ ?_
            · intro v31 v32 s33 h34
              refine J_istore (pc := 164) K dX7_winds_164 (by decide) [(6, .int s33), (0, .ref (ω.1 + k0)), (1, .int w1), (2, .int w2), (3, .int w3), (5, .int v31), (7, .int v32), (8, .int v22), (9, .int s28)] rfl ?_
              refine J_iload (pc := 166) K dX7_winds_166 6 rfl ?_
              refine J_iload_n (pc := 168) K dX7_winds_168 3 rfl 4 rfl ?_
              refine J_icmp_ne (pc := 169) K 177 dX7_winds_169 (by decide) ?_ ?_
              · refine J_iload (pc := 172) K dX7_winds_172 8 rfl ?_
                refine J_goto (pc := 174) K 179 dX7_winds_174 (by decide) ?_
                refine J_istore (pc := 179) K dX7_winds_179 (by decide) [(5, .int s28), (6, .int s33), (0, .ref (ω.1 + k0)), (1, .int w1), (2, .int w2), (3, .int w3), (7, .int v32), (8, .int v22), (9, .int s28)] rfl ?_
                refine J_iload (pc := 181) K dX7_winds_181 7 rfl ?_
                refine J_istore (pc := 183) K dX7_winds_183 (by decide) [(4, .int v22), (5, .int s28), (6, .int s33), (0, .ref (ω.1 + k0)), (1, .int w1), (2, .int w2), (3, .int w3), (7, .int v32), (8, .int v22), (9, .int s28)] rfl ?_
                refine J_iinc (pc := 185) K (1) dX7_winds_185 7 rfl (by decide) (by decide) [(7, .int (v32 + 1)), (4, .int v22), (5, .int s28), (6, .int s33), (0, .ref (ω.1 + k0)), (1, .int w1), (2, .int w2), (3, .int w3), (8, .int v22), (9, .int s28)] rfl ?_
                refine J_goto (pc := 188) K 91 dX7_winds_188 (by decide) ?_
                refine J_lv [4, 5, 6, 7, 1, 2, 3, 0] [(0, .ref (ω.1 + k0)), (1, .int w1), (2, .int w2), (3, .int w3), (4, .int v22), (5, .int s28), (6, .int s33), (7, .int (v32 + 1))] rfl ?_
                exact ih v22 s28 s33 (v32 + 1) h34
              · refine J_iload (pc := 177) K dX7_winds_177 5 rfl ?_
                refine J_istore (pc := 179) K dX7_winds_179 (by decide) [(5, .int v31), (6, .int s33), (0, .ref (ω.1 + k0)), (1, .int w1), (2, .int w2), (3, .int w3), (7, .int v32), (8, .int v22), (9, .int s28)] rfl ?_
                refine J_iload (pc := 181) K dX7_winds_181 7 rfl ?_
                refine J_istore (pc := 183) K dX7_winds_183 (by decide) [(4, .int v22), (5, .int v31), (6, .int s33), (0, .ref (ω.1 + k0)), (1, .int w1), (2, .int w2), (3, .int w3), (7, .int v32), (8, .int v22), (9, .int s28)] rfl ?_
                refine J_iinc (pc := 185) K (1) dX7_winds_185 7 rfl (by decide) (by decide) [(7, .int (v32 + 1)), (4, .int v22), (5, .int v31), (6, .int s33), (0, .ref (ω.1 + k0)), (1, .int w1), (2, .int w2), (3, .int w3), (8, .int v22), (9, .int s28)] rfl ?_
                refine J_goto (pc := 188) K 91 dX7_winds_188 (by decide) ?_
                refine J_lv [4, 5, 6, 7, 1, 2, 3, 0] [(0, .ref (ω.1 + k0)), (1, .int w1), (2, .int w2), (3, .int w3), (4, .int v22), (5, .int v31), (6, .int s33), (7, .int (v32 + 1))] rfl ?_
                exact ih v22 v31 s33 (v32 + 1) h34
            · intro j30 hj30
              refine J_icmp_ge (pc := 156) K 163 dX7_winds_156 (by decide) ?_ ?_
              · refine J_iconst (pc := 163) K (0) dX7_winds_163 (by decide) ?_
                refine J_lv [1, 2, 3, 4, 5, 6, 7, 0] [(0, .ref (ω.1 + k0)), (1, .int w1), (2, .int w2), (3, .int w3), (5, .int v26), (7, .int v27), (8, .int v22), (9, .int s28)] rfl ?_
                exact hj30 v26 v27 (0 : Int32) h29
              · refine J_iconst (pc := 159) K (1) dX7_winds_159 (by decide) ?_
                refine J_goto (pc := 160) K 164 dX7_winds_160 (by decide) ?_
                refine J_lv [1, 2, 3, 4, 5, 6, 7, 0] [(0, .ref (ω.1 + k0)), (1, .int w1), (2, .int w2), (3, .int w3), (5, .int v26), (7, .int v27), (8, .int v22), (9, .int s28)] rfl ?_
                exact hj30 v26 v27 (1 : Int32) h29
          · intro j25 hj25
            refine J_if_eq (pc := 133) K 148 dX7_winds_133 (by decide) ?_ ?_
            · refine J_bipush (pc := 148) K (9) dX7_winds_148 (by decide) ?_
              refine J_lv [1, 2, 3, 4, 6, 8, 0] [(0, .ref (ω.1 + k0)), (1, .int w1), (2, .int w2), (3, .int w3), (5, .int u5), (7, .int u7), (8, .int v22)] rfl ?_
              exact hj25 u5 u7 (9 : Int32) h24
            · refine J_aload_n (pc := 136) K dX7_winds_136 0 rfl 1 rfl ?_
              refine J_iload_n (pc := 137) K dX7_winds_137 1 rfl 2 rfl ?_
              refine J_iload (pc := 138) K dX7_winds_138 5 rfl ?_
              refine J_iload (pc := 140) K dX7_winds_140 0 rfl ?_
              refine J_callVI (As := [.int w1, .int u4, .int v22]) (rest := []) (pc := 142) K cs_SaltCloudsModel_224 (ok_X7_windFor l ω N hk0 w1 u4 v22 h24) hk0 (by omega) rfl rfl (Nat.le_of_ble_eq_true rfl) dX7_winds_142 (fun r35 h36 => ?_)
              refine J_goto (pc := 145) K 150 dX7_winds_145 (by decide) ?_
              refine J_lv [1, 2, 3, 4, 6, 8, 0] [(0, .ref (ω.1 + k0)), (1, .int w1), (2, .int w2), (3, .int w3), (5, .int u5), (7, .int u7), (8, .int v22)] rfl ?_
              exact hj25 u5 u7 r35 h36
def F_X7_winds (N : Nat) (k0 : Nat) (x1 : Int32) (x2 : Int32) (x3 : Int32) (h : Mem) : Option (Int32 × Mem) :=
  (bnd (F_X7_isCloud k0 x1 h) (fun r1 h2 =>
  (if r1 = 0 then
    (bnd (F_X7_errs k0 (-1000000001 : Int32) h2) (fun r3 h4 =>
    (some (r3, h4))))
  else
    (bnd (F_X7_isSheet x2 h2) (fun r5 h6 =>
    (if r5 = 0 then
      (bnd (F_X7_errs k0 (-1000000001 : Int32) h6) (fun r7 h8 =>
      (some (r7, h8))))
    else
      (bnd (F_X7_in x3 (0 : Int32) (7 : Int32) h6) (fun r9 h10 =>
      (if r9 = 0 then
        (bnd (F_X7_errs k0 (-1000000001 : Int32) h10) (fun r11 h12 =>
        (some (r11, h12))))
      else
        (bnd (F_X7_isThere k0 x1 h10) (fun r13 h14 =>
        (if r13 = 0 then
          (bnd (F_X7_errs k0 (-1000000003 : Int32) h14) (fun r15 h16 =>
          (some (r15, h16))))
        else
          (gin x2 4
          (if (h14 (k0 + 6) (ix x2)) = 0 then
            (bnd (F_X7_errs k0 (-1000000002 : Int32) h14) (fun r17 h18 =>
            (some (r17, h18))))
          else
            (gin x2 4
            (if x3 < (h14 (k0 + 7) (ix x2)) then
              (bnd (F_X7_its k0 x1 (2 : Int32) h14) (fun r19 h20 =>
              (F_X7_winds_91 N k0 x1 x2 x3 (fun (v37 v38 : Int32) (h39 : Mem) =>
                (if v38 = 0 then
                  (bnd (F_X7_errs k0 (-1000000002 : Int32) h39) (fun r40 h41 =>
                  (some (r40, h41))))
                else
                  (some (v37, h39)))) N r19 (9 : Int32) (1 : Int32) (0 : Int32) h20)))
            else
              (bnd (F_X7_errs k0 (-1000000002 : Int32) h14) (fun r42 h43 =>
              (some (r42, h43))))))))))))))))))))
set_option maxRecDepth 10000 in
set_option maxHeartbeats 1000000 in
theorem ok_X7_winds (l : Launch) (ω : WX) (N : Nat) {k0 : Nat} (hk0 : lay k0 = 7) (x1 : Int32) (x2 : Int32) (x3 : Int32) (h : Mem) : MC rvI l ω yX7_winds cX7_winds 10 (some .int) 3 [.ref (ω.1 + k0), .int x1, .int x2, .int x3] h (F_X7_winds N k0 x1 x2 x3 h) := by
  refine MC.of (by decide +kernel) [(0, .ref (ω.1 + k0)), (1, .int x1), (2, .int x2), (3, .int x3)] rfl (Nat.le_of_ble_eq_true rfl) (fun χ K => ?_)
  have K : Kok ω χ "SaltCloudsModel" cX7_winds 10 (some .int) 3 := K
  unfold F_X7_winds
  refine J_aload_n (pc := 0) K dX7_winds_0 0 rfl 0 rfl ?_
  refine J_iload_n (pc := 1) K dX7_winds_1 1 rfl 1 rfl ?_
  refine J_callVI (As := [.int x1]) (rest := []) (pc := 2) K cs_SaltCloudsModel_83 (ok_X7_isCloud l ω hk0 x1 h) hk0 (by decide) rfl rfl (Nat.le_of_ble_eq_true rfl) dX7_winds_2 (fun r1 h2 => ?_)
  refine J_if_eq (pc := 5) K 25 dX7_winds_5 (by decide) ?_ ?_
  · refine J_aload_n (pc := 25) K dX7_winds_25 0 rfl 0 rfl ?_
    refine J_ldc (pc := 26) K kc_SaltCloudsModel_53 dX7_winds_26 ?_
    refine J_callVI (As := [.int (-1000000001 : Int32)]) (rest := []) (pc := 28) K cs_SaltCloudsModel_54 (ok_X7_errs l ω hk0 (-1000000001 : Int32) h2) hk0 (by decide) rfl rfl (Nat.le_of_ble_eq_true rfl) dX7_winds_28 (fun r3 h4 => ?_)
    exact J_iret (pc := 31) K dX7_winds_31
  · refine J_iload_n (pc := 8) K dX7_winds_8 2 rfl 2 rfl ?_
    refine J_callTI (As := [.int x2]) (rest := []) (pc := 9) K cs_SaltCloudsModel_221 (ok_X7_isSheet l ω x2 h2) (by decide) rfl rfl (Nat.le_of_ble_eq_true rfl) dX7_winds_9 (fun r5 h6 => ?_)
    refine J_if_eq (pc := 12) K 25 dX7_winds_12 (by decide) ?_ ?_
    · refine J_aload_n (pc := 25) K dX7_winds_25 0 rfl 0 rfl ?_
      refine J_ldc (pc := 26) K kc_SaltCloudsModel_53 dX7_winds_26 ?_
      refine J_callVI (As := [.int (-1000000001 : Int32)]) (rest := []) (pc := 28) K cs_SaltCloudsModel_54 (ok_X7_errs l ω hk0 (-1000000001 : Int32) h6) hk0 (by decide) rfl rfl (Nat.le_of_ble_eq_true rfl) dX7_winds_28 (fun r7 h8 => ?_)
      exact J_iret (pc := 31) K dX7_winds_31
    · refine J_iload_n (pc := 15) K dX7_winds_15 3 rfl 3 rfl ?_
      refine J_iconst (pc := 16) K (0) dX7_winds_16 (by decide) ?_
      refine J_bipush (pc := 17) K (7) dX7_winds_17 (by decide) ?_
      refine J_callTI (As := [.int x3, .int (0 : Int32), .int (7 : Int32)]) (rest := []) (pc := 19) K cs_SaltCloudsModel_41 (ok_X7_in l ω x3 (0 : Int32) (7 : Int32) h6) (by decide) rfl rfl (Nat.le_of_ble_eq_true rfl) dX7_winds_19 (fun r9 h10 => ?_)
      refine J_if_ne (pc := 22) K 32 dX7_winds_22 (by decide) ?_ ?_
      · refine J_aload_n (pc := 25) K dX7_winds_25 0 rfl 0 rfl ?_
        refine J_ldc (pc := 26) K kc_SaltCloudsModel_53 dX7_winds_26 ?_
        refine J_callVI (As := [.int (-1000000001 : Int32)]) (rest := []) (pc := 28) K cs_SaltCloudsModel_54 (ok_X7_errs l ω hk0 (-1000000001 : Int32) h10) hk0 (by decide) rfl rfl (Nat.le_of_ble_eq_true rfl) dX7_winds_28 (fun r11 h12 => ?_)
        exact J_iret (pc := 31) K dX7_winds_31
      · refine J_aload_n (pc := 32) K dX7_winds_32 0 rfl 0 rfl ?_
        refine J_iload_n (pc := 33) K dX7_winds_33 1 rfl 1 rfl ?_
        refine J_callVI (As := [.int x1]) (rest := []) (pc := 34) K cs_SaltCloudsModel_77 (ok_X7_isThere l ω hk0 x1 h10) hk0 (by decide) rfl rfl (Nat.le_of_ble_eq_true rfl) dX7_winds_34 (fun r13 h14 => ?_)
        refine J_if_ne (pc := 37) K 47 dX7_winds_37 (by decide) ?_ ?_
        · refine J_aload_n (pc := 40) K dX7_winds_40 0 rfl 0 rfl ?_
          refine J_ldc (pc := 41) K kc_SaltCloudsModel_103 dX7_winds_41 ?_
          refine J_callVI (As := [.int (-1000000003 : Int32)]) (rest := []) (pc := 43) K cs_SaltCloudsModel_54 (ok_X7_errs l ω hk0 (-1000000003 : Int32) h14) hk0 (by decide) rfl rfl (Nat.le_of_ble_eq_true rfl) dX7_winds_43 (fun r15 h16 => ?_)
          exact J_iret (pc := 46) K dX7_winds_46
        · refine J_aload_n (pc := 47) K dX7_winds_47 0 rfl 0 rfl ?_
          refine J_getR (pc := 48) K gf_SaltCloudsModel_25 hk0 6 rfl dX7_winds_48 ?_
          refine J_iload_n (pc := 51) K dX7_winds_51 2 rfl 2 rfl ?_
          refine J_iald (pc := 52) K (a := k0 + 6) (n := 4) (ty_7_6 hk0) dX7_winds_52 ?_
          refine J_if_eq (pc := 53) K 66 dX7_winds_53 (by decide) ?_ ?_
          · refine J_aload_n (pc := 66) K dX7_winds_66 0 rfl 0 rfl ?_
            refine J_ldc (pc := 67) K kc_SaltCloudsModel_211 dX7_winds_67 ?_
            refine J_callVI (As := [.int (-1000000002 : Int32)]) (rest := []) (pc := 69) K cs_SaltCloudsModel_54 (ok_X7_errs l ω hk0 (-1000000002 : Int32) h14) hk0 (by decide) rfl rfl (Nat.le_of_ble_eq_true rfl) dX7_winds_69 (fun r17 h18 => ?_)
            exact J_iret (pc := 72) K dX7_winds_72
          · refine J_iload_n (pc := 56) K dX7_winds_56 3 rfl 3 rfl ?_
            refine J_aload_n (pc := 57) K dX7_winds_57 0 rfl 0 rfl ?_
            refine J_getR (pc := 58) K gf_SaltCloudsModel_28 hk0 7 rfl dX7_winds_58 ?_
            refine J_iload_n (pc := 61) K dX7_winds_61 2 rfl 2 rfl ?_
            refine J_iald (pc := 62) K (a := k0 + 7) (n := 4) (ty_7_7 hk0) dX7_winds_62 ?_
            refine J_icmp_lt (pc := 63) K 73 dX7_winds_63 (by decide) ?_ ?_
            · refine J_aload_n (pc := 73) K dX7_winds_73 0 rfl 0 rfl ?_
              refine J_iload_n (pc := 74) K dX7_winds_74 1 rfl 1 rfl ?_
              refine J_iconst (pc := 75) K (2) dX7_winds_75 (by decide) ?_
              refine J_callVI (As := [.int x1, .int (2 : Int32)]) (rest := []) (pc := 76) K cs_SaltCloudsModel_45 (ok_X7_its l ω hk0 x1 (2 : Int32) h14) hk0 (by decide) rfl rfl (Nat.le_of_ble_eq_true rfl) dX7_winds_76 (fun r19 h20 => ?_)
              refine J_istore (pc := 79) K dX7_winds_79 (by decide) [(4, .int r19), (0, .ref (ω.1 + k0)), (1, .int x1), (2, .int x2), (3, .int x3)] rfl ?_
              refine J_bipush (pc := 81) K (9) dX7_winds_81 (by decide) ?_
              refine J_istore (pc := 83) K dX7_winds_83 (by decide) [(5, .int (9 : Int32)), (4, .int r19), (0, .ref (ω.1 + k0)), (1, .int x1), (2, .int x2), (3, .int x3)] rfl ?_
              refine J_iconst (pc := 85) K (1) dX7_winds_85 (by decide) ?_
              refine J_istore (pc := 86) K dX7_winds_86 (by decide) [(6, .int (1 : Int32)), (5, .int (9 : Int32)), (4, .int r19), (0, .ref (ω.1 + k0)), (1, .int x1), (2, .int x2), (3, .int x3)] rfl ?_
              refine J_iconst (pc := 88) K (0) dX7_winds_88 (by decide) ?_
              refine J_istore (pc := 89) K dX7_winds_89 (by decide) [(7, .int (0 : Int32)), (6, .int (1 : Int32)), (5, .int (9 : Int32)), (4, .int r19), (0, .ref (ω.1 + k0)), (1, .int x1), (2, .int x2), (3, .int x3)] rfl ?_
              refine J_lv [4, 5, 6, 7, 3, 2, 1, 0] [(0, .ref (ω.1 + k0)), (1, .int x1), (2, .int x2), (3, .int x3), (4, .int r19), (5, .int (9 : Int32)), (6, .int (1 : Int32)), (7, .int (0 : Int32))] rfl ?_
              refine okL_X7_winds_91 K  (by decide) N hk0 (fun v37 v38 h39 => ?_) _ _ _ _ _ _
              refine J_iload (pc := 191) K dX7_winds_191 2 rfl ?_
              refine J_if_eq (pc := 193) K 201 dX7_winds_193 (by decide) ?_ ?_
              · refine J_aload_n (pc := 201) K dX7_winds_201 0 rfl 0 rfl ?_
                refine J_ldc (pc := 202) K kc_SaltCloudsModel_211 dX7_winds_202 ?_
                refine J_callVI (As := [.int (-1000000002 : Int32)]) (rest := []) (pc := 204) K cs_SaltCloudsModel_54 (ok_X7_errs l ω hk0 (-1000000002 : Int32) h39) hk0 (by decide) rfl rfl (Nat.le_of_ble_eq_true rfl) dX7_winds_204 (fun r40 h41 => ?_)
                exact J_iret (pc := 207) K dX7_winds_207
              · refine J_iload (pc := 196) K dX7_winds_196 1 rfl ?_
                refine J_goto (pc := 198) K 207 dX7_winds_198 (by decide) ?_
                exact J_iret (pc := 207) K dX7_winds_207
            · refine J_aload_n (pc := 66) K dX7_winds_66 0 rfl 0 rfl ?_
              refine J_ldc (pc := 67) K kc_SaltCloudsModel_211 dX7_winds_67 ?_
              refine J_callVI (As := [.int (-1000000002 : Int32)]) (rest := []) (pc := 69) K cs_SaltCloudsModel_54 (ok_X7_errs l ω hk0 (-1000000002 : Int32) h14) hk0 (by decide) rfl rfl (Nat.le_of_ble_eq_true rfl) dX7_winds_69 (fun r42 h43 => ?_)
              exact J_iret (pc := 72) K dX7_winds_72
def F_X7_seed (k0 : Nat) (x1 : Int32) (h : Mem) : Option (Int32 × Mem) :=
  (gin (3 : Int32) 262
  (seqi (h (k0 + 1) (ix (3 : Int32))) (fun v1 =>
  (gin (3 : Int32) 262 (seqh (upm h (k0 + 1) (ix (3 : Int32)) x1) (fun h2 =>
  (some (v1, h2))))))))
set_option maxRecDepth 10000 in
set_option maxHeartbeats 1000000 in
theorem ok_X7_seed (l : Launch) (ω : WX) {k0 : Nat} (hk0 : lay k0 = 7) (x1 : Int32) (h : Mem) : MC rvI l ω yX7_seed cX7_seed 3 (some .int) 0 [.ref (ω.1 + k0), .int x1] h (F_X7_seed k0 x1 h) := by
  refine MC.of (by decide +kernel) [(0, .ref (ω.1 + k0)), (1, .int x1)] rfl (Nat.le_of_ble_eq_true rfl) (fun χ K => ?_)
  have K : Kok ω χ "SaltCloudsModel" cX7_seed 3 (some .int) 0 := K
  unfold F_X7_seed
  refine J_aload_n (pc := 0) K dX7_seed_0 0 rfl 0 rfl ?_
  refine J_getR (pc := 1) K gf_SaltCloudsModel_7 hk0 1 rfl dX7_seed_1 ?_
  refine J_iconst (pc := 4) K (3) dX7_seed_4 (by decide) ?_
  refine J_iald (pc := 5) K (a := k0 + 1) (n := 262) (ty_7_1 hk0) dX7_seed_5 ?_
  refine J_topi (fun v1 => ?_)
  refine J_istore_n (pc := 6) K dX7_seed_6 2 rfl (by decide) [(2, .int v1), (0, .ref (ω.1 + k0)), (1, .int x1)] rfl ?_
  refine J_aload_n (pc := 7) K dX7_seed_7 0 rfl 1 rfl ?_
  refine J_getR (pc := 8) K gf_SaltCloudsModel_7 hk0 1 rfl dX7_seed_8 ?_
  refine J_iconst (pc := 11) K (3) dX7_seed_11 (by decide) ?_
  refine J_iload_n (pc := 12) K dX7_seed_12 1 rfl 2 rfl ?_
  refine J_iast (pc := 13) K (a := k0 + 1) (n := 262) (ty_7_1 hk0) dX7_seed_13 (fun h2 => ?_)
  refine J_iload_n (pc := 14) K dX7_seed_14 2 rfl 0 rfl ?_
  exact J_iret (pc := 15) K dX7_seed_15
def F_X7_ran (k0 : Nat) (x1 : Int32) (h : Mem) : Option (Unit × Mem) :=
  (if (40 : Int32) ≤ (h k0 20) then
    (some ((), h))
  else
    (gin (h k0 20) 40 (seqh (upm h (k0 + 10) (ix (h k0 20)) x1) (fun h1 =>
    (seqh (upm h1 k0 20 ((h1 k0 20) + (1 : Int32))) (fun h2 =>
    (some ((), h2))))))))
set_option maxRecDepth 10000 in
set_option maxHeartbeats 1000000 in
theorem ok_X7_ran (l : Launch) (ω : WX) {k0 : Nat} (hk0 : lay k0 = 7) (x1 : Int32) (h : Mem) : MC rvV l ω yX7_ran cX7_ran 2 none 0 [.ref (ω.1 + k0), .int x1] h (F_X7_ran k0 x1 h) := by
  refine MC.of (by decide +kernel) [(0, .ref (ω.1 + k0)), (1, .int x1)] rfl (Nat.le_of_ble_eq_true rfl) (fun χ K => ?_)
  have K : Kok ω χ "SaltCloudsModel" cX7_ran 2 none 0 := K
  unfold F_X7_ran
  refine J_aload_n (pc := 0) K dX7_ran_0 0 rfl 0 rfl ?_
  refine J_getI (pc := 1) K gf_SaltCloudsModel_227 hk0 rfl dX7_ran_1 ?_
  refine J_bipush (pc := 4) K (40) dX7_ran_4 (by decide) ?_
  refine J_icmp_ge (pc := 6) K 29 dX7_ran_6 (by decide) ?_ ?_
  · exact J_vret (pc := 29) K dX7_ran_29
  · refine J_aload_n (pc := 9) K dX7_ran_9 0 rfl 0 rfl ?_
    refine J_getR (pc := 10) K gf_SaltCloudsModel_37 hk0 10 rfl dX7_ran_10 ?_
    refine J_aload_n (pc := 13) K dX7_ran_13 0 rfl 0 rfl ?_
    refine J_getI (pc := 14) K gf_SaltCloudsModel_227 hk0 rfl dX7_ran_14 ?_
    refine J_iload_n (pc := 17) K dX7_ran_17 1 rfl 1 rfl ?_
    refine J_iast (pc := 18) K (a := k0 + 10) (n := 40) (ty_7_10 hk0) dX7_ran_18 (fun h1 => ?_)
    refine J_aload_n (pc := 19) K dX7_ran_19 0 rfl 0 rfl ?_
    refine J_dup (pc := 20) K dX7_ran_20 rfl ?_
    refine J_getI (pc := 21) K gf_SaltCloudsModel_227 hk0 rfl dX7_ran_21 ?_
    refine J_iconst (pc := 24) K (1) dX7_ran_24 (by decide) ?_
    refine J_iadd (pc := 25) K dX7_ran_25 ?_
    refine J_putI (pc := 26) K gf_SaltCloudsModel_227 hk0 (by decide) rfl dX7_ran_26 (fun h2 => ?_)
    exact J_vret (pc := 29) K dX7_ran_29
def F_X7_driftsIn (N : Nat) : Nat → Nat → Int32 → Int32 → Mem → Option (Int32 × Mem)
  | 0, _, _, _, _ => none
  | n + 1, k0, x1, x2, h =>
    (if x1 = 0 then
      (bnd (F_X7_ran k0 (10 : Int32) h) (fun _ h2 =>
      (some (x2 + (h2 k0 22), h2))))
    else
      (if x1 = (1 : Int32) then
        (bnd (F_X7_ran k0 (20 : Int32) h) (fun _ h4 =>
        (bnd (F_X7_driftsIn N n k0 (0 : Int32) x2 h4) (fun r5 h6 =>
        (some (r5 * (3 : Int32), h6))))))
      else
        (bnd (F_X7_above x1 h) (fun r7 h8 =>
        (bnd (F_X7_driftsIn N n k0 r7 x2 h8) (fun r9 h10 =>
        (some (r9, h10))))))))
set_option maxRecDepth 10000 in
set_option maxHeartbeats 1000000 in
theorem ok_X7_driftsIn (l : Launch) (ω : WX) (N : Nat) : ∀ (n : Nat) {k0 : Nat} (hk0 : lay k0 = 7) (x1 : Int32) (x2 : Int32) (h : Mem), MC rvI l ω yX7_driftsIn cX7_driftsIn 3 (some .int) (1 + 1 * n) [.ref (ω.1 + k0), .int x1, .int x2] h (F_X7_driftsIn N n k0 x1 x2 h) := by
  intro n
  induction n with
  | zero =>
    intro k0 hk0 x1 x2 h r h1 e
    cases e
  | succ n ih =>
    intro k0 hk0 x1 x2 h
    rw [F_X7_driftsIn]
    refine MC.of (by decide +kernel) [(0, .ref (ω.1 + k0)), (1, .int x1), (2, .int x2)] rfl (Nat.le_of_ble_eq_true rfl) (fun χ K => ?_)
    have K : Kok ω χ "SaltCloudsModel" cX7_driftsIn 3 (some .int) (1 + 1 * (n + 1)) := K
    refine J_iload_n (pc := 0) K dX7_driftsIn_0 1 rfl 1 rfl ?_
    refine J_if_ne (pc := 1) K 17 dX7_driftsIn_1 (by decide) ?_ ?_
    · refine J_aload_n (pc := 4) K dX7_driftsIn_4 0 rfl 0 rfl ?_
      refine J_bipush (pc := 5) K (10) dX7_driftsIn_5 (by decide) ?_
      refine J_callVU (As := [.int (10 : Int32)]) (rest := []) (pc := 7) K cs_SaltCloudsModel_230 (ok_X7_ran l ω hk0 (10 : Int32) h) hk0 (by omega) rfl rfl (Nat.le_of_ble_eq_true rfl) dX7_driftsIn_7 (fun _ h2 => ?_)
      refine J_iload_n (pc := 10) K dX7_driftsIn_10 2 rfl 2 rfl ?_
      refine J_aload_n (pc := 11) K dX7_driftsIn_11 0 rfl 0 rfl ?_
      refine J_getI (pc := 12) K gf_SaltCloudsModel_233 hk0 rfl dX7_driftsIn_12 ?_
      refine J_iadd (pc := 15) K dX7_driftsIn_15 ?_
      exact J_iret (pc := 16) K dX7_driftsIn_16
    · refine J_iload_n (pc := 17) K dX7_driftsIn_17 1 rfl 1 rfl ?_
      refine J_iconst (pc := 18) K (1) dX7_driftsIn_18 (by decide) ?_
      refine J_icmp_ne (pc := 19) K 37 dX7_driftsIn_19 (by decide) ?_ ?_
      · refine J_aload_n (pc := 22) K dX7_driftsIn_22 0 rfl 0 rfl ?_
        refine J_bipush (pc := 23) K (20) dX7_driftsIn_23 (by decide) ?_
        refine J_callVU (As := [.int (20 : Int32)]) (rest := []) (pc := 25) K cs_SaltCloudsModel_230 (ok_X7_ran l ω hk0 (20 : Int32) h) hk0 (by omega) rfl rfl (Nat.le_of_ble_eq_true rfl) dX7_driftsIn_25 (fun _ h4 => ?_)
        refine J_aload_n (pc := 28) K dX7_driftsIn_28 0 rfl 0 rfl ?_
        refine J_iconst (pc := 29) K (0) dX7_driftsIn_29 (by decide) ?_
        refine J_iload_n (pc := 30) K dX7_driftsIn_30 2 rfl 2 rfl ?_
        refine J_callVI (As := [.int (0 : Int32), .int x2]) (rest := []) (pc := 31) K cs_SaltCloudsModel_236 (ih hk0 (0 : Int32) x2 h4) hk0 (by omega) rfl rfl (Nat.le_of_ble_eq_true rfl) dX7_driftsIn_31 (fun r5 h6 => ?_)
        refine J_iconst (pc := 34) K (3) dX7_driftsIn_34 (by decide) ?_
        refine J_imul (pc := 35) K dX7_driftsIn_35 ?_
        exact J_iret (pc := 36) K dX7_driftsIn_36
      · refine J_aload_n (pc := 37) K dX7_driftsIn_37 0 rfl 0 rfl ?_
        refine J_iload_n (pc := 38) K dX7_driftsIn_38 1 rfl 1 rfl ?_
        refine J_callTI (As := [.int x1]) (rest := [.ref (ω.1 + k0)]) (pc := 39) K cs_SaltCloudsModel_99 (ok_X7_above l ω x1 h) (by omega) rfl rfl (Nat.le_of_ble_eq_true rfl) dX7_driftsIn_39 (fun r7 h8 => ?_)
        refine J_iload_n (pc := 42) K dX7_driftsIn_42 2 rfl 2 rfl ?_
        refine J_callVI (As := [.int r7, .int x2]) (rest := []) (pc := 43) K cs_SaltCloudsModel_236 (ih hk0 r7 x2 h8) hk0 (by omega) rfl rfl (Nat.le_of_ble_eq_true rfl) dX7_driftsIn_43 (fun r9 h10 => ?_)
        exact J_iret (pc := 46) K dX7_driftsIn_46
def F_X7_tastesIn (N : Nat) : Nat → Nat → Int32 → Int32 → Mem → Option (Int32 × Mem)
  | 0, _, _, _, _ => none
  | n + 1, k0, x1, x2, h =>
    (if x1 = 0 then
      (bnd (F_X7_ran k0 (12 : Int32) h) (fun _ h2 =>
      (some (x2 - (h2 k0 23), h2))))
    else
      (if x1 = (3 : Int32) then
        (bnd (F_X7_ran k0 (40 : Int32) h) (fun _ h4 =>
        (bnd (F_X7_tastesIn N n k0 (0 : Int32) x2 h4) (fun r5 h6 =>
        (some (-r5, h6))))))
      else
        (if x1 = (6 : Int32) then
          (bnd (F_X7_ran k0 (70 : Int32) h) (fun _ h8 =>
          (bnd (F_X7_tastesIn N n k0 (3 : Int32) x2 h8) (fun r9 h10 =>
          (some (r9 ^^^ (h10 k0 22), h10))))))
        else
          (bnd (F_X7_above x1 h) (fun r11 h12 =>
          (bnd (F_X7_tastesIn N n k0 r11 x2 h12) (fun r13 h14 =>
          (some (r13, h14)))))))))
set_option maxRecDepth 10000 in
set_option maxHeartbeats 1000000 in
theorem ok_X7_tastesIn (l : Launch) (ω : WX) (N : Nat) : ∀ (n : Nat) {k0 : Nat} (hk0 : lay k0 = 7) (x1 : Int32) (x2 : Int32) (h : Mem), MC rvI l ω yX7_tastesIn cX7_tastesIn 3 (some .int) (1 + 1 * n) [.ref (ω.1 + k0), .int x1, .int x2] h (F_X7_tastesIn N n k0 x1 x2 h) := by
  intro n
  induction n with
  | zero =>
    intro k0 hk0 x1 x2 h r h1 e
    cases e
  | succ n ih =>
    intro k0 hk0 x1 x2 h
    rw [F_X7_tastesIn]
    refine MC.of (by decide +kernel) [(0, .ref (ω.1 + k0)), (1, .int x1), (2, .int x2)] rfl (Nat.le_of_ble_eq_true rfl) (fun χ K => ?_)
    have K : Kok ω χ "SaltCloudsModel" cX7_tastesIn 3 (some .int) (1 + 1 * (n + 1)) := K
    refine J_iload_n (pc := 0) K dX7_tastesIn_0 1 rfl 1 rfl ?_
    refine J_if_ne (pc := 1) K 17 dX7_tastesIn_1 (by decide) ?_ ?_
    · refine J_aload_n (pc := 4) K dX7_tastesIn_4 0 rfl 0 rfl ?_
      refine J_bipush (pc := 5) K (12) dX7_tastesIn_5 (by decide) ?_
      refine J_callVU (As := [.int (12 : Int32)]) (rest := []) (pc := 7) K cs_SaltCloudsModel_230 (ok_X7_ran l ω hk0 (12 : Int32) h) hk0 (by omega) rfl rfl (Nat.le_of_ble_eq_true rfl) dX7_tastesIn_7 (fun _ h2 => ?_)
      refine J_iload_n (pc := 10) K dX7_tastesIn_10 2 rfl 2 rfl ?_
      refine J_aload_n (pc := 11) K dX7_tastesIn_11 0 rfl 0 rfl ?_
      refine J_getI (pc := 12) K gf_SaltCloudsModel_239 hk0 rfl dX7_tastesIn_12 ?_
      refine J_isub (pc := 15) K dX7_tastesIn_15 ?_
      exact J_iret (pc := 16) K dX7_tastesIn_16
    · refine J_iload_n (pc := 17) K dX7_tastesIn_17 1 rfl 1 rfl ?_
      refine J_iconst (pc := 18) K (3) dX7_tastesIn_18 (by decide) ?_
      refine J_icmp_ne (pc := 19) K 36 dX7_tastesIn_19 (by decide) ?_ ?_
      · refine J_aload_n (pc := 22) K dX7_tastesIn_22 0 rfl 0 rfl ?_
        refine J_bipush (pc := 23) K (40) dX7_tastesIn_23 (by decide) ?_
        refine J_callVU (As := [.int (40 : Int32)]) (rest := []) (pc := 25) K cs_SaltCloudsModel_230 (ok_X7_ran l ω hk0 (40 : Int32) h) hk0 (by omega) rfl rfl (Nat.le_of_ble_eq_true rfl) dX7_tastesIn_25 (fun _ h4 => ?_)
        refine J_aload_n (pc := 28) K dX7_tastesIn_28 0 rfl 0 rfl ?_
        refine J_iconst (pc := 29) K (0) dX7_tastesIn_29 (by decide) ?_
        refine J_iload_n (pc := 30) K dX7_tastesIn_30 2 rfl 2 rfl ?_
        refine J_callVI (As := [.int (0 : Int32), .int x2]) (rest := []) (pc := 31) K cs_SaltCloudsModel_242 (ih hk0 (0 : Int32) x2 h4) hk0 (by omega) rfl rfl (Nat.le_of_ble_eq_true rfl) dX7_tastesIn_31 (fun r5 h6 => ?_)
        refine J_ineg (pc := 34) K dX7_tastesIn_34 ?_
        exact J_iret (pc := 35) K dX7_tastesIn_35
      · refine J_iload_n (pc := 36) K dX7_tastesIn_36 1 rfl 1 rfl ?_
        refine J_bipush (pc := 37) K (6) dX7_tastesIn_37 (by decide) ?_
        refine J_icmp_ne (pc := 39) K 60 dX7_tastesIn_39 (by decide) ?_ ?_
        · refine J_aload_n (pc := 42) K dX7_tastesIn_42 0 rfl 0 rfl ?_
          refine J_bipush (pc := 43) K (70) dX7_tastesIn_43 (by decide) ?_
          refine J_callVU (As := [.int (70 : Int32)]) (rest := []) (pc := 45) K cs_SaltCloudsModel_230 (ok_X7_ran l ω hk0 (70 : Int32) h) hk0 (by omega) rfl rfl (Nat.le_of_ble_eq_true rfl) dX7_tastesIn_45 (fun _ h8 => ?_)
          refine J_aload_n (pc := 48) K dX7_tastesIn_48 0 rfl 0 rfl ?_
          refine J_iconst (pc := 49) K (3) dX7_tastesIn_49 (by decide) ?_
          refine J_iload_n (pc := 50) K dX7_tastesIn_50 2 rfl 2 rfl ?_
          refine J_callVI (As := [.int (3 : Int32), .int x2]) (rest := []) (pc := 51) K cs_SaltCloudsModel_242 (ih hk0 (3 : Int32) x2 h8) hk0 (by omega) rfl rfl (Nat.le_of_ble_eq_true rfl) dX7_tastesIn_51 (fun r9 h10 => ?_)
          refine J_aload_n (pc := 54) K dX7_tastesIn_54 0 rfl 0 rfl ?_
          refine J_getI (pc := 55) K gf_SaltCloudsModel_233 hk0 rfl dX7_tastesIn_55 ?_
          refine J_ixor (pc := 58) K dX7_tastesIn_58 ?_
          exact J_iret (pc := 59) K dX7_tastesIn_59
        · refine J_aload_n (pc := 60) K dX7_tastesIn_60 0 rfl 0 rfl ?_
          refine J_iload_n (pc := 61) K dX7_tastesIn_61 1 rfl 1 rfl ?_
          refine J_callTI (As := [.int x1]) (rest := [.ref (ω.1 + k0)]) (pc := 62) K cs_SaltCloudsModel_99 (ok_X7_above l ω x1 h) (by omega) rfl rfl (Nat.le_of_ble_eq_true rfl) dX7_tastesIn_62 (fun r11 h12 => ?_)
          refine J_iload_n (pc := 65) K dX7_tastesIn_65 2 rfl 2 rfl ?_
          refine J_callVI (As := [.int r11, .int x2]) (rest := []) (pc := 66) K cs_SaltCloudsModel_242 (ih hk0 r11 x2 h12) hk0 (by omega) rfl rfl (Nat.le_of_ble_eq_true rfl) dX7_tastesIn_66 (fun r13 h14 => ?_)
          exact J_iret (pc := 69) K dX7_tastesIn_69
def F_X7_rainsIn (N : Nat) : Nat → Nat → Int32 → Int32 → Mem → Option (Int32 × Mem)
  | 0, _, _, _, _ => none
  | n + 1, k0, x1, x2, h =>
    (if x1 = 0 then
      (bnd (F_X7_ran k0 (11 : Int32) h) (fun _ h2 =>
      (bnd (F_X7_driftsIn N 4 k0 (h2 k0 21) x2 h2) (fun r3 h4 =>
      (some (r3 * (2 : Int32), h4))))))
    else
      (if x1 = (2 : Int32) then
        (bnd (F_X7_ran k0 (30 : Int32) h) (fun _ h6 =>
        (bnd (F_X7_rainsIn N n k0 (0 : Int32) x2 h6) (fun r7 h8 =>
        (bnd (F_X7_tastesIn N 4 k0 (h8 k0 21) (1 : Int32) h8) (fun r9 h10 =>
        (some (r7 - r9, h10))))))))
      else
        (if x1 = (5 : Int32) then
          (bnd (F_X7_ran k0 (60 : Int32) h) (fun _ h12 =>
          (bnd (F_X7_rainsIn N n k0 (2 : Int32) (x2 + (1 : Int32)) h12) (fun r13 h14 =>
          (some (r13, h14))))))
        else
          (bnd (F_X7_above x1 h) (fun r15 h16 =>
          (bnd (F_X7_rainsIn N n k0 r15 x2 h16) (fun r17 h18 =>
          (some (r17, h18)))))))))
set_option maxRecDepth 10000 in
set_option maxHeartbeats 1000000 in
theorem ok_X7_rainsIn (l : Launch) (ω : WX) (N : Nat) : ∀ (n : Nat) {k0 : Nat} (hk0 : lay k0 = 7) (x1 : Int32) (x2 : Int32) (h : Mem), MC rvI l ω yX7_rainsIn cX7_rainsIn 4 (some .int) (6 + 1 * n) [.ref (ω.1 + k0), .int x1, .int x2] h (F_X7_rainsIn N n k0 x1 x2 h) := by
  intro n
  induction n with
  | zero =>
    intro k0 hk0 x1 x2 h r h1 e
    cases e
  | succ n ih =>
    intro k0 hk0 x1 x2 h
    rw [F_X7_rainsIn]
    refine MC.of (by decide +kernel) [(0, .ref (ω.1 + k0)), (1, .int x1), (2, .int x2)] rfl (Nat.le_of_ble_eq_true rfl) (fun χ K => ?_)
    have K : Kok ω χ "SaltCloudsModel" cX7_rainsIn 4 (some .int) (6 + 1 * (n + 1)) := K
    refine J_iload_n (pc := 0) K dX7_rainsIn_0 1 rfl 1 rfl ?_
    refine J_if_ne (pc := 1) K 22 dX7_rainsIn_1 (by decide) ?_ ?_
    · refine J_aload_n (pc := 4) K dX7_rainsIn_4 0 rfl 0 rfl ?_
      refine J_bipush (pc := 5) K (11) dX7_rainsIn_5 (by decide) ?_
      refine J_callVU (As := [.int (11 : Int32)]) (rest := []) (pc := 7) K cs_SaltCloudsModel_230 (ok_X7_ran l ω hk0 (11 : Int32) h) hk0 (by omega) rfl rfl (Nat.le_of_ble_eq_true rfl) dX7_rainsIn_7 (fun _ h2 => ?_)
      refine J_aload_n (pc := 10) K dX7_rainsIn_10 0 rfl 0 rfl ?_
      refine J_aload_n (pc := 11) K dX7_rainsIn_11 0 rfl 0 rfl ?_
      refine J_getI (pc := 12) K gf_SaltCloudsModel_245 hk0 rfl dX7_rainsIn_12 ?_
      refine J_iload_n (pc := 15) K dX7_rainsIn_15 2 rfl 2 rfl ?_
      refine J_callVI (As := [.int (h2 k0 21), .int x2]) (rest := []) (pc := 16) K cs_SaltCloudsModel_236 (ok_X7_driftsIn l ω N 4 hk0 (h2 k0 21) x2 h2) hk0 (by omega) rfl rfl (Nat.le_of_ble_eq_true rfl) dX7_rainsIn_16 (fun r3 h4 => ?_)
      refine J_iconst (pc := 19) K (2) dX7_rainsIn_19 (by decide) ?_
      refine J_imul (pc := 20) K dX7_rainsIn_20 ?_
      exact J_iret (pc := 21) K dX7_rainsIn_21
    · refine J_iload_n (pc := 22) K dX7_rainsIn_22 1 rfl 1 rfl ?_
      refine J_iconst (pc := 23) K (2) dX7_rainsIn_23 (by decide) ?_
      refine J_icmp_ne (pc := 24) K 52 dX7_rainsIn_24 (by decide) ?_ ?_
      · refine J_aload_n (pc := 27) K dX7_rainsIn_27 0 rfl 0 rfl ?_
        refine J_bipush (pc := 28) K (30) dX7_rainsIn_28 (by decide) ?_
        refine J_callVU (As := [.int (30 : Int32)]) (rest := []) (pc := 30) K cs_SaltCloudsModel_230 (ok_X7_ran l ω hk0 (30 : Int32) h) hk0 (by omega) rfl rfl (Nat.le_of_ble_eq_true rfl) dX7_rainsIn_30 (fun _ h6 => ?_)
        refine J_aload_n (pc := 33) K dX7_rainsIn_33 0 rfl 0 rfl ?_
        refine J_iconst (pc := 34) K (0) dX7_rainsIn_34 (by decide) ?_
        refine J_iload_n (pc := 35) K dX7_rainsIn_35 2 rfl 2 rfl ?_
        refine J_callVI (As := [.int (0 : Int32), .int x2]) (rest := []) (pc := 36) K cs_SaltCloudsModel_248 (ih hk0 (0 : Int32) x2 h6) hk0 (by omega) rfl rfl (Nat.le_of_ble_eq_true rfl) dX7_rainsIn_36 (fun r7 h8 => ?_)
        refine J_istore_n (pc := 39) K dX7_rainsIn_39 3 rfl (by decide) [(3, .int r7), (0, .ref (ω.1 + k0)), (1, .int x1), (2, .int x2)] rfl ?_
        refine J_iload_n (pc := 40) K dX7_rainsIn_40 3 rfl 0 rfl ?_
        refine J_aload_n (pc := 41) K dX7_rainsIn_41 0 rfl 1 rfl ?_
        refine J_aload_n (pc := 42) K dX7_rainsIn_42 0 rfl 1 rfl ?_
        refine J_getI (pc := 43) K gf_SaltCloudsModel_245 hk0 rfl dX7_rainsIn_43 ?_
        refine J_iconst (pc := 46) K (1) dX7_rainsIn_46 (by decide) ?_
        refine J_callVI (As := [.int (h8 k0 21), .int (1 : Int32)]) (rest := [.int r7]) (pc := 47) K cs_SaltCloudsModel_242 (ok_X7_tastesIn l ω N 4 hk0 (h8 k0 21) (1 : Int32) h8) hk0 (by omega) rfl rfl (Nat.le_of_ble_eq_true rfl) dX7_rainsIn_47 (fun r9 h10 => ?_)
        refine J_isub (pc := 50) K dX7_rainsIn_50 ?_
        exact J_iret (pc := 51) K dX7_rainsIn_51
      · refine J_iload_n (pc := 52) K dX7_rainsIn_52 1 rfl 1 rfl ?_
        refine J_iconst (pc := 53) K (5) dX7_rainsIn_53 (by decide) ?_
        refine J_icmp_ne (pc := 54) K 72 dX7_rainsIn_54 (by decide) ?_ ?_
        · refine J_aload_n (pc := 57) K dX7_rainsIn_57 0 rfl 0 rfl ?_
          refine J_bipush (pc := 58) K (60) dX7_rainsIn_58 (by decide) ?_
          refine J_callVU (As := [.int (60 : Int32)]) (rest := []) (pc := 60) K cs_SaltCloudsModel_230 (ok_X7_ran l ω hk0 (60 : Int32) h) hk0 (by omega) rfl rfl (Nat.le_of_ble_eq_true rfl) dX7_rainsIn_60 (fun _ h12 => ?_)
          refine J_aload_n (pc := 63) K dX7_rainsIn_63 0 rfl 0 rfl ?_
          refine J_iconst (pc := 64) K (2) dX7_rainsIn_64 (by decide) ?_
          refine J_iload_n (pc := 65) K dX7_rainsIn_65 2 rfl 2 rfl ?_
          refine J_iconst (pc := 66) K (1) dX7_rainsIn_66 (by decide) ?_
          refine J_iadd (pc := 67) K dX7_rainsIn_67 ?_
          refine J_callVI (As := [.int (2 : Int32), .int (x2 + (1 : Int32))]) (rest := []) (pc := 68) K cs_SaltCloudsModel_248 (ih hk0 (2 : Int32) (x2 + (1 : Int32)) h12) hk0 (by omega) rfl rfl (Nat.le_of_ble_eq_true rfl) dX7_rainsIn_68 (fun r13 h14 => ?_)
          exact J_iret (pc := 71) K dX7_rainsIn_71
        · refine J_aload_n (pc := 72) K dX7_rainsIn_72 0 rfl 0 rfl ?_
          refine J_iload_n (pc := 73) K dX7_rainsIn_73 1 rfl 1 rfl ?_
          refine J_callTI (As := [.int x1]) (rest := [.ref (ω.1 + k0)]) (pc := 74) K cs_SaltCloudsModel_99 (ok_X7_above l ω x1 h) (by omega) rfl rfl (Nat.le_of_ble_eq_true rfl) dX7_rainsIn_74 (fun r15 h16 => ?_)
          refine J_iload_n (pc := 77) K dX7_rainsIn_77 2 rfl 2 rfl ?_
          refine J_callVI (As := [.int r15, .int x2]) (rest := []) (pc := 78) K cs_SaltCloudsModel_248 (ih hk0 r15 x2 h16) hk0 (by omega) rfl rfl (Nat.le_of_ble_eq_true rfl) dX7_rainsIn_78 (fun r17 h18 => ?_)
          exact J_iret (pc := 81) K dX7_rainsIn_81
def F_X7_tellsIn (N : Nat) : Nat → Nat → Int32 → Int32 → Mem → Option (Int32 × Mem)
  | 0, _, _, _, _ => none
  | n + 1, k0, x1, x2, h =>
    (if x1 = 0 then
      (bnd (F_X7_ran k0 (13 : Int32) h) (fun _ h2 =>
      (bnd (F_X7_rainsIn N 4 k0 (h2 k0 21) x2 h2) (fun r3 h4 =>
      (bnd (F_X7_tastesIn N 4 k0 (h4 k0 21) x2 h4) (fun r5 h6 =>
      (some (r3 ^^^ r5, h6))))))))
    else
      (if x1 = (4 : Int32) then
        (bnd (F_X7_ran k0 (50 : Int32) h) (fun _ h8 =>
        (bnd (F_X7_tellsIn N n k0 (1 : Int32) x2 h8) (fun r9 h10 =>
        (bnd (F_X7_driftsIn N 4 k0 (h10 k0 21) (2 : Int32) h10) (fun r11 h12 =>
        (some (r9 - r11, h12))))))))
      else
        (if x1 = (6 : Int32) then
          (bnd (F_X7_ran k0 (71 : Int32) h) (fun _ h14 =>
          (bnd (F_X7_rainsIn N 4 k0 (h14 k0 21) x2 h14) (fun r15 h16 =>
          (bnd (F_X7_tellsIn N n k0 (3 : Int32) x2 h16) (fun r17 h18 =>
          (some (r15 - r17, h18))))))))
        else
          (bnd (F_X7_above x1 h) (fun r19 h20 =>
          (bnd (F_X7_tellsIn N n k0 r19 x2 h20) (fun r21 h22 =>
          (some (r21, h22)))))))))
set_option maxRecDepth 10000 in
set_option maxHeartbeats 1000000 in
theorem ok_X7_tellsIn (l : Launch) (ω : WX) (N : Nat) : ∀ (n : Nat) {k0 : Nat} (hk0 : lay k0 = 7) (x1 : Int32) (x2 : Int32) (h : Mem), MC rvI l ω yX7_tellsIn cX7_tellsIn 4 (some .int) (11 + 1 * n) [.ref (ω.1 + k0), .int x1, .int x2] h (F_X7_tellsIn N n k0 x1 x2 h) := by
  intro n
  induction n with
  | zero =>
    intro k0 hk0 x1 x2 h r h1 e
    cases e
  | succ n ih =>
    intro k0 hk0 x1 x2 h
    rw [F_X7_tellsIn]
    refine MC.of (by decide +kernel) [(0, .ref (ω.1 + k0)), (1, .int x1), (2, .int x2)] rfl (Nat.le_of_ble_eq_true rfl) (fun χ K => ?_)
    have K : Kok ω χ "SaltCloudsModel" cX7_tellsIn 4 (some .int) (11 + 1 * (n + 1)) := K
    refine J_iload_n (pc := 0) K dX7_tellsIn_0 1 rfl 1 rfl ?_
    refine J_if_ne (pc := 1) K 32 dX7_tellsIn_1 (by decide) ?_ ?_
    · refine J_aload_n (pc := 4) K dX7_tellsIn_4 0 rfl 0 rfl ?_
      refine J_bipush (pc := 5) K (13) dX7_tellsIn_5 (by decide) ?_
      refine J_callVU (As := [.int (13 : Int32)]) (rest := []) (pc := 7) K cs_SaltCloudsModel_230 (ok_X7_ran l ω hk0 (13 : Int32) h) hk0 (by omega) rfl rfl (Nat.le_of_ble_eq_true rfl) dX7_tellsIn_7 (fun _ h2 => ?_)
      refine J_aload_n (pc := 10) K dX7_tellsIn_10 0 rfl 0 rfl ?_
      refine J_aload_n (pc := 11) K dX7_tellsIn_11 0 rfl 0 rfl ?_
      refine J_getI (pc := 12) K gf_SaltCloudsModel_245 hk0 rfl dX7_tellsIn_12 ?_
      refine J_iload_n (pc := 15) K dX7_tellsIn_15 2 rfl 2 rfl ?_
      refine J_callVI (As := [.int (h2 k0 21), .int x2]) (rest := []) (pc := 16) K cs_SaltCloudsModel_248 (ok_X7_rainsIn l ω N 4 hk0 (h2 k0 21) x2 h2) hk0 (by omega) rfl rfl (Nat.le_of_ble_eq_true rfl) dX7_tellsIn_16 (fun r3 h4 => ?_)
      refine J_istore_n (pc := 19) K dX7_tellsIn_19 3 rfl (by decide) [(3, .int r3), (0, .ref (ω.1 + k0)), (1, .int x1), (2, .int x2)] rfl ?_
      refine J_iload_n (pc := 20) K dX7_tellsIn_20 3 rfl 0 rfl ?_
      refine J_aload_n (pc := 21) K dX7_tellsIn_21 0 rfl 1 rfl ?_
      refine J_aload_n (pc := 22) K dX7_tellsIn_22 0 rfl 1 rfl ?_
      refine J_getI (pc := 23) K gf_SaltCloudsModel_245 hk0 rfl dX7_tellsIn_23 ?_
      refine J_iload_n (pc := 26) K dX7_tellsIn_26 2 rfl 3 rfl ?_
      refine J_callVI (As := [.int (h4 k0 21), .int x2]) (rest := [.int r3]) (pc := 27) K cs_SaltCloudsModel_242 (ok_X7_tastesIn l ω N 4 hk0 (h4 k0 21) x2 h4) hk0 (by omega) rfl rfl (Nat.le_of_ble_eq_true rfl) dX7_tellsIn_27 (fun r5 h6 => ?_)
      refine J_ixor (pc := 30) K dX7_tellsIn_30 ?_
      exact J_iret (pc := 31) K dX7_tellsIn_31
    · refine J_iload_n (pc := 32) K dX7_tellsIn_32 1 rfl 1 rfl ?_
      refine J_iconst (pc := 33) K (4) dX7_tellsIn_33 (by decide) ?_
      refine J_icmp_ne (pc := 34) K 62 dX7_tellsIn_34 (by decide) ?_ ?_
      · refine J_aload_n (pc := 37) K dX7_tellsIn_37 0 rfl 0 rfl ?_
        refine J_bipush (pc := 38) K (50) dX7_tellsIn_38 (by decide) ?_
        refine J_callVU (As := [.int (50 : Int32)]) (rest := []) (pc := 40) K cs_SaltCloudsModel_230 (ok_X7_ran l ω hk0 (50 : Int32) h) hk0 (by omega) rfl rfl (Nat.le_of_ble_eq_true rfl) dX7_tellsIn_40 (fun _ h8 => ?_)
        refine J_aload_n (pc := 43) K dX7_tellsIn_43 0 rfl 0 rfl ?_
        refine J_iconst (pc := 44) K (1) dX7_tellsIn_44 (by decide) ?_
        refine J_iload_n (pc := 45) K dX7_tellsIn_45 2 rfl 2 rfl ?_
        refine J_callVI (As := [.int (1 : Int32), .int x2]) (rest := []) (pc := 46) K cs_SaltCloudsModel_251 (ih hk0 (1 : Int32) x2 h8) hk0 (by omega) rfl rfl (Nat.le_of_ble_eq_true rfl) dX7_tellsIn_46 (fun r9 h10 => ?_)
        refine J_istore_n (pc := 49) K dX7_tellsIn_49 3 rfl (by decide) [(3, .int r9), (0, .ref (ω.1 + k0)), (1, .int x1), (2, .int x2)] rfl ?_
        refine J_iload_n (pc := 50) K dX7_tellsIn_50 3 rfl 0 rfl ?_
        refine J_aload_n (pc := 51) K dX7_tellsIn_51 0 rfl 1 rfl ?_
        refine J_aload_n (pc := 52) K dX7_tellsIn_52 0 rfl 1 rfl ?_
        refine J_getI (pc := 53) K gf_SaltCloudsModel_245 hk0 rfl dX7_tellsIn_53 ?_
        refine J_iconst (pc := 56) K (2) dX7_tellsIn_56 (by decide) ?_
        refine J_callVI (As := [.int (h10 k0 21), .int (2 : Int32)]) (rest := [.int r9]) (pc := 57) K cs_SaltCloudsModel_236 (ok_X7_driftsIn l ω N 4 hk0 (h10 k0 21) (2 : Int32) h10) hk0 (by omega) rfl rfl (Nat.le_of_ble_eq_true rfl) dX7_tellsIn_57 (fun r11 h12 => ?_)
        refine J_isub (pc := 60) K dX7_tellsIn_60 ?_
        exact J_iret (pc := 61) K dX7_tellsIn_61
      · refine J_iload_n (pc := 62) K dX7_tellsIn_62 1 rfl 1 rfl ?_
        refine J_bipush (pc := 63) K (6) dX7_tellsIn_63 (by decide) ?_
        refine J_icmp_ne (pc := 65) K 93 dX7_tellsIn_65 (by decide) ?_ ?_
        · refine J_aload_n (pc := 68) K dX7_tellsIn_68 0 rfl 0 rfl ?_
          refine J_bipush (pc := 69) K (71) dX7_tellsIn_69 (by decide) ?_
          refine J_callVU (As := [.int (71 : Int32)]) (rest := []) (pc := 71) K cs_SaltCloudsModel_230 (ok_X7_ran l ω hk0 (71 : Int32) h) hk0 (by omega) rfl rfl (Nat.le_of_ble_eq_true rfl) dX7_tellsIn_71 (fun _ h14 => ?_)
          refine J_aload_n (pc := 74) K dX7_tellsIn_74 0 rfl 0 rfl ?_
          refine J_aload_n (pc := 75) K dX7_tellsIn_75 0 rfl 0 rfl ?_
          refine J_getI (pc := 76) K gf_SaltCloudsModel_245 hk0 rfl dX7_tellsIn_76 ?_
          refine J_iload_n (pc := 79) K dX7_tellsIn_79 2 rfl 2 rfl ?_
          refine J_callVI (As := [.int (h14 k0 21), .int x2]) (rest := []) (pc := 80) K cs_SaltCloudsModel_248 (ok_X7_rainsIn l ω N 4 hk0 (h14 k0 21) x2 h14) hk0 (by omega) rfl rfl (Nat.le_of_ble_eq_true rfl) dX7_tellsIn_80 (fun r15 h16 => ?_)
          refine J_istore_n (pc := 83) K dX7_tellsIn_83 3 rfl (by decide) [(3, .int r15), (0, .ref (ω.1 + k0)), (1, .int x1), (2, .int x2)] rfl ?_
          refine J_iload_n (pc := 84) K dX7_tellsIn_84 3 rfl 0 rfl ?_
          refine J_aload_n (pc := 85) K dX7_tellsIn_85 0 rfl 1 rfl ?_
          refine J_iconst (pc := 86) K (3) dX7_tellsIn_86 (by decide) ?_
          refine J_iload_n (pc := 87) K dX7_tellsIn_87 2 rfl 3 rfl ?_
          refine J_callVI (As := [.int (3 : Int32), .int x2]) (rest := [.int r15]) (pc := 88) K cs_SaltCloudsModel_251 (ih hk0 (3 : Int32) x2 h16) hk0 (by omega) rfl rfl (Nat.le_of_ble_eq_true rfl) dX7_tellsIn_88 (fun r17 h18 => ?_)
          refine J_isub (pc := 91) K dX7_tellsIn_91 ?_
          exact J_iret (pc := 92) K dX7_tellsIn_92
        · refine J_aload_n (pc := 93) K dX7_tellsIn_93 0 rfl 0 rfl ?_
          refine J_iload_n (pc := 94) K dX7_tellsIn_94 1 rfl 1 rfl ?_
          refine J_callTI (As := [.int x1]) (rest := [.ref (ω.1 + k0)]) (pc := 95) K cs_SaltCloudsModel_99 (ok_X7_above l ω x1 h) (by omega) rfl rfl (Nat.le_of_ble_eq_true rfl) dX7_tellsIn_95 (fun r19 h20 => ?_)
          refine J_iload_n (pc := 98) K dX7_tellsIn_98 2 rfl 2 rfl ?_
          refine J_callVI (As := [.int r19, .int x2]) (rest := []) (pc := 99) K cs_SaltCloudsModel_251 (ih hk0 r19 x2 h20) hk0 (by omega) rfl rfl (Nat.le_of_ble_eq_true rfl) dX7_tellsIn_99 (fun r21 h22 => ?_)
          exact J_iret (pc := 102) K dX7_tellsIn_102
def F_X7_voice (N : Nat) (k0 : Nat) (x1 : Int32) (x2 : Int32) (x3 : Int32) (h : Mem) : Option (Int32 × Mem) :=
  (bnd (F_X7_isCloud k0 x1 h) (fun r1 h2 =>
  (if r1 = 0 then
    (bnd (F_X7_errs k0 (-1000000001 : Int32) h2) (fun r3 h4 =>
    (some (r3, h4))))
  else
    (bnd (F_X7_in x2 (0 : Int32) (3 : Int32) h2) (fun r5 h6 =>
    (if r5 = 0 then
      (bnd (F_X7_errs k0 (-1000000001 : Int32) h6) (fun r7 h8 =>
      (some (r7, h8))))
    else
      (seqh (upm h6 k0 20 (0 : Int32)) (fun h9 =>
      (bnd (F_X7_its k0 x1 (0 : Int32) h9) (fun r10 h11 =>
      (seqh (upm h11 k0 21 r10) (fun h12 =>
      (seqh (upm h12 k0 22 x1) (fun h13 =>
      (bnd (F_X7_its k0 x1 (1 : Int32) h13) (fun r14 h15 =>
      (seqh (upm h15 k0 23 r14) (fun h16 =>
      (if x2 = (0 : Int32) then
        (bnd (F_X7_driftsIn N 4 k0 (h16 k0 21) x3 h16) (fun r17 h18 =>
        (some (r17, h18))))
      else
        (if x2 = (1 : Int32) then
          (bnd (F_X7_rainsIn N 4 k0 (h16 k0 21) x3 h16) (fun r19 h20 =>
          (some (r19, h20))))
        else
          (if x2 = (2 : Int32) then
            (bnd (F_X7_tastesIn N 4 k0 (h16 k0 21) x3 h16) (fun r21 h22 =>
            (some (r21, h22))))
          else
            (bnd (F_X7_tellsIn N 4 k0 (h16 k0 21) x3 h16) (fun r23 h24 =>
            (some (r23, h24)))))))))))))))))))))))))
set_option maxRecDepth 10000 in
set_option maxHeartbeats 1000000 in
theorem ok_X7_voice (l : Launch) (ω : WX) (N : Nat) {k0 : Nat} (hk0 : lay k0 = 7) (x1 : Int32) (x2 : Int32) (x3 : Int32) (h : Mem) : MC rvI l ω yX7_voice cX7_voice 4 (some .int) 16 [.ref (ω.1 + k0), .int x1, .int x2, .int x3] h (F_X7_voice N k0 x1 x2 x3 h) := by
  refine MC.of (by decide +kernel) [(0, .ref (ω.1 + k0)), (1, .int x1), (2, .int x2), (3, .int x3)] rfl (Nat.le_of_ble_eq_true rfl) (fun χ K => ?_)
  have K : Kok ω χ "SaltCloudsModel" cX7_voice 4 (some .int) 16 := K
  unfold F_X7_voice
  refine J_aload_n (pc := 0) K dX7_voice_0 0 rfl 0 rfl ?_
  refine J_iload_n (pc := 1) K dX7_voice_1 1 rfl 1 rfl ?_
  refine J_callVI (As := [.int x1]) (rest := []) (pc := 2) K cs_SaltCloudsModel_83 (ok_X7_isCloud l ω hk0 x1 h) hk0 (by decide) rfl rfl (Nat.le_of_ble_eq_true rfl) dX7_voice_2 (fun r1 h2 => ?_)
  refine J_if_eq (pc := 5) K 17 dX7_voice_5 (by decide) ?_ ?_
  · refine J_aload_n (pc := 17) K dX7_voice_17 0 rfl 0 rfl ?_
    refine J_ldc (pc := 18) K kc_SaltCloudsModel_53 dX7_voice_18 ?_
    refine J_callVI (As := [.int (-1000000001 : Int32)]) (rest := []) (pc := 20) K cs_SaltCloudsModel_54 (ok_X7_errs l ω hk0 (-1000000001 : Int32) h2) hk0 (by decide) rfl rfl (Nat.le_of_ble_eq_true rfl) dX7_voice_20 (fun r3 h4 => ?_)
    exact J_iret (pc := 23) K dX7_voice_23
  · refine J_iload_n (pc := 8) K dX7_voice_8 2 rfl 2 rfl ?_
    refine J_iconst (pc := 9) K (0) dX7_voice_9 (by decide) ?_
    refine J_iconst (pc := 10) K (3) dX7_voice_10 (by decide) ?_
    refine J_callTI (As := [.int x2, .int (0 : Int32), .int (3 : Int32)]) (rest := []) (pc := 11) K cs_SaltCloudsModel_41 (ok_X7_in l ω x2 (0 : Int32) (3 : Int32) h2) (by decide) rfl rfl (Nat.le_of_ble_eq_true rfl) dX7_voice_11 (fun r5 h6 => ?_)
    refine J_if_ne (pc := 14) K 24 dX7_voice_14 (by decide) ?_ ?_
    · refine J_aload_n (pc := 17) K dX7_voice_17 0 rfl 0 rfl ?_
      refine J_ldc (pc := 18) K kc_SaltCloudsModel_53 dX7_voice_18 ?_
      refine J_callVI (As := [.int (-1000000001 : Int32)]) (rest := []) (pc := 20) K cs_SaltCloudsModel_54 (ok_X7_errs l ω hk0 (-1000000001 : Int32) h6) hk0 (by decide) rfl rfl (Nat.le_of_ble_eq_true rfl) dX7_voice_20 (fun r7 h8 => ?_)
      exact J_iret (pc := 23) K dX7_voice_23
    · refine J_aload_n (pc := 24) K dX7_voice_24 0 rfl 0 rfl ?_
      refine J_iconst (pc := 25) K (0) dX7_voice_25 (by decide) ?_
      refine J_putI (pc := 26) K gf_SaltCloudsModel_227 hk0 (by decide) rfl dX7_voice_26 (fun h9 => ?_)
      refine J_aload_n (pc := 29) K dX7_voice_29 0 rfl 0 rfl ?_
      refine J_aload_n (pc := 30) K dX7_voice_30 0 rfl 0 rfl ?_
      refine J_iload_n (pc := 31) K dX7_voice_31 1 rfl 1 rfl ?_
      refine J_iconst (pc := 32) K (0) dX7_voice_32 (by decide) ?_
      refine J_callVI (As := [.int x1, .int (0 : Int32)]) (rest := [.ref (ω.1 + k0)]) (pc := 33) K cs_SaltCloudsModel_45 (ok_X7_its l ω hk0 x1 (0 : Int32) h9) hk0 (by decide) rfl rfl (Nat.le_of_ble_eq_true rfl) dX7_voice_33 (fun r10 h11 => ?_)
      refine J_putI (pc := 36) K gf_SaltCloudsModel_245 hk0 (by decide) rfl dX7_voice_36 (fun h12 => ?_)
      refine J_aload_n (pc := 39) K dX7_voice_39 0 rfl 0 rfl ?_
      refine J_iload_n (pc := 40) K dX7_voice_40 1 rfl 1 rfl ?_
      refine J_putI (pc := 41) K gf_SaltCloudsModel_233 hk0 (by decide) rfl dX7_voice_41 (fun h13 => ?_)
      refine J_aload_n (pc := 44) K dX7_voice_44 0 rfl 0 rfl ?_
      refine J_aload_n (pc := 45) K dX7_voice_45 0 rfl 0 rfl ?_
      refine J_iload_n (pc := 46) K dX7_voice_46 1 rfl 1 rfl ?_
      refine J_iconst (pc := 47) K (1) dX7_voice_47 (by decide) ?_
      refine J_callVI (As := [.int x1, .int (1 : Int32)]) (rest := [.ref (ω.1 + k0)]) (pc := 48) K cs_SaltCloudsModel_45 (ok_X7_its l ω hk0 x1 (1 : Int32) h13) hk0 (by decide) rfl rfl (Nat.le_of_ble_eq_true rfl) dX7_voice_48 (fun r14 h15 => ?_)
      refine J_putI (pc := 51) K gf_SaltCloudsModel_239 hk0 (by decide) rfl dX7_voice_51 (fun h16 => ?_)
      refine J_iload_n (pc := 54) K dX7_voice_54 2 rfl 2 rfl ?_
      refine J_ite (fun e55_0 => ?_) (fun e55_0 => ?_)
      · refine J_tableIn (pc := 55) K (v := 0) 80 e55_0 dX7_voice_55 (by decide) (by decide) rfl (by decide) ?_
        refine J_aload_n (pc := 80) K dX7_voice_80 0 rfl 0 rfl ?_
        refine J_aload_n (pc := 81) K dX7_voice_81 0 rfl 0 rfl ?_
        refine J_getI (pc := 82) K gf_SaltCloudsModel_245 hk0 rfl dX7_voice_82 ?_
        refine J_iload_n (pc := 85) K dX7_voice_85 3 rfl 3 rfl ?_
        refine J_callVI (As := [.int (h16 k0 21), .int x3]) (rest := []) (pc := 86) K cs_SaltCloudsModel_236 (ok_X7_driftsIn l ω N 4 hk0 (h16 k0 21) x3 h16) hk0 (by decide) rfl rfl (Nat.le_of_ble_eq_true rfl) dX7_voice_86 (fun r17 h18 => ?_)
        exact J_iret (pc := 89) K dX7_voice_89
      · refine J_ite (fun e55_1 => ?_) (fun e55_1 => ?_)
        · refine J_tableIn (pc := 55) K (v := 1) 90 e55_1 dX7_voice_55 (by decide) (by decide) rfl (by decide) ?_
          refine J_aload_n (pc := 90) K dX7_voice_90 0 rfl 0 rfl ?_
          refine J_aload_n (pc := 91) K dX7_voice_91 0 rfl 0 rfl ?_
          refine J_getI (pc := 92) K gf_SaltCloudsModel_245 hk0 rfl dX7_voice_92 ?_
          refine J_iload_n (pc := 95) K dX7_voice_95 3 rfl 3 rfl ?_
          refine J_callVI (As := [.int (h16 k0 21), .int x3]) (rest := []) (pc := 96) K cs_SaltCloudsModel_248 (ok_X7_rainsIn l ω N 4 hk0 (h16 k0 21) x3 h16) hk0 (by decide) rfl rfl (Nat.le_of_ble_eq_true rfl) dX7_voice_96 (fun r19 h20 => ?_)
          exact J_iret (pc := 99) K dX7_voice_99
        · refine J_ite (fun e55_2 => ?_) (fun e55_2 => ?_)
          · refine J_tableIn (pc := 55) K (v := 2) 100 e55_2 dX7_voice_55 (by decide) (by decide) rfl (by decide) ?_
            refine J_aload_n (pc := 100) K dX7_voice_100 0 rfl 0 rfl ?_
            refine J_aload_n (pc := 101) K dX7_voice_101 0 rfl 0 rfl ?_
            refine J_getI (pc := 102) K gf_SaltCloudsModel_245 hk0 rfl dX7_voice_102 ?_
            refine J_iload_n (pc := 105) K dX7_voice_105 3 rfl 3 rfl ?_
            refine J_callVI (As := [.int (h16 k0 21), .int x3]) (rest := []) (pc := 106) K cs_SaltCloudsModel_242 (ok_X7_tastesIn l ω N 4 hk0 (h16 k0 21) x3 h16) hk0 (by decide) rfl rfl (Nat.le_of_ble_eq_true rfl) dX7_voice_106 (fun r21 h22 => ?_)
            exact J_iret (pc := 109) K dX7_voice_109
          · refine J_tableOut (pc := 55) K 110 dX7_voice_55 (by have q0 := lv_neT e55_0 (a := 0) (by decide); have q1 := lv_neT e55_1 (a := 1) (by decide); have q2 := lv_neT e55_2 (a := 2) (by decide); omega) (by decide) ?_
            refine J_aload_n (pc := 110) K dX7_voice_110 0 rfl 0 rfl ?_
            refine J_aload_n (pc := 111) K dX7_voice_111 0 rfl 0 rfl ?_
            refine J_getI (pc := 112) K gf_SaltCloudsModel_245 hk0 rfl dX7_voice_112 ?_
            refine J_iload_n (pc := 115) K dX7_voice_115 3 rfl 3 rfl ?_
            refine J_callVI (As := [.int (h16 k0 21), .int x3]) (rest := []) (pc := 116) K cs_SaltCloudsModel_251 (ok_X7_tellsIn l ω N 4 hk0 (h16 k0 21) x3 h16) hk0 (by decide) rfl rfl (Nat.le_of_ble_eq_true rfl) dX7_voice_116 (fun r23 h24 => ?_)
            exact J_iret (pc := 119) K dX7_voice_119
def F_X7_trace (k0 : Nat) (x1 : Int32) (h : Mem) : Option (Int32 × Mem) :=
  (bnd (F_X7_in x1 (0 : Int32) ((h k0 20) - (1 : Int32)) h) (fun r1 h2 =>
  (if r1 = 0 then
    (bnd (F_X7_errs k0 (-1000000002 : Int32) h2) (fun r3 h4 =>
    (some (r3, h4))))
  else
    (gin x1 40
    (some (h2 (k0 + 10) (ix x1), h2))))))
set_option maxRecDepth 10000 in
set_option maxHeartbeats 1000000 in
theorem ok_X7_trace (l : Launch) (ω : WX) {k0 : Nat} (hk0 : lay k0 = 7) (x1 : Int32) (h : Mem) : MC rvI l ω yX7_trace cX7_trace 2 (some .int) 1 [.ref (ω.1 + k0), .int x1] h (F_X7_trace k0 x1 h) := by
  refine MC.of (by decide +kernel) [(0, .ref (ω.1 + k0)), (1, .int x1)] rfl (Nat.le_of_ble_eq_true rfl) (fun χ K => ?_)
  have K : Kok ω χ "SaltCloudsModel" cX7_trace 2 (some .int) 1 := K
  unfold F_X7_trace
  refine J_iload_n (pc := 0) K dX7_trace_0 1 rfl 1 rfl ?_
  refine J_iconst (pc := 1) K (0) dX7_trace_1 (by decide) ?_
  refine J_aload_n (pc := 2) K dX7_trace_2 0 rfl 0 rfl ?_
  refine J_getI (pc := 3) K gf_SaltCloudsModel_227 hk0 rfl dX7_trace_3 ?_
  refine J_iconst (pc := 6) K (1) dX7_trace_6 (by decide) ?_
  refine J_isub (pc := 7) K dX7_trace_7 ?_
  refine J_callTI (As := [.int x1, .int (0 : Int32), .int ((h k0 20) - (1 : Int32))]) (rest := []) (pc := 8) K cs_SaltCloudsModel_41 (ok_X7_in l ω x1 (0 : Int32) ((h k0 20) - (1 : Int32)) h) (by decide) rfl rfl (Nat.le_of_ble_eq_true rfl) dX7_trace_8 (fun r1 h2 => ?_)
  refine J_if_eq (pc := 11) K 23 dX7_trace_11 (by decide) ?_ ?_
  · refine J_aload_n (pc := 23) K dX7_trace_23 0 rfl 0 rfl ?_
    refine J_ldc (pc := 24) K kc_SaltCloudsModel_211 dX7_trace_24 ?_
    refine J_callVI (As := [.int (-1000000002 : Int32)]) (rest := []) (pc := 26) K cs_SaltCloudsModel_54 (ok_X7_errs l ω hk0 (-1000000002 : Int32) h2) hk0 (by decide) rfl rfl (Nat.le_of_ble_eq_true rfl) dX7_trace_26 (fun r3 h4 => ?_)
    exact J_iret (pc := 29) K dX7_trace_29
  · refine J_aload_n (pc := 14) K dX7_trace_14 0 rfl 0 rfl ?_
    refine J_getR (pc := 15) K gf_SaltCloudsModel_37 hk0 10 rfl dX7_trace_15 ?_
    refine J_iload_n (pc := 18) K dX7_trace_18 1 rfl 1 rfl ?_
    refine J_iald (pc := 19) K (a := k0 + 10) (n := 40) (ty_7_10 hk0) dX7_trace_19 ?_
    refine J_goto (pc := 20) K 29 dX7_trace_20 (by decide) ?_
    exact J_iret (pc := 29) K dX7_trace_29
def F_X7_narrow (x0 : Int32) (x1 : Int32) (h : Mem) : Option (Int32 × Mem) :=
  (if x0 = (8 : Int32) then
    (some (i2b x1, h))
  else
    (if x0 = (16 : Int32) then
      (some (i2s x1, h))
    else
      (some (x1, h))))
set_option maxRecDepth 10000 in
set_option maxHeartbeats 1000000 in
theorem ok_X7_narrow (l : Launch) (ω : WX) (x0 : Int32) (x1 : Int32) (h : Mem) : MC rvI l ω yX7_narrow cX7_narrow 2 (some .int) 0 [.int x0, .int x1] h (F_X7_narrow x0 x1 h) := by
  refine MC.of (by decide +kernel) [(0, .int x0), (1, .int x1)] rfl (Nat.le_of_ble_eq_true rfl) (fun χ K => ?_)
  have K : Kok ω χ "SaltCloudsModel" cX7_narrow 2 (some .int) 0 := K
  unfold F_X7_narrow
  refine J_iload_n (pc := 0) K dX7_narrow_0 0 rfl 0 rfl ?_
  refine J_bipush (pc := 1) K (8) dX7_narrow_1 (by decide) ?_
  refine J_icmp_ne (pc := 3) K 11 dX7_narrow_3 (by decide) ?_ ?_
  · refine J_iload_n (pc := 6) K dX7_narrow_6 1 rfl 1 rfl ?_
    refine J_i2b (pc := 7) K dX7_narrow_7 ?_
    refine J_goto (pc := 8) K 23 dX7_narrow_8 (by decide) ?_
    exact J_iret (pc := 23) K dX7_narrow_23
  · refine J_iload_n (pc := 11) K dX7_narrow_11 0 rfl 0 rfl ?_
    refine J_bipush (pc := 12) K (16) dX7_narrow_12 (by decide) ?_
    refine J_icmp_ne (pc := 14) K 22 dX7_narrow_14 (by decide) ?_ ?_
    · refine J_iload_n (pc := 17) K dX7_narrow_17 1 rfl 1 rfl ?_
      refine J_i2s (pc := 18) K dX7_narrow_18 ?_
      refine J_goto (pc := 19) K 23 dX7_narrow_19 (by decide) ?_
      exact J_iret (pc := 23) K dX7_narrow_23
    · refine J_iload_n (pc := 22) K dX7_narrow_22 1 rfl 1 rfl ?_
      exact J_iret (pc := 23) K dX7_narrow_23
def F_X7_sheet_93 (N : Nat) (k0 : Nat) (w1 : Int32) (kt : Mem → Option (Int32 × Mem)) : Nat → Int32 → Mem → Option (Int32 × Mem)
  | 0, _, _ => none
  | n + 1, u4, h =>
    (if (40 : Int32) ≤ u4 then
      (kt h)
    else
      (gin (((40 : Int32) * w1) + u4) 160 (seqh (upm h (k0 + 8) (ix (((40 : Int32) * w1) + u4)) (0 : Int32)) (fun h16 =>
      (F_X7_sheet_93 N k0 w1 kt n (u4 + 1) h16)))))
set_option maxRecDepth 10000 in
set_option maxHeartbeats 1000000 in
theorem okL_X7_sheet_93 {l : Launch} {ω : WX} {χ : KT} {d : Nat} (K : Kok ω χ "SaltCloudsModel" cX7_sheet 5 (some .int) d) (hd : 0 ≤ d) (N : Nat) {k0 : Nat} (hk0 : lay k0 = 7) {w1 : Int32} {kt : Mem → Option (Int32 × Mem)} (hK : ∀ (h : Mem), J (ZM rvI ω χ) l ω χ 119 5 [] [] h (kt h)) : ∀ (n : Nat) (u4 : Int32) (h : Mem), J (ZM rvI ω χ) l ω χ 93 5 [(0, .ref (ω.1 + k0)), (1, .int w1), (4, .int u4)] [] h (F_X7_sheet_93 N k0 w1 kt n u4 h) := by
  intro n
  induction n with
  | zero =>
    intro u4 h
    exact J_none rfl
  | succ n ih =>
    intro u4 h
    rw [F_X7_sheet_93]
    refine J_iload (pc := 93) K dX7_sheet_93 2 rfl ?_
    refine J_bipush (pc := 95) K (40) dX7_sheet_95 (by decide) ?_
    refine J_icmp_ge (pc := 97) K 119 dX7_sheet_97 (by decide) ?_ ?_
    · refine J_lv [] [] rfl ?_
      exact hK h
    · refine J_aload_n (pc := 100) K dX7_sheet_100 0 rfl 0 rfl ?_
      refine J_getR (pc := 101) K gf_SaltCloudsModel_31 hk0 8 rfl dX7_sheet_101 ?_
      refine J_bipush (pc := 104) K (40) dX7_sheet_104 (by decide) ?_
      refine J_iload_n (pc := 106) K dX7_sheet_106 1 rfl 1 rfl ?_
      refine J_imul (pc := 107) K dX7_sheet_107 ?_
      refine J_iload (pc := 108) K dX7_sheet_108 2 rfl ?_
      refine J_iadd (pc := 110) K dX7_sheet_110 ?_
      refine J_iconst (pc := 111) K (0) dX7_sheet_111 (by decide) ?_
      refine J_iast (pc := 112) K (a := k0 + 8) (n := 160) (ty_7_8 hk0) dX7_sheet_112 (fun h16 => ?_)
      refine J_iinc (pc := 113) K (1) dX7_sheet_113 2 rfl (by decide) (by decide) [(4, .int (u4 + 1)), (0, .ref (ω.1 + k0)), (1, .int w1)] rfl ?_
      refine J_goto (pc := 116) K 93 dX7_sheet_116 (by decide) ?_
      refine J_lv [1, 2, 0] [(0, .ref (ω.1 + k0)), (1, .int w1), (4, .int (u4 + 1))] rfl ?_
      exact ih (u4 + 1) h16
def F_X7_sheet (N : Nat) (k0 : Nat) (x1 : Int32) (x2 : Int32) (x3 : Int32) (h : Mem) : Option (Int32 × Mem) :=
  (bnd (F_X7_isSheet x1 h) (fun r1 h2 =>
  (if r1 = 0 then
    (bnd (F_X7_errs k0 (-1000000001 : Int32) h2) (fun r3 h4 =>
    (some (r3, h4))))
  else
    (jn (fun (h6 : Mem) =>
      (jn (fun (h8 : Mem) =>
        (jn (fun (h10 : Mem) =>
          (gin x1 4 (seqh (upm h10 (k0 + 6) (ix x1) x2) (fun h11 =>
          (jn (fun (s13 : Int32) (h14 : Mem) =>
            (gin x1 4 (seqh (upm h14 (k0 + 7) (ix x1) s13) (fun h15 =>
            (F_X7_sheet_93 N k0 x1 (fun (h17 : Mem) =>
              (some ((1 : Int32), h17))) N (0 : Int32) h15))))) (fun j12 =>
            (if x2 = 0 then
              (j12 (0 : Int32) h11)
            else
              (j12 x3 h11)))))))) (fun j9 =>
          (if x2 = 0 then
            (j9 h8)
          else
            (if x3 ≤ (40 : Int32) then
              (j9 h8)
            else
              (bnd (F_X7_errs k0 (-1000000001 : Int32) h8) (fun r18 h19 =>
              (some (r18, h19))))))))) (fun j7 =>
        (if x2 = 0 then
          (j7 h6)
        else
          (if 0 ≤ x3 then
            (j7 h6)
          else
            (bnd (F_X7_errs k0 (-1000000003 : Int32) h6) (fun r20 h21 =>
            (some (r20, h21))))))))) (fun j5 =>
      (if x2 = 0 then
        (j5 h2)
      else
        (if x2 = (8 : Int32) then
          (j5 h2)
        else
          (if x2 = (16 : Int32) then
            (j5 h2)
          else
            (if x2 = (32 : Int32) then
              (j5 h2)
            else
              (bnd (F_X7_errs k0 (-1000000001 : Int32) h2) (fun r22 h23 =>
              (some (r22, h23)))))))))))))
set_option maxRecDepth 10000 in
set_option maxHeartbeats 1000000 in
theorem ok_X7_sheet (l : Launch) (ω : WX) (N : Nat) {k0 : Nat} (hk0 : lay k0 = 7) (x1 : Int32) (x2 : Int32) (x3 : Int32) (h : Mem) : MC rvI l ω yX7_sheet cX7_sheet 5 (some .int) 2 [.ref (ω.1 + k0), .int x1, .int x2, .int x3] h (F_X7_sheet N k0 x1 x2 x3 h) := by
  refine MC.of (by decide +kernel) [(0, .ref (ω.1 + k0)), (1, .int x1), (2, .int x2), (3, .int x3)] rfl (Nat.le_of_ble_eq_true rfl) (fun χ K => ?_)
  have K : Kok ω χ "SaltCloudsModel" cX7_sheet 5 (some .int) 2 := K
  unfold F_X7_sheet
  refine J_iload_n (pc := 0) K dX7_sheet_0 1 rfl 1 rfl ?_
  refine J_callTI (As := [.int x1]) (rest := []) (pc := 1) K cs_SaltCloudsModel_221 (ok_X7_isSheet l ω x1 h) (by decide) rfl rfl (Nat.le_of_ble_eq_true rfl) dX7_sheet_1 (fun r1 h2 => ?_)
  refine J_if_eq (pc := 4) K 29 dX7_sheet_4 (by decide) ?_ ?_
  · refine J_aload_n (pc := 29) K dX7_sheet_29 0 rfl 0 rfl ?_
    refine J_ldc (pc := 30) K kc_SaltCloudsModel_53 dX7_sheet_30 ?_
    refine J_callVI (As := [.int (-1000000001 : Int32)]) (rest := []) (pc := 32) K cs_SaltCloudsModel_54 (ok_X7_errs l ω hk0 (-1000000001 : Int32) h2) hk0 (by decide) rfl rfl (Nat.le_of_ble_eq_true rfl) dX7_sheet_32 (fun r3 h4 => ?_)
    exact J_iret (pc := 35) K dX7_sheet_35
  · refine J_iload_n (pc := 7) K dX7_sheet_7 2 rfl 2 rfl ?_
    refine J_jn (fun j5 => ∀ (h6 : Mem), J (ZM rvI ω χ) l ω χ 36 5 [(0, .ref (ω.1 + k0)), (1, .int x1), (2, .int x2), (3, .int x3)] [] h6 (j5 h6)) ?_ ?_
    · intro h6
      refine J_iload_n (pc := 36) K dX7_sheet_36 2 rfl 2 rfl ?_
      refine J_jn (fun j7 => ∀ (h8 : Mem), J (ZM rvI ω χ) l ω χ 51 5 [(0, .ref (ω.1 + k0)), (1, .int x1), (2, .int x2), (3, .int x3)] [] h8 (j7 h8)) ?_ ?_
      · intro h8
        refine J_iload_n (pc := 51) K dX7_sheet_51 2 rfl 2 rfl ?_
        refine J_jn (fun j9 => ∀ (h10 : Mem), J (ZM rvI ω χ) l ω χ 68 5 [(0, .ref (ω.1 + k0)), (1, .int x1), (2, .int x2), (3, .int x3)] [] h10 (j9 h10)) ?_ ?_
        · intro h10
          refine J_aload_n (pc := 68) K dX7_sheet_68 0 rfl 0 rfl ?_
          refine J_getR (pc := 69) K gf_SaltCloudsModel_25 hk0 6 rfl dX7_sheet_69 ?_
          refine J_iload_n (pc := 72) K dX7_sheet_72 1 rfl 1 rfl ?_
          refine J_iload_n (pc := 73) K dX7_sheet_73 2 rfl 2 rfl ?_
          refine J_iast (pc := 74) K (a := k0 + 6) (n := 4) (ty_7_6 hk0) dX7_sheet_74 (fun h11 => ?_)
          refine J_aload_n (pc := 75) K dX7_sheet_75 0 rfl 0 rfl ?_
          refine J_getR (pc := 76) K gf_SaltCloudsModel_28 hk0 7 rfl dX7_sheet_76 ?_
          refine J_iload_n (pc := 79) K dX7_sheet_79 1 rfl 1 rfl ?_
          refine J_iload_n (pc := 80) K dX7_sheet_80 2 rfl 2 rfl ?_
          refine J_jn (fun j12 => ∀ (s13 : Int32) (h14 : Mem), J (ZM rvI ω χ) l ω χ 89 5 [(0, .ref (ω.1 + k0)), (1, .int x1)] [.int s13, .int x1, .ref (ω.1 + (k0 + 7))] h14 (j12 s13 h14)) ?_ ?_
          · intro s13 h14
            refine J_iast (pc := 89) K (a := k0 + 7) (n := 4) (ty_7_7 hk0) dX7_sheet_89 (fun h15 => ?_)
            refine J_iconst (pc := 90) K (0) dX7_sheet_90 (by decide) ?_
            refine J_istore (pc := 91) K dX7_sheet_91 (by decide) [(4, .int (0 : Int32)), (0, .ref (ω.1 + k0)), (1, .int x1)] rfl ?_
            refine J_lv [1, 2, 0] [(0, .ref (ω.1 + k0)), (1, .int x1), (4, .int (0 : Int32))] rfl ?_
            refine okL_X7_sheet_93 K  (by decide) N hk0 (fun h17 => ?_) _ _ _
            refine J_iconst (pc := 119) K (1) dX7_sheet_119 (by decide) ?_
            exact J_iret (pc := 120) K dX7_sheet_120
          · intro j12 hj12
            refine J_if_ne (pc := 81) K 88 dX7_sheet_81 (by decide) ?_ ?_
            · refine J_iconst (pc := 84) K (0) dX7_sheet_84 (by decide) ?_
              refine J_goto (pc := 85) K 89 dX7_sheet_85 (by decide) ?_
              refine J_lv [0, 1] [(0, .ref (ω.1 + k0)), (1, .int x1)] rfl ?_
              exact hj12 (0 : Int32) h11
            · refine J_iload_n (pc := 88) K dX7_sheet_88 3 rfl 3 rfl ?_
              refine J_lv [0, 1] [(0, .ref (ω.1 + k0)), (1, .int x1)] rfl ?_
              exact hj12 x3 h11
        · intro j9 hj9
          refine J_if_eq (pc := 52) K 68 dX7_sheet_52 (by decide) ?_ ?_
          · exact hj9 h8
          · refine J_iload_n (pc := 55) K dX7_sheet_55 3 rfl 3 rfl ?_
            refine J_bipush (pc := 56) K (40) dX7_sheet_56 (by decide) ?_
            refine J_icmp_le (pc := 58) K 68 dX7_sheet_58 (by decide) ?_ ?_
            · exact hj9 h8
            · refine J_aload_n (pc := 61) K dX7_sheet_61 0 rfl 0 rfl ?_
              refine J_ldc (pc := 62) K kc_SaltCloudsModel_53 dX7_sheet_62 ?_
              refine J_callVI (As := [.int (-1000000001 : Int32)]) (rest := []) (pc := 64) K cs_SaltCloudsModel_54 (ok_X7_errs l ω hk0 (-1000000001 : Int32) h8) hk0 (by decide) rfl rfl (Nat.le_of_ble_eq_true rfl) dX7_sheet_64 (fun r18 h19 => ?_)
              exact J_iret (pc := 67) K dX7_sheet_67
      · intro j7 hj7
        refine J_if_eq (pc := 37) K 51 dX7_sheet_37 (by decide) ?_ ?_
        · exact hj7 h6
        · refine J_iload_n (pc := 40) K dX7_sheet_40 3 rfl 3 rfl ?_
          refine J_if_ge (pc := 41) K 51 dX7_sheet_41 (by decide) ?_ ?_
          · exact hj7 h6
          · refine J_aload_n (pc := 44) K dX7_sheet_44 0 rfl 0 rfl ?_
            refine J_ldc (pc := 45) K kc_SaltCloudsModel_103 dX7_sheet_45 ?_
            refine J_callVI (As := [.int (-1000000003 : Int32)]) (rest := []) (pc := 47) K cs_SaltCloudsModel_54 (ok_X7_errs l ω hk0 (-1000000003 : Int32) h6) hk0 (by decide) rfl rfl (Nat.le_of_ble_eq_true rfl) dX7_sheet_47 (fun r20 h21 => ?_)
            exact J_iret (pc := 50) K dX7_sheet_50
    · intro j5 hj5
      refine J_if_eq (pc := 8) K 36 dX7_sheet_8 (by decide) ?_ ?_
      · exact hj5 h2
      · refine J_iload_n (pc := 11) K dX7_sheet_11 2 rfl 2 rfl ?_
        refine J_bipush (pc := 12) K (8) dX7_sheet_12 (by decide) ?_
        refine J_icmp_eq (pc := 14) K 36 dX7_sheet_14 (by decide) ?_ ?_
        · exact hj5 h2
        · refine J_iload_n (pc := 17) K dX7_sheet_17 2 rfl 2 rfl ?_
          refine J_bipush (pc := 18) K (16) dX7_sheet_18 (by decide) ?_
          refine J_icmp_eq (pc := 20) K 36 dX7_sheet_20 (by decide) ?_ ?_
          · exact hj5 h2
          · refine J_iload_n (pc := 23) K dX7_sheet_23 2 rfl 2 rfl ?_
            refine J_bipush (pc := 24) K (32) dX7_sheet_24 (by decide) ?_
            refine J_icmp_eq (pc := 26) K 36 dX7_sheet_26 (by decide) ?_ ?_
            · exact hj5 h2
            · refine J_aload_n (pc := 29) K dX7_sheet_29 0 rfl 0 rfl ?_
              refine J_ldc (pc := 30) K kc_SaltCloudsModel_53 dX7_sheet_30 ?_
              refine J_callVI (As := [.int (-1000000001 : Int32)]) (rest := []) (pc := 32) K cs_SaltCloudsModel_54 (ok_X7_errs l ω hk0 (-1000000001 : Int32) h2) hk0 (by decide) rfl rfl (Nat.le_of_ble_eq_true rfl) dX7_sheet_32 (fun r22 h23 => ?_)
              exact J_iret (pc := 35) K dX7_sheet_35
