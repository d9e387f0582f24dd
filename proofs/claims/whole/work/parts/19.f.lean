/-! methods, by program: X7_put, X7_move, X7_hills, X7_judge, X7_image, X7_restore, X7_tell, X7_check, X7_count, X7_told -/
def F_X7_put (k0 : Nat) (x1 : Int32) (x2 : Int32) (x3 : Int32) (h : Mem) : Option (Int32 × Mem) :=
  (bnd (F_X7_isSheet x1 h) (fun r1 h2 =>
  (if r1 = 0 then
    (bnd (F_X7_errs k0 (-1000000001 : Int32) h2) (fun r3 h4 =>
    (some (r3, h4))))
  else
    (gin x1 4
    (if (h2 (k0 + 6) (ix x1)) = 0 then
      (bnd (F_X7_errs k0 (-1000000002 : Int32) h2) (fun r5 h6 =>
      (some (r5, h6))))
    else
      (gin x1 4
      (bnd (F_X7_in x2 (0 : Int32) ((h2 (k0 + 7) (ix x1)) - (1 : Int32)) h2) (fun r7 h8 =>
      (if r7 = 0 then
        (bnd (F_X7_errs k0 (-1000000001 : Int32) h8) (fun r9 h10 =>
        (some (r9, h10))))
      else
        (gin x1 4
        (bnd (F_X7_narrow (h8 (k0 + 6) (ix x1)) x3 h8) (fun r11 h12 =>
        (gin (((40 : Int32) * x1) + x2) 160 (seqh (upm h12 (k0 + 8) (ix (((40 : Int32) * x1) + x2)) r11) (fun h13 =>
        (some ((1 : Int32), h13)))))))))))))))))
set_option maxRecDepth 10000 in
set_option maxHeartbeats 1000000 in
theorem ok_X7_put (l : Launch) (ω : WX) {k0 : Nat} (hk0 : lay k0 = 7) (x1 : Int32) (x2 : Int32) (x3 : Int32) (h : Mem) : MC rvI l ω yX7_put cX7_put 4 (some .int) 2 [.ref (ω.1 + k0), .int x1, .int x2, .int x3] h (F_X7_put k0 x1 x2 x3 h) := by
  refine MC.of (by decide +kernel) [(0, .ref (ω.1 + k0)), (1, .int x1), (2, .int x2), (3, .int x3)] rfl (Nat.le_of_ble_eq_true rfl) (fun χ K => ?_)
  have K : Kok ω χ "SaltCloudsModel" cX7_put 4 (some .int) 2 := K
  unfold F_X7_put
  refine J_iload_n (pc := 0) K dX7_put_0 1 rfl 1 rfl ?_
  refine J_callTI (As := [.int x1]) (rest := []) (pc := 1) K cs_SaltCloudsModel_221 (ok_X7_isSheet l ω x1 h) (by decide) rfl rfl (Nat.le_of_ble_eq_true rfl) dX7_put_1 (fun r1 h2 => ?_)
  refine J_if_ne (pc := 4) K 14 dX7_put_4 (by decide) ?_ ?_
  · refine J_aload_n (pc := 7) K dX7_put_7 0 rfl 0 rfl ?_
    refine J_ldc (pc := 8) K kc_SaltCloudsModel_53 dX7_put_8 ?_
    refine J_callVI (As := [.int (-1000000001 : Int32)]) (rest := []) (pc := 10) K cs_SaltCloudsModel_54 (ok_X7_errs l ω hk0 (-1000000001 : Int32) h2) hk0 (by decide) rfl rfl (Nat.le_of_ble_eq_true rfl) dX7_put_10 (fun r3 h4 => ?_)
    exact J_iret (pc := 13) K dX7_put_13
  · refine J_aload_n (pc := 14) K dX7_put_14 0 rfl 0 rfl ?_
    refine J_getR (pc := 15) K gf_SaltCloudsModel_25 hk0 6 rfl dX7_put_15 ?_
    refine J_iload_n (pc := 18) K dX7_put_18 1 rfl 1 rfl ?_
    refine J_iald (pc := 19) K (a := k0 + 6) (n := 4) (ty_7_6 hk0) dX7_put_19 ?_
    refine J_if_ne (pc := 20) K 30 dX7_put_20 (by decide) ?_ ?_
    · refine J_aload_n (pc := 23) K dX7_put_23 0 rfl 0 rfl ?_
      refine J_ldc (pc := 24) K kc_SaltCloudsModel_211 dX7_put_24 ?_
      refine J_callVI (As := [.int (-1000000002 : Int32)]) (rest := []) (pc := 26) K cs_SaltCloudsModel_54 (ok_X7_errs l ω hk0 (-1000000002 : Int32) h2) hk0 (by decide) rfl rfl (Nat.le_of_ble_eq_true rfl) dX7_put_26 (fun r5 h6 => ?_)
      exact J_iret (pc := 29) K dX7_put_29
    · refine J_iload_n (pc := 30) K dX7_put_30 2 rfl 2 rfl ?_
      refine J_iconst (pc := 31) K (0) dX7_put_31 (by decide) ?_
      refine J_aload_n (pc := 32) K dX7_put_32 0 rfl 0 rfl ?_
      refine J_getR (pc := 33) K gf_SaltCloudsModel_28 hk0 7 rfl dX7_put_33 ?_
      refine J_iload_n (pc := 36) K dX7_put_36 1 rfl 1 rfl ?_
      refine J_iald (pc := 37) K (a := k0 + 7) (n := 4) (ty_7_7 hk0) dX7_put_37 ?_
      refine J_iconst (pc := 38) K (1) dX7_put_38 (by decide) ?_
      refine J_isub (pc := 39) K dX7_put_39 ?_
      refine J_callTI (As := [.int x2, .int (0 : Int32), .int ((h2 (k0 + 7) (ix x1)) - (1 : Int32))]) (rest := []) (pc := 40) K cs_SaltCloudsModel_41 (ok_X7_in l ω x2 (0 : Int32) ((h2 (k0 + 7) (ix x1)) - (1 : Int32)) h2) (by decide) rfl rfl (Nat.le_of_ble_eq_true rfl) dX7_put_40 (fun r7 h8 => ?_)
      refine J_if_ne (pc := 43) K 53 dX7_put_43 (by decide) ?_ ?_
      · refine J_aload_n (pc := 46) K dX7_put_46 0 rfl 0 rfl ?_
        refine J_ldc (pc := 47) K kc_SaltCloudsModel_53 dX7_put_47 ?_
        refine J_callVI (As := [.int (-1000000001 : Int32)]) (rest := []) (pc := 49) K cs_SaltCloudsModel_54 (ok_X7_errs l ω hk0 (-1000000001 : Int32) h8) hk0 (by decide) rfl rfl (Nat.le_of_ble_eq_true rfl) dX7_put_49 (fun r9 h10 => ?_)
        exact J_iret (pc := 52) K dX7_put_52
      · refine J_aload_n (pc := 53) K dX7_put_53 0 rfl 0 rfl ?_
        refine J_getR (pc := 54) K gf_SaltCloudsModel_31 hk0 8 rfl dX7_put_54 ?_
        refine J_bipush (pc := 57) K (40) dX7_put_57 (by decide) ?_
        refine J_iload_n (pc := 59) K dX7_put_59 1 rfl 1 rfl ?_
        refine J_imul (pc := 60) K dX7_put_60 ?_
        refine J_iload_n (pc := 61) K dX7_put_61 2 rfl 2 rfl ?_
        refine J_iadd (pc := 62) K dX7_put_62 ?_
        refine J_aload_n (pc := 63) K dX7_put_63 0 rfl 0 rfl ?_
        refine J_getR (pc := 64) K gf_SaltCloudsModel_25 hk0 6 rfl dX7_put_64 ?_
        refine J_iload_n (pc := 67) K dX7_put_67 1 rfl 1 rfl ?_
        refine J_iald (pc := 68) K (a := k0 + 6) (n := 4) (ty_7_6 hk0) dX7_put_68 ?_
        refine J_iload_n (pc := 69) K dX7_put_69 3 rfl 3 rfl ?_
        refine J_callTI (As := [.int (h8 (k0 + 6) (ix x1)), .int x3]) (rest := [.int (((40 : Int32) * x1) + x2), .ref (ω.1 + (k0 + 8))]) (pc := 70) K cs_SaltCloudsModel_254 (ok_X7_narrow l ω (h8 (k0 + 6) (ix x1)) x3 h8) (by decide) rfl rfl (Nat.le_of_ble_eq_true rfl) dX7_put_70 (fun r11 h12 => ?_)
        refine J_iast (pc := 73) K (a := k0 + 8) (n := 160) (ty_7_8 hk0) dX7_put_73 (fun h13 => ?_)
        refine J_iconst (pc := 74) K (1) dX7_put_74 (by decide) ?_
        exact J_iret (pc := 75) K dX7_put_75
def F_X7_move_119 (N : Nat) (k0 : Nat) (w1 : Int32) (w2 : Int32) (w3 : Int32) (w4 : Int32) (w5 : Int32) (kt : Mem → Option (Int32 × Mem)) : Nat → Int32 → Mem → Option (Int32 × Mem)
  | 0, _, _ => none
  | n + 1, u6, h =>
    (if w5 ≤ u6 then
      (kt h)
    else
      (seqi ((((40 : Int32) * w1) + w2) + u6) (fun v21 =>
      (gin v21 160
      (gin u6 40 (seqh (upm h (k0 + 9) (ix u6) (h (k0 + 8) (ix v21))) (fun h22 =>
      (F_X7_move_119 N k0 w1 w2 w3 w4 w5 kt n (u6 + 1) h22))))))))
set_option maxRecDepth 10000 in
set_option maxHeartbeats 1000000 in
theorem okL_X7_move_119 {l : Launch} {ω : WX} {χ : KT} {d : Nat} (K : Kok ω χ "SaltCloudsModel" cX7_move 7 (some .int) d) (hd : 0 ≤ d) (N : Nat) {k0 : Nat} (hk0 : lay k0 = 7) {w1 : Int32} {w2 : Int32} {w3 : Int32} {w4 : Int32} {w5 : Int32} {kt : Mem → Option (Int32 × Mem)} (hK : ∀ (h : Mem), J (ZM rvI ω χ) l ω χ 153 7 [(0, .ref (ω.1 + k0)), (3, .int w3), (4, .int w4), (5, .int w5)] [] h (kt h)) : ∀ (n : Nat) (u6 : Int32) (h : Mem), J (ZM rvI ω χ) l ω χ 119 7 [(0, .ref (ω.1 + k0)), (1, .int w1), (2, .int w2), (3, .int w3), (4, .int w4), (5, .int w5), (6, .int u6)] [] h (F_X7_move_119 N k0 w1 w2 w3 w4 w5 kt n u6 h) := by
  intro n
  induction n with
  | zero =>
    intro u6 h
    exact J_none rfl
  | succ n ih =>
    intro u6 h
    rw [F_X7_move_119]
    refine J_iload (pc := 119) K dX7_move_119 6 rfl ?_
    refine J_iload (pc := 121) K dX7_move_121 5 rfl ?_
    refine J_icmp_ge (pc := 123) K 153 dX7_move_123 (by decide) ?_ ?_
    · refine J_lv [0, 3, 4, 5] [(0, .ref (ω.1 + k0)), (3, .int w3), (4, .int w4), (5, .int w5)] rfl ?_
      exact hK h
    · refine J_aload_n (pc := 126) K dX7_move_126 0 rfl 0 rfl ?_
      refine J_getR (pc := 127) K gf_SaltCloudsModel_34 hk0 9 rfl dX7_move_127 ?_
      refine J_iload (pc := 130) K dX7_move_130 6 rfl ?_
      refine J_aload_n (pc := 132) K dX7_move_132 0 rfl 0 rfl ?_
      refine J_getR (pc := 133) K gf_SaltCloudsModel_31 hk0 8 rfl dX7_move_133 ?_
      refine J_bipush (pc := 136) K (40) dX7_move_136 (by decide) ?_
      refine J_iload_n (pc := 138) K dX7_move_138 1 rfl 1 rfl ?_
      refine J_imul (pc := 139) K dX7_move_139 ?_
      refine J_iload_n (pc := 140) K dX7_move_140 2 rfl 2 rfl ?_
      refine J_iadd (pc := 141) K dX7_move_141 ?_
      refine J_iload (pc := 142) K dX7_move_142 6 rfl ?_
      refine J_iadd (pc := 144) K dX7_move_144 ?_
      refine J_topi (fun v21 => ?_)
      refine J_iald (pc := 145) K (a := k0 + 8) (n := 160) (ty_7_8 hk0) dX7_move_145 ?_
      refine J_iast (pc := 146) K (a := k0 + 9) (n := 40) (ty_7_9 hk0) dX7_move_146 (fun h22 => ?_)
      refine J_iinc (pc := 147) K (1) dX7_move_147 6 rfl (by decide) (by decide) [(6, .int (u6 + 1)), (0, .ref (ω.1 + k0)), (1, .int w1), (2, .int w2), (3, .int w3), (4, .int w4), (5, .int w5)] rfl ?_
      refine J_goto (pc := 150) K 119 dX7_move_150 (by decide) ?_
      refine J_lv [1, 2, 3, 4, 5, 6, 0] [(0, .ref (ω.1 + k0)), (1, .int w1), (2, .int w2), (3, .int w3), (4, .int w4), (5, .int w5), (6, .int (u6 + 1))] rfl ?_
      exact ih (u6 + 1) h22
def F_X7_move_156 (N : Nat) (k0 : Nat) (w3 : Int32) (w4 : Int32) (w5 : Int32) (kt : Mem → Option (Int32 × Mem)) : Nat → Int32 → Mem → Option (Int32 × Mem)
  | 0, _, _ => none
  | n + 1, u6, h =>
    (if w5 ≤ u6 then
      (kt h)
    else
      (gin u6 40
      (gin ((((40 : Int32) * w3) + w4) + u6) 160 (seqh (upm h (k0 + 8) (ix ((((40 : Int32) * w3) + w4) + u6)) (h (k0 + 9) (ix u6))) (fun h24 =>
      (F_X7_move_156 N k0 w3 w4 w5 kt n (u6 + 1) h24))))))
set_option maxRecDepth 10000 in
set_option maxHeartbeats 1000000 in
theorem okL_X7_move_156 {l : Launch} {ω : WX} {χ : KT} {d : Nat} (K : Kok ω χ "SaltCloudsModel" cX7_move 7 (some .int) d) (hd : 0 ≤ d) (N : Nat) {k0 : Nat} (hk0 : lay k0 = 7) {w3 : Int32} {w4 : Int32} {w5 : Int32} {kt : Mem → Option (Int32 × Mem)} (hK : ∀ (h : Mem), J (ZM rvI ω χ) l ω χ 191 7 [(5, .int w5)] [] h (kt h)) : ∀ (n : Nat) (u6 : Int32) (h : Mem), J (ZM rvI ω χ) l ω χ 156 7 [(0, .ref (ω.1 + k0)), (3, .int w3), (4, .int w4), (5, .int w5), (6, .int u6)] [] h (F_X7_move_156 N k0 w3 w4 w5 kt n u6 h) := by
  intro n
  induction n with
  | zero =>
    intro u6 h
    exact J_none rfl
  | succ n ih =>
    intro u6 h
    rw [F_X7_move_156]
    refine J_iload (pc := 156) K dX7_move_156 4 rfl ?_
    refine J_iload (pc := 158) K dX7_move_158 3 rfl ?_
    refine J_icmp_ge (pc := 160) K 191 dX7_move_160 (by decide) ?_ ?_
    · refine J_lv [3] [(5, .int w5)] rfl ?_
      exact hK h
    · refine J_aload_n (pc := 163) K dX7_move_163 0 rfl 0 rfl ?_
      refine J_getR (pc := 164) K gf_SaltCloudsModel_31 hk0 8 rfl dX7_move_164 ?_
      refine J_bipush (pc := 167) K (40) dX7_move_167 (by decide) ?_
      refine J_iload_n (pc := 169) K dX7_move_169 3 rfl 1 rfl ?_
      refine J_imul (pc := 170) K dX7_move_170 ?_
      refine J_iload (pc := 171) K dX7_move_171 2 rfl ?_
      refine J_iadd (pc := 173) K dX7_move_173 ?_
      refine J_iload (pc := 174) K dX7_move_174 4 rfl ?_
      refine J_iadd (pc := 176) K dX7_move_176 ?_
      refine J_aload_n (pc := 177) K dX7_move_177 0 rfl 0 rfl ?_
      refine J_getR (pc := 178) K gf_SaltCloudsModel_34 hk0 9 rfl dX7_move_178 ?_
      refine J_iload (pc := 181) K dX7_move_181 4 rfl ?_
      refine J_iald (pc := 183) K (a := k0 + 9) (n := 40) (ty_7_9 hk0) dX7_move_183 ?_
      refine J_iast (pc := 184) K (a := k0 + 8) (n := 160) (ty_7_8 hk0) dX7_move_184 (fun h24 => ?_)
      refine J_iinc (pc := 185) K (1) dX7_move_185 4 rfl (by decide) (by decide) [(6, .int (u6 + 1)), (0, .ref (ω.1 + k0)), (3, .int w3), (4, .int w4), (5, .int w5)] rfl ?_
      refine J_goto (pc := 188) K 156 dX7_move_188 (by decide) ?_
      refine J_lv [1, 2, 3, 4, 0] [(0, .ref (ω.1 + k0)), (3, .int w3), (4, .int w4), (5, .int w5), (6, .int (u6 + 1))] rfl ?_
      exact ih (u6 + 1) h24
def F_X7_move (N : Nat) (k0 : Nat) (x1 : Int32) (x2 : Int32) (x3 : Int32) (x4 : Int32) (x5 : Int32) (h : Mem) : Option (Int32 × Mem) :=
  (bnd (F_X7_isSheet x1 h) (fun r1 h2 =>
  (if r1 = 0 then
    (bnd (F_X7_errs k0 (-1000000001 : Int32) h2) (fun r3 h4 =>
    (some (r3, h4))))
  else
    (bnd (F_X7_isSheet x3 h2) (fun r5 h6 =>
    (if r5 = 0 then
      (bnd (F_X7_errs k0 (-1000000001 : Int32) h6) (fun r7 h8 =>
      (some (r7, h8))))
    else
      (gin x1 4
      (if (h6 (k0 + 6) (ix x1)) = 0 then
        (bnd (F_X7_errs k0 (-1000000002 : Int32) h6) (fun r9 h10 =>
        (some (r9, h10))))
      else
        (gin x3 4
        (if (h6 (k0 + 6) (ix x3)) = 0 then
          (bnd (F_X7_errs k0 (-1000000002 : Int32) h6) (fun r11 h12 =>
          (some (r11, h12))))
        else
          (gin x1 4
          (gin x3 4
          (if (h6 (k0 + 6) (ix x1)) = (h6 (k0 + 6) (ix x3)) then
            (if x5 < 0 then
              (bnd (F_X7_errs k0 (-1000000001 : Int32) h6) (fun r13 h14 =>
              (some (r13, h14))))
            else
              (if x2 < 0 then
                (bnd (F_X7_errs k0 (-1000000001 : Int32) h6) (fun r15 h16 =>
                (some (r15, h16))))
              else
                (if x4 < 0 then
                  (bnd (F_X7_errs k0 (-1000000001 : Int32) h6) (fun r17 h18 =>
                  (some (r17, h18))))
                else
                  (gin x1 4
                  (if ((h6 (k0 + 7) (ix x1)) - x5) < x2 then
                    (bnd (F_X7_errs k0 (-1000000001 : Int32) h6) (fun r19 h20 =>
                    (some (r19, h20))))
                  else
                    (gin x3 4
                    (if x4 ≤ ((h6 (k0 + 7) (ix x3)) - x5) then
                      (F_X7_move_119 N k0 x1 x2 x3 x4 x5 (fun (h23 : Mem) =>
                        (F_X7_move_156 N k0 x3 x4 x5 (fun (h25 : Mem) =>
                          (some (x5, h25))) N (0 : Int32) h23)) N (0 : Int32) h6)
                    else
                      (bnd (F_X7_errs k0 (-1000000001 : Int32) h6) (fun r26 h27 =>
                      (some (r26, h27)))))))))))
          else
            (bnd (F_X7_errs k0 (-1000000005 : Int32) h6) (fun r28 h29 =>
            (some (r28, h29)))))))))))))))))
set_option maxRecDepth 10000 in
set_option maxHeartbeats 1000000 in
theorem ok_X7_move (l : Launch) (ω : WX) (N : Nat) {k0 : Nat} (hk0 : lay k0 = 7) (x1 : Int32) (x2 : Int32) (x3 : Int32) (x4 : Int32) (x5 : Int32) (h : Mem) : MC rvI l ω yX7_move cX7_move 7 (some .int) 2 [.ref (ω.1 + k0), .int x1, .int x2, .int x3, .int x4, .int x5] h (F_X7_move N k0 x1 x2 x3 x4 x5 h) := by
  refine MC.of (by decide +kernel) [(0, .ref (ω.1 + k0)), (1, .int x1), (2, .int x2), (3, .int x3), (4, .int x4), (5, .int x5)] rfl (Nat.le_of_ble_eq_true rfl) (fun χ K => ?_)
  have K : Kok ω χ "SaltCloudsModel" cX7_move 7 (some .int) 2 := K
  unfold F_X7_move
  refine J_iload_n (pc := 0) K dX7_move_0 1 rfl 1 rfl ?_
  refine J_callTI (As := [.int x1]) (rest := []) (pc := 1) K cs_SaltCloudsModel_221 (ok_X7_isSheet l ω x1 h) (by decide) rfl rfl (Nat.le_of_ble_eq_true rfl) dX7_move_1 (fun r1 h2 => ?_)
  refine J_if_eq (pc := 4) K 14 dX7_move_4 (by decide) ?_ ?_
  · refine J_aload_n (pc := 14) K dX7_move_14 0 rfl 0 rfl ?_
    refine J_ldc (pc := 15) K kc_SaltCloudsModel_53 dX7_move_15 ?_
    refine J_callVI (As := [.int (-1000000001 : Int32)]) (rest := []) (pc := 17) K cs_SaltCloudsModel_54 (ok_X7_errs l ω hk0 (-1000000001 : Int32) h2) hk0 (by decide) rfl rfl (Nat.le_of_ble_eq_true rfl) dX7_move_17 (fun r3 h4 => ?_)
    exact J_iret (pc := 20) K dX7_move_20
  · refine J_iload_n (pc := 7) K dX7_move_7 3 rfl 3 rfl ?_
    refine J_callTI (As := [.int x3]) (rest := []) (pc := 8) K cs_SaltCloudsModel_221 (ok_X7_isSheet l ω x3 h2) (by decide) rfl rfl (Nat.le_of_ble_eq_true rfl) dX7_move_8 (fun r5 h6 => ?_)
    refine J_if_ne (pc := 11) K 21 dX7_move_11 (by decide) ?_ ?_
    · refine J_aload_n (pc := 14) K dX7_move_14 0 rfl 0 rfl ?_
      refine J_ldc (pc := 15) K kc_SaltCloudsModel_53 dX7_move_15 ?_
      refine J_callVI (As := [.int (-1000000001 : Int32)]) (rest := []) (pc := 17) K cs_SaltCloudsModel_54 (ok_X7_errs l ω hk0 (-1000000001 : Int32) h6) hk0 (by decide) rfl rfl (Nat.le_of_ble_eq_true rfl) dX7_move_17 (fun r7 h8 => ?_)
      exact J_iret (pc := 20) K dX7_move_20
    · refine J_aload_n (pc := 21) K dX7_move_21 0 rfl 0 rfl ?_
      refine J_getR (pc := 22) K gf_SaltCloudsModel_25 hk0 6 rfl dX7_move_22 ?_
      refine J_iload_n (pc := 25) K dX7_move_25 1 rfl 1 rfl ?_
      refine J_iald (pc := 26) K (a := k0 + 6) (n := 4) (ty_7_6 hk0) dX7_move_26 ?_
      refine J_if_eq (pc := 27) K 39 dX7_move_27 (by decide) ?_ ?_
      · refine J_aload_n (pc := 39) K dX7_move_39 0 rfl 0 rfl ?_
        refine J_ldc (pc := 40) K kc_SaltCloudsModel_211 dX7_move_40 ?_
        refine J_callVI (As := [.int (-1000000002 : Int32)]) (rest := []) (pc := 42) K cs_SaltCloudsModel_54 (ok_X7_errs l ω hk0 (-1000000002 : Int32) h6) hk0 (by decide) rfl rfl (Nat.le_of_ble_eq_true rfl) dX7_move_42 (fun r9 h10 => ?_)
        exact J_iret (pc := 45) K dX7_move_45
      · refine J_aload_n (pc := 30) K dX7_move_30 0 rfl 0 rfl ?_
        refine J_getR (pc := 31) K gf_SaltCloudsModel_25 hk0 6 rfl dX7_move_31 ?_
        refine J_iload_n (pc := 34) K dX7_move_34 3 rfl 3 rfl ?_
        refine J_iald (pc := 35) K (a := k0 + 6) (n := 4) (ty_7_6 hk0) dX7_move_35 ?_
        refine J_if_ne (pc := 36) K 46 dX7_move_36 (by decide) ?_ ?_
        · refine J_aload_n (pc := 39) K dX7_move_39 0 rfl 0 rfl ?_
          refine J_ldc (pc := 40) K kc_SaltCloudsModel_211 dX7_move_40 ?_
          refine J_callVI (As := [.int (-1000000002 : Int32)]) (rest := []) (pc := 42) K cs_SaltCloudsModel_54 (ok_X7_errs l ω hk0 (-1000000002 : Int32) h6) hk0 (by decide) rfl rfl (Nat.le_of_ble_eq_true rfl) dX7_move_42 (fun r11 h12 => ?_)
          exact J_iret (pc := 45) K dX7_move_45
        · refine J_aload_n (pc := 46) K dX7_move_46 0 rfl 0 rfl ?_
          refine J_getR (pc := 47) K gf_SaltCloudsModel_25 hk0 6 rfl dX7_move_47 ?_
          refine J_iload_n (pc := 50) K dX7_move_50 1 rfl 1 rfl ?_
          refine J_iald (pc := 51) K (a := k0 + 6) (n := 4) (ty_7_6 hk0) dX7_move_51 ?_
          refine J_aload_n (pc := 52) K dX7_move_52 0 rfl 0 rfl ?_
          refine J_getR (pc := 53) K gf_SaltCloudsModel_25 hk0 6 rfl dX7_move_53 ?_
          refine J_iload_n (pc := 56) K dX7_move_56 3 rfl 3 rfl ?_
          refine J_iald (pc := 57) K (a := k0 + 6) (n := 4) (ty_7_6 hk0) dX7_move_57 ?_
          refine J_icmp_eq (pc := 58) K 68 dX7_move_58 (by decide) ?_ ?_
          · refine J_iload (pc := 68) K dX7_move_68 5 rfl ?_
            refine J_if_lt (pc := 70) K 109 dX7_move_70 (by decide) ?_ ?_
            · refine J_aload_n (pc := 109) K dX7_move_109 0 rfl 0 rfl ?_
              refine J_ldc (pc := 110) K kc_SaltCloudsModel_53 dX7_move_110 ?_
              refine J_callVI (As := [.int (-1000000001 : Int32)]) (rest := []) (pc := 112) K cs_SaltCloudsModel_54 (ok_X7_errs l ω hk0 (-1000000001 : Int32) h6) hk0 (by decide) rfl rfl (Nat.le_of_ble_eq_true rfl) dX7_move_112 (fun r13 h14 => ?_)
              exact J_iret (pc := 115) K dX7_move_115
            · refine J_iload_n (pc := 73) K dX7_move_73 2 rfl 2 rfl ?_
              refine J_if_lt (pc := 74) K 109 dX7_move_74 (by decide) ?_ ?_
              · refine J_aload_n (pc := 109) K dX7_move_109 0 rfl 0 rfl ?_
                refine J_ldc (pc := 110) K kc_SaltCloudsModel_53 dX7_move_110 ?_
                refine J_callVI (As := [.int (-1000000001 : Int32)]) (rest := []) (pc := 112) K cs_SaltCloudsModel_54 (ok_X7_errs l ω hk0 (-1000000001 : Int32) h6) hk0 (by decide) rfl rfl (Nat.le_of_ble_eq_true rfl) dX7_move_112 (fun r15 h16 => ?_)
                exact J_iret (pc := 115) K dX7_move_115
              · refine J_iload (pc := 77) K dX7_move_77 4 rfl ?_
                refine J_if_lt (pc := 79) K 109 dX7_move_79 (by decide) ?_ ?_
                · refine J_aload_n (pc := 109) K dX7_move_109 0 rfl 0 rfl ?_
                  refine J_ldc (pc := 110) K kc_SaltCloudsModel_53 dX7_move_110 ?_
                  refine J_callVI (As := [.int (-1000000001 : Int32)]) (rest := []) (pc := 112) K cs_SaltCloudsModel_54 (ok_X7_errs l ω hk0 (-1000000001 : Int32) h6) hk0 (by decide) rfl rfl (Nat.le_of_ble_eq_true rfl) dX7_move_112 (fun r17 h18 => ?_)
                  exact J_iret (pc := 115) K dX7_move_115
                · refine J_iload_n (pc := 82) K dX7_move_82 2 rfl 2 rfl ?_
                  refine J_aload_n (pc := 83) K dX7_move_83 0 rfl 0 rfl ?_
                  refine J_getR (pc := 84) K gf_SaltCloudsModel_28 hk0 7 rfl dX7_move_84 ?_
                  refine J_iload_n (pc := 87) K dX7_move_87 1 rfl 1 rfl ?_
                  refine J_iald (pc := 88) K (a := k0 + 7) (n := 4) (ty_7_7 hk0) dX7_move_88 ?_
                  refine J_iload (pc := 89) K dX7_move_89 5 rfl ?_
                  refine J_isub (pc := 91) K dX7_move_91 ?_
                  refine J_icmp_gt (pc := 92) K 109 dX7_move_92 (by decide) ?_ ?_
                  · refine J_aload_n (pc := 109) K dX7_move_109 0 rfl 0 rfl ?_
                    refine J_ldc (pc := 110) K kc_SaltCloudsModel_53 dX7_move_110 ?_
                    refine J_callVI (As := [.int (-1000000001 : Int32)]) (rest := []) (pc := 112) K cs_SaltCloudsModel_54 (ok_X7_errs l ω hk0 (-1000000001 : Int32) h6) hk0 (by decide) rfl rfl (Nat.le_of_ble_eq_true rfl) dX7_move_112 (fun r19 h20 => ?_)
                    exact J_iret (pc := 115) K dX7_move_115
                  · refine J_iload (pc := 95) K dX7_move_95 4 rfl ?_
                    refine J_aload_n (pc := 97) K dX7_move_97 0 rfl 0 rfl ?_
                    refine J_getR (pc := 98) K gf_SaltCloudsModel_28 hk0 7 rfl dX7_move_98 ?_
                    refine J_iload_n (pc := 101) K dX7_move_101 3 rfl 3 rfl ?_
                    refine J_iald (pc := 102) K (a := k0 + 7) (n := 4) (ty_7_7 hk0) dX7_move_102 ?_
                    refine J_iload (pc := 103) K dX7_move_103 5 rfl ?_
                    refine J_isub (pc := 105) K dX7_move_105 ?_
                    refine J_icmp_le (pc := 106) K 116 dX7_move_106 (by decide) ?_ ?_
                    · refine J_iconst (pc := 116) K (0) dX7_move_116 (by decide) ?_
                      refine J_istore (pc := 117) K dX7_move_117 (by decide) [(6, .int (0 : Int32)), (0, .ref (ω.1 + k0)), (1, .int x1), (2, .int x2), (3, .int x3), (4, .int x4), (5, .int x5)] rfl ?_
                      refine J_lv [1, 2, 3, 4, 5, 6, 0] [(0, .ref (ω.1 + k0)), (1, .int x1), (2, .int x2), (3, .int x3), (4, .int x4), (5, .int x5), (6, .int (0 : Int32))] rfl ?_
                      refine okL_X7_move_119 K  (by decide) N hk0 (fun h23 => ?_) _ _ _
                      refine J_iconst (pc := 153) K (0) dX7_move_153 (by decide) ?_
                      refine J_istore (pc := 154) K dX7_move_154 (by decide) [(6, .int (0 : Int32)), (0, .ref (ω.1 + k0)), (3, .int x3), (4, .int x4), (5, .int x5)] rfl ?_
                      refine J_lv [1, 2, 3, 4, 0] [(0, .ref (ω.1 + k0)), (3, .int x3), (4, .int x4), (5, .int x5), (6, .int (0 : Int32))] rfl ?_
                      refine okL_X7_move_156 K  (by decide) N hk0 (fun h25 => ?_) _ _ _
                      refine J_iload (pc := 191) K dX7_move_191 0 rfl ?_
                      exact J_iret (pc := 193) K dX7_move_193
                    · refine J_aload_n (pc := 109) K dX7_move_109 0 rfl 0 rfl ?_
                      refine J_ldc (pc := 110) K kc_SaltCloudsModel_53 dX7_move_110 ?_
                      refine J_callVI (As := [.int (-1000000001 : Int32)]) (rest := []) (pc := 112) K cs_SaltCloudsModel_54 (ok_X7_errs l ω hk0 (-1000000001 : Int32) h6) hk0 (by decide) rfl rfl (Nat.le_of_ble_eq_true rfl) dX7_move_112 (fun r26 h27 => ?_)
                      exact J_iret (pc := 115) K dX7_move_115
          · refine J_aload_n (pc := 61) K dX7_move_61 0 rfl 0 rfl ?_
            refine J_ldc (pc := 62) K kc_SaltCloudsModel_102 dX7_move_62 ?_
            refine J_callVI (As := [.int (-1000000005 : Int32)]) (rest := []) (pc := 64) K cs_SaltCloudsModel_54 (ok_X7_errs l ω hk0 (-1000000005 : Int32) h6) hk0 (by decide) rfl rfl (Nat.le_of_ble_eq_true rfl) dX7_move_64 (fun r28 h29 => ?_)
            exact J_iret (pc := 67) K dX7_move_67
def F_X7_hills_32 (N : Nat) (k0 : Nat) (w1 : Int32) (kt : Int32 → Mem → Option (Int32 × Mem)) : Nat → Int32 → Mem → Option (Int32 × Mem)
  | 0, _, _ => none
  | n + 1, u2, h =>
    (gin w1 4
    (if (h (k0 + 7) (ix w1)) ≤ u2 then
      (kt u2 h)
    else
      (if (12 : Int32) ≤ u2 then
        (kt u2 h)
      else
        (seqi (((40 : Int32) * w1) + u2) (fun v7 =>
        (gin v7 160
        (bnd (F_X7_in (h (k0 + 8) (ix v7)) (0 : Int32) (9 : Int32) h) (fun r8 h9 =>
        (if r8 = 0 then
          (kt u2 h9)
        else
          (seqi (((40 : Int32) * w1) + u2) (fun v10 =>
          (gin v10 160
          (gin ((16 : Int32) + u2) 262 (seqh (upm h9 (k0 + 1) (ix ((16 : Int32) + u2)) (h9 (k0 + 8) (ix v10))) (fun h11 =>
          (F_X7_hills_32 N k0 w1 kt n (u2 + 1) h11))))))))))))))))
set_option maxRecDepth 10000 in
set_option maxHeartbeats 1000000 in
theorem okL_X7_hills_32 {l : Launch} {ω : WX} {χ : KT} {d : Nat} (K : Kok ω χ "SaltCloudsModel" cX7_hills 3 (some .int) d) (hd : 1 ≤ d) (N : Nat) {k0 : Nat} (hk0 : lay k0 = 7) {w1 : Int32} {kt : Int32 → Mem → Option (Int32 × Mem)} (hK : ∀ (u2 : Int32) (h : Mem), J (ZM rvI ω χ) l ω χ 94 3 [(2, .int u2)] [] h (kt u2 h)) : ∀ (n : Nat) (u2 : Int32) (h : Mem), J (ZM rvI ω χ) l ω χ 32 3 [(0, .ref (ω.1 + k0)), (1, .int w1), (2, .int u2)] [] h (F_X7_hills_32 N k0 w1 kt n u2 h) := by
  intro n
  induction n with
  | zero =>
    intro u2 h
    exact J_none rfl
  | succ n ih =>
    intro u2 h
    rw [F_X7_hills_32]
    refine J_iload_n (pc := 32) K dX7_hills_32 2 rfl 2 rfl ?_
    refine J_aload_n (pc := 33) K dX7_hills_33 0 rfl 0 rfl ?_
    refine J_getR (pc := 34) K gf_SaltCloudsModel_28 hk0 7 rfl dX7_hills_34 ?_
    refine J_iload_n (pc := 37) K dX7_hills_37 1 rfl 1 rfl ?_
    refine J_iald (pc := 38) K (a := k0 + 7) (n := 4) (ty_7_7 hk0) dX7_hills_38 ?_
    refine J_icmp_ge (pc := 39) K 94 dX7_hills_39 (by decide) ?_ ?_
    · refine J_lv [2] [(2, .int u2)] rfl ?_
      exact hK u2 h
    · refine J_iload_n (pc := 42) K dX7_hills_42 2 rfl 2 rfl ?_
      refine J_bipush (pc := 43) K (12) dX7_hills_43 (by decide) ?_
      refine J_icmp_ge (pc := 45) K 94 dX7_hills_45 (by decide) ?_ ?_
      · refine J_lv [2] [(2, .int u2)] rfl ?_
        exact hK u2 h
      · refine J_aload_n (pc := 48) K dX7_hills_48 0 rfl 0 rfl ?_
        refine J_getR (pc := 49) K gf_SaltCloudsModel_31 hk0 8 rfl dX7_hills_49 ?_
        refine J_bipush (pc := 52) K (40) dX7_hills_52 (by decide) ?_
        refine J_iload_n (pc := 54) K dX7_hills_54 1 rfl 1 rfl ?_
        refine J_imul (pc := 55) K dX7_hills_55 ?_
        refine J_iload_n (pc := 56) K dX7_hills_56 2 rfl 2 rfl ?_
        refine J_iadd (pc := 57) K dX7_hills_57 ?_
        refine J_topi (fun v7 => ?_)
        refine J_iald (pc := 58) K (a := k0 + 8) (n := 160) (ty_7_8 hk0) dX7_hills_58 ?_
        refine J_iconst (pc := 59) K (0) dX7_hills_59 (by decide) ?_
        refine J_bipush (pc := 60) K (9) dX7_hills_60 (by decide) ?_
        refine J_callTI (As := [.int (h (k0 + 8) (ix v7)), .int (0 : Int32), .int (9 : Int32)]) (rest := []) (pc := 62) K cs_SaltCloudsModel_41 (ok_X7_in l ω (h (k0 + 8) (ix v7)) (0 : Int32) (9 : Int32) h) (by omega) rfl rfl (Nat.le_of_ble_eq_true rfl) dX7_hills_62 (fun r8 h9 => ?_)
        refine J_if_eq (pc := 65) K 94 dX7_hills_65 (by decide) ?_ ?_
        · refine J_lv [2] [(2, .int u2)] rfl ?_
          exact hK u2 h9
        · refine J_aload_n (pc := 68) K dX7_hills_68 0 rfl 0 rfl ?_
          refine J_getR (pc := 69) K gf_SaltCloudsModel_7 hk0 1 rfl dX7_hills_69 ?_
          refine J_bipush (pc := 72) K (16) dX7_hills_72 (by decide) ?_
          refine J_iload_n (pc := 74) K dX7_hills_74 2 rfl 2 rfl ?_
          refine J_iadd (pc := 75) K dX7_hills_75 ?_
          refine J_aload_n (pc := 76) K dX7_hills_76 0 rfl 0 rfl ?_
          refine J_getR (pc := 77) K gf_SaltCloudsModel_31 hk0 8 rfl dX7_hills_77 ?_
          refine J_bipush (pc := 80) K (40) dX7_hills_80 (by decide) ?_
          refine J_iload_n (pc := 82) K dX7_hills_82 1 rfl 1 rfl ?_
          refine J_imul (pc := 83) K dX7_hills_83 ?_
          refine J_iload_n (pc := 84) K dX7_hills_84 2 rfl 2 rfl ?_
          refine J_iadd (pc := 85) K dX7_hills_85 ?_
          refine J_topi (fun v10 => ?_)
          refine J_iald (pc := 86) K (a := k0 + 8) (n := 160) (ty_7_8 hk0) dX7_hills_86 ?_
          refine J_iast (pc := 87) K (a := k0 + 1) (n := 262) (ty_7_1 hk0) dX7_hills_87 (fun h11 => ?_)
          refine J_iinc (pc := 88) K (1) dX7_hills_88 2 rfl (by decide) (by decide) [(2, .int (u2 + 1)), (0, .ref (ω.1 + k0)), (1, .int w1)] rfl ?_
          refine J_goto (pc := 91) K 32 dX7_hills_91 (by decide) ?_
          refine J_lv [1, 2, 0] [(0, .ref (ω.1 + k0)), (1, .int w1), (2, .int (u2 + 1))] rfl ?_
          exact ih (u2 + 1) h11
def F_X7_hills (N : Nat) (k0 : Nat) (x1 : Int32) (h : Mem) : Option (Int32 × Mem) :=
  (bnd (F_X7_isSheet x1 h) (fun r1 h2 =>
  (if r1 = 0 then
    (bnd (F_X7_errs k0 (-1000000001 : Int32) h2) (fun r3 h4 =>
    (some (r3, h4))))
  else
    (gin x1 4
    (if (h2 (k0 + 6) (ix x1)) = 0 then
      (bnd (F_X7_errs k0 (-1000000002 : Int32) h2) (fun r5 h6 =>
      (some (r5, h6))))
    else
      (F_X7_hills_32 N k0 x1 (fun (v12 : Int32) (h13 : Mem) =>
        (some (v12, h13))) N (0 : Int32) h2))))))
set_option maxRecDepth 10000 in
set_option maxHeartbeats 1000000 in
theorem ok_X7_hills (l : Launch) (ω : WX) (N : Nat) {k0 : Nat} (hk0 : lay k0 = 7) (x1 : Int32) (h : Mem) : MC rvI l ω yX7_hills cX7_hills 3 (some .int) 2 [.ref (ω.1 + k0), .int x1] h (F_X7_hills N k0 x1 h) := by
  refine MC.of (by decide +kernel) [(0, .ref (ω.1 + k0)), (1, .int x1)] rfl (Nat.le_of_ble_eq_true rfl) (fun χ K => ?_)
  have K : Kok ω χ "SaltCloudsModel" cX7_hills 3 (some .int) 2 := K
  unfold F_X7_hills
  refine J_iload_n (pc := 0) K dX7_hills_0 1 rfl 1 rfl ?_
  refine J_callTI (As := [.int x1]) (rest := []) (pc := 1) K cs_SaltCloudsModel_221 (ok_X7_isSheet l ω x1 h) (by decide) rfl rfl (Nat.le_of_ble_eq_true rfl) dX7_hills_1 (fun r1 h2 => ?_)
  refine J_if_ne (pc := 4) K 14 dX7_hills_4 (by decide) ?_ ?_
  · refine J_aload_n (pc := 7) K dX7_hills_7 0 rfl 0 rfl ?_
    refine J_ldc (pc := 8) K kc_SaltCloudsModel_53 dX7_hills_8 ?_
    refine J_callVI (As := [.int (-1000000001 : Int32)]) (rest := []) (pc := 10) K cs_SaltCloudsModel_54 (ok_X7_errs l ω hk0 (-1000000001 : Int32) h2) hk0 (by decide) rfl rfl (Nat.le_of_ble_eq_true rfl) dX7_hills_10 (fun r3 h4 => ?_)
    exact J_iret (pc := 13) K dX7_hills_13
  · refine J_aload_n (pc := 14) K dX7_hills_14 0 rfl 0 rfl ?_
    refine J_getR (pc := 15) K gf_SaltCloudsModel_25 hk0 6 rfl dX7_hills_15 ?_
    refine J_iload_n (pc := 18) K dX7_hills_18 1 rfl 1 rfl ?_
    refine J_iald (pc := 19) K (a := k0 + 6) (n := 4) (ty_7_6 hk0) dX7_hills_19 ?_
    refine J_if_ne (pc := 20) K 30 dX7_hills_20 (by decide) ?_ ?_
    · refine J_aload_n (pc := 23) K dX7_hills_23 0 rfl 0 rfl ?_
      refine J_ldc (pc := 24) K kc_SaltCloudsModel_211 dX7_hills_24 ?_
      refine J_callVI (As := [.int (-1000000002 : Int32)]) (rest := []) (pc := 26) K cs_SaltCloudsModel_54 (ok_X7_errs l ω hk0 (-1000000002 : Int32) h2) hk0 (by decide) rfl rfl (Nat.le_of_ble_eq_true rfl) dX7_hills_26 (fun r5 h6 => ?_)
      exact J_iret (pc := 29) K dX7_hills_29
    · refine J_iconst (pc := 30) K (0) dX7_hills_30 (by decide) ?_
      refine J_istore_n (pc := 31) K dX7_hills_31 2 rfl (by decide) [(2, .int (0 : Int32)), (0, .ref (ω.1 + k0)), (1, .int x1)] rfl ?_
      refine J_lv [1, 2, 0] [(0, .ref (ω.1 + k0)), (1, .int x1), (2, .int (0 : Int32))] rfl ?_
      refine okL_X7_hills_32 K  (by decide) N hk0 (fun v12 h13 => ?_) _ _ _
      refine J_iload_n (pc := 94) K dX7_hills_94 2 rfl 0 rfl ?_
      exact J_iret (pc := 95) K dX7_hills_95
def F_X7_judge_32 (N : Nat) (k0 : Nat) (w1 : Int32) (kt : Int32 → Mem → Option (Int32 × Mem)) : Nat → Int32 → Mem → Option (Int32 × Mem)
  | 0, _, _ => none
  | n + 1, u2, h =>
    (gin w1 4
    (if (h (k0 + 7) (ix w1)) ≤ u2 then
      (kt u2 h)
    else
      (gin (0 : Int32) 262
      (if (h (k0 + 1) (ix (0 : Int32))) ≤ u2 then
        (kt u2 h)
      else
        (seqi (((40 : Int32) * w1) + u2) (fun v7 =>
        (gin v7 160
        (bnd (F_X7_its k0 u2 (3 : Int32) h) (fun r8 h9 =>
        (if (h (k0 + 8) (ix v7)) = r8 then
          (F_X7_judge_32 N k0 w1 kt n (u2 + 1) h9)
        else
          (kt u2 h9)))))))))))
set_option maxRecDepth 10000 in
set_option maxHeartbeats 1000000 in
theorem okL_X7_judge_32 {l : Launch} {ω : WX} {χ : KT} {d : Nat} (K : Kok ω χ "SaltCloudsModel" cX7_judge 3 (some .int) d) (hd : 1 ≤ d) (N : Nat) {k0 : Nat} (hk0 : lay k0 = 7) {w1 : Int32} {kt : Int32 → Mem → Option (Int32 × Mem)} (hK : ∀ (u2 : Int32) (h : Mem), J (ZM rvI ω χ) l ω χ 78 3 [(0, .ref (ω.1 + k0)), (1, .int w1), (2, .int u2)] [] h (kt u2 h)) : ∀ (n : Nat) (u2 : Int32) (h : Mem), J (ZM rvI ω χ) l ω χ 32 3 [(0, .ref (ω.1 + k0)), (1, .int w1), (2, .int u2)] [] h (F_X7_judge_32 N k0 w1 kt n u2 h) := by
  intro n
  induction n with
  | zero =>
    intro u2 h
    exact J_none rfl
  | succ n ih =>
    intro u2 h
    rw [F_X7_judge_32]
    refine J_iload_n (pc := 32) K dX7_judge_32 2 rfl 2 rfl ?_
    refine J_aload_n (pc := 33) K dX7_judge_33 0 rfl 0 rfl ?_
    refine J_getR (pc := 34) K gf_SaltCloudsModel_28 hk0 7 rfl dX7_judge_34 ?_
    refine J_iload_n (pc := 37) K dX7_judge_37 1 rfl 1 rfl ?_
    refine J_iald (pc := 38) K (a := k0 + 7) (n := 4) (ty_7_7 hk0) dX7_judge_38 ?_
    refine J_icmp_ge (pc := 39) K 78 dX7_judge_39 (by decide) ?_ ?_
    · exact hK u2 h
    · refine J_iload_n (pc := 42) K dX7_judge_42 2 rfl 2 rfl ?_
      refine J_aload_n (pc := 43) K dX7_judge_43 0 rfl 0 rfl ?_
      refine J_getR (pc := 44) K gf_SaltCloudsModel_7 hk0 1 rfl dX7_judge_44 ?_
      refine J_iconst (pc := 47) K (0) dX7_judge_47 (by decide) ?_
      refine J_iald (pc := 48) K (a := k0 + 1) (n := 262) (ty_7_1 hk0) dX7_judge_48 ?_
      refine J_icmp_ge (pc := 49) K 78 dX7_judge_49 (by decide) ?_ ?_
      · exact hK u2 h
      · refine J_aload_n (pc := 52) K dX7_judge_52 0 rfl 0 rfl ?_
        refine J_getR (pc := 53) K gf_SaltCloudsModel_31 hk0 8 rfl dX7_judge_53 ?_
        refine J_bipush (pc := 56) K (40) dX7_judge_56 (by decide) ?_
        refine J_iload_n (pc := 58) K dX7_judge_58 1 rfl 1 rfl ?_
        refine J_imul (pc := 59) K dX7_judge_59 ?_
        refine J_iload_n (pc := 60) K dX7_judge_60 2 rfl 2 rfl ?_
        refine J_iadd (pc := 61) K dX7_judge_61 ?_
        refine J_topi (fun v7 => ?_)
        refine J_iald (pc := 62) K (a := k0 + 8) (n := 160) (ty_7_8 hk0) dX7_judge_62 ?_
        refine J_aload_n (pc := 63) K dX7_judge_63 0 rfl 0 rfl ?_
        refine J_iload_n (pc := 64) K dX7_judge_64 2 rfl 2 rfl ?_
        refine J_iconst (pc := 65) K (3) dX7_judge_65 (by decide) ?_
        refine J_callVI (As := [.int u2, .int (3 : Int32)]) (rest := [.int (h (k0 + 8) (ix v7))]) (pc := 66) K cs_SaltCloudsModel_45 (ok_X7_its l ω hk0 u2 (3 : Int32) h) hk0 (by omega) rfl rfl (Nat.le_of_ble_eq_true rfl) dX7_judge_66 (fun r8 h9 => ?_)
        refine J_icmp_ne (pc := 69) K 78 dX7_judge_69 (by decide) ?_ ?_
        · refine J_iinc (pc := 72) K (1) dX7_judge_72 2 rfl (by decide) (by decide) [(2, .int (u2 + 1)), (0, .ref (ω.1 + k0)), (1, .int w1)] rfl ?_
          refine J_goto (pc := 75) K 32 dX7_judge_75 (by decide) ?_
          refine J_lv [1, 2, 0] [(0, .ref (ω.1 + k0)), (1, .int w1), (2, .int (u2 + 1))] rfl ?_
          exact ih (u2 + 1) h9
        · exact hK u2 h9
def F_X7_judge (N : Nat) (k0 : Nat) (x1 : Int32) (h : Mem) : Option (Int32 × Mem) :=
  (bnd (F_X7_isSheet x1 h) (fun r1 h2 =>
  (if r1 = 0 then
    (bnd (F_X7_errs k0 (-1000000001 : Int32) h2) (fun r3 h4 =>
    (some (r3, h4))))
  else
    (gin x1 4
    (if (h2 (k0 + 6) (ix x1)) = 0 then
      (bnd (F_X7_errs k0 (-1000000002 : Int32) h2) (fun r5 h6 =>
      (some (r5, h6))))
    else
      (F_X7_judge_32 N k0 x1 (fun (v10 : Int32) (h11 : Mem) =>
        (gin x1 4
        (if v10 = (h11 (k0 + 7) (ix x1)) then
          (gin (0 : Int32) 262
          (if v10 = (h11 (k0 + 1) (ix (0 : Int32))) then
            (some ((-1 : Int32), h11))
          else
            (some (v10, h11))))
        else
          (some (v10, h11))))) N (0 : Int32) h2))))))
set_option maxRecDepth 10000 in
set_option maxHeartbeats 1000000 in
theorem ok_X7_judge (l : Launch) (ω : WX) (N : Nat) {k0 : Nat} (hk0 : lay k0 = 7) (x1 : Int32) (h : Mem) : MC rvI l ω yX7_judge cX7_judge 3 (some .int) 2 [.ref (ω.1 + k0), .int x1] h (F_X7_judge N k0 x1 h) := by
  refine MC.of (by decide +kernel) [(0, .ref (ω.1 + k0)), (1, .int x1)] rfl (Nat.le_of_ble_eq_true rfl) (fun χ K => ?_)
  have K : Kok ω χ "SaltCloudsModel" cX7_judge 3 (some .int) 2 := K
  unfold F_X7_judge
  refine J_iload_n (pc := 0) K dX7_judge_0 1 rfl 1 rfl ?_
  refine J_callTI (As := [.int x1]) (rest := []) (pc := 1) K cs_SaltCloudsModel_221 (ok_X7_isSheet l ω x1 h) (by decide) rfl rfl (Nat.le_of_ble_eq_true rfl) dX7_judge_1 (fun r1 h2 => ?_)
  refine J_if_ne (pc := 4) K 14 dX7_judge_4 (by decide) ?_ ?_
  · refine J_aload_n (pc := 7) K dX7_judge_7 0 rfl 0 rfl ?_
    refine J_ldc (pc := 8) K kc_SaltCloudsModel_53 dX7_judge_8 ?_
    refine J_callVI (As := [.int (-1000000001 : Int32)]) (rest := []) (pc := 10) K cs_SaltCloudsModel_54 (ok_X7_errs l ω hk0 (-1000000001 : Int32) h2) hk0 (by decide) rfl rfl (Nat.le_of_ble_eq_true rfl) dX7_judge_10 (fun r3 h4 => ?_)
    exact J_iret (pc := 13) K dX7_judge_13
  · refine J_aload_n (pc := 14) K dX7_judge_14 0 rfl 0 rfl ?_
    refine J_getR (pc := 15) K gf_SaltCloudsModel_25 hk0 6 rfl dX7_judge_15 ?_
    refine J_iload_n (pc := 18) K dX7_judge_18 1 rfl 1 rfl ?_
    refine J_iald (pc := 19) K (a := k0 + 6) (n := 4) (ty_7_6 hk0) dX7_judge_19 ?_
    refine J_if_ne (pc := 20) K 30 dX7_judge_20 (by decide) ?_ ?_
    · refine J_aload_n (pc := 23) K dX7_judge_23 0 rfl 0 rfl ?_
      refine J_ldc (pc := 24) K kc_SaltCloudsModel_211 dX7_judge_24 ?_
      refine J_callVI (As := [.int (-1000000002 : Int32)]) (rest := []) (pc := 26) K cs_SaltCloudsModel_54 (ok_X7_errs l ω hk0 (-1000000002 : Int32) h2) hk0 (by decide) rfl rfl (Nat.le_of_ble_eq_true rfl) dX7_judge_26 (fun r5 h6 => ?_)
      exact J_iret (pc := 29) K dX7_judge_29
    · refine J_iconst (pc := 30) K (0) dX7_judge_30 (by decide) ?_
      refine J_istore_n (pc := 31) K dX7_judge_31 2 rfl (by decide) [(2, .int (0 : Int32)), (0, .ref (ω.1 + k0)), (1, .int x1)] rfl ?_
      refine J_lv [1, 2, 0] [(0, .ref (ω.1 + k0)), (1, .int x1), (2, .int (0 : Int32))] rfl ?_
      refine okL_X7_judge_32 K  (by decide) N hk0 (fun v10 h11 => ?_) _ _ _
      refine J_iload_n (pc := 78) K dX7_judge_78 2 rfl 2 rfl ?_
      refine J_aload_n (pc := 79) K dX7_judge_79 0 rfl 0 rfl ?_
      refine J_getR (pc := 80) K gf_SaltCloudsModel_28 hk0 7 rfl dX7_judge_80 ?_
      refine J_iload_n (pc := 83) K dX7_judge_83 1 rfl 1 rfl ?_
      refine J_iald (pc := 84) K (a := k0 + 7) (n := 4) (ty_7_7 hk0) dX7_judge_84 ?_
      refine J_icmp_ne (pc := 85) K 102 dX7_judge_85 (by decide) ?_ ?_
      · refine J_iload_n (pc := 88) K dX7_judge_88 2 rfl 2 rfl ?_
        refine J_aload_n (pc := 89) K dX7_judge_89 0 rfl 0 rfl ?_
        refine J_getR (pc := 90) K gf_SaltCloudsModel_7 hk0 1 rfl dX7_judge_90 ?_
        refine J_iconst (pc := 93) K (0) dX7_judge_93 (by decide) ?_
        refine J_iald (pc := 94) K (a := k0 + 1) (n := 262) (ty_7_1 hk0) dX7_judge_94 ?_
        refine J_icmp_ne (pc := 95) K 102 dX7_judge_95 (by decide) ?_ ?_
        · refine J_iconst (pc := 98) K (-1) dX7_judge_98 (by decide) ?_
          refine J_goto (pc := 99) K 103 dX7_judge_99 (by decide) ?_
          exact J_iret (pc := 103) K dX7_judge_103
        · refine J_iload_n (pc := 102) K dX7_judge_102 2 rfl 2 rfl ?_
          exact J_iret (pc := 103) K dX7_judge_103
      · refine J_iload_n (pc := 102) K dX7_judge_102 2 rfl 2 rfl ?_
        exact J_iret (pc := 103) K dX7_judge_103
def F_X7_image (N : Nat) (k0 : Nat) (h : Mem) : Option (Int32 × Mem) :=
  (bnd (F_X7_moveAll N k0 (k0 + 1) 262 (k0 + 2) 262 h) (fun _ h2 =>
  (seqh (upm h2 k0 4 (1 : Int32)) (fun h3 =>
  (seqh (upm h3 k0 5 ((h3 k0 5) + (1 : Int32))) (fun h4 =>
  (some (h4 k0 5, h4))))))))
set_option maxRecDepth 10000 in
set_option maxHeartbeats 1000000 in
theorem ok_X7_image (l : Launch) (ω : WX) (N : Nat) {k0 : Nat} (hk0 : lay k0 = 7) (h : Mem) : MC rvI l ω yX7_image cX7_image 1 (some .int) 1 [.ref (ω.1 + k0)] h (F_X7_image N k0 h) := by
  refine MC.of (by decide +kernel) [(0, .ref (ω.1 + k0))] rfl (Nat.le_of_ble_eq_true rfl) (fun χ K => ?_)
  have K : Kok ω χ "SaltCloudsModel" cX7_image 1 (some .int) 1 := K
  unfold F_X7_image
  refine J_aload_n (pc := 0) K dX7_image_0 0 rfl 0 rfl ?_
  refine J_aload_n (pc := 1) K dX7_image_1 0 rfl 0 rfl ?_
  refine J_getR (pc := 2) K gf_SaltCloudsModel_7 hk0 1 rfl dX7_image_2 ?_
  refine J_aload_n (pc := 5) K dX7_image_5 0 rfl 0 rfl ?_
  refine J_getR (pc := 6) K gf_SaltCloudsModel_13 hk0 2 rfl dX7_image_6 ?_
  refine J_callVU (As := [.ref (ω.1 + (k0 + 1)), .ref (ω.1 + (k0 + 2))]) (rest := []) (pc := 9) K cs_SaltCloudsModel_168 (ok_X7_moveAll l ω N hk0 (n1 := 262) (ty_7_1 hk0) (n2 := 262) (ty_7_2 hk0) h) hk0 (by decide) rfl rfl (Nat.le_of_ble_eq_true rfl) dX7_image_9 (fun _ h2 => ?_)
  refine J_aload_n (pc := 12) K dX7_image_12 0 rfl 0 rfl ?_
  refine J_iconst (pc := 13) K (1) dX7_image_13 (by decide) ?_
  refine J_putZc (pc := 14) K (Or.inr rfl) gf_SaltCloudsModel_257 hk0 (by decide) rfl dX7_image_14 (fun h3 => ?_)
  refine J_aload_n (pc := 17) K dX7_image_17 0 rfl 0 rfl ?_
  refine J_dup (pc := 18) K dX7_image_18 rfl ?_
  refine J_getI (pc := 19) K gf_SaltCloudsModel_260 hk0 rfl dX7_image_19 ?_
  refine J_iconst (pc := 22) K (1) dX7_image_22 (by decide) ?_
  refine J_iadd (pc := 23) K dX7_image_23 ?_
  refine J_putI (pc := 24) K gf_SaltCloudsModel_260 hk0 (by decide) rfl dX7_image_24 (fun h4 => ?_)
  refine J_aload_n (pc := 27) K dX7_image_27 0 rfl 0 rfl ?_
  refine J_getI (pc := 28) K gf_SaltCloudsModel_260 hk0 rfl dX7_image_28 ?_
  exact J_iret (pc := 31) K dX7_image_31
def F_X7_restore (N : Nat) (k0 : Nat) (h : Mem) : Option (Int32 × Mem) :=
  (if (h k0 4) = 0 then
    (bnd (F_X7_errs k0 (-1000000002 : Int32) h) (fun r1 h2 =>
    (some (r1, h2))))
  else
    (bnd (F_X7_moveAll N k0 (k0 + 2) 262 (k0 + 1) 262 h) (fun _ h4 =>
    (gin (1 : Int32) 262
    (some (h4 (k0 + 1) (ix (1 : Int32)), h4))))))
set_option maxRecDepth 10000 in
set_option maxHeartbeats 1000000 in
theorem ok_X7_restore (l : Launch) (ω : WX) (N : Nat) {k0 : Nat} (hk0 : lay k0 = 7) (h : Mem) : MC rvI l ω yX7_restore cX7_restore 1 (some .int) 1 [.ref (ω.1 + k0)] h (F_X7_restore N k0 h) := by
  refine MC.of (by decide +kernel) [(0, .ref (ω.1 + k0))] rfl (Nat.le_of_ble_eq_true rfl) (fun χ K => ?_)
  have K : Kok ω χ "SaltCloudsModel" cX7_restore 1 (some .int) 1 := K
  unfold F_X7_restore
  refine J_aload_n (pc := 0) K dX7_restore_0 0 rfl 0 rfl ?_
  refine J_getI (pc := 1) K gf_SaltCloudsModel_257 hk0 rfl dX7_restore_1 ?_
  refine J_if_ne (pc := 4) K 14 dX7_restore_4 (by decide) ?_ ?_
  · refine J_aload_n (pc := 7) K dX7_restore_7 0 rfl 0 rfl ?_
    refine J_ldc (pc := 8) K kc_SaltCloudsModel_211 dX7_restore_8 ?_
    refine J_callVI (As := [.int (-1000000002 : Int32)]) (rest := []) (pc := 10) K cs_SaltCloudsModel_54 (ok_X7_errs l ω hk0 (-1000000002 : Int32) h) hk0 (by decide) rfl rfl (Nat.le_of_ble_eq_true rfl) dX7_restore_10 (fun r1 h2 => ?_)
    exact J_iret (pc := 13) K dX7_restore_13
  · refine J_aload_n (pc := 14) K dX7_restore_14 0 rfl 0 rfl ?_
    refine J_aload_n (pc := 15) K dX7_restore_15 0 rfl 0 rfl ?_
    refine J_getR (pc := 16) K gf_SaltCloudsModel_13 hk0 2 rfl dX7_restore_16 ?_
    refine J_aload_n (pc := 19) K dX7_restore_19 0 rfl 0 rfl ?_
    refine J_getR (pc := 20) K gf_SaltCloudsModel_7 hk0 1 rfl dX7_restore_20 ?_
    refine J_callVU (As := [.ref (ω.1 + (k0 + 2)), .ref (ω.1 + (k0 + 1))]) (rest := []) (pc := 23) K cs_SaltCloudsModel_168 (ok_X7_moveAll l ω N hk0 (n1 := 262) (ty_7_2 hk0) (n2 := 262) (ty_7_1 hk0) h) hk0 (by decide) rfl rfl (Nat.le_of_ble_eq_true rfl) dX7_restore_23 (fun _ h4 => ?_)
    refine J_aload_n (pc := 26) K dX7_restore_26 0 rfl 0 rfl ?_
    refine J_getR (pc := 27) K gf_SaltCloudsModel_7 hk0 1 rfl dX7_restore_27 ?_
    refine J_iconst (pc := 30) K (1) dX7_restore_30 (by decide) ?_
    refine J_iald (pc := 31) K (a := k0 + 1) (n := 262) (ty_7_1 hk0) dX7_restore_31 ?_
    exact J_iret (pc := 32) K dX7_restore_32
def F_X7_tell (k0 : Nat) (x1 : Int32) (h : Mem) : Option (Int32 × Mem) :=
  (gin (5 : Int32) 262
  (if (h (k0 + 1) (ix (5 : Int32))) = (20 : Int32) then
    (bnd (F_X7_errs k0 (-1000000004 : Int32) h) (fun r1 h2 =>
    (some (r1, h2))))
  else
    (gin (5 : Int32) 262
    (gin ((142 : Int32) + (h (k0 + 1) (ix (5 : Int32)))) 262 (seqh (upm h (k0 + 1) (ix ((142 : Int32) + (h (k0 + 1) (ix (5 : Int32))))) x1) (fun h3 =>
    (gin (5 : Int32) 262
    (gin (5 : Int32) 262 (seqh (upm h3 (k0 + 1) (ix (5 : Int32)) ((h3 (k0 + 1) (ix (5 : Int32))) + (1 : Int32))) (fun h4 =>
    (gin (5 : Int32) 262
    (some (h4 (k0 + 1) (ix (5 : Int32)), h4)))))))))))))
set_option maxRecDepth 10000 in
set_option maxHeartbeats 1000000 in
theorem ok_X7_tell (l : Launch) (ω : WX) {k0 : Nat} (hk0 : lay k0 = 7) (x1 : Int32) (h : Mem) : MC rvI l ω yX7_tell cX7_tell 2 (some .int) 1 [.ref (ω.1 + k0), .int x1] h (F_X7_tell k0 x1 h) := by
  refine MC.of (by decide +kernel) [(0, .ref (ω.1 + k0)), (1, .int x1)] rfl (Nat.le_of_ble_eq_true rfl) (fun χ K => ?_)
  have K : Kok ω χ "SaltCloudsModel" cX7_tell 2 (some .int) 1 := K
  unfold F_X7_tell
  refine J_aload_n (pc := 0) K dX7_tell_0 0 rfl 0 rfl ?_
  refine J_getR (pc := 1) K gf_SaltCloudsModel_7 hk0 1 rfl dX7_tell_1 ?_
  refine J_iconst (pc := 4) K (5) dX7_tell_4 (by decide) ?_
  refine J_iald (pc := 5) K (a := k0 + 1) (n := 262) (ty_7_1 hk0) dX7_tell_5 ?_
  refine J_bipush (pc := 6) K (20) dX7_tell_6 (by decide) ?_
  refine J_icmp_ne (pc := 8) K 18 dX7_tell_8 (by decide) ?_ ?_
  · refine J_aload_n (pc := 11) K dX7_tell_11 0 rfl 0 rfl ?_
    refine J_ldc (pc := 12) K kc_SaltCloudsModel_58 dX7_tell_12 ?_
    refine J_callVI (As := [.int (-1000000004 : Int32)]) (rest := []) (pc := 14) K cs_SaltCloudsModel_54 (ok_X7_errs l ω hk0 (-1000000004 : Int32) h) hk0 (by decide) rfl rfl (Nat.le_of_ble_eq_true rfl) dX7_tell_14 (fun r1 h2 => ?_)
    exact J_iret (pc := 17) K dX7_tell_17
  · refine J_aload_n (pc := 18) K dX7_tell_18 0 rfl 0 rfl ?_
    refine J_getR (pc := 19) K gf_SaltCloudsModel_7 hk0 1 rfl dX7_tell_19 ?_
    refine J_sipush (pc := 22) K (142) dX7_tell_22 (by decide) ?_
    refine J_aload_n (pc := 25) K dX7_tell_25 0 rfl 0 rfl ?_
    refine J_getR (pc := 26) K gf_SaltCloudsModel_7 hk0 1 rfl dX7_tell_26 ?_
    refine J_iconst (pc := 29) K (5) dX7_tell_29 (by decide) ?_
    refine J_iald (pc := 30) K (a := k0 + 1) (n := 262) (ty_7_1 hk0) dX7_tell_30 ?_
    refine J_iadd (pc := 31) K dX7_tell_31 ?_
    refine J_iload_n (pc := 32) K dX7_tell_32 1 rfl 1 rfl ?_
    refine J_iast (pc := 33) K (a := k0 + 1) (n := 262) (ty_7_1 hk0) dX7_tell_33 (fun h3 => ?_)
    refine J_aload_n (pc := 34) K dX7_tell_34 0 rfl 0 rfl ?_
    refine J_getR (pc := 35) K gf_SaltCloudsModel_7 hk0 1 rfl dX7_tell_35 ?_
    refine J_iconst (pc := 38) K (5) dX7_tell_38 (by decide) ?_
    refine J_dup2 (pc := 39) K dX7_tell_39 rfl rfl ?_
    refine J_iald (pc := 40) K (a := k0 + 1) (n := 262) (ty_7_1 hk0) dX7_tell_40 ?_
    refine J_iconst (pc := 41) K (1) dX7_tell_41 (by decide) ?_
    refine J_iadd (pc := 42) K dX7_tell_42 ?_
    refine J_iast (pc := 43) K (a := k0 + 1) (n := 262) (ty_7_1 hk0) dX7_tell_43 (fun h4 => ?_)
    refine J_aload_n (pc := 44) K dX7_tell_44 0 rfl 0 rfl ?_
    refine J_getR (pc := 45) K gf_SaltCloudsModel_7 hk0 1 rfl dX7_tell_45 ?_
    refine J_iconst (pc := 48) K (5) dX7_tell_48 (by decide) ?_
    refine J_iald (pc := 49) K (a := k0 + 1) (n := 262) (ty_7_1 hk0) dX7_tell_49 ?_
    exact J_iret (pc := 50) K dX7_tell_50
def F_X7_check_30 (N : Nat) (k0 : Nat) (w1 : Int32) (kt : Int32 → Int32 → Mem → Option (Int32 × Mem)) : Nat → Int32 → Int32 → Mem → Option (Int32 × Mem)
  | 0, _, _, _ => none
  | n + 1, u2, u3, h =>
    (if w1 ≤ u2 then
      (kt u2 u3 h)
    else
      (if u3 = 0 then
        (kt u2 u3 h)
      else
        (bnd (F_X7_windNow k0 h) (fun r5 h6 =>
        (bnd (F_X7_oneHour N k0 r5 h6) (fun _ h8 =>
        (bnd (F_X7_sumOf N k0 (255 : Int32) (3 : Int32) h8) (fun r9 h10 =>
        (seqi ((142 : Int32) + u2) (fun v11 =>
        (gin v11 262
        (jn (fun (v13 s14 : Int32) (h15 : Mem) =>
          (if s14 = 0 then
            (seqi (v13 + (0 : Int32)) (fun v16 =>
            (F_X7_check_30 N k0 w1 kt n v16 s14 h15)))
          else
            (seqi (v13 + (1 : Int32)) (fun v17 =>
            (F_X7_check_30 N k0 w1 kt n v17 s14 h15))))) (fun j12 =>
          (if r9 = (h10 (k0 + 3) (ix v11)) then
            (j12 u2 (1 : Int32) h10)
          else
            (j12 u2 (0 : Int32) h10)))))))))))))))
set_option maxRecDepth 10000 in
set_option maxHeartbeats 1000000 in
theorem okL_X7_check_30 {l : Launch} {ω : WX} {χ : KT} {d : Nat} (K : Kok ω χ "SaltCloudsModel" cX7_check 4 (some .int) d) (hd : 5 ≤ d) (N : Nat) {k0 : Nat} (hk0 : lay k0 = 7) {w1 : Int32} {kt : Int32 → Int32 → Mem → Option (Int32 × Mem)} (hK : ∀ (u2 : Int32) (u3 : Int32) (h : Mem), J (ZM rvI ω χ) l ω χ 89 4 [(0, .ref (ω.1 + k0)), (2, .int u2), (3, .int u3)] [] h (kt u2 u3 h)) : ∀ (n : Nat) (u2 : Int32) (u3 : Int32) (h : Mem), J (ZM rvI ω χ) l ω χ 30 4 [(0, .ref (ω.1 + k0)), (1, .int w1), (2, .int u2), (3, .int u3)] [] h (F_X7_check_30 N k0 w1 kt n u2 u3 h) := by
  intro n
  induction n with
  | zero =>
    intro u2 u3 h
    exact J_none rfl
  | succ n ih =>
    intro u2 u3 h
    rw [F_X7_check_30]
    refine J_iload_n (pc := 30) K dX7_check_30 2 rfl 2 rfl ?_
    refine J_iload_n (pc := 31) K dX7_check_31 1 rfl 1 rfl ?_
    refine J_icmp_ge (pc := 32) K 89 dX7_check_32 (by decide) ?_ ?_
    · refine J_lv [0, 2, 3] [(0, .ref (ω.1 + k0)), (2, .int u2), (3, .int u3)] rfl ?_
      exact hK u2 u3 h
    · refine J_iload_n (pc := 35) K dX7_check_35 3 rfl 3 rfl ?_
      refine J_if_eq (pc := 36) K 89 dX7_check_36 (by decide) ?_ ?_
      · refine J_lv [0, 2, 3] [(0, .ref (ω.1 + k0)), (2, .int u2), (3, .int u3)] rfl ?_
        exact hK u2 u3 h
      · refine J_aload_n (pc := 39) K dX7_check_39 0 rfl 0 rfl ?_
        refine J_aload_n (pc := 40) K dX7_check_40 0 rfl 0 rfl ?_
        refine J_callVI (As := []) (rest := [.ref (ω.1 + k0)]) (pc := 41) K cs_SaltCloudsModel_86 (ok_X7_windNow l ω hk0 h) hk0 (by omega) rfl rfl (Nat.le_of_ble_eq_true rfl) dX7_check_41 (fun r5 h6 => ?_)
        refine J_callVU (As := [.int r5]) (rest := []) (pc := 44) K cs_SaltCloudsModel_191 (ok_X7_oneHour l ω N hk0 r5 h6) hk0 (by omega) rfl rfl (Nat.le_of_ble_eq_true rfl) dX7_check_44 (fun _ h8 => ?_)
        refine J_aload_n (pc := 47) K dX7_check_47 0 rfl 0 rfl ?_
        refine J_sipush (pc := 48) K (255) dX7_check_48 (by decide) ?_
        refine J_iconst (pc := 51) K (3) dX7_check_51 (by decide) ?_
        refine J_callVI (As := [.int (255 : Int32), .int (3 : Int32)]) (rest := []) (pc := 52) K cs_SaltCloudsModel_218 (ok_X7_sumOf l ω N hk0 (255 : Int32) (3 : Int32) h8) hk0 (by omega) rfl rfl (Nat.le_of_ble_eq_true rfl) dX7_check_52 (fun r9 h10 => ?_)
        refine J_aload_n (pc := 55) K dX7_check_55 0 rfl 0 rfl ?_
        refine J_getR (pc := 56) K gf_SaltCloudsModel_16 hk0 3 rfl dX7_check_56 ?_
        refine J_sipush (pc := 59) K (142) dX7_check_59 (by decide) ?_
        refine J_iload_n (pc := 62) K dX7_check_62 2 rfl 2 rfl ?_
        refine J_iadd (pc := 63) K dX7_check_63 ?_
        refine J_topi (fun v11 => ?_)
        refine J_iald (pc := 64) K (a := k0 + 3) (n := 262) (ty_7_3 hk0) dX7_check_64 ?_
        refine J_jn (fun j12 => ∀ (v13 s14 : Int32) (h15 : Mem), J (ZM rvI ω χ) l ω χ 73 4 [(0, .ref (ω.1 + k0)), (1, .int w1), (2, .int v13)] [.int s14] h15 (j12 v13 s14 h15)) ?_ ?_
        · intro v13 s14 h15
          refine J_istore_n (pc := 73) K dX7_check_73 3 rfl (by decide) [(3, .int s14), (0, .ref (ω.1 + k0)), (1, .int w1), (2, .int v13)] rfl ?_
          refine J_iload_n (pc := 74) K dX7_check_74 2 rfl 3 rfl ?_
          refine J_iload_n (pc := 75) K dX7_check_75 3 rfl 0 rfl ?_
          refine J_if_eq (pc := 76) K 83 dX7_check_76 (by decide) ?_ ?_
          · refine J_iconst (pc := 83) K (0) dX7_check_83 (by decide) ?_
            refine J_iadd (pc := 84) K dX7_check_84 ?_
            refine J_topi (fun v16 => ?_)
            refine J_istore_n (pc := 85) K dX7_check_85 2 rfl (by decide) [(2, .int v16), (3, .int s14), (0, .ref (ω.1 + k0)), (1, .int w1)] rfl ?_
            refine J_goto (pc := 86) K 30 dX7_check_86 (by decide) ?_
            refine J_lv [2, 3, 0, 1] [(0, .ref (ω.1 + k0)), (1, .int w1), (2, .int v16), (3, .int s14)] rfl ?_
            exact ih v16 s14 h15
          · refine J_iconst (pc := 79) K (1) dX7_check_79 (by decide) ?_
            refine J_goto (pc := 80) K 84 dX7_check_80 (by decide) ?_
            refine J_iadd (pc := 84) K dX7_check_84 ?_
            refine J_topi (fun v17 => ?_)
            refine J_istore_n (pc := 85) K dX7_check_85 2 rfl (by decide) [(2, .int v17), (3, .int s14), (0, .ref (ω.1 + k0)), (1, .int w1)] rfl ?_
            refine J_goto (pc := 86) K 30 dX7_check_86 (by decide) ?_
            refine J_lv [2, 3, 0, 1] [(0, .ref (ω.1 + k0)), (1, .int w1), (2, .int v17), (3, .int s14)] rfl ?_
            exact ih v17 s14 h15
        · intro j12 hj12
          refine J_icmp_ne (pc := 65) K 72 dX7_check_65 (by decide) ?_ ?_
          · refine J_iconst (pc := 68) K (1) dX7_check_68 (by decide) ?_
            refine J_goto (pc := 69) K 73 dX7_check_69 (by decide) ?_
            refine J_lv [0, 1, 2] [(0, .ref (ω.1 + k0)), (1, .int w1), (2, .int u2)] rfl ?_
            exact hj12 u2 (1 : Int32) h10
          · refine J_iconst (pc := 72) K (0) dX7_check_72 (by decide) ?_
            refine J_lv [0, 1, 2] [(0, .ref (ω.1 + k0)), (1, .int w1), (2, .int u2)] rfl ?_
            exact hj12 u2 (0 : Int32) h10
def F_X7_check (N : Nat) (k0 : Nat) (h : Mem) : Option (Int32 × Mem) :=
  (gin (5 : Int32) 262
  (seqi (h (k0 + 1) (ix (5 : Int32))) (fun v1 =>
  (gin (5 : Int32) 262 (seqh (upm h (k0 + 1) (ix (5 : Int32)) (0 : Int32)) (fun h2 =>
  (bnd (F_X7_moveAll N k0 (k0 + 1) 262 (k0 + 3) 262 h2) (fun _ h4 =>
  (F_X7_check_30 N k0 v1 (fun (v18 v19 : Int32) (h20 : Mem) =>
    (bnd (F_X7_moveAll N k0 (k0 + 3) 262 (k0 + 1) 262 h20) (fun _ h22 =>
    (if v19 = 0 then
      (some ((1 : Int32) + v18, h22))
    else
      (some ((0 : Int32), h22)))))) N (0 : Int32) (1 : Int32) h4)))))))))
set_option maxRecDepth 10000 in
set_option maxHeartbeats 1000000 in
theorem ok_X7_check (l : Launch) (ω : WX) (N : Nat) {k0 : Nat} (hk0 : lay k0 = 7) (h : Mem) : MC rvI l ω yX7_check cX7_check 4 (some .int) 5 [.ref (ω.1 + k0)] h (F_X7_check N k0 h) := by
  refine MC.of (by decide +kernel) [(0, .ref (ω.1 + k0))] rfl (Nat.le_of_ble_eq_true rfl) (fun χ K => ?_)
  have K : Kok ω χ "SaltCloudsModel" cX7_check 4 (some .int) 5 := K
  unfold F_X7_check
  refine J_aload_n (pc := 0) K dX7_check_0 0 rfl 0 rfl ?_
  refine J_getR (pc := 1) K gf_SaltCloudsModel_7 hk0 1 rfl dX7_check_1 ?_
  refine J_iconst (pc := 4) K (5) dX7_check_4 (by decide) ?_
  refine J_iald (pc := 5) K (a := k0 + 1) (n := 262) (ty_7_1 hk0) dX7_check_5 ?_
  refine J_topi (fun v1 => ?_)
  refine J_istore_n (pc := 6) K dX7_check_6 1 rfl (by decide) [(1, .int v1), (0, .ref (ω.1 + k0))] rfl ?_
  refine J_aload_n (pc := 7) K dX7_check_7 0 rfl 1 rfl ?_
  refine J_getR (pc := 8) K gf_SaltCloudsModel_7 hk0 1 rfl dX7_check_8 ?_
  refine J_iconst (pc := 11) K (5) dX7_check_11 (by decide) ?_
  refine J_iconst (pc := 12) K (0) dX7_check_12 (by decide) ?_
  refine J_iast (pc := 13) K (a := k0 + 1) (n := 262) (ty_7_1 hk0) dX7_check_13 (fun h2 => ?_)
  refine J_aload_n (pc := 14) K dX7_check_14 0 rfl 1 rfl ?_
  refine J_aload_n (pc := 15) K dX7_check_15 0 rfl 1 rfl ?_
  refine J_getR (pc := 16) K gf_SaltCloudsModel_7 hk0 1 rfl dX7_check_16 ?_
  refine J_aload_n (pc := 19) K dX7_check_19 0 rfl 1 rfl ?_
  refine J_getR (pc := 20) K gf_SaltCloudsModel_16 hk0 3 rfl dX7_check_20 ?_
  refine J_callVU (As := [.ref (ω.1 + (k0 + 1)), .ref (ω.1 + (k0 + 3))]) (rest := []) (pc := 23) K cs_SaltCloudsModel_168 (ok_X7_moveAll l ω N hk0 (n1 := 262) (ty_7_1 hk0) (n2 := 262) (ty_7_3 hk0) h2) hk0 (by decide) rfl rfl (Nat.le_of_ble_eq_true rfl) dX7_check_23 (fun _ h4 => ?_)
  refine J_iconst (pc := 26) K (0) dX7_check_26 (by decide) ?_
  refine J_istore_n (pc := 27) K dX7_check_27 2 rfl (by decide) [(2, .int (0 : Int32)), (1, .int v1), (0, .ref (ω.1 + k0))] rfl ?_
  refine J_iconst (pc := 28) K (1) dX7_check_28 (by decide) ?_
  refine J_istore_n (pc := 29) K dX7_check_29 3 rfl (by decide) [(3, .int (1 : Int32)), (2, .int (0 : Int32)), (1, .int v1), (0, .ref (ω.1 + k0))] rfl ?_
  refine J_lv [3, 2, 1, 0] [(0, .ref (ω.1 + k0)), (1, .int v1), (2, .int (0 : Int32)), (3, .int (1 : Int32))] rfl ?_
  refine okL_X7_check_30 K  (by decide) N hk0 (fun v18 v19 h20 => ?_) _ _ _ _
  refine J_aload_n (pc := 89) K dX7_check_89 0 rfl 0 rfl ?_
  refine J_aload_n (pc := 90) K dX7_check_90 0 rfl 0 rfl ?_
  refine J_getR (pc := 91) K gf_SaltCloudsModel_16 hk0 3 rfl dX7_check_91 ?_
  refine J_aload_n (pc := 94) K dX7_check_94 0 rfl 0 rfl ?_
  refine J_getR (pc := 95) K gf_SaltCloudsModel_7 hk0 1 rfl dX7_check_95 ?_
  refine J_callVU (As := [.ref (ω.1 + (k0 + 3)), .ref (ω.1 + (k0 + 1))]) (rest := []) (pc := 98) K cs_SaltCloudsModel_168 (ok_X7_moveAll l ω N hk0 (n1 := 262) (ty_7_3 hk0) (n2 := 262) (ty_7_1 hk0) h20) hk0 (by decide) rfl rfl (Nat.le_of_ble_eq_true rfl) dX7_check_98 (fun _ h22 => ?_)
  refine J_iload_n (pc := 101) K dX7_check_101 3 rfl 2 rfl ?_
  refine J_if_eq (pc := 102) K 109 dX7_check_102 (by decide) ?_ ?_
  · refine J_iconst (pc := 109) K (1) dX7_check_109 (by decide) ?_
    refine J_iload_n (pc := 110) K dX7_check_110 2 rfl 1 rfl ?_
    refine J_iadd (pc := 111) K dX7_check_111 ?_
    exact J_iret (pc := 112) K dX7_check_112
  · refine J_iconst (pc := 105) K (0) dX7_check_105 (by decide) ?_
    refine J_goto (pc := 106) K 112 dX7_check_106 (by decide) ?_
    exact J_iret (pc := 112) K dX7_check_112
def F_X7_count (N : Nat) (k0 : Nat) (x1 : Int32) (h : Mem) : Option (Int32 × Mem) :=
  (if x1 = (0 : Int32) then
    (gin (0 : Int32) 262
    (some (h (k0 + 1) (ix (0 : Int32)), h)))
  else
    (if x1 = (1 : Int32) then
      (gin (1 : Int32) 262
      (some (h (k0 + 1) (ix (1 : Int32)), h)))
    else
      (if x1 = (2 : Int32) then
        (gin (2 : Int32) 262
        (some (h (k0 + 1) (ix (2 : Int32)), h)))
      else
        (if x1 = (3 : Int32) then
          (bnd (F_X7_thereOnes N k0 h) (fun r1 h2 =>
          (bnd (F_X7_bits N r1 h2) (fun r3 h4 =>
          (some (r3, h4))))))
        else
          (if x1 = (4 : Int32) then
            (bnd (F_X7_nobodies N k0 h) (fun r5 h6 =>
            (some (r5, h6))))
          else
            (if x1 = (5 : Int32) then
              (bnd (F_X7_sumOf N k0 (255 : Int32) (3 : Int32) h) (fun r7 h8 =>
              (some (r7, h8))))
            else
              (if x1 = (6 : Int32) then
                (gin (4 : Int32) 262
                (some (h (k0 + 1) (ix (4 : Int32)), h)))
              else
                (if x1 = (7 : Int32) then
                  (gin (5 : Int32) 262
                  (some (h (k0 + 1) (ix (5 : Int32)), h)))
                else
                  (if x1 = (8 : Int32) then
                    (some (h k0 20, h))
                  else
                    (if x1 = (9 : Int32) then
                      (gin (3 : Int32) 262
                      (some (h (k0 + 1) (ix (3 : Int32)), h)))
                    else
                      (bnd (F_X7_errs k0 (-1000000001 : Int32) h) (fun r9 h10 =>
                      (some (r9, h10))))))))))))))
set_option maxRecDepth 10000 in
set_option maxHeartbeats 1000000 in
theorem ok_X7_count (l : Launch) (ω : WX) (N : Nat) {k0 : Nat} (hk0 : lay k0 = 7) (x1 : Int32) (h : Mem) : MC rvI l ω yX7_count cX7_count 2 (some .int) 56 [.ref (ω.1 + k0), .int x1] h (F_X7_count N k0 x1 h) := by
  refine MC.of (by decide +kernel) [(0, .ref (ω.1 + k0)), (1, .int x1)] rfl (Nat.le_of_ble_eq_true rfl) (fun χ K => ?_)
  have K : Kok ω χ "SaltCloudsModel" cX7_count 2 (some .int) 56 := K
  unfold F_X7_count
  refine J_iload_n (pc := 0) K dX7_count_0 1 rfl 1 rfl ?_
  refine J_ite (fun e1_0 => ?_) (fun e1_0 => ?_)
  · refine J_tableIn (pc := 1) K (v := 0) 56 e1_0 dX7_count_1 (by decide) (by decide) rfl (by decide) ?_
    refine J_aload_n (pc := 56) K dX7_count_56 0 rfl 0 rfl ?_
    refine J_getR (pc := 57) K gf_SaltCloudsModel_7 hk0 1 rfl dX7_count_57 ?_
    refine J_iconst (pc := 60) K (0) dX7_count_60 (by decide) ?_
    refine J_iald (pc := 61) K (a := k0 + 1) (n := 262) (ty_7_1 hk0) dX7_count_61 ?_
    exact J_iret (pc := 62) K dX7_count_62
  · refine J_ite (fun e1_1 => ?_) (fun e1_1 => ?_)
    · refine J_tableIn (pc := 1) K (v := 1) 63 e1_1 dX7_count_1 (by decide) (by decide) rfl (by decide) ?_
      refine J_aload_n (pc := 63) K dX7_count_63 0 rfl 0 rfl ?_
      refine J_getR (pc := 64) K gf_SaltCloudsModel_7 hk0 1 rfl dX7_count_64 ?_
      refine J_iconst (pc := 67) K (1) dX7_count_67 (by decide) ?_
      refine J_iald (pc := 68) K (a := k0 + 1) (n := 262) (ty_7_1 hk0) dX7_count_68 ?_
      exact J_iret (pc := 69) K dX7_count_69
    · refine J_ite (fun e1_2 => ?_) (fun e1_2 => ?_)
      · refine J_tableIn (pc := 1) K (v := 2) 70 e1_2 dX7_count_1 (by decide) (by decide) rfl (by decide) ?_
        refine J_aload_n (pc := 70) K dX7_count_70 0 rfl 0 rfl ?_
        refine J_getR (pc := 71) K gf_SaltCloudsModel_7 hk0 1 rfl dX7_count_71 ?_
        refine J_iconst (pc := 74) K (2) dX7_count_74 (by decide) ?_
        refine J_iald (pc := 75) K (a := k0 + 1) (n := 262) (ty_7_1 hk0) dX7_count_75 ?_
        exact J_iret (pc := 76) K dX7_count_76
      · refine J_ite (fun e1_3 => ?_) (fun e1_3 => ?_)
        · refine J_tableIn (pc := 1) K (v := 3) 77 e1_3 dX7_count_1 (by decide) (by decide) rfl (by decide) ?_
          refine J_aload_n (pc := 77) K dX7_count_77 0 rfl 0 rfl ?_
          refine J_callVI (As := []) (rest := []) (pc := 78) K cs_SaltCloudsModel_212 (ok_X7_thereOnes l ω N hk0 h) hk0 (by decide) rfl rfl (Nat.le_of_ble_eq_true rfl) dX7_count_78 (fun r1 h2 => ?_)
          refine J_callTI (As := [.int r1]) (rest := []) (pc := 81) K cs_SaltCloudsModel_215 (ok_X7_bits l ω N r1 h2) (by decide) rfl rfl (Nat.le_of_ble_eq_true rfl) dX7_count_81 (fun r3 h4 => ?_)
          exact J_iret (pc := 84) K dX7_count_84
        · refine J_ite (fun e1_4 => ?_) (fun e1_4 => ?_)
          · refine J_tableIn (pc := 1) K (v := 4) 85 e1_4 dX7_count_1 (by decide) (by decide) rfl (by decide) ?_
            refine J_aload_n (pc := 85) K dX7_count_85 0 rfl 0 rfl ?_
            refine J_callVI (As := []) (rest := []) (pc := 86) K cs_SaltCloudsModel_195 (ok_X7_nobodies l ω N hk0 h) hk0 (by decide) rfl rfl (Nat.le_of_ble_eq_true rfl) dX7_count_86 (fun r5 h6 => ?_)
            exact J_iret (pc := 89) K dX7_count_89
          · refine J_ite (fun e1_5 => ?_) (fun e1_5 => ?_)
            · refine J_tableIn (pc := 1) K (v := 5) 90 e1_5 dX7_count_1 (by decide) (by decide) rfl (by decide) ?_
              refine J_aload_n (pc := 90) K dX7_count_90 0 rfl 0 rfl ?_
              refine J_sipush (pc := 91) K (255) dX7_count_91 (by decide) ?_
              refine J_iconst (pc := 94) K (3) dX7_count_94 (by decide) ?_
              refine J_callVI (As := [.int (255 : Int32), .int (3 : Int32)]) (rest := []) (pc := 95) K cs_SaltCloudsModel_218 (ok_X7_sumOf l ω N hk0 (255 : Int32) (3 : Int32) h) hk0 (by decide) rfl rfl (Nat.le_of_ble_eq_true rfl) dX7_count_95 (fun r7 h8 => ?_)
              exact J_iret (pc := 98) K dX7_count_98
            · refine J_ite (fun e1_6 => ?_) (fun e1_6 => ?_)
              · refine J_tableIn (pc := 1) K (v := 6) 99 e1_6 dX7_count_1 (by decide) (by decide) rfl (by decide) ?_
                refine J_aload_n (pc := 99) K dX7_count_99 0 rfl 0 rfl ?_
                refine J_getR (pc := 100) K gf_SaltCloudsModel_7 hk0 1 rfl dX7_count_100 ?_
                refine J_iconst (pc := 103) K (4) dX7_count_103 (by decide) ?_
                refine J_iald (pc := 104) K (a := k0 + 1) (n := 262) (ty_7_1 hk0) dX7_count_104 ?_
                exact J_iret (pc := 105) K dX7_count_105
              · refine J_ite (fun e1_7 => ?_) (fun e1_7 => ?_)
                · refine J_tableIn (pc := 1) K (v := 7) 106 e1_7 dX7_count_1 (by decide) (by decide) rfl (by decide) ?_
                  refine J_aload_n (pc := 106) K dX7_count_106 0 rfl 0 rfl ?_
                  refine J_getR (pc := 107) K gf_SaltCloudsModel_7 hk0 1 rfl dX7_count_107 ?_
                  refine J_iconst (pc := 110) K (5) dX7_count_110 (by decide) ?_
                  refine J_iald (pc := 111) K (a := k0 + 1) (n := 262) (ty_7_1 hk0) dX7_count_111 ?_
                  exact J_iret (pc := 112) K dX7_count_112
                · refine J_ite (fun e1_8 => ?_) (fun e1_8 => ?_)
                  · refine J_tableIn (pc := 1) K (v := 8) 113 e1_8 dX7_count_1 (by decide) (by decide) rfl (by decide) ?_
                    refine J_aload_n (pc := 113) K dX7_count_113 0 rfl 0 rfl ?_
                    refine J_getI (pc := 114) K gf_SaltCloudsModel_227 hk0 rfl dX7_count_114 ?_
                    exact J_iret (pc := 117) K dX7_count_117
                  · refine J_ite (fun e1_9 => ?_) (fun e1_9 => ?_)
                    · refine J_tableIn (pc := 1) K (v := 9) 118 e1_9 dX7_count_1 (by decide) (by decide) rfl (by decide) ?_
                      refine J_aload_n (pc := 118) K dX7_count_118 0 rfl 0 rfl ?_
                      refine J_getR (pc := 119) K gf_SaltCloudsModel_7 hk0 1 rfl dX7_count_119 ?_
                      refine J_iconst (pc := 122) K (3) dX7_count_122 (by decide) ?_
                      refine J_iald (pc := 123) K (a := k0 + 1) (n := 262) (ty_7_1 hk0) dX7_count_123 ?_
                      exact J_iret (pc := 124) K dX7_count_124
                    · refine J_tableOut (pc := 1) K 125 dX7_count_1 (by have q0 := lv_neT e1_0 (a := 0) (by decide); have q1 := lv_neT e1_1 (a := 1) (by decide); have q2 := lv_neT e1_2 (a := 2) (by decide); have q3 := lv_neT e1_3 (a := 3) (by decide); have q4 := lv_neT e1_4 (a := 4) (by decide); have q5 := lv_neT e1_5 (a := 5) (by decide); have q6 := lv_neT e1_6 (a := 6) (by decide); have q7 := lv_neT e1_7 (a := 7) (by decide); have q8 := lv_neT e1_8 (a := 8) (by decide); have q9 := lv_neT e1_9 (a := 9) (by decide); omega) (by decide) ?_
                      refine J_aload_n (pc := 125) K dX7_count_125 0 rfl 0 rfl ?_
                      refine J_ldc (pc := 126) K kc_SaltCloudsModel_53 dX7_count_126 ?_
                      refine J_callVI (As := [.int (-1000000001 : Int32)]) (rest := []) (pc := 128) K cs_SaltCloudsModel_54 (ok_X7_errs l ω hk0 (-1000000001 : Int32) h) hk0 (by decide) rfl rfl (Nat.le_of_ble_eq_true rfl) dX7_count_128 (fun r9 h10 => ?_)
                      exact J_iret (pc := 131) K dX7_count_131
def F_X7_told (k0 : Nat) (x1 : Int32) (h : Mem) : Option (Int32 × Mem) :=
  (bnd (F_X7_in x1 (1 : Int32) (5 : Int32) h) (fun r1 h2 =>
  (if r1 = 0 then
    (bnd (F_X7_errs k0 (-1000000001 : Int32) h2) (fun r3 h4 =>
    (some (r3, h4))))
  else
    (gin x1 6
    (some (h2 (k0 + 5) (ix x1), h2))))))
set_option maxRecDepth 10000 in
set_option maxHeartbeats 1000000 in
theorem ok_X7_told (l : Launch) (ω : WX) {k0 : Nat} (hk0 : lay k0 = 7) (x1 : Int32) (h : Mem) : MC rvI l ω yX7_told cX7_told 2 (some .int) 1 [.ref (ω.1 + k0), .int x1] h (F_X7_told k0 x1 h) := by
  refine MC.of (by decide +kernel) [(0, .ref (ω.1 + k0)), (1, .int x1)] rfl (Nat.le_of_ble_eq_true rfl) (fun χ K => ?_)
  have K : Kok ω χ "SaltCloudsModel" cX7_told 2 (some .int) 1 := K
  unfold F_X7_told
  refine J_iload_n (pc := 0) K dX7_told_0 1 rfl 1 rfl ?_
  refine J_iconst (pc := 1) K (1) dX7_told_1 (by decide) ?_
  refine J_iconst (pc := 2) K (5) dX7_told_2 (by decide) ?_
  refine J_callTI (As := [.int x1, .int (1 : Int32), .int (5 : Int32)]) (rest := []) (pc := 3) K cs_SaltCloudsModel_41 (ok_X7_in l ω x1 (1 : Int32) (5 : Int32) h) (by decide) rfl rfl (Nat.le_of_ble_eq_true rfl) dX7_told_3 (fun r1 h2 => ?_)
  refine J_if_eq (pc := 6) K 18 dX7_told_6 (by decide) ?_ ?_
  · refine J_aload_n (pc := 18) K dX7_told_18 0 rfl 0 rfl ?_
    refine J_ldc (pc := 19) K kc_SaltCloudsModel_53 dX7_told_19 ?_
    refine J_callVI (As := [.int (-1000000001 : Int32)]) (rest := []) (pc := 21) K cs_SaltCloudsModel_54 (ok_X7_errs l ω hk0 (-1000000001 : Int32) h2) hk0 (by decide) rfl rfl (Nat.le_of_ble_eq_true rfl) dX7_told_21 (fun r3 h4 => ?_)
    exact J_iret (pc := 24) K dX7_told_24
  · refine J_aload_n (pc := 9) K dX7_told_9 0 rfl 0 rfl ?_
    refine J_getR (pc := 10) K gf_SaltCloudsModel_22 hk0 5 rfl dX7_told_10 ?_
    refine J_iload_n (pc := 13) K dX7_told_13 1 rfl 1 rfl ?_
    refine J_iald (pc := 14) K (a := k0 + 5) (n := 6) (ty_7_5 hk0) dX7_told_14 ?_
    refine J_goto (pc := 15) K 24 dX7_told_15 (by decide) ?_
    exact J_iret (pc := 24) K dX7_told_24
