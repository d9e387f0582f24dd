/-! methods, by program: X5_from, X5_own, X5_note, X5_begin, X5_speak, X6_voice, X6_trace, X1_lay, X6_sheet, X1_write, X6_put, X1_hasRun, X6_move, X6_hills, X6_judge, X6_image, X6_restore, X6_tell, X6_check, X6_count, X6_told, X7_in -/
def F_X5_from_15 (oq : Nat → Int32 → Int32 → Int32 → Int32 → Mem → Option (Int32 × Mem)) (N : Nat) (k0 : Nat) (w2 : Int32) (w3 : Int32) (w4 : Int32) (kt : Int32 → Mem → Option (Int32 × Mem)) : Nat → Int32 → Int32 → Mem → Option (Int32 × Mem)
  | 0, _, _, _ => none
  | n + 1, u5, u6, h =>
    (if (6 : Int32) ≤ u6 then
      (kt u5 h)
    else
      (if u5 ≤ 0 then
        (kt u5 h)
      else
        (bnd (F_X5_bodyOf u5 w2 h) (fun r1 h2 =>
        (if r1 = 0 then
          (bnd (F_X6_kindAbove u5 h2) (fun r3 h4 =>
          (F_X5_from_15 oq N k0 w2 w3 w4 kt n r3 (u6 + 1) h4)))
        else
          (kt u5 h2))))))
set_option maxRecDepth 10000 in
set_option maxHeartbeats 1000000 in
theorem okL_X5_from_15 {l : Launch} {ω : WX} {χ : KT} {d : Nat} (K : Kok ω χ "SaltClouds$Voices" cX5_from 7 (some .int) d) {oq : Nat → Int32 → Int32 → Int32 → Int32 → Mem → Option (Int32 × Mem)} {dq : Nat} (hq : ∀ {k0 : Nat} (hk0 : lay k0 = 5) (x1 : Int32) (x2 : Int32) (x3 : Int32) (x4 : Int32) (h : Mem), MC rvI l ω yX5_begin cX5_begin 5 (some .int) dq [.ref (ω.1 + k0), .int x1, .int x2, .int x3, .int x4] h (oq k0 x1 x2 x3 x4 h)) (hd : 1 ≤ d) (N : Nat) {k0 : Nat} (hk0 : lay k0 = 5) {w2 : Int32} {w3 : Int32} {w4 : Int32} {kt : Int32 → Mem → Option (Int32 × Mem)} (hK : ∀ (u5 : Int32) (h : Mem), J (ZM rvI ω χ) l ω χ 49 7 [(0, .ref (ω.1 + k0)), (2, .int w2), (3, .int w3), (4, .int w4), (5, .int u5)] [] h (kt u5 h)) : ∀ (n : Nat) (u5 : Int32) (u6 : Int32) (h : Mem), J (ZM rvI ω χ) l ω χ 15 7 [(0, .ref (ω.1 + k0)), (2, .int w2), (3, .int w3), (4, .int w4), (5, .int u5), (6, .int u6)] [] h (F_X5_from_15 oq N k0 w2 w3 w4 kt n u5 u6 h) := by
  intro n
  induction n with
  | zero =>
    intro u5 u6 h
    exact J_none rfl
  | succ n ih =>
    intro u5 u6 h
    rw [F_X5_from_15]
    refine J_iload (pc := 15) K dX5_from_15 5 rfl ?_
    refine J_bipush (pc := 17) K (6) dX5_from_17 (by decide) ?_
    refine J_icmp_ge (pc := 19) K 49 dX5_from_19 (by decide) ?_ ?_
    · refine J_lv [0, 1, 2, 3, 4] [(0, .ref (ω.1 + k0)), (2, .int w2), (3, .int w3), (4, .int w4), (5, .int u5)] rfl ?_
      exact hK u5 h
    · refine J_iload (pc := 22) K dX5_from_22 4 rfl ?_
      refine J_if_le (pc := 24) K 49 dX5_from_24 (by decide) ?_ ?_
      · refine J_lv [0, 1, 2, 3, 4] [(0, .ref (ω.1 + k0)), (2, .int w2), (3, .int w3), (4, .int w4), (5, .int u5)] rfl ?_
        exact hK u5 h
      · refine J_iload (pc := 27) K dX5_from_27 4 rfl ?_
        refine J_iload_n (pc := 29) K dX5_from_29 2 rfl 1 rfl ?_
        refine J_callTI (As := [.int u5, .int w2]) (rest := []) (pc := 30) K cs_SaltClouds_Voices_40 (ok_X5_bodyOf l ω u5 w2 h) (by omega) rfl rfl (Nat.le_of_ble_eq_true rfl) dX5_from_30 (fun r1 h2 => ?_)
        refine J_if_ne (pc := 33) K 49 dX5_from_33 (by decide) ?_ ?_
        · refine J_iload (pc := 36) K dX5_from_36 4 rfl ?_
          refine J_callNI (As := [.int u5]) (rest := []) (pc := 38) K cs_SaltClouds_Voices_44 (ok_X6_kindAbove l ω u5 h2) (by omega) rfl rfl (Nat.le_of_ble_eq_true rfl) dX5_from_38 (fun r3 h4 => ?_)
          refine J_istore (pc := 41) K dX5_from_41 (by decide) [(5, .int r3), (0, .ref (ω.1 + k0)), (2, .int w2), (3, .int w3), (4, .int w4), (6, .int u6)] rfl ?_
          refine J_iinc (pc := 43) K (1) dX5_from_43 5 rfl (by decide) (by decide) [(6, .int (u6 + 1)), (5, .int r3), (0, .ref (ω.1 + k0)), (2, .int w2), (3, .int w3), (4, .int w4)] rfl ?_
          refine J_goto (pc := 46) K 15 dX5_from_46 (by decide) ?_
          refine J_lv [2, 3, 4, 5, 1, 0] [(0, .ref (ω.1 + k0)), (2, .int w2), (3, .int w3), (4, .int w4), (5, .int r3), (6, .int (u6 + 1))] rfl ?_
          exact ih r3 (u6 + 1) h4
        · refine J_lv [0, 1, 2, 3, 4] [(0, .ref (ω.1 + k0)), (2, .int w2), (3, .int w3), (4, .int w4), (5, .int u5)] rfl ?_
          exact hK u5 h2
def F_X5_from (oq : Nat → Int32 → Int32 → Int32 → Int32 → Mem → Option (Int32 × Mem)) (N : Nat) (k0 : Nat) (x1 : Int32) (x2 : Int32) (x3 : Int32) (x4 : Int32) (h : Mem) : Option (Int32 × Mem) :=
  (if x4 ≤ (40 : Int32) then
    (F_X5_from_15 oq N k0 x2 x3 x4 (fun (v5 : Int32) (h6 : Mem) =>
      (bnd (F_X5_bodyOf v5 x2 h6) (fun r7 h8 =>
      (bnd (F_X6_kindAbove v5 h8) (fun r9 h10 =>
      (bnd (oq k0 r7 r9 x3 (x4 + (1 : Int32)) h10) (fun r11 h12 =>
      (some (r11, h12))))))))) N x1 (0 : Int32) h)
  else
    (some ((0 : Int32), h)))
set_option maxRecDepth 10000 in
set_option maxHeartbeats 1000000 in
theorem ok_X5_from (l : Launch) (ω : WX) {oq : Nat → Int32 → Int32 → Int32 → Int32 → Mem → Option (Int32 × Mem)} {dq : Nat} (hq : ∀ {k0 : Nat} (hk0 : lay k0 = 5) (x1 : Int32) (x2 : Int32) (x3 : Int32) (x4 : Int32) (h : Mem), MC rvI l ω yX5_begin cX5_begin 5 (some .int) dq [.ref (ω.1 + k0), .int x1, .int x2, .int x3, .int x4] h (oq k0 x1 x2 x3 x4 h)) (N : Nat) {k0 : Nat} (hk0 : lay k0 = 5) (x1 : Int32) (x2 : Int32) (x3 : Int32) (x4 : Int32) (h : Mem) : MC rvI l ω yX5_from cX5_from 7 (some .int) (dq + 1) [.ref (ω.1 + k0), .int x1, .int x2, .int x3, .int x4] h (F_X5_from oq N k0 x1 x2 x3 x4 h) := by
  refine MC.of (by decide +kernel) [(0, .ref (ω.1 + k0)), (1, .int x1), (2, .int x2), (3, .int x3), (4, .int x4)] rfl (Nat.le_of_ble_eq_true rfl) (fun χ K => ?_)
  have K : Kok ω χ "SaltClouds$Voices" cX5_from 7 (some .int) (dq + 1) := K
  unfold F_X5_from
  refine J_iload (pc := 0) K dX5_from_0 4 rfl ?_
  refine J_bipush (pc := 2) K (40) dX5_from_2 (by decide) ?_
  refine J_icmp_le (pc := 4) K 9 dX5_from_4 (by decide) ?_ ?_
  · refine J_iload_n (pc := 9) K dX5_from_9 1 rfl 1 rfl ?_
    refine J_istore (pc := 10) K dX5_from_10 (by decide) [(5, .int x1), (0, .ref (ω.1 + k0)), (1, .int x1), (2, .int x2), (3, .int x3), (4, .int x4)] rfl ?_
    refine J_iconst (pc := 12) K (0) dX5_from_12 (by decide) ?_
    refine J_istore (pc := 13) K dX5_from_13 (by decide) [(6, .int (0 : Int32)), (5, .int x1), (0, .ref (ω.1 + k0)), (1, .int x1), (2, .int x2), (3, .int x3), (4, .int x4)] rfl ?_
    refine J_lv [2, 4, 5, 6, 1, 0] [(0, .ref (ω.1 + k0)), (2, .int x2), (3, .int x3), (4, .int x4), (5, .int x1), (6, .int (0 : Int32))] rfl ?_
    refine okL_X5_from_15 K hq (by omega) N hk0 (fun v5 h6 => ?_) _ _ _ _
    refine J_aload_n (pc := 49) K dX5_from_49 0 rfl 0 rfl ?_
    refine J_iload (pc := 50) K dX5_from_50 4 rfl ?_
    refine J_iload_n (pc := 52) K dX5_from_52 2 rfl 1 rfl ?_
    refine J_callTI (As := [.int v5, .int x2]) (rest := [.ref (ω.1 + k0)]) (pc := 53) K cs_SaltClouds_Voices_40 (ok_X5_bodyOf l ω v5 x2 h6) (by omega) rfl rfl (Nat.le_of_ble_eq_true rfl) dX5_from_53 (fun r7 h8 => ?_)
    refine J_iload (pc := 56) K dX5_from_56 4 rfl ?_
    refine J_callNI (As := [.int v5]) (rest := [.int r7, .ref (ω.1 + k0)]) (pc := 58) K cs_SaltClouds_Voices_44 (ok_X6_kindAbove l ω v5 h8) (by omega) rfl rfl (Nat.le_of_ble_eq_true rfl) dX5_from_58 (fun r9 h10 => ?_)
    refine J_iload_n (pc := 61) K dX5_from_61 3 rfl 2 rfl ?_
    refine J_iload (pc := 62) K dX5_from_62 3 rfl ?_
    refine J_iconst (pc := 64) K (1) dX5_from_64 (by decide) ?_
    refine J_iadd (pc := 65) K dX5_from_65 ?_
    refine J_callVI (As := [.int r7, .int r9, .int x3, .int (x4 + (1 : Int32))]) (rest := []) (pc := 66) K cs_SaltClouds_Voices_48 (hq hk0 r7 r9 x3 (x4 + (1 : Int32)) h10) hk0 (by omega) rfl rfl (Nat.le_of_ble_eq_true rfl) dX5_from_66 (fun r11 h12 => ?_)
    exact J_iret (pc := 69) K dX5_from_69
  · refine J_iconst (pc := 7) K (0) dX5_from_7 (by decide) ?_
    exact J_iret (pc := 8) K dX5_from_8
def F_X5_own (oq : Nat → Int32 → Int32 → Int32 → Int32 → Mem → Option (Int32 × Mem)) (N : Nat) (k0 : Nat) (x1 : Int32) (x2 : Int32) (x3 : Int32) (h : Mem) : Option (Int32 × Mem) :=
  (bnd (F_X5_from oq N k0 (h k0 2) x1 x2 x3 h) (fun r1 h2 =>
  (some (r1, h2))))
set_option maxRecDepth 10000 in
set_option maxHeartbeats 1000000 in
theorem ok_X5_own (l : Launch) (ω : WX) {oq : Nat → Int32 → Int32 → Int32 → Int32 → Mem → Option (Int32 × Mem)} {dq : Nat} (hq : ∀ {k0 : Nat} (hk0 : lay k0 = 5) (x1 : Int32) (x2 : Int32) (x3 : Int32) (x4 : Int32) (h : Mem), MC rvI l ω yX5_begin cX5_begin 5 (some .int) dq [.ref (ω.1 + k0), .int x1, .int x2, .int x3, .int x4] h (oq k0 x1 x2 x3 x4 h)) (N : Nat) {k0 : Nat} (hk0 : lay k0 = 5) (x1 : Int32) (x2 : Int32) (x3 : Int32) (h : Mem) : MC rvI l ω yX5_own cX5_own 4 (some .int) (dq + 2) [.ref (ω.1 + k0), .int x1, .int x2, .int x3] h (F_X5_own oq N k0 x1 x2 x3 h) := by
  refine MC.of (by decide +kernel) [(0, .ref (ω.1 + k0)), (1, .int x1), (2, .int x2), (3, .int x3)] rfl (Nat.le_of_ble_eq_true rfl) (fun χ K => ?_)
  have K : Kok ω χ "SaltClouds$Voices" cX5_own 4 (some .int) (dq + 2) := K
  unfold F_X5_own
  refine J_aload_n (pc := 0) K dX5_own_0 0 rfl 0 rfl ?_
  refine J_aload_n (pc := 1) K dX5_own_1 0 rfl 0 rfl ?_
  refine J_getI (pc := 2) K gf_SaltClouds_Voices_19 hk0 rfl dX5_own_2 ?_
  refine J_iload_n (pc := 5) K dX5_own_5 1 rfl 1 rfl ?_
  refine J_iload_n (pc := 6) K dX5_own_6 2 rfl 2 rfl ?_
  refine J_iload_n (pc := 7) K dX5_own_7 3 rfl 3 rfl ?_
  refine J_callVI (As := [.int (h k0 2), .int x1, .int x2, .int x3]) (rest := []) (pc := 8) K cs_SaltClouds_Voices_36 (ok_X5_from l ω hq N hk0 (h k0 2) x1 x2 x3 h) hk0 (by omega) rfl rfl (Nat.le_of_ble_eq_true rfl) dX5_own_8 (fun r1 h2 => ?_)
  exact J_iret (pc := 11) K dX5_own_11
def F_X5_note (k0 : Nat) (x1 : Int32) (h : Mem) : Option (Unit × Mem) :=
  (if (nI 40) ≤ (h k0 1) then
    (some ((), h))
  else
    (gin (h k0 1) 40 (seqh (upm h (k0 + 1) (ix (h k0 1)) x1) (fun h1 =>
    (seqh (upm h1 k0 1 ((h1 k0 1) + (1 : Int32))) (fun h2 =>
    (some ((), h2))))))))
set_option maxRecDepth 10000 in
set_option maxHeartbeats 1000000 in
theorem ok_X5_note (l : Launch) (ω : WX) {k0 : Nat} (hk0 : lay k0 = 5) (x1 : Int32) (h : Mem) : MC rvV l ω yX5_note cX5_note 2 none 0 [.ref (ω.1 + k0), .int x1] h (F_X5_note k0 x1 h) := by
  refine MC.of (by decide +kernel) [(0, .ref (ω.1 + k0)), (1, .int x1)] rfl (Nat.le_of_ble_eq_true rfl) (fun χ K => ?_)
  have K : Kok ω χ "SaltClouds$Voices" cX5_note 2 none 0 := K
  unfold F_X5_note
  refine J_aload_n (pc := 0) K dX5_note_0 0 rfl 0 rfl ?_
  refine J_getI (pc := 1) K gf_SaltClouds_Voices_15 hk0 rfl dX5_note_1 ?_
  refine J_aload_n (pc := 4) K dX5_note_4 0 rfl 0 rfl ?_
  refine J_getR (pc := 5) K gf_SaltClouds_Voices_11 hk0 1 rfl dX5_note_5 ?_
  refine J_alen (pc := 8) K (a := k0 + 1) (n := 40) (ty_5_1 hk0) dX5_note_8 ?_
  refine J_icmp_ge (pc := 9) K 32 dX5_note_9 (by decide) ?_ ?_
  · exact J_vret (pc := 32) K dX5_note_32
  · refine J_aload_n (pc := 12) K dX5_note_12 0 rfl 0 rfl ?_
    refine J_getR (pc := 13) K gf_SaltClouds_Voices_11 hk0 1 rfl dX5_note_13 ?_
    refine J_aload_n (pc := 16) K dX5_note_16 0 rfl 0 rfl ?_
    refine J_getI (pc := 17) K gf_SaltClouds_Voices_15 hk0 rfl dX5_note_17 ?_
    refine J_iload_n (pc := 20) K dX5_note_20 1 rfl 1 rfl ?_
    refine J_iast (pc := 21) K (a := k0 + 1) (n := 40) (ty_5_1 hk0) dX5_note_21 (fun h1 => ?_)
    refine J_aload_n (pc := 22) K dX5_note_22 0 rfl 0 rfl ?_
    refine J_dup (pc := 23) K dX5_note_23 rfl ?_
    refine J_getI (pc := 24) K gf_SaltClouds_Voices_15 hk0 rfl dX5_note_24 ?_
    refine J_iconst (pc := 27) K (1) dX5_note_27 (by decide) ?_
    refine J_iadd (pc := 28) K dX5_note_28 ?_
    refine J_putI (pc := 29) K gf_SaltClouds_Voices_15 hk0 (by decide) rfl dX5_note_29 (fun h2 => ?_)
    exact J_vret (pc := 32) K dX5_note_32
def F_X5_begin (N : Nat) : Nat → Nat → Int32 → Int32 → Int32 → Int32 → Mem → Option (Int32 × Mem)
  | 0, _, _, _, _, _, _ => none
  | n + 1, k0, x1, x2, x3, x4, h =>
    (bnd (F_X5_note k0 x1 h) (fun _ h2 =>
    (if x1 = (10 : Int32) then
      (some (x3 + (h2 k0 3), h2))
    else
      (if x1 = (11 : Int32) then
        (bnd (F_X5_own (F_X5_begin N n) N k0 (0 : Int32) x3 x4 h2) (fun r3 h4 =>
        (some (r3 * (2 : Int32), h4))))
      else
        (if x1 = (12 : Int32) then
          (some (x3 - (h2 k0 4), h2))
        else
          (if x1 = (13 : Int32) then
            (bnd (F_X5_own (F_X5_begin N n) N k0 (1 : Int32) x3 x4 h2) (fun r5 h6 =>
            (bnd (F_X5_own (F_X5_begin N n) N k0 (2 : Int32) x3 x4 h6) (fun r7 h8 =>
            (some (r5 ^^^ r7, h8))))))
          else
            (if x1 = (20 : Int32) then
              (bnd (F_X5_from (F_X5_begin N n) N k0 x2 (0 : Int32) x3 x4 h2) (fun r9 h10 =>
              (some (r9 * (3 : Int32), h10))))
            else
              (if x1 = (30 : Int32) then
                (bnd (F_X5_from (F_X5_begin N n) N k0 x2 (1 : Int32) x3 x4 h2) (fun r11 h12 =>
                (bnd (F_X5_own (F_X5_begin N n) N k0 (2 : Int32) (1 : Int32) x4 h12) (fun r13 h14 =>
                (some (r11 - r13, h14))))))
              else
                (if x1 = (40 : Int32) then
                  (bnd (F_X5_from (F_X5_begin N n) N k0 x2 (2 : Int32) x3 x4 h2) (fun r15 h16 =>
                  (some (-r15, h16))))
                else
                  (if x1 = (50 : Int32) then
                    (bnd (F_X5_from (F_X5_begin N n) N k0 x2 (3 : Int32) x3 x4 h2) (fun r17 h18 =>
                    (bnd (F_X5_own (F_X5_begin N n) N k0 (0 : Int32) (2 : Int32) x4 h18) (fun r19 h20 =>
                    (some (r17 - r19, h20))))))
                  else
                    (if x1 = (60 : Int32) then
                      (bnd (F_X5_from (F_X5_begin N n) N k0 x2 (1 : Int32) (x3 + (1 : Int32)) x4 h2) (fun r21 h22 =>
                      (some (r21, h22))))
                    else
                      (if x1 = (70 : Int32) then
                        (bnd (F_X5_from (F_X5_begin N n) N k0 x2 (2 : Int32) x3 x4 h2) (fun r23 h24 =>
                        (some (r23 ^^^ (h24 k0 3), h24))))
                      else
                        (if x1 = (71 : Int32) then
                          (bnd (F_X5_own (F_X5_begin N n) N k0 (1 : Int32) x3 x4 h2) (fun r25 h26 =>
                          (bnd (F_X5_from (F_X5_begin N n) N k0 x2 (3 : Int32) x3 x4 h26) (fun r27 h28 =>
                          (some (r25 - r27, h28))))))
                        else
                          (some ((0 : Int32), h2)))))))))))))))
set_option maxRecDepth 10000 in
set_option maxHeartbeats 1000000 in
theorem ok_X5_begin (l : Launch) (ω : WX) (N : Nat) : ∀ (n : Nat) {k0 : Nat} (hk0 : lay k0 = 5) (x1 : Int32) (x2 : Int32) (x3 : Int32) (x4 : Int32) (h : Mem), MC rvI l ω yX5_begin cX5_begin 5 (some .int) (1 + 3 * n) [.ref (ω.1 + k0), .int x1, .int x2, .int x3, .int x4] h (F_X5_begin N n k0 x1 x2 x3 x4 h) := by
  intro n
  induction n with
  | zero =>
    intro k0 hk0 x1 x2 x3 x4 h r h1 e
    cases e
  | succ n ih =>
    intro k0 hk0 x1 x2 x3 x4 h
    rw [F_X5_begin]
    refine MC.of (by decide +kernel) [(0, .ref (ω.1 + k0)), (1, .int x1), (2, .int x2), (3, .int x3), (4, .int x4)] rfl (Nat.le_of_ble_eq_true rfl) (fun χ K => ?_)
    have K : Kok ω χ "SaltClouds$Voices" cX5_begin 5 (some .int) (1 + 3 * (n + 1)) := K
    refine J_aload_n (pc := 0) K dX5_begin_0 0 rfl 0 rfl ?_
    refine J_iload_n (pc := 1) K dX5_begin_1 1 rfl 1 rfl ?_
    refine J_callVU (As := [.int x1]) (rest := []) (pc := 2) K cs_SaltClouds_Voices_51 (ok_X5_note l ω hk0 x1 h) hk0 (by omega) rfl rfl (Nat.le_of_ble_eq_true rfl) dX5_begin_2 (fun _ h2 => ?_)
    refine J_iload_n (pc := 5) K dX5_begin_5 1 rfl 1 rfl ?_
    refine J_ite (fun e6_0 => ?_) (fun e6_0 => ?_)
    · refine J_lookup (pc := 6) K (off := 98) 104 dX5_begin_6 (by decide) (by rw [e6_0]; decide) (by decide) ?_
      refine J_iload_n (pc := 104) K dX5_begin_104 3 rfl 3 rfl ?_
      refine J_aload_n (pc := 105) K dX5_begin_105 0 rfl 0 rfl ?_
      refine J_getI (pc := 106) K gf_SaltClouds_Voices_22 hk0 rfl dX5_begin_106 ?_
      refine J_iadd (pc := 109) K dX5_begin_109 ?_
      exact J_iret (pc := 110) K dX5_begin_110
    · refine J_ite (fun e6_1 => ?_) (fun e6_1 => ?_)
      · refine J_lookup (pc := 6) K (off := 105) 111 dX5_begin_6 (by decide) (by rw [e6_1]; decide) (by decide) ?_
        refine J_aload_n (pc := 111) K dX5_begin_111 0 rfl 0 rfl ?_
        refine J_iconst (pc := 112) K (0) dX5_begin_112 (by decide) ?_
        refine J_iload_n (pc := 113) K dX5_begin_113 3 rfl 3 rfl ?_
        refine J_iload (pc := 114) K dX5_begin_114 4 rfl ?_
        refine J_callVI (As := [.int (0 : Int32), .int x3, .int x4]) (rest := []) (pc := 116) K cs_SaltClouds_Voices_32 (ok_X5_own l ω ih N hk0 (0 : Int32) x3 x4 h2) hk0 (by omega) rfl rfl (Nat.le_of_ble_eq_true rfl) dX5_begin_116 (fun r3 h4 => ?_)
        refine J_iconst (pc := 119) K (2) dX5_begin_119 (by decide) ?_
        refine J_imul (pc := 120) K dX5_begin_120 ?_
        exact J_iret (pc := 121) K dX5_begin_121
      · refine J_ite (fun e6_2 => ?_) (fun e6_2 => ?_)
        · refine J_lookup (pc := 6) K (off := 116) 122 dX5_begin_6 (by decide) (by rw [e6_2]; decide) (by decide) ?_
          refine J_iload_n (pc := 122) K dX5_begin_122 3 rfl 3 rfl ?_
          refine J_aload_n (pc := 123) K dX5_begin_123 0 rfl 0 rfl ?_
          refine J_getI (pc := 124) K gf_SaltClouds_Voices_25 hk0 rfl dX5_begin_124 ?_
          refine J_isub (pc := 127) K dX5_begin_127 ?_
          exact J_iret (pc := 128) K dX5_begin_128
        · refine J_ite (fun e6_3 => ?_) (fun e6_3 => ?_)
          · refine J_lookup (pc := 6) K (off := 123) 129 dX5_begin_6 (by decide) (by rw [e6_3]; decide) (by decide) ?_
            refine J_aload_n (pc := 129) K dX5_begin_129 0 rfl 0 rfl ?_
            refine J_iconst (pc := 130) K (1) dX5_begin_130 (by decide) ?_
            refine J_iload_n (pc := 131) K dX5_begin_131 3 rfl 3 rfl ?_
            refine J_iload (pc := 132) K dX5_begin_132 4 rfl ?_
            refine J_callVI (As := [.int (1 : Int32), .int x3, .int x4]) (rest := []) (pc := 134) K cs_SaltClouds_Voices_32 (ok_X5_own l ω ih N hk0 (1 : Int32) x3 x4 h2) hk0 (by omega) rfl rfl (Nat.le_of_ble_eq_true rfl) dX5_begin_134 (fun r5 h6 => ?_)
            refine J_aload_n (pc := 137) K dX5_begin_137 0 rfl 0 rfl ?_
            refine J_iconst (pc := 138) K (2) dX5_begin_138 (by decide) ?_
            refine J_iload_n (pc := 139) K dX5_begin_139 3 rfl 3 rfl ?_
            refine J_iload (pc := 140) K dX5_begin_140 4 rfl ?_
            refine J_callVI (As := [.int (2 : Int32), .int x3, .int x4]) (rest := [.int r5]) (pc := 142) K cs_SaltClouds_Voices_32 (ok_X5_own l ω ih N hk0 (2 : Int32) x3 x4 h6) hk0 (by omega) rfl rfl (Nat.le_of_ble_eq_true rfl) dX5_begin_142 (fun r7 h8 => ?_)
            refine J_ixor (pc := 145) K dX5_begin_145 ?_
            exact J_iret (pc := 146) K dX5_begin_146
          · refine J_ite (fun e6_4 => ?_) (fun e6_4 => ?_)
            · refine J_lookup (pc := 6) K (off := 141) 147 dX5_begin_6 (by decide) (by rw [e6_4]; decide) (by decide) ?_
              refine J_aload_n (pc := 147) K dX5_begin_147 0 rfl 0 rfl ?_
              refine J_iload_n (pc := 148) K dX5_begin_148 2 rfl 2 rfl ?_
              refine J_iconst (pc := 149) K (0) dX5_begin_149 (by decide) ?_
              refine J_iload_n (pc := 150) K dX5_begin_150 3 rfl 3 rfl ?_
              refine J_iload (pc := 151) K dX5_begin_151 4 rfl ?_
              refine J_callVI (As := [.int x2, .int (0 : Int32), .int x3, .int x4]) (rest := []) (pc := 153) K cs_SaltClouds_Voices_36 (ok_X5_from l ω ih N hk0 x2 (0 : Int32) x3 x4 h2) hk0 (by omega) rfl rfl (Nat.le_of_ble_eq_true rfl) dX5_begin_153 (fun r9 h10 => ?_)
              refine J_iconst (pc := 156) K (3) dX5_begin_156 (by decide) ?_
              refine J_imul (pc := 157) K dX5_begin_157 ?_
              exact J_iret (pc := 158) K dX5_begin_158
            · refine J_ite (fun e6_5 => ?_) (fun e6_5 => ?_)
              · refine J_lookup (pc := 6) K (off := 153) 159 dX5_begin_6 (by decide) (by rw [e6_5]; decide) (by decide) ?_
                refine J_aload_n (pc := 159) K dX5_begin_159 0 rfl 0 rfl ?_
                refine J_iload_n (pc := 160) K dX5_begin_160 2 rfl 2 rfl ?_
                refine J_iconst (pc := 161) K (1) dX5_begin_161 (by decide) ?_
                refine J_iload_n (pc := 162) K dX5_begin_162 3 rfl 3 rfl ?_
                refine J_iload (pc := 163) K dX5_begin_163 4 rfl ?_
                refine J_callVI (As := [.int x2, .int (1 : Int32), .int x3, .int x4]) (rest := []) (pc := 165) K cs_SaltClouds_Voices_36 (ok_X5_from l ω ih N hk0 x2 (1 : Int32) x3 x4 h2) hk0 (by omega) rfl rfl (Nat.le_of_ble_eq_true rfl) dX5_begin_165 (fun r11 h12 => ?_)
                refine J_aload_n (pc := 168) K dX5_begin_168 0 rfl 0 rfl ?_
                refine J_iconst (pc := 169) K (2) dX5_begin_169 (by decide) ?_
                refine J_iconst (pc := 170) K (1) dX5_begin_170 (by decide) ?_
                refine J_iload (pc := 171) K dX5_begin_171 4 rfl ?_
                refine J_callVI (As := [.int (2 : Int32), .int (1 : Int32), .int x4]) (rest := [.int r11]) (pc := 173) K cs_SaltClouds_Voices_32 (ok_X5_own l ω ih N hk0 (2 : Int32) (1 : Int32) x4 h12) hk0 (by omega) rfl rfl (Nat.le_of_ble_eq_true rfl) dX5_begin_173 (fun r13 h14 => ?_)
                refine J_isub (pc := 176) K dX5_begin_176 ?_
                exact J_iret (pc := 177) K dX5_begin_177
              · refine J_ite (fun e6_6 => ?_) (fun e6_6 => ?_)
                · refine J_lookup (pc := 6) K (off := 172) 178 dX5_begin_6 (by decide) (by rw [e6_6]; decide) (by decide) ?_
                  refine J_aload_n (pc := 178) K dX5_begin_178 0 rfl 0 rfl ?_
                  refine J_iload_n (pc := 179) K dX5_begin_179 2 rfl 2 rfl ?_
                  refine J_iconst (pc := 180) K (2) dX5_begin_180 (by decide) ?_
                  refine J_iload_n (pc := 181) K dX5_begin_181 3 rfl 3 rfl ?_
                  refine J_iload (pc := 182) K dX5_begin_182 4 rfl ?_
                  refine J_callVI (As := [.int x2, .int (2 : Int32), .int x3, .int x4]) (rest := []) (pc := 184) K cs_SaltClouds_Voices_36 (ok_X5_from l ω ih N hk0 x2 (2 : Int32) x3 x4 h2) hk0 (by omega) rfl rfl (Nat.le_of_ble_eq_true rfl) dX5_begin_184 (fun r15 h16 => ?_)
                  refine J_ineg (pc := 187) K dX5_begin_187 ?_
                  exact J_iret (pc := 188) K dX5_begin_188
                · refine J_ite (fun e6_7 => ?_) (fun e6_7 => ?_)
                  · refine J_lookup (pc := 6) K (off := 183) 189 dX5_begin_6 (by decide) (by rw [e6_7]; decide) (by decide) ?_
                    refine J_aload_n (pc := 189) K dX5_begin_189 0 rfl 0 rfl ?_
                    refine J_iload_n (pc := 190) K dX5_begin_190 2 rfl 2 rfl ?_
                    refine J_iconst (pc := 191) K (3) dX5_begin_191 (by decide) ?_
                    refine J_iload_n (pc := 192) K dX5_begin_192 3 rfl 3 rfl ?_
                    refine J_iload (pc := 193) K dX5_begin_193 4 rfl ?_
                    refine J_callVI (As := [.int x2, .int (3 : Int32), .int x3, .int x4]) (rest := []) (pc := 195) K cs_SaltClouds_Voices_36 (ok_X5_from l ω ih N hk0 x2 (3 : Int32) x3 x4 h2) hk0 (by omega) rfl rfl (Nat.le_of_ble_eq_true rfl) dX5_begin_195 (fun r17 h18 => ?_)
                    refine J_aload_n (pc := 198) K dX5_begin_198 0 rfl 0 rfl ?_
                    refine J_iconst (pc := 199) K (0) dX5_begin_199 (by decide) ?_
                    refine J_iconst (pc := 200) K (2) dX5_begin_200 (by decide) ?_
                    refine J_iload (pc := 201) K dX5_begin_201 4 rfl ?_
                    refine J_callVI (As := [.int (0 : Int32), .int (2 : Int32), .int x4]) (rest := [.int r17]) (pc := 203) K cs_SaltClouds_Voices_32 (ok_X5_own l ω ih N hk0 (0 : Int32) (2 : Int32) x4 h18) hk0 (by omega) rfl rfl (Nat.le_of_ble_eq_true rfl) dX5_begin_203 (fun r19 h20 => ?_)
                    refine J_isub (pc := 206) K dX5_begin_206 ?_
                    exact J_iret (pc := 207) K dX5_begin_207
                  · refine J_ite (fun e6_8 => ?_) (fun e6_8 => ?_)
                    · refine J_lookup (pc := 6) K (off := 202) 208 dX5_begin_6 (by decide) (by rw [e6_8]; decide) (by decide) ?_
                      refine J_aload_n (pc := 208) K dX5_begin_208 0 rfl 0 rfl ?_
                      refine J_iload_n (pc := 209) K dX5_begin_209 2 rfl 2 rfl ?_
                      refine J_iconst (pc := 210) K (1) dX5_begin_210 (by decide) ?_
                      refine J_iload_n (pc := 211) K dX5_begin_211 3 rfl 3 rfl ?_
                      refine J_iconst (pc := 212) K (1) dX5_begin_212 (by decide) ?_
                      refine J_iadd (pc := 213) K dX5_begin_213 ?_
                      refine J_iload (pc := 214) K dX5_begin_214 4 rfl ?_
                      refine J_callVI (As := [.int x2, .int (1 : Int32), .int (x3 + (1 : Int32)), .int x4]) (rest := []) (pc := 216) K cs_SaltClouds_Voices_36 (ok_X5_from l ω ih N hk0 x2 (1 : Int32) (x3 + (1 : Int32)) x4 h2) hk0 (by omega) rfl rfl (Nat.le_of_ble_eq_true rfl) dX5_begin_216 (fun r21 h22 => ?_)
                      exact J_iret (pc := 219) K dX5_begin_219
                    · refine J_ite (fun e6_9 => ?_) (fun e6_9 => ?_)
                      · refine J_lookup (pc := 6) K (off := 214) 220 dX5_begin_6 (by decide) (by rw [e6_9]; decide) (by decide) ?_
                        refine J_aload_n (pc := 220) K dX5_begin_220 0 rfl 0 rfl ?_
                        refine J_iload_n (pc := 221) K dX5_begin_221 2 rfl 2 rfl ?_
                        refine J_iconst (pc := 222) K (2) dX5_begin_222 (by decide) ?_
                        refine J_iload_n (pc := 223) K dX5_begin_223 3 rfl 3 rfl ?_
                        refine J_iload (pc := 224) K dX5_begin_224 4 rfl ?_
                        refine J_callVI (As := [.int x2, .int (2 : Int32), .int x3, .int x4]) (rest := []) (pc := 226) K cs_SaltClouds_Voices_36 (ok_X5_from l ω ih N hk0 x2 (2 : Int32) x3 x4 h2) hk0 (by omega) rfl rfl (Nat.le_of_ble_eq_true rfl) dX5_begin_226 (fun r23 h24 => ?_)
                        refine J_aload_n (pc := 229) K dX5_begin_229 0 rfl 0 rfl ?_
                        refine J_getI (pc := 230) K gf_SaltClouds_Voices_22 hk0 rfl dX5_begin_230 ?_
                        refine J_ixor (pc := 233) K dX5_begin_233 ?_
                        exact J_iret (pc := 234) K dX5_begin_234
                      · refine J_ite (fun e6_10 => ?_) (fun e6_10 => ?_)
                        · refine J_lookup (pc := 6) K (off := 229) 235 dX5_begin_6 (by decide) (by rw [e6_10]; decide) (by decide) ?_
                          refine J_aload_n (pc := 235) K dX5_begin_235 0 rfl 0 rfl ?_
                          refine J_iconst (pc := 236) K (1) dX5_begin_236 (by decide) ?_
                          refine J_iload_n (pc := 237) K dX5_begin_237 3 rfl 3 rfl ?_
                          refine J_iload (pc := 238) K dX5_begin_238 4 rfl ?_
                          refine J_callVI (As := [.int (1 : Int32), .int x3, .int x4]) (rest := []) (pc := 240) K cs_SaltClouds_Voices_32 (ok_X5_own l ω ih N hk0 (1 : Int32) x3 x4 h2) hk0 (by omega) rfl rfl (Nat.le_of_ble_eq_true rfl) dX5_begin_240 (fun r25 h26 => ?_)
                          refine J_aload_n (pc := 243) K dX5_begin_243 0 rfl 0 rfl ?_
                          refine J_iload_n (pc := 244) K dX5_begin_244 2 rfl 2 rfl ?_
                          refine J_iconst (pc := 245) K (3) dX5_begin_245 (by decide) ?_
                          refine J_iload_n (pc := 246) K dX5_begin_246 3 rfl 3 rfl ?_
                          refine J_iload (pc := 247) K dX5_begin_247 4 rfl ?_
                          refine J_callVI (As := [.int x2, .int (3 : Int32), .int x3, .int x4]) (rest := [.int r25]) (pc := 249) K cs_SaltClouds_Voices_36 (ok_X5_from l ω ih N hk0 x2 (3 : Int32) x3 x4 h26) hk0 (by omega) rfl rfl (Nat.le_of_ble_eq_true rfl) dX5_begin_249 (fun r27 h28 => ?_)
                          refine J_isub (pc := 252) K dX5_begin_252 ?_
                          exact J_iret (pc := 253) K dX5_begin_253
                        · refine J_lookup (pc := 6) K (off := 248) 254 dX5_begin_6 (by decide) ((lv_osw e6_0 (by decide)).trans ((lv_osw e6_1 (by decide)).trans ((lv_osw e6_2 (by decide)).trans ((lv_osw e6_3 (by decide)).trans ((lv_osw e6_4 (by decide)).trans ((lv_osw e6_5 (by decide)).trans ((lv_osw e6_6 (by decide)).trans ((lv_osw e6_7 (by decide)).trans ((lv_osw e6_8 (by decide)).trans ((lv_osw e6_9 (by decide)).trans ((lv_osw e6_10 (by decide)).trans rfl))))))))))) (by decide) ?_
                          refine J_iconst (pc := 254) K (0) dX5_begin_254 (by decide) ?_
                          exact J_iret (pc := 255) K dX5_begin_255
def F_X5_speak (N : Nat) (k0 : Nat) (x1 : Int32) (k2 : Nat) (x3 : Int32) (x4 : Int32) (h : Mem) : Option (Int32 × Mem) :=
  (seqh (upm h k0 1 (0 : Int32)) (fun h1 =>
  (seqh (upm h1 k0 2 (h1 k2 0)) (fun h2 =>
  (seqh (upm h2 k0 3 x1) (fun h3 =>
  (seqh (upm h3 k0 4 (h3 k2 1)) (fun h4 =>
  (bnd (F_X5_own (F_X5_begin N 43) N k0 x3 x4 (0 : Int32) h4) (fun r5 h6 =>
  (some (r5, h6))))))))))))
set_option maxRecDepth 10000 in
set_option maxHeartbeats 1000000 in
theorem ok_X5_speak (l : Launch) (ω : WX) (N : Nat) {k0 : Nat} (hk0 : lay k0 = 5) (x1 : Int32) {k2 : Nat} (hk2 : lay k2 = 0) (x3 : Int32) (x4 : Int32) (h : Mem) : MC rvI l ω yX5_speak cX5_speak 5 (some .int) 133 [.ref (ω.1 + k0), .int x1, .ref (ω.1 + k2), .int x3, .int x4] h (F_X5_speak N k0 x1 k2 x3 x4 h) := by
  refine MC.of (by decide +kernel) [(0, .ref (ω.1 + k0)), (1, .int x1), (2, .ref (ω.1 + k2)), (3, .int x3), (4, .int x4)] rfl (Nat.le_of_ble_eq_true rfl) (fun χ K => ?_)
  have K : Kok ω χ "SaltClouds$Voices" cX5_speak 5 (some .int) 133 := K
  unfold F_X5_speak
  refine J_aload_n (pc := 0) K dX5_speak_0 0 rfl 0 rfl ?_
  refine J_iconst (pc := 1) K (0) dX5_speak_1 (by decide) ?_
  refine J_putI (pc := 2) K gf_SaltClouds_Voices_15 hk0 (by decide) rfl dX5_speak_2 (fun h1 => ?_)
  refine J_aload_n (pc := 5) K dX5_speak_5 0 rfl 0 rfl ?_
  refine J_aload_n (pc := 6) K dX5_speak_6 2 rfl 2 rfl ?_
  refine J_getI (pc := 7) K gf_SaltClouds_Voices_28 hk2 rfl dX5_speak_7 ?_
  refine J_putI (pc := 10) K gf_SaltClouds_Voices_19 hk0 (by decide) rfl dX5_speak_10 (fun h2 => ?_)
  refine J_aload_n (pc := 13) K dX5_speak_13 0 rfl 0 rfl ?_
  refine J_iload_n (pc := 14) K dX5_speak_14 1 rfl 1 rfl ?_
  refine J_putI (pc := 15) K gf_SaltClouds_Voices_22 hk0 (by decide) rfl dX5_speak_15 (fun h3 => ?_)
  refine J_aload_n (pc := 18) K dX5_speak_18 0 rfl 0 rfl ?_
  refine J_aload_n (pc := 19) K dX5_speak_19 2 rfl 2 rfl ?_
  refine J_getI (pc := 20) K gf_SaltClouds_Voices_31 hk2 rfl dX5_speak_20 ?_
  refine J_putI (pc := 23) K gf_SaltClouds_Voices_25 hk0 (by decide) rfl dX5_speak_23 (fun h4 => ?_)
  refine J_aload_n (pc := 26) K dX5_speak_26 0 rfl 0 rfl ?_
  refine J_iload_n (pc := 27) K dX5_speak_27 3 rfl 3 rfl ?_
  refine J_iload (pc := 28) K dX5_speak_28 4 rfl ?_
  refine J_iconst (pc := 30) K (0) dX5_speak_30 (by decide) ?_
  refine J_callVI (As := [.int x3, .int x4, .int (0 : Int32)]) (rest := []) (pc := 31) K cs_SaltClouds_Voices_32 (ok_X5_own l ω (ok_X5_begin l ω N 43) N hk0 x3 x4 (0 : Int32) h4) hk0 (by decide) rfl rfl (Nat.le_of_ble_eq_true rfl) dX5_speak_31 (fun r5 h6 => ?_)
  exact J_iret (pc := 34) K dX5_speak_34
def F_X6_voice (N : Nat) (k0 : Nat) (x1 : Int32) (x2 : Int32) (x3 : Int32) (h : Mem) : Option (Int32 × Mem) :=
  (bnd (F_X6_hasCloud k0 x1 h) (fun r1 h2 =>
  (if r1 = 0 then
    (bnd (F_X6_refuse k0 (-1000000001 : Int32) h2) (fun r3 h4 =>
    (some (r3, h4))))
  else
    (bnd (F_X6_within x2 (0 : Int32) (3 : Int32) h2) (fun r5 h6 =>
    (if r5 = 0 then
      (bnd (F_X6_refuse k0 (-1000000001 : Int32) h6) (fun r7 h8 =>
      (some (r7, h8))))
    else
      (gin x1 8
      (bnd (F_X5_speak N (k0 + 91) x1 (((k0 + 1) + 1) + 11 + 2 * ix x1) x2 x3 h6) (fun r10 h11 =>
      (some (r10, h11)))))))))))
set_option maxRecDepth 10000 in
set_option maxHeartbeats 1000000 in
theorem ok_X6_voice (l : Launch) (ω : WX) (N : Nat) {k0 : Nat} (hk0 : lay k0 = 6) (x1 : Int32) (x2 : Int32) (x3 : Int32) (h : Mem) : MC rvI l ω yX6_voice cX6_voice 4 (some .int) 134 [.ref (ω.1 + k0), .int x1, .int x2, .int x3] h (F_X6_voice N k0 x1 x2 x3 h) := by
  refine MC.of (by decide +kernel) [(0, .ref (ω.1 + k0)), (1, .int x1), (2, .int x2), (3, .int x3)] rfl (Nat.le_of_ble_eq_true rfl) (fun χ K => ?_)
  have K : Kok ω χ "SaltClouds" cX6_voice 4 (some .int) 134 := K
  unfold F_X6_voice
  refine J_aload_n (pc := 0) K dX6_voice_0 0 rfl 0 rfl ?_
  refine J_iload_n (pc := 1) K dX6_voice_1 1 rfl 1 rfl ?_
  refine J_callVI (As := [.int x1]) (rest := []) (pc := 2) K cs_SaltClouds_72 (ok_X6_hasCloud l ω hk0 x1 h) hk0 (by decide) rfl rfl (Nat.le_of_ble_eq_true rfl) dX6_voice_2 (fun r1 h2 => ?_)
  refine J_if_eq (pc := 5) K 17 dX6_voice_5 (by decide) ?_ ?_
  · refine J_aload_n (pc := 17) K dX6_voice_17 0 rfl 0 rfl ?_
    refine J_ldc (pc := 18) K kc_SaltClouds_59 dX6_voice_18 ?_
    refine J_callVI (As := [.int (-1000000001 : Int32)]) (rest := []) (pc := 20) K cs_SaltClouds_60 (ok_X6_refuse l ω hk0 (-1000000001 : Int32) h2) hk0 (by decide) rfl rfl (Nat.le_of_ble_eq_true rfl) dX6_voice_20 (fun r3 h4 => ?_)
    exact J_iret (pc := 23) K dX6_voice_23
  · refine J_iload_n (pc := 8) K dX6_voice_8 2 rfl 2 rfl ?_
    refine J_iconst (pc := 9) K (0) dX6_voice_9 (by decide) ?_
    refine J_iconst (pc := 10) K (3) dX6_voice_10 (by decide) ?_
    refine J_callTI (As := [.int x2, .int (0 : Int32), .int (3 : Int32)]) (rest := []) (pc := 11) K cs_SaltClouds_51 (ok_X6_within l ω x2 (0 : Int32) (3 : Int32) h2) (by decide) rfl rfl (Nat.le_of_ble_eq_true rfl) dX6_voice_11 (fun r5 h6 => ?_)
    refine J_if_ne (pc := 14) K 24 dX6_voice_14 (by decide) ?_ ?_
    · refine J_aload_n (pc := 17) K dX6_voice_17 0 rfl 0 rfl ?_
      refine J_ldc (pc := 18) K kc_SaltClouds_59 dX6_voice_18 ?_
      refine J_callVI (As := [.int (-1000000001 : Int32)]) (rest := []) (pc := 20) K cs_SaltClouds_60 (ok_X6_refuse l ω hk0 (-1000000001 : Int32) h6) hk0 (by decide) rfl rfl (Nat.le_of_ble_eq_true rfl) dX6_voice_20 (fun r7 h8 => ?_)
      exact J_iret (pc := 23) K dX6_voice_23
    · refine J_aload_n (pc := 24) K dX6_voice_24 0 rfl 0 rfl ?_
      refine J_getR (pc := 25) K gf_SaltClouds_42 hk0 91 rfl dX6_voice_25 ?_
      refine J_iload_n (pc := 28) K dX6_voice_28 1 rfl 1 rfl ?_
      refine J_aload_n (pc := 29) K dX6_voice_29 0 rfl 0 rfl ?_
      refine J_getR (pc := 30) K gf_SaltClouds_12 hk0 1 rfl dX6_voice_30 ?_
      refine J_getR (pc := 33) K gf_SaltClouds_79 (ty_6_1 hk0) 1 rfl dX6_voice_33 ?_
      refine J_iload_n (pc := 36) K dX6_voice_36 1 rfl 1 rfl ?_
      refine J_aldC (pc := 37) K (a := (k0 + 1) + 1) (ty_2_1 (ty_6_1 hk0)) dX6_voice_37 (fun b9 => ?_)
      refine J_iload_n (pc := 38) K dX6_voice_38 2 rfl 2 rfl ?_
      refine J_iload_n (pc := 39) K dX6_voice_39 3 rfl 3 rfl ?_
      refine J_callVI (As := [.int x1, .ref (ω.1 + (((k0 + 1) + 1) + 11 + 2 * ix x1)), .int x2, .int x3]) (rest := []) (pc := 40) K cs_SaltClouds_243 (ok_X5_speak l ω N (ty_6_91 hk0) x1 (ty_8e (ty_2_1 (ty_6_1 hk0)) b9) x2 x3 h6) (ty_6_91 hk0) (by decide) rfl rfl (Nat.le_of_ble_eq_true rfl) dX6_voice_40 (fun r10 h11 => ?_)
      exact J_iret (pc := 43) K dX6_voice_43
def F_X6_trace (k0 : Nat) (x1 : Int32) (h : Mem) : Option (Int32 × Mem) :=
  (bnd (F_X6_within x1 (0 : Int32) ((h (k0 + 91) 1) - (1 : Int32)) h) (fun r1 h2 =>
  (if r1 = 0 then
    (bnd (F_X6_refuse k0 (-1000000002 : Int32) h2) (fun r3 h4 =>
    (some (r3, h4))))
  else
    (gin x1 40
    (some (h2 ((k0 + 91) + 1) (ix x1), h2))))))
set_option maxRecDepth 10000 in
set_option maxHeartbeats 1000000 in
theorem ok_X6_trace (l : Launch) (ω : WX) {k0 : Nat} (hk0 : lay k0 = 6) (x1 : Int32) (h : Mem) : MC rvI l ω yX6_trace cX6_trace 2 (some .int) 2 [.ref (ω.1 + k0), .int x1] h (F_X6_trace k0 x1 h) := by
  refine MC.of (by decide +kernel) [(0, .ref (ω.1 + k0)), (1, .int x1)] rfl (Nat.le_of_ble_eq_true rfl) (fun χ K => ?_)
  have K : Kok ω χ "SaltClouds" cX6_trace 2 (some .int) 2 := K
  unfold F_X6_trace
  refine J_iload_n (pc := 0) K dX6_trace_0 1 rfl 1 rfl ?_
  refine J_iconst (pc := 1) K (0) dX6_trace_1 (by decide) ?_
  refine J_aload_n (pc := 2) K dX6_trace_2 0 rfl 0 rfl ?_
  refine J_getR (pc := 3) K gf_SaltClouds_42 hk0 91 rfl dX6_trace_3 ?_
  refine J_getI (pc := 6) K gf_SaltClouds_247 (ty_6_91 hk0) rfl dX6_trace_6 ?_
  refine J_iconst (pc := 9) K (1) dX6_trace_9 (by decide) ?_
  refine J_isub (pc := 10) K dX6_trace_10 ?_
  refine J_callTI (As := [.int x1, .int (0 : Int32), .int ((h (k0 + 91) 1) - (1 : Int32))]) (rest := []) (pc := 11) K cs_SaltClouds_51 (ok_X6_within l ω x1 (0 : Int32) ((h (k0 + 91) 1) - (1 : Int32)) h) (by decide) rfl rfl (Nat.le_of_ble_eq_true rfl) dX6_trace_11 (fun r1 h2 => ?_)
  refine J_if_ne (pc := 14) K 24 dX6_trace_14 (by decide) ?_ ?_
  · refine J_aload_n (pc := 17) K dX6_trace_17 0 rfl 0 rfl ?_
    refine J_ldc (pc := 18) K kc_SaltClouds_188 dX6_trace_18 ?_
    refine J_callVI (As := [.int (-1000000002 : Int32)]) (rest := []) (pc := 20) K cs_SaltClouds_60 (ok_X6_refuse l ω hk0 (-1000000002 : Int32) h2) hk0 (by decide) rfl rfl (Nat.le_of_ble_eq_true rfl) dX6_trace_20 (fun r3 h4 => ?_)
    exact J_iret (pc := 23) K dX6_trace_23
  · refine J_aload_n (pc := 24) K dX6_trace_24 0 rfl 0 rfl ?_
    refine J_getR (pc := 25) K gf_SaltClouds_42 hk0 91 rfl dX6_trace_25 ?_
    refine J_getR (pc := 28) K gf_SaltClouds_250 (ty_6_91 hk0) 1 rfl dX6_trace_28 ?_
    refine J_iload_n (pc := 31) K dX6_trace_31 1 rfl 1 rfl ?_
    refine J_iald (pc := 32) K (a := (k0 + 91) + 1) (n := 40) (ty_5_1 (ty_6_91 hk0)) dX6_trace_32 ?_
    exact J_iret (pc := 33) K dX6_trace_33
def F_X1_lay_12 (N : Nat) (k0 : Nat) (kt : Mem → Option (Unit × Mem)) : Nat → Int32 → Mem → Option (Unit × Mem)
  | 0, _, _ => none
  | n + 1, u3, h =>
    (if (nI 40) ≤ u3 then
      (kt h)
    else
      (gin u3 40 (seqh (upm h (k0 + 1) (ix u3) (0 : Int32)) (fun h3 =>
      (F_X1_lay_12 N k0 kt n (u3 + 1) h3)))))
set_option maxRecDepth 10000 in
set_option maxHeartbeats 1000000 in
theorem okL_X1_lay_12 {l : Launch} {ω : WX} {χ : KT} {d : Nat} (K : Kok ω χ "SaltClouds$Sheet" cX1_lay 4 none d) (hd : 0 ≤ d) (N : Nat) {k0 : Nat} (hk0 : lay k0 = 1) {kt : Mem → Option (Unit × Mem)} (hK : ∀ (h : Mem), J (ZM rvV ω χ) l ω χ 34 4 [] [] h (kt h)) : ∀ (n : Nat) (u3 : Int32) (h : Mem), J (ZM rvV ω χ) l ω χ 12 4 [(0, .ref (ω.1 + k0)), (3, .int u3)] [] h (F_X1_lay_12 N k0 kt n u3 h) := by
  intro n
  induction n with
  | zero =>
    intro u3 h
    exact J_none rfl
  | succ n ih =>
    intro u3 h
    rw [F_X1_lay_12]
    refine J_iload_n (pc := 12) K dX1_lay_12 3 rfl 1 rfl ?_
    refine J_aload_n (pc := 13) K dX1_lay_13 0 rfl 0 rfl ?_
    refine J_getR (pc := 14) K gf_SaltClouds_Sheet_18 hk0 1 rfl dX1_lay_14 ?_
    refine J_alen (pc := 17) K (a := k0 + 1) (n := 40) (ty_1_1 hk0) dX1_lay_17 ?_
    refine J_icmp_ge (pc := 18) K 34 dX1_lay_18 (by decide) ?_ ?_
    · refine J_lv [] [] rfl ?_
      exact hK h
    · refine J_aload_n (pc := 21) K dX1_lay_21 0 rfl 0 rfl ?_
      refine J_getR (pc := 22) K gf_SaltClouds_Sheet_18 hk0 1 rfl dX1_lay_22 ?_
      refine J_iload_n (pc := 25) K dX1_lay_25 3 rfl 1 rfl ?_
      refine J_iconst (pc := 26) K (0) dX1_lay_26 (by decide) ?_
      refine J_iast (pc := 27) K (a := k0 + 1) (n := 40) (ty_1_1 hk0) dX1_lay_27 (fun h3 => ?_)
      refine J_iinc (pc := 28) K (1) dX1_lay_28 1 rfl (by decide) (by decide) [(3, .int (u3 + 1)), (0, .ref (ω.1 + k0))] rfl ?_
      refine J_goto (pc := 31) K 12 dX1_lay_31 (by decide) ?_
      refine J_lv [1, 0] [(0, .ref (ω.1 + k0)), (3, .int (u3 + 1))] rfl ?_
      exact ih (u3 + 1) h3
def F_X1_lay (N : Nat) (k0 : Nat) (x1 : Int32) (x2 : Int32) (h : Mem) : Option (Unit × Mem) :=
  (seqh (upm h k0 0 x1) (fun h1 =>
  (seqh (upm h1 k0 1 x2) (fun h2 =>
  (F_X1_lay_12 N k0 (fun (h4 : Mem) =>
    (some ((), h4))) N (0 : Int32) h2)))))
set_option maxRecDepth 10000 in
set_option maxHeartbeats 1000000 in
theorem ok_X1_lay (l : Launch) (ω : WX) (N : Nat) {k0 : Nat} (hk0 : lay k0 = 1) (x1 : Int32) (x2 : Int32) (h : Mem) : MC rvV l ω yX1_lay cX1_lay 4 none 0 [.ref (ω.1 + k0), .int x1, .int x2] h (F_X1_lay N k0 x1 x2 h) := by
  refine MC.of (by decide +kernel) [(0, .ref (ω.1 + k0)), (1, .int x1), (2, .int x2)] rfl (Nat.le_of_ble_eq_true rfl) (fun χ K => ?_)
  have K : Kok ω χ "SaltClouds$Sheet" cX1_lay 4 none 0 := K
  unfold F_X1_lay
  refine J_aload_n (pc := 0) K dX1_lay_0 0 rfl 0 rfl ?_
  refine J_iload_n (pc := 1) K dX1_lay_1 1 rfl 1 rfl ?_
  refine J_putI (pc := 2) K gf_SaltClouds_Sheet_9 hk0 (by decide) rfl dX1_lay_2 (fun h1 => ?_)
  refine J_aload_n (pc := 5) K dX1_lay_5 0 rfl 0 rfl ?_
  refine J_iload_n (pc := 6) K dX1_lay_6 2 rfl 2 rfl ?_
  refine J_putI (pc := 7) K gf_SaltClouds_Sheet_15 hk0 (by decide) rfl dX1_lay_7 (fun h2 => ?_)
  refine J_iconst (pc := 10) K (0) dX1_lay_10 (by decide) ?_
  refine J_istore_n (pc := 11) K dX1_lay_11 3 rfl (by decide) [(3, .int (0 : Int32)), (0, .ref (ω.1 + k0)), (1, .int x1), (2, .int x2)] rfl ?_
  refine J_lv [1, 0] [(0, .ref (ω.1 + k0)), (3, .int (0 : Int32))] rfl ?_
  refine okL_X1_lay_12 K  (by decide) N hk0 (fun h4 => ?_) _ _ _
  exact J_vret (pc := 34) K dX1_lay_34
def F_X6_sheet (N : Nat) (k0 : Nat) (x1 : Int32) (x2 : Int32) (x3 : Int32) (h : Mem) : Option (Int32 × Mem) :=
  (jn (fun (s2 : Int32) (h3 : Mem) =>
    (bnd (F_X6_isSheet x1 h3) (fun r4 h5 =>
    (if r4 = 0 then
      (bnd (F_X6_refuse k0 (-1000000001 : Int32) h5) (fun r6 h7 =>
      (some (r6, h7))))
    else
      (if s2 = 0 then
        (bnd (F_X6_refuse k0 (-1000000001 : Int32) h5) (fun r8 h9 =>
        (some (r8, h9))))
      else
        (if x2 = 0 then
          (gin x1 4
          (bnd (F_X1_lay N ((k0 + 85) + 9 + 2 * ix x1) (0 : Int32) (0 : Int32) h5) (fun _ h12 =>
          (some ((1 : Int32), h12)))))
        else
          (if 0 ≤ x3 then
            (if x3 ≤ (40 : Int32) then
              (gin x1 4
              (bnd (F_X1_lay N ((k0 + 85) + 9 + 2 * ix x1) x2 x3 h5) (fun _ h15 =>
              (some ((1 : Int32), h15)))))
            else
              (bnd (F_X6_refuse k0 (-1000000001 : Int32) h5) (fun r16 h17 =>
              (some (r16, h17)))))
          else
            (bnd (F_X6_refuse k0 (-1000000003 : Int32) h5) (fun r18 h19 =>
            (some (r18, h19))))))))))) (fun j1 =>
    (if x2 = 0 then
      (j1 (1 : Int32) h)
    else
      (if x2 = (8 : Int32) then
        (j1 (1 : Int32) h)
      else
        (if x2 = (16 : Int32) then
          (j1 (1 : Int32) h)
        else
          (if x2 = (32 : Int32) then
            (j1 (1 : Int32) h)
          else
            (j1 (0 : Int32) h)))))))
set_option maxRecDepth 10000 in
set_option maxHeartbeats 1000000 in
theorem ok_X6_sheet (l : Launch) (ω : WX) (N : Nat) {k0 : Nat} (hk0 : lay k0 = 6) (x1 : Int32) (x2 : Int32) (x3 : Int32) (h : Mem) : MC rvI l ω yX6_sheet cX6_sheet 5 (some .int) 2 [.ref (ω.1 + k0), .int x1, .int x2, .int x3] h (F_X6_sheet N k0 x1 x2 x3 h) := by
  refine MC.of (by decide +kernel) [(0, .ref (ω.1 + k0)), (1, .int x1), (2, .int x2), (3, .int x3)] rfl (Nat.le_of_ble_eq_true rfl) (fun χ K => ?_)
  have K : Kok ω χ "SaltClouds" cX6_sheet 5 (some .int) 2 := K
  unfold F_X6_sheet
  refine J_iload_n (pc := 0) K dX6_sheet_0 2 rfl 2 rfl ?_
  refine J_jn (fun j1 => ∀ (s2 : Int32) (h3 : Mem), J (ZM rvI ω χ) l ω χ 27 5 [(0, .ref (ω.1 + k0)), (1, .int x1), (2, .int x2), (3, .int x3)] [.int s2] h3 (j1 s2 h3)) ?_ ?_
  · intro s2 h3
    refine J_istore (pc := 27) K dX6_sheet_27 (by decide) [(4, .int s2), (0, .ref (ω.1 + k0)), (1, .int x1), (2, .int x2), (3, .int x3)] rfl ?_
    refine J_iload_n (pc := 29) K dX6_sheet_29 1 rfl 2 rfl ?_
    refine J_callTI (As := [.int x1]) (rest := []) (pc := 30) K cs_SaltClouds_206 (ok_X6_isSheet l ω x1 h3) (by decide) rfl rfl (Nat.le_of_ble_eq_true rfl) dX6_sheet_30 (fun r4 h5 => ?_)
    refine J_if_eq (pc := 33) K 41 dX6_sheet_33 (by decide) ?_ ?_
    · refine J_aload_n (pc := 41) K dX6_sheet_41 0 rfl 1 rfl ?_
      refine J_ldc (pc := 42) K kc_SaltClouds_59 dX6_sheet_42 ?_
      refine J_callVI (As := [.int (-1000000001 : Int32)]) (rest := []) (pc := 44) K cs_SaltClouds_60 (ok_X6_refuse l ω hk0 (-1000000001 : Int32) h5) hk0 (by decide) rfl rfl (Nat.le_of_ble_eq_true rfl) dX6_sheet_44 (fun r6 h7 => ?_)
      exact J_iret (pc := 47) K dX6_sheet_47
    · refine J_iload (pc := 36) K dX6_sheet_36 0 rfl ?_
      refine J_if_ne (pc := 38) K 48 dX6_sheet_38 (by decide) ?_ ?_
      · refine J_aload_n (pc := 41) K dX6_sheet_41 0 rfl 1 rfl ?_
        refine J_ldc (pc := 42) K kc_SaltClouds_59 dX6_sheet_42 ?_
        refine J_callVI (As := [.int (-1000000001 : Int32)]) (rest := []) (pc := 44) K cs_SaltClouds_60 (ok_X6_refuse l ω hk0 (-1000000001 : Int32) h5) hk0 (by decide) rfl rfl (Nat.le_of_ble_eq_true rfl) dX6_sheet_44 (fun r8 h9 => ?_)
        exact J_iret (pc := 47) K dX6_sheet_47
      · refine J_iload_n (pc := 48) K dX6_sheet_48 2 rfl 3 rfl ?_
        refine J_if_ne (pc := 49) K 65 dX6_sheet_49 (by decide) ?_ ?_
        · refine J_aload_n (pc := 52) K dX6_sheet_52 0 rfl 1 rfl ?_
          refine J_getR (pc := 53) K gf_SaltClouds_28 hk0 85 rfl dX6_sheet_53 ?_
          refine J_iload_n (pc := 56) K dX6_sheet_56 1 rfl 2 rfl ?_
          refine J_aldS (pc := 57) K (a := k0 + 85) (ty_6_85 hk0) dX6_sheet_57 (fun b10 => ?_)
          refine J_iconst (pc := 58) K (0) dX6_sheet_58 (by decide) ?_
          refine J_iconst (pc := 59) K (0) dX6_sheet_59 (by decide) ?_
          refine J_callVU (As := [.int (0 : Int32), .int (0 : Int32)]) (rest := []) (pc := 60) K cs_SaltClouds_253 (ok_X1_lay l ω N (ty_9e (ty_6_85 hk0) b10) (0 : Int32) (0 : Int32) h5) (ty_9e (ty_6_85 hk0) b10) (by decide) rfl rfl (Nat.le_of_ble_eq_true rfl) dX6_sheet_60 (fun _ h12 => ?_)
          refine J_iconst (pc := 63) K (1) dX6_sheet_63 (by decide) ?_
          exact J_iret (pc := 64) K dX6_sheet_64
        · refine J_iload_n (pc := 65) K dX6_sheet_65 3 rfl 4 rfl ?_
          refine J_if_ge (pc := 66) K 76 dX6_sheet_66 (by decide) ?_ ?_
          · refine J_iload_n (pc := 76) K dX6_sheet_76 3 rfl 4 rfl ?_
            refine J_bipush (pc := 77) K (40) dX6_sheet_77 (by decide) ?_
            refine J_icmp_le (pc := 79) K 89 dX6_sheet_79 (by decide) ?_ ?_
            · refine J_aload_n (pc := 89) K dX6_sheet_89 0 rfl 1 rfl ?_
              refine J_getR (pc := 90) K gf_SaltClouds_28 hk0 85 rfl dX6_sheet_90 ?_
              refine J_iload_n (pc := 93) K dX6_sheet_93 1 rfl 2 rfl ?_
              refine J_aldS (pc := 94) K (a := k0 + 85) (ty_6_85 hk0) dX6_sheet_94 (fun b13 => ?_)
              refine J_iload_n (pc := 95) K dX6_sheet_95 2 rfl 3 rfl ?_
              refine J_iload_n (pc := 96) K dX6_sheet_96 3 rfl 4 rfl ?_
              refine J_callVU (As := [.int x2, .int x3]) (rest := []) (pc := 97) K cs_SaltClouds_253 (ok_X1_lay l ω N (ty_9e (ty_6_85 hk0) b13) x2 x3 h5) (ty_9e (ty_6_85 hk0) b13) (by decide) rfl rfl (Nat.le_of_ble_eq_true rfl) dX6_sheet_97 (fun _ h15 => ?_)
              refine J_iconst (pc := 100) K (1) dX6_sheet_100 (by decide) ?_
              exact J_iret (pc := 101) K dX6_sheet_101
            · refine J_aload_n (pc := 82) K dX6_sheet_82 0 rfl 1 rfl ?_
              refine J_ldc (pc := 83) K kc_SaltClouds_59 dX6_sheet_83 ?_
              refine J_callVI (As := [.int (-1000000001 : Int32)]) (rest := []) (pc := 85) K cs_SaltClouds_60 (ok_X6_refuse l ω hk0 (-1000000001 : Int32) h5) hk0 (by decide) rfl rfl (Nat.le_of_ble_eq_true rfl) dX6_sheet_85 (fun r16 h17 => ?_)
              exact J_iret (pc := 88) K dX6_sheet_88
          · refine J_aload_n (pc := 69) K dX6_sheet_69 0 rfl 1 rfl ?_
            refine J_ldc (pc := 70) K kc_SaltClouds_107 dX6_sheet_70 ?_
            refine J_callVI (As := [.int (-1000000003 : Int32)]) (rest := []) (pc := 72) K cs_SaltClouds_60 (ok_X6_refuse l ω hk0 (-1000000003 : Int32) h5) hk0 (by decide) rfl rfl (Nat.le_of_ble_eq_true rfl) dX6_sheet_72 (fun r18 h19 => ?_)
            exact J_iret (pc := 75) K dX6_sheet_75
  · intro j1 hj1
    refine J_if_eq (pc := 1) K 22 dX6_sheet_1 (by decide) ?_ ?_
    · refine J_iconst (pc := 22) K (1) dX6_sheet_22 (by decide) ?_
      refine J_goto (pc := 23) K 27 dX6_sheet_23 (by decide) ?_
      exact hj1 (1 : Int32) h
    · refine J_iload_n (pc := 4) K dX6_sheet_4 2 rfl 2 rfl ?_
      refine J_bipush (pc := 5) K (8) dX6_sheet_5 (by decide) ?_
      refine J_icmp_eq (pc := 7) K 22 dX6_sheet_7 (by decide) ?_ ?_
      · refine J_iconst (pc := 22) K (1) dX6_sheet_22 (by decide) ?_
        refine J_goto (pc := 23) K 27 dX6_sheet_23 (by decide) ?_
        exact hj1 (1 : Int32) h
      · refine J_iload_n (pc := 10) K dX6_sheet_10 2 rfl 2 rfl ?_
        refine J_bipush (pc := 11) K (16) dX6_sheet_11 (by decide) ?_
        refine J_icmp_eq (pc := 13) K 22 dX6_sheet_13 (by decide) ?_ ?_
        · refine J_iconst (pc := 22) K (1) dX6_sheet_22 (by decide) ?_
          refine J_goto (pc := 23) K 27 dX6_sheet_23 (by decide) ?_
          exact hj1 (1 : Int32) h
        · refine J_iload_n (pc := 16) K dX6_sheet_16 2 rfl 2 rfl ?_
          refine J_bipush (pc := 17) K (32) dX6_sheet_17 (by decide) ?_
          refine J_icmp_ne (pc := 19) K 26 dX6_sheet_19 (by decide) ?_ ?_
          · refine J_iconst (pc := 22) K (1) dX6_sheet_22 (by decide) ?_
            refine J_goto (pc := 23) K 27 dX6_sheet_23 (by decide) ?_
            exact hj1 (1 : Int32) h
          · refine J_iconst (pc := 26) K (0) dX6_sheet_26 (by decide) ?_
            exact hj1 (0 : Int32) h
def F_X1_write (k0 : Nat) (x1 : Int32) (x2 : Int32) (h : Mem) : Option (Unit × Mem) :=
  (seqi (h k0 0) (fun v1 =>
  (if v1 = (8 : Int32) then
    (gin x1 40 (seqh (upm h (k0 + 1) (ix x1) (i2b x2)) (fun h2 =>
    (some ((), h2)))))
  else
    (if v1 = (16 : Int32) then
      (gin x1 40 (seqh (upm h (k0 + 1) (ix x1) (i2s x2)) (fun h3 =>
      (some ((), h3)))))
    else
      (gin x1 40 (seqh (upm h (k0 + 1) (ix x1) x2) (fun h4 =>
      (some ((), h4)))))))))
set_option maxRecDepth 10000 in
set_option maxHeartbeats 1000000 in
theorem ok_X1_write (l : Launch) (ω : WX) {k0 : Nat} (hk0 : lay k0 = 1) (x1 : Int32) (x2 : Int32) (h : Mem) : MC rvV l ω yX1_write cX1_write 3 none 0 [.ref (ω.1 + k0), .int x1, .int x2] h (F_X1_write k0 x1 x2 h) := by
  refine MC.of (by decide +kernel) [(0, .ref (ω.1 + k0)), (1, .int x1), (2, .int x2)] rfl (Nat.le_of_ble_eq_true rfl) (fun χ K => ?_)
  have K : Kok ω χ "SaltClouds$Sheet" cX1_write 3 none 0 := K
  unfold F_X1_write
  refine J_aload_n (pc := 0) K dX1_write_0 0 rfl 0 rfl ?_
  refine J_getI (pc := 1) K gf_SaltClouds_Sheet_9 hk0 rfl dX1_write_1 ?_
  refine J_topi (fun v1 => ?_)
  refine J_ite (fun e4_0 => ?_) (fun e4_0 => ?_)
  · refine J_lookup (pc := 4) K (off := 28) 32 dX1_write_4 (by decide) (by rw [e4_0]; decide) (by decide) ?_
    refine J_aload_n (pc := 32) K dX1_write_32 0 rfl 0 rfl ?_
    refine J_getR (pc := 33) K gf_SaltClouds_Sheet_18 hk0 1 rfl dX1_write_33 ?_
    refine J_iload_n (pc := 36) K dX1_write_36 1 rfl 1 rfl ?_
    refine J_iload_n (pc := 37) K dX1_write_37 2 rfl 2 rfl ?_
    refine J_i2b (pc := 38) K dX1_write_38 ?_
    refine J_iast (pc := 39) K (a := k0 + 1) (n := 40) (ty_1_1 hk0) dX1_write_39 (fun h2 => ?_)
    refine J_goto (pc := 40) K 61 dX1_write_40 (by decide) ?_
    exact J_vret (pc := 61) K dX1_write_61
  · refine J_ite (fun e4_1 => ?_) (fun e4_1 => ?_)
    · refine J_lookup (pc := 4) K (off := 39) 43 dX1_write_4 (by decide) (by rw [e4_1]; decide) (by decide) ?_
      refine J_aload_n (pc := 43) K dX1_write_43 0 rfl 0 rfl ?_
      refine J_getR (pc := 44) K gf_SaltClouds_Sheet_18 hk0 1 rfl dX1_write_44 ?_
      refine J_iload_n (pc := 47) K dX1_write_47 1 rfl 1 rfl ?_
      refine J_iload_n (pc := 48) K dX1_write_48 2 rfl 2 rfl ?_
      refine J_i2s (pc := 49) K dX1_write_49 ?_
      refine J_iast (pc := 50) K (a := k0 + 1) (n := 40) (ty_1_1 hk0) dX1_write_50 (fun h3 => ?_)
      refine J_goto (pc := 51) K 61 dX1_write_51 (by decide) ?_
      exact J_vret (pc := 61) K dX1_write_61
    · refine J_lookup (pc := 4) K (off := 50) 54 dX1_write_4 (by decide) ((lv_osw e4_0 (by decide)).trans ((lv_osw e4_1 (by decide)).trans rfl)) (by decide) ?_
      refine J_aload_n (pc := 54) K dX1_write_54 0 rfl 0 rfl ?_
      refine J_getR (pc := 55) K gf_SaltClouds_Sheet_18 hk0 1 rfl dX1_write_55 ?_
      refine J_iload_n (pc := 58) K dX1_write_58 1 rfl 1 rfl ?_
      refine J_iload_n (pc := 59) K dX1_write_59 2 rfl 2 rfl ?_
      refine J_iast (pc := 60) K (a := k0 + 1) (n := 40) (ty_1_1 hk0) dX1_write_60 (fun h4 => ?_)
      exact J_vret (pc := 61) K dX1_write_61
def F_X6_put (k0 : Nat) (x1 : Int32) (x2 : Int32) (x3 : Int32) (h : Mem) : Option (Int32 × Mem) :=
  (bnd (F_X6_isSheet x1 h) (fun r1 h2 =>
  (if r1 = 0 then
    (bnd (F_X6_refuse k0 (-1000000001 : Int32) h2) (fun r3 h4 =>
    (some (r3, h4))))
  else
    (gin x1 4
    (bnd (F_X1_isMissing ((k0 + 85) + 9 + 2 * ix x1) h2) (fun r6 h7 =>
    (if r6 = 0 then
      (gin x1 4
      (bnd (F_X6_within x2 (0 : Int32) ((h7 ((k0 + 85) + 9 + 2 * ix x1) 1) - (1 : Int32)) h7) (fun r9 h10 =>
      (if r9 = 0 then
        (bnd (F_X6_refuse k0 (-1000000001 : Int32) h10) (fun r11 h12 =>
        (some (r11, h12))))
      else
        (gin x1 4
        (bnd (F_X1_write ((k0 + 85) + 9 + 2 * ix x1) x2 x3 h10) (fun _ h15 =>
        (some ((1 : Int32), h15)))))))))
    else
      (bnd (F_X6_refuse k0 (-1000000002 : Int32) h7) (fun r16 h17 =>
      (some (r16, h17)))))))))))
set_option maxRecDepth 10000 in
set_option maxHeartbeats 1000000 in
theorem ok_X6_put (l : Launch) (ω : WX) {k0 : Nat} (hk0 : lay k0 = 6) (x1 : Int32) (x2 : Int32) (x3 : Int32) (h : Mem) : MC rvI l ω yX6_put cX6_put 4 (some .int) 2 [.ref (ω.1 + k0), .int x1, .int x2, .int x3] h (F_X6_put k0 x1 x2 x3 h) := by
  refine MC.of (by decide +kernel) [(0, .ref (ω.1 + k0)), (1, .int x1), (2, .int x2), (3, .int x3)] rfl (Nat.le_of_ble_eq_true rfl) (fun χ K => ?_)
  have K : Kok ω χ "SaltClouds" cX6_put 4 (some .int) 2 := K
  unfold F_X6_put
  refine J_iload_n (pc := 0) K dX6_put_0 1 rfl 1 rfl ?_
  refine J_callTI (As := [.int x1]) (rest := []) (pc := 1) K cs_SaltClouds_206 (ok_X6_isSheet l ω x1 h) (by decide) rfl rfl (Nat.le_of_ble_eq_true rfl) dX6_put_1 (fun r1 h2 => ?_)
  refine J_if_ne (pc := 4) K 14 dX6_put_4 (by decide) ?_ ?_
  · refine J_aload_n (pc := 7) K dX6_put_7 0 rfl 0 rfl ?_
    refine J_ldc (pc := 8) K kc_SaltClouds_59 dX6_put_8 ?_
    refine J_callVI (As := [.int (-1000000001 : Int32)]) (rest := []) (pc := 10) K cs_SaltClouds_60 (ok_X6_refuse l ω hk0 (-1000000001 : Int32) h2) hk0 (by decide) rfl rfl (Nat.le_of_ble_eq_true rfl) dX6_put_10 (fun r3 h4 => ?_)
    exact J_iret (pc := 13) K dX6_put_13
  · refine J_aload_n (pc := 14) K dX6_put_14 0 rfl 0 rfl ?_
    refine J_getR (pc := 15) K gf_SaltClouds_28 hk0 85 rfl dX6_put_15 ?_
    refine J_iload_n (pc := 18) K dX6_put_18 1 rfl 1 rfl ?_
    refine J_aldS (pc := 19) K (a := k0 + 85) (ty_6_85 hk0) dX6_put_19 (fun b5 => ?_)
    refine J_callVI (As := []) (rest := []) (pc := 20) K cs_SaltClouds_209 (ok_X1_isMissing l ω (ty_9e (ty_6_85 hk0) b5) h2) (ty_9e (ty_6_85 hk0) b5) (by decide) rfl rfl (Nat.le_of_ble_eq_true rfl) dX6_put_20 (fun r6 h7 => ?_)
    refine J_if_eq (pc := 23) K 33 dX6_put_23 (by decide) ?_ ?_
    · refine J_iload_n (pc := 33) K dX6_put_33 2 rfl 2 rfl ?_
      refine J_iconst (pc := 34) K (0) dX6_put_34 (by decide) ?_
      refine J_aload_n (pc := 35) K dX6_put_35 0 rfl 0 rfl ?_
      refine J_getR (pc := 36) K gf_SaltClouds_28 hk0 85 rfl dX6_put_36 ?_
      refine J_iload_n (pc := 39) K dX6_put_39 1 rfl 1 rfl ?_
      refine J_aldS (pc := 40) K (a := k0 + 85) (ty_6_85 hk0) dX6_put_40 (fun b8 => ?_)
      refine J_getI (pc := 41) K gf_SaltClouds_213 (ty_9e (ty_6_85 hk0) b8) rfl dX6_put_41 ?_
      refine J_iconst (pc := 44) K (1) dX6_put_44 (by decide) ?_
      refine J_isub (pc := 45) K dX6_put_45 ?_
      refine J_callTI (As := [.int x2, .int (0 : Int32), .int ((h7 ((k0 + 85) + 9 + 2 * ix x1) 1) - (1 : Int32))]) (rest := []) (pc := 46) K cs_SaltClouds_51 (ok_X6_within l ω x2 (0 : Int32) ((h7 ((k0 + 85) + 9 + 2 * ix x1) 1) - (1 : Int32)) h7) (by decide) rfl rfl (Nat.le_of_ble_eq_true rfl) dX6_put_46 (fun r9 h10 => ?_)
      refine J_if_ne (pc := 49) K 59 dX6_put_49 (by decide) ?_ ?_
      · refine J_aload_n (pc := 52) K dX6_put_52 0 rfl 0 rfl ?_
        refine J_ldc (pc := 53) K kc_SaltClouds_59 dX6_put_53 ?_
        refine J_callVI (As := [.int (-1000000001 : Int32)]) (rest := []) (pc := 55) K cs_SaltClouds_60 (ok_X6_refuse l ω hk0 (-1000000001 : Int32) h10) hk0 (by decide) rfl rfl (Nat.le_of_ble_eq_true rfl) dX6_put_55 (fun r11 h12 => ?_)
        exact J_iret (pc := 58) K dX6_put_58
      · refine J_aload_n (pc := 59) K dX6_put_59 0 rfl 0 rfl ?_
        refine J_getR (pc := 60) K gf_SaltClouds_28 hk0 85 rfl dX6_put_60 ?_
        refine J_iload_n (pc := 63) K dX6_put_63 1 rfl 1 rfl ?_
        refine J_aldS (pc := 64) K (a := k0 + 85) (ty_6_85 hk0) dX6_put_64 (fun b13 => ?_)
        refine J_iload_n (pc := 65) K dX6_put_65 2 rfl 2 rfl ?_
        refine J_iload_n (pc := 66) K dX6_put_66 3 rfl 3 rfl ?_
        refine J_callVU (As := [.int x2, .int x3]) (rest := []) (pc := 67) K cs_SaltClouds_257 (ok_X1_write l ω (ty_9e (ty_6_85 hk0) b13) x2 x3 h10) (ty_9e (ty_6_85 hk0) b13) (by decide) rfl rfl (Nat.le_of_ble_eq_true rfl) dX6_put_67 (fun _ h15 => ?_)
        refine J_iconst (pc := 70) K (1) dX6_put_70 (by decide) ?_
        exact J_iret (pc := 71) K dX6_put_71
    · refine J_aload_n (pc := 26) K dX6_put_26 0 rfl 0 rfl ?_
      refine J_ldc (pc := 27) K kc_SaltClouds_188 dX6_put_27 ?_
      refine J_callVI (As := [.int (-1000000002 : Int32)]) (rest := []) (pc := 29) K cs_SaltClouds_60 (ok_X6_refuse l ω hk0 (-1000000002 : Int32) h7) hk0 (by decide) rfl rfl (Nat.le_of_ble_eq_true rfl) dX6_put_29 (fun r16 h17 => ?_)
      exact J_iret (pc := 32) K dX6_put_32
def F_X1_hasRun (k0 : Nat) (x1 : Int32) (x2 : Int32) (h : Mem) : Option (Int32 × Mem) :=
  (if x2 < 0 then
    (some ((0 : Int32), h))
  else
    (if x1 < 0 then
      (some ((0 : Int32), h))
    else
      (if (h k0 1) < x2 then
        (some ((0 : Int32), h))
      else
        (if ((h k0 1) - x2) < x1 then
          (some ((0 : Int32), h))
        else
          (some ((1 : Int32), h))))))
set_option maxRecDepth 10000 in
set_option maxHeartbeats 1000000 in
theorem ok_X1_hasRun (l : Launch) (ω : WX) {k0 : Nat} (hk0 : lay k0 = 1) (x1 : Int32) (x2 : Int32) (h : Mem) : MC rvI l ω yX1_hasRun cX1_hasRun 3 (some .boolean) 0 [.ref (ω.1 + k0), .int x1, .int x2] h (F_X1_hasRun k0 x1 x2 h) := by
  refine MC.of (by decide +kernel) [(0, .ref (ω.1 + k0)), (1, .int x1), (2, .int x2)] rfl (Nat.le_of_ble_eq_true rfl) (fun χ K => ?_)
  have K : Kok ω χ "SaltClouds$Sheet" cX1_hasRun 3 (some .boolean) 0 := K
  unfold F_X1_hasRun
  refine J_iload_n (pc := 0) K dX1_hasRun_0 2 rfl 2 rfl ?_
  refine J_if_lt (pc := 1) K 30 dX1_hasRun_1 (by decide) ?_ ?_
  · refine J_iconst (pc := 30) K (0) dX1_hasRun_30 (by decide) ?_
    exact J_nret (pc := 31) K rfl dX1_hasRun_31
  · refine J_iload_n (pc := 4) K dX1_hasRun_4 1 rfl 1 rfl ?_
    refine J_if_lt (pc := 5) K 30 dX1_hasRun_5 (by decide) ?_ ?_
    · refine J_iconst (pc := 30) K (0) dX1_hasRun_30 (by decide) ?_
      exact J_nret (pc := 31) K rfl dX1_hasRun_31
    · refine J_iload_n (pc := 8) K dX1_hasRun_8 2 rfl 2 rfl ?_
      refine J_aload_n (pc := 9) K dX1_hasRun_9 0 rfl 0 rfl ?_
      refine J_getI (pc := 10) K gf_SaltClouds_Sheet_15 hk0 rfl dX1_hasRun_10 ?_
      refine J_icmp_gt (pc := 13) K 30 dX1_hasRun_13 (by decide) ?_ ?_
      · refine J_iconst (pc := 30) K (0) dX1_hasRun_30 (by decide) ?_
        exact J_nret (pc := 31) K rfl dX1_hasRun_31
      · refine J_iload_n (pc := 16) K dX1_hasRun_16 1 rfl 1 rfl ?_
        refine J_aload_n (pc := 17) K dX1_hasRun_17 0 rfl 0 rfl ?_
        refine J_getI (pc := 18) K gf_SaltClouds_Sheet_15 hk0 rfl dX1_hasRun_18 ?_
        refine J_iload_n (pc := 21) K dX1_hasRun_21 2 rfl 2 rfl ?_
        refine J_isub (pc := 22) K dX1_hasRun_22 ?_
        refine J_icmp_gt (pc := 23) K 30 dX1_hasRun_23 (by decide) ?_ ?_
        · refine J_iconst (pc := 30) K (0) dX1_hasRun_30 (by decide) ?_
          exact J_nret (pc := 31) K rfl dX1_hasRun_31
        · refine J_iconst (pc := 26) K (1) dX1_hasRun_26 (by decide) ?_
          refine J_goto (pc := 27) K 31 dX1_hasRun_27 (by decide) ?_
          exact J_nret (pc := 31) K rfl dX1_hasRun_31
def F_X6_move (k0 : Nat) (x1 : Int32) (x2 : Int32) (x3 : Int32) (x4 : Int32) (x5 : Int32) (h : Mem) : Option (Int32 × Mem) :=
  (bnd (F_X6_isSheet x1 h) (fun r1 h2 =>
  (if r1 = 0 then
    (bnd (F_X6_refuse k0 (-1000000001 : Int32) h2) (fun r3 h4 =>
    (some (r3, h4))))
  else
    (bnd (F_X6_isSheet x3 h2) (fun r5 h6 =>
    (if r5 = 0 then
      (bnd (F_X6_refuse k0 (-1000000001 : Int32) h6) (fun r7 h8 =>
      (some (r7, h8))))
    else
      (gin x1 4
      (gin x3 4
      (bnd (F_X1_isMissing ((k0 + 85) + 9 + 2 * ix x1) h6) (fun r11 h12 =>
      (if r11 = 0 then
        (bnd (F_X1_isMissing ((k0 + 85) + 9 + 2 * ix x3) h12) (fun r13 h14 =>
        (if r13 = 0 then
          (if (h14 ((k0 + 85) + 9 + 2 * ix x1) 0) = (h14 ((k0 + 85) + 9 + 2 * ix x3) 0) then
            (bnd (F_X1_hasRun ((k0 + 85) + 9 + 2 * ix x1) x2 x5 h14) (fun r15 h16 =>
            (if r15 = 0 then
              (bnd (F_X6_refuse k0 (-1000000001 : Int32) h16) (fun r17 h18 =>
              (some (r17, h18))))
            else
              (bnd (F_X1_hasRun ((k0 + 85) + 9 + 2 * ix x3) x4 x5 h16) (fun r19 h20 =>
              (if r19 = 0 then
                (bnd (F_X6_refuse k0 (-1000000001 : Int32) h20) (fun r21 h22 =>
                (some (r21, h22))))
              else
                (gcp x2 x4 x5 40 40 (seqh (rwm h20 (((k0 + 85) + 9 + 2 * ix x3) + 1) (va_cpy (h20 (((k0 + 85) + 9 + 2 * ix x1) + 1)) (h20 (((k0 + 85) + 9 + 2 * ix x3) + 1)) (ix x2) (ix x4) (ix x5))) (fun h23 =>
                (some (x5, h23)))))))))))
          else
            (bnd (F_X6_refuse k0 (-1000000005 : Int32) h14) (fun r24 h25 =>
            (some (r24, h25)))))
        else
          (bnd (F_X6_refuse k0 (-1000000002 : Int32) h14) (fun r26 h27 =>
          (some (r26, h27)))))))
      else
        (bnd (F_X6_refuse k0 (-1000000002 : Int32) h12) (fun r28 h29 =>
        (some (r28, h29)))))))))))))))
set_option maxRecDepth 10000 in
set_option maxHeartbeats 1000000 in
theorem ok_X6_move (l : Launch) (ω : WX) {k0 : Nat} (hk0 : lay k0 = 6) (x1 : Int32) (x2 : Int32) (x3 : Int32) (x4 : Int32) (x5 : Int32) (h : Mem) : MC rvI l ω yX6_move cX6_move 8 (some .int) 2 [.ref (ω.1 + k0), .int x1, .int x2, .int x3, .int x4, .int x5] h (F_X6_move k0 x1 x2 x3 x4 x5 h) := by
  refine MC.of (by decide +kernel) [(0, .ref (ω.1 + k0)), (1, .int x1), (2, .int x2), (3, .int x3), (4, .int x4), (5, .int x5)] rfl (Nat.le_of_ble_eq_true rfl) (fun χ K => ?_)
  have K : Kok ω χ "SaltClouds" cX6_move 8 (some .int) 2 := K
  unfold F_X6_move
  refine J_iload_n (pc := 0) K dX6_move_0 1 rfl 1 rfl ?_
  refine J_callTI (As := [.int x1]) (rest := []) (pc := 1) K cs_SaltClouds_206 (ok_X6_isSheet l ω x1 h) (by decide) rfl rfl (Nat.le_of_ble_eq_true rfl) dX6_move_1 (fun r1 h2 => ?_)
  refine J_if_eq (pc := 4) K 14 dX6_move_4 (by decide) ?_ ?_
  · refine J_aload_n (pc := 14) K dX6_move_14 0 rfl 0 rfl ?_
    refine J_ldc (pc := 15) K kc_SaltClouds_59 dX6_move_15 ?_
    refine J_callVI (As := [.int (-1000000001 : Int32)]) (rest := []) (pc := 17) K cs_SaltClouds_60 (ok_X6_refuse l ω hk0 (-1000000001 : Int32) h2) hk0 (by decide) rfl rfl (Nat.le_of_ble_eq_true rfl) dX6_move_17 (fun r3 h4 => ?_)
    exact J_iret (pc := 20) K dX6_move_20
  · refine J_iload_n (pc := 7) K dX6_move_7 3 rfl 3 rfl ?_
    refine J_callTI (As := [.int x3]) (rest := []) (pc := 8) K cs_SaltClouds_206 (ok_X6_isSheet l ω x3 h2) (by decide) rfl rfl (Nat.le_of_ble_eq_true rfl) dX6_move_8 (fun r5 h6 => ?_)
    refine J_if_ne (pc := 11) K 21 dX6_move_11 (by decide) ?_ ?_
    · refine J_aload_n (pc := 14) K dX6_move_14 0 rfl 0 rfl ?_
      refine J_ldc (pc := 15) K kc_SaltClouds_59 dX6_move_15 ?_
      refine J_callVI (As := [.int (-1000000001 : Int32)]) (rest := []) (pc := 17) K cs_SaltClouds_60 (ok_X6_refuse l ω hk0 (-1000000001 : Int32) h6) hk0 (by decide) rfl rfl (Nat.le_of_ble_eq_true rfl) dX6_move_17 (fun r7 h8 => ?_)
      exact J_iret (pc := 20) K dX6_move_20
    · refine J_aload_n (pc := 21) K dX6_move_21 0 rfl 0 rfl ?_
      refine J_getR (pc := 22) K gf_SaltClouds_28 hk0 85 rfl dX6_move_22 ?_
      refine J_iload_n (pc := 25) K dX6_move_25 1 rfl 1 rfl ?_
      refine J_aldS (pc := 26) K (a := k0 + 85) (ty_6_85 hk0) dX6_move_26 (fun b9 => ?_)
      refine J_astore (pc := 27) K dX6_move_27 (by decide) [(6, .ref (ω.1 + ((k0 + 85) + 9 + 2 * ix x1))), (0, .ref (ω.1 + k0)), (1, .int x1), (2, .int x2), (3, .int x3), (4, .int x4), (5, .int x5)] rfl ?_
      refine J_aload_n (pc := 29) K dX6_move_29 0 rfl 1 rfl ?_
      refine J_getR (pc := 30) K gf_SaltClouds_28 hk0 85 rfl dX6_move_30 ?_
      refine J_iload_n (pc := 33) K dX6_move_33 3 rfl 4 rfl ?_
      refine J_aldS (pc := 34) K (a := k0 + 85) (ty_6_85 hk0) dX6_move_34 (fun b10 => ?_)
      refine J_astore (pc := 35) K dX6_move_35 (by decide) [(7, .ref (ω.1 + ((k0 + 85) + 9 + 2 * ix x3))), (6, .ref (ω.1 + ((k0 + 85) + 9 + 2 * ix x1))), (0, .ref (ω.1 + k0)), (1, .int x1), (2, .int x2), (3, .int x3), (4, .int x4), (5, .int x5)] rfl ?_
      refine J_aload (pc := 37) K dX6_move_37 1 rfl ?_
      refine J_callVI (As := []) (rest := []) (pc := 39) K cs_SaltClouds_209 (ok_X1_isMissing l ω (ty_9e (ty_6_85 hk0) b9) h6) (ty_9e (ty_6_85 hk0) b9) (by decide) rfl rfl (Nat.le_of_ble_eq_true rfl) dX6_move_39 (fun r11 h12 => ?_)
      refine J_if_ne (pc := 42) K 53 dX6_move_42 (by decide) ?_ ?_
      · refine J_aload (pc := 45) K dX6_move_45 0 rfl ?_
        refine J_callVI (As := []) (rest := []) (pc := 47) K cs_SaltClouds_209 (ok_X1_isMissing l ω (ty_9e (ty_6_85 hk0) b10) h12) (ty_9e (ty_6_85 hk0) b10) (by decide) rfl rfl (Nat.le_of_ble_eq_true rfl) dX6_move_47 (fun r13 h14 => ?_)
        refine J_if_eq (pc := 50) K 60 dX6_move_50 (by decide) ?_ ?_
        · refine J_aload (pc := 60) K dX6_move_60 1 rfl ?_
          refine J_getI (pc := 62) K gf_SaltClouds_260 (ty_9e (ty_6_85 hk0) b9) rfl dX6_move_62 ?_
          refine J_aload (pc := 65) K dX6_move_65 0 rfl ?_
          refine J_getI (pc := 67) K gf_SaltClouds_260 (ty_9e (ty_6_85 hk0) b10) rfl dX6_move_67 ?_
          refine J_icmp_eq (pc := 70) K 80 dX6_move_70 (by decide) ?_ ?_
          · refine J_aload (pc := 80) K dX6_move_80 1 rfl ?_
            refine J_iload_n (pc := 82) K dX6_move_82 2 rfl 4 rfl ?_
            refine J_iload (pc := 83) K dX6_move_83 7 rfl ?_
            refine J_callVI (As := [.int x2, .int x5]) (rest := []) (pc := 85) K cs_SaltClouds_263 (ok_X1_hasRun l ω (ty_9e (ty_6_85 hk0) b9) x2 x5 h14) (ty_9e (ty_6_85 hk0) b9) (by decide) rfl rfl (Nat.le_of_ble_eq_true rfl) dX6_move_85 (fun r15 h16 => ?_)
            refine J_if_eq (pc := 88) K 103 dX6_move_88 (by decide) ?_ ?_
            · refine J_aload_n (pc := 103) K dX6_move_103 0 rfl 2 rfl ?_
              refine J_ldc (pc := 104) K kc_SaltClouds_59 dX6_move_104 ?_
              refine J_callVI (As := [.int (-1000000001 : Int32)]) (rest := []) (pc := 106) K cs_SaltClouds_60 (ok_X6_refuse l ω hk0 (-1000000001 : Int32) h16) hk0 (by decide) rfl rfl (Nat.le_of_ble_eq_true rfl) dX6_move_106 (fun r17 h18 => ?_)
              exact J_iret (pc := 109) K dX6_move_109
            · refine J_aload (pc := 91) K dX6_move_91 0 rfl ?_
              refine J_iload (pc := 93) K dX6_move_93 6 rfl ?_
              refine J_iload (pc := 95) K dX6_move_95 7 rfl ?_
              refine J_callVI (As := [.int x4, .int x5]) (rest := []) (pc := 97) K cs_SaltClouds_263 (ok_X1_hasRun l ω (ty_9e (ty_6_85 hk0) b10) x4 x5 h16) (ty_9e (ty_6_85 hk0) b10) (by decide) rfl rfl (Nat.le_of_ble_eq_true rfl) dX6_move_97 (fun r19 h20 => ?_)
              refine J_if_ne (pc := 100) K 110 dX6_move_100 (by decide) ?_ ?_
              · refine J_aload_n (pc := 103) K dX6_move_103 0 rfl 2 rfl ?_
                refine J_ldc (pc := 104) K kc_SaltClouds_59 dX6_move_104 ?_
                refine J_callVI (As := [.int (-1000000001 : Int32)]) (rest := []) (pc := 106) K cs_SaltClouds_60 (ok_X6_refuse l ω hk0 (-1000000001 : Int32) h20) hk0 (by decide) rfl rfl (Nat.le_of_ble_eq_true rfl) dX6_move_106 (fun r21 h22 => ?_)
                exact J_iret (pc := 109) K dX6_move_109
              · refine J_aload (pc := 110) K dX6_move_110 1 rfl ?_
                refine J_getR (pc := 112) K gf_SaltClouds_216 (ty_9e (ty_6_85 hk0) b9) 1 rfl dX6_move_112 ?_
                refine J_iload_n (pc := 115) K dX6_move_115 2 rfl 4 rfl ?_
                refine J_aload (pc := 116) K dX6_move_116 0 rfl ?_
                refine J_getR (pc := 118) K gf_SaltClouds_216 (ty_9e (ty_6_85 hk0) b10) 1 rfl dX6_move_118 ?_
                refine J_iload (pc := 121) K dX6_move_121 6 rfl ?_
                refine J_iload (pc := 123) K dX6_move_123 7 rfl ?_
                refine J_copy (pc := 125) K cp_SaltClouds_266 (n0 := 40) (n1 := 40) (ty_1_1 (ty_9e (ty_6_85 hk0) b9)) (ty_1_1 (ty_9e (ty_6_85 hk0) b10)) (by decide) (Nat.le_of_ble_eq_true rfl) dX6_move_125 (fun h23 => ?_)
                refine J_iload (pc := 128) K dX6_move_128 7 rfl ?_
                exact J_iret (pc := 130) K dX6_move_130
          · refine J_aload_n (pc := 73) K dX6_move_73 0 rfl 2 rfl ?_
            refine J_ldc (pc := 74) K kc_SaltClouds_96 dX6_move_74 ?_
            refine J_callVI (As := [.int (-1000000005 : Int32)]) (rest := []) (pc := 76) K cs_SaltClouds_60 (ok_X6_refuse l ω hk0 (-1000000005 : Int32) h14) hk0 (by decide) rfl rfl (Nat.le_of_ble_eq_true rfl) dX6_move_76 (fun r24 h25 => ?_)
            exact J_iret (pc := 79) K dX6_move_79
        · refine J_aload_n (pc := 53) K dX6_move_53 0 rfl 2 rfl ?_
          refine J_ldc (pc := 54) K kc_SaltClouds_188 dX6_move_54 ?_
          refine J_callVI (As := [.int (-1000000002 : Int32)]) (rest := []) (pc := 56) K cs_SaltClouds_60 (ok_X6_refuse l ω hk0 (-1000000002 : Int32) h14) hk0 (by decide) rfl rfl (Nat.le_of_ble_eq_true rfl) dX6_move_56 (fun r26 h27 => ?_)
          exact J_iret (pc := 59) K dX6_move_59
      · refine J_aload_n (pc := 53) K dX6_move_53 0 rfl 2 rfl ?_
        refine J_ldc (pc := 54) K kc_SaltClouds_188 dX6_move_54 ?_
        refine J_callVI (As := [.int (-1000000002 : Int32)]) (rest := []) (pc := 56) K cs_SaltClouds_60 (ok_X6_refuse l ω hk0 (-1000000002 : Int32) h12) hk0 (by decide) rfl rfl (Nat.le_of_ble_eq_true rfl) dX6_move_56 (fun r28 h29 => ?_)
        exact J_iret (pc := 59) K dX6_move_59
def F_X6_hills_50 (N : Nat) (k0 : Nat) (w1 : Int32) (w2 : Int32) (kt : Int32 → Mem → Option (Int32 × Mem)) : Nat → Int32 → Mem → Option (Int32 × Mem)
  | 0, _, _ => none
  | n + 1, u3, h =>
    (if w2 ≤ u3 then
      (kt u3 h)
    else
      (gin w1 4
      (gin u3 40
      (bnd (F_X6_within (h (((k0 + 85) + 9 + 2 * ix w1) + 1) (ix u3)) (0 : Int32) (9 : Int32) h) (fun r12 h13 =>
      (if r12 = 0 then
        (kt u3 h13)
      else
        (gin w1 4
        (gin u3 40
        (gin u3 12 (seqh (upm h13 ((k0 + 1) + 2) (ix u3) (h13 (((k0 + 85) + 9 + 2 * ix w1) + 1) (ix u3))) (fun h15 =>
        (F_X6_hills_50 N k0 w1 w2 kt n (u3 + 1) h15))))))))))))
set_option maxRecDepth 10000 in
set_option maxHeartbeats 1000000 in
theorem okL_X6_hills_50 {l : Launch} {ω : WX} {χ : KT} {d : Nat} (K : Kok ω χ "SaltClouds" cX6_hills 4 (some .int) d) (hd : 1 ≤ d) (N : Nat) {k0 : Nat} (hk0 : lay k0 = 6) {w1 : Int32} {w2 : Int32} {kt : Int32 → Mem → Option (Int32 × Mem)} (hK : ∀ (u3 : Int32) (h : Mem), J (ZM rvI ω χ) l ω χ 101 4 [(3, .int u3)] [] h (kt u3 h)) : ∀ (n : Nat) (u3 : Int32) (h : Mem), J (ZM rvI ω χ) l ω χ 50 4 [(0, .ref (ω.1 + k0)), (1, .int w1), (2, .int w2), (3, .int u3)] [] h (F_X6_hills_50 N k0 w1 w2 kt n u3 h) := by
  intro n
  induction n with
  | zero =>
    intro u3 h
    exact J_none rfl
  | succ n ih =>
    intro u3 h
    rw [F_X6_hills_50]
    refine J_iload_n (pc := 50) K dX6_hills_50 3 rfl 3 rfl ?_
    refine J_iload_n (pc := 51) K dX6_hills_51 2 rfl 2 rfl ?_
    refine J_icmp_ge (pc := 52) K 101 dX6_hills_52 (by decide) ?_ ?_
    · refine J_lv [3] [(3, .int u3)] rfl ?_
      exact hK u3 h
    · refine J_aload_n (pc := 55) K dX6_hills_55 0 rfl 0 rfl ?_
      refine J_getR (pc := 56) K gf_SaltClouds_28 hk0 85 rfl dX6_hills_56 ?_
      refine J_iload_n (pc := 59) K dX6_hills_59 1 rfl 1 rfl ?_
      refine J_aldS (pc := 60) K (a := k0 + 85) (ty_6_85 hk0) dX6_hills_60 (fun b11 => ?_)
      refine J_getR (pc := 61) K gf_SaltClouds_216 (ty_9e (ty_6_85 hk0) b11) 1 rfl dX6_hills_61 ?_
      refine J_iload_n (pc := 64) K dX6_hills_64 3 rfl 3 rfl ?_
      refine J_iald (pc := 65) K (a := ((k0 + 85) + 9 + 2 * ix w1) + 1) (n := 40) (ty_1_1 (ty_9e (ty_6_85 hk0) b11)) dX6_hills_65 ?_
      refine J_iconst (pc := 66) K (0) dX6_hills_66 (by decide) ?_
      refine J_bipush (pc := 67) K (9) dX6_hills_67 (by decide) ?_
      refine J_callTI (As := [.int (h (((k0 + 85) + 9 + 2 * ix w1) + 1) (ix u3)), .int (0 : Int32), .int (9 : Int32)]) (rest := []) (pc := 69) K cs_SaltClouds_51 (ok_X6_within l ω (h (((k0 + 85) + 9 + 2 * ix w1) + 1) (ix u3)) (0 : Int32) (9 : Int32) h) (by omega) rfl rfl (Nat.le_of_ble_eq_true rfl) dX6_hills_69 (fun r12 h13 => ?_)
      refine J_if_eq (pc := 72) K 101 dX6_hills_72 (by decide) ?_ ?_
      · refine J_lv [3] [(3, .int u3)] rfl ?_
        exact hK u3 h13
      · refine J_aload_n (pc := 75) K dX6_hills_75 0 rfl 0 rfl ?_
        refine J_getR (pc := 76) K gf_SaltClouds_12 hk0 1 rfl dX6_hills_76 ?_
        refine J_getR (pc := 79) K gf_SaltClouds_111 (ty_6_1 hk0) 2 rfl dX6_hills_79 ?_
        refine J_iload_n (pc := 82) K dX6_hills_82 3 rfl 3 rfl ?_
        refine J_aload_n (pc := 83) K dX6_hills_83 0 rfl 0 rfl ?_
        refine J_getR (pc := 84) K gf_SaltClouds_28 hk0 85 rfl dX6_hills_84 ?_
        refine J_iload_n (pc := 87) K dX6_hills_87 1 rfl 1 rfl ?_
        refine J_aldS (pc := 88) K (a := k0 + 85) (ty_6_85 hk0) dX6_hills_88 (fun b14 => ?_)
        refine J_getR (pc := 89) K gf_SaltClouds_216 (ty_9e (ty_6_85 hk0) b14) 1 rfl dX6_hills_89 ?_
        refine J_iload_n (pc := 92) K dX6_hills_92 3 rfl 3 rfl ?_
        refine J_iald (pc := 93) K (a := ((k0 + 85) + 9 + 2 * ix w1) + 1) (n := 40) (ty_1_1 (ty_9e (ty_6_85 hk0) b14)) dX6_hills_93 ?_
        refine J_iast (pc := 94) K (a := (k0 + 1) + 2) (n := 12) (ty_2_2 (ty_6_1 hk0)) dX6_hills_94 (fun h15 => ?_)
        refine J_iinc (pc := 95) K (1) dX6_hills_95 3 rfl (by decide) (by decide) [(3, .int (u3 + 1)), (0, .ref (ω.1 + k0)), (1, .int w1), (2, .int w2)] rfl ?_
        refine J_goto (pc := 98) K 50 dX6_hills_98 (by decide) ?_
        refine J_lv [1, 2, 3, 0] [(0, .ref (ω.1 + k0)), (1, .int w1), (2, .int w2), (3, .int (u3 + 1))] rfl ?_
        exact ih (u3 + 1) h15
def F_X6_hills (N : Nat) (k0 : Nat) (x1 : Int32) (h : Mem) : Option (Int32 × Mem) :=
  (bnd (F_X6_isSheet x1 h) (fun r1 h2 =>
  (if r1 = 0 then
    (bnd (F_X6_refuse k0 (-1000000001 : Int32) h2) (fun r3 h4 =>
    (some (r3, h4))))
  else
    (gin x1 4
    (bnd (F_X1_isMissing ((k0 + 85) + 9 + 2 * ix x1) h2) (fun r6 h7 =>
    (if r6 = 0 then
      (gin x1 4
      (bnd (F_J9_min_7cf53 (12 : Int32) (h7 ((k0 + 85) + 9 + 2 * ix x1) 1) h7) (fun r9 h10 =>
      (F_X6_hills_50 N k0 x1 r9 (fun (v16 : Int32) (h17 : Mem) =>
        (some (v16, h17))) N (0 : Int32) h10))))
    else
      (bnd (F_X6_refuse k0 (-1000000002 : Int32) h7) (fun r18 h19 =>
      (some (r18, h19)))))))))))
set_option maxRecDepth 10000 in
set_option maxHeartbeats 1000000 in
theorem ok_X6_hills (l : Launch) (ω : WX) (N : Nat) {k0 : Nat} (hk0 : lay k0 = 6) (x1 : Int32) (h : Mem) : MC rvI l ω yX6_hills cX6_hills 4 (some .int) 2 [.ref (ω.1 + k0), .int x1] h (F_X6_hills N k0 x1 h) := by
  refine MC.of (by decide +kernel) [(0, .ref (ω.1 + k0)), (1, .int x1)] rfl (Nat.le_of_ble_eq_true rfl) (fun χ K => ?_)
  have K : Kok ω χ "SaltClouds" cX6_hills 4 (some .int) 2 := K
  unfold F_X6_hills
  refine J_iload_n (pc := 0) K dX6_hills_0 1 rfl 1 rfl ?_
  refine J_callTI (As := [.int x1]) (rest := []) (pc := 1) K cs_SaltClouds_206 (ok_X6_isSheet l ω x1 h) (by decide) rfl rfl (Nat.le_of_ble_eq_true rfl) dX6_hills_1 (fun r1 h2 => ?_)
  refine J_if_ne (pc := 4) K 14 dX6_hills_4 (by decide) ?_ ?_
  · refine J_aload_n (pc := 7) K dX6_hills_7 0 rfl 0 rfl ?_
    refine J_ldc (pc := 8) K kc_SaltClouds_59 dX6_hills_8 ?_
    refine J_callVI (As := [.int (-1000000001 : Int32)]) (rest := []) (pc := 10) K cs_SaltClouds_60 (ok_X6_refuse l ω hk0 (-1000000001 : Int32) h2) hk0 (by decide) rfl rfl (Nat.le_of_ble_eq_true rfl) dX6_hills_10 (fun r3 h4 => ?_)
    exact J_iret (pc := 13) K dX6_hills_13
  · refine J_aload_n (pc := 14) K dX6_hills_14 0 rfl 0 rfl ?_
    refine J_getR (pc := 15) K gf_SaltClouds_28 hk0 85 rfl dX6_hills_15 ?_
    refine J_iload_n (pc := 18) K dX6_hills_18 1 rfl 1 rfl ?_
    refine J_aldS (pc := 19) K (a := k0 + 85) (ty_6_85 hk0) dX6_hills_19 (fun b5 => ?_)
    refine J_callVI (As := []) (rest := []) (pc := 20) K cs_SaltClouds_209 (ok_X1_isMissing l ω (ty_9e (ty_6_85 hk0) b5) h2) (ty_9e (ty_6_85 hk0) b5) (by decide) rfl rfl (Nat.le_of_ble_eq_true rfl) dX6_hills_20 (fun r6 h7 => ?_)
    refine J_if_eq (pc := 23) K 33 dX6_hills_23 (by decide) ?_ ?_
    · refine J_bipush (pc := 33) K (12) dX6_hills_33 (by decide) ?_
      refine J_aload_n (pc := 35) K dX6_hills_35 0 rfl 0 rfl ?_
      refine J_getR (pc := 36) K gf_SaltClouds_28 hk0 85 rfl dX6_hills_36 ?_
      refine J_iload_n (pc := 39) K dX6_hills_39 1 rfl 1 rfl ?_
      refine J_aldS (pc := 40) K (a := k0 + 85) (ty_6_85 hk0) dX6_hills_40 (fun b8 => ?_)
      refine J_getI (pc := 41) K gf_SaltClouds_213 (ty_9e (ty_6_85 hk0) b8) rfl dX6_hills_41 ?_
      refine J_callTI (As := [.int (12 : Int32), .int (h7 ((k0 + 85) + 9 + 2 * ix x1) 1)]) (rest := []) (pc := 44) K cs_SaltClouds_229 (ok_J9_min_7cf53 l ω (12 : Int32) (h7 ((k0 + 85) + 9 + 2 * ix x1) 1) h7) (by decide) rfl rfl (Nat.le_of_ble_eq_true rfl) dX6_hills_44 (fun r9 h10 => ?_)
      refine J_istore_n (pc := 47) K dX6_hills_47 2 rfl (by decide) [(2, .int r9), (0, .ref (ω.1 + k0)), (1, .int x1)] rfl ?_
      refine J_iconst (pc := 48) K (0) dX6_hills_48 (by decide) ?_
      refine J_istore_n (pc := 49) K dX6_hills_49 3 rfl (by decide) [(3, .int (0 : Int32)), (2, .int r9), (0, .ref (ω.1 + k0)), (1, .int x1)] rfl ?_
      refine J_lv [2, 3, 1, 0] [(0, .ref (ω.1 + k0)), (1, .int x1), (2, .int r9), (3, .int (0 : Int32))] rfl ?_
      refine okL_X6_hills_50 K  (by decide) N hk0 (fun v16 h17 => ?_) _ _ _
      refine J_iload_n (pc := 101) K dX6_hills_101 3 rfl 0 rfl ?_
      exact J_iret (pc := 102) K dX6_hills_102
    · refine J_aload_n (pc := 26) K dX6_hills_26 0 rfl 0 rfl ?_
      refine J_ldc (pc := 27) K kc_SaltClouds_188 dX6_hills_27 ?_
      refine J_callVI (As := [.int (-1000000002 : Int32)]) (rest := []) (pc := 29) K cs_SaltClouds_60 (ok_X6_refuse l ω hk0 (-1000000002 : Int32) h7) hk0 (by decide) rfl rfl (Nat.le_of_ble_eq_true rfl) dX6_hills_29 (fun r18 h19 => ?_)
      exact J_iret (pc := 32) K dX6_hills_32
def F_X6_judge_55 (N : Nat) (k0 : Nat) (w1 : Int32) (w2 : Int32) (kt : Mem → Option (Int32 × Mem)) : Nat → Int32 → Mem → Option (Int32 × Mem)
  | 0, _, _ => none
  | n + 1, u3, h =>
    (if w2 ≤ u3 then
      (kt h)
    else
      (gin w1 4
      (gin u3 40
      (gin u3 8
      (if (h (((k0 + 85) + 9 + 2 * ix w1) + 1) (ix u3)) = (h (((k0 + 1) + 1) + 11 + 2 * ix u3) 3) then
        (F_X6_judge_55 N k0 w1 w2 kt n (u3 + 1) h)
      else
        (some (u3, h)))))))
set_option maxRecDepth 10000 in
set_option maxHeartbeats 1000000 in
theorem okL_X6_judge_55 {l : Launch} {ω : WX} {χ : KT} {d : Nat} (K : Kok ω χ "SaltClouds" cX6_judge 4 (some .int) d) (hd : 0 ≤ d) (N : Nat) {k0 : Nat} (hk0 : lay k0 = 6) {w1 : Int32} {w2 : Int32} {kt : Mem → Option (Int32 × Mem)} (hK : ∀ (h : Mem), J (ZM rvI ω χ) l ω χ 94 4 [(0, .ref (ω.1 + k0)), (1, .int w1), (2, .int w2)] [] h (kt h)) : ∀ (n : Nat) (u3 : Int32) (h : Mem), J (ZM rvI ω χ) l ω χ 55 4 [(0, .ref (ω.1 + k0)), (1, .int w1), (2, .int w2), (3, .int u3)] [] h (F_X6_judge_55 N k0 w1 w2 kt n u3 h) := by
  intro n
  induction n with
  | zero =>
    intro u3 h
    exact J_none rfl
  | succ n ih =>
    intro u3 h
    rw [F_X6_judge_55]
    refine J_iload_n (pc := 55) K dX6_judge_55 3 rfl 3 rfl ?_
    refine J_iload_n (pc := 56) K dX6_judge_56 2 rfl 2 rfl ?_
    refine J_icmp_ge (pc := 57) K 94 dX6_judge_57 (by decide) ?_ ?_
    · refine J_lv [0, 1, 2] [(0, .ref (ω.1 + k0)), (1, .int w1), (2, .int w2)] rfl ?_
      exact hK h
    · refine J_aload_n (pc := 60) K dX6_judge_60 0 rfl 0 rfl ?_
      refine J_getR (pc := 61) K gf_SaltClouds_28 hk0 85 rfl dX6_judge_61 ?_
      refine J_iload_n (pc := 64) K dX6_judge_64 1 rfl 1 rfl ?_
      refine J_aldS (pc := 65) K (a := k0 + 85) (ty_6_85 hk0) dX6_judge_65 (fun b11 => ?_)
      refine J_getR (pc := 66) K gf_SaltClouds_216 (ty_9e (ty_6_85 hk0) b11) 1 rfl dX6_judge_66 ?_
      refine J_iload_n (pc := 69) K dX6_judge_69 3 rfl 3 rfl ?_
      refine J_iald (pc := 70) K (a := ((k0 + 85) + 9 + 2 * ix w1) + 1) (n := 40) (ty_1_1 (ty_9e (ty_6_85 hk0) b11)) dX6_judge_70 ?_
      refine J_aload_n (pc := 71) K dX6_judge_71 0 rfl 0 rfl ?_
      refine J_getR (pc := 72) K gf_SaltClouds_12 hk0 1 rfl dX6_judge_72 ?_
      refine J_getR (pc := 75) K gf_SaltClouds_79 (ty_6_1 hk0) 1 rfl dX6_judge_75 ?_
      refine J_iload_n (pc := 78) K dX6_judge_78 3 rfl 3 rfl ?_
      refine J_aldC (pc := 79) K (a := (k0 + 1) + 1) (ty_2_1 (ty_6_1 hk0)) dX6_judge_79 (fun b12 => ?_)
      refine J_getI (pc := 80) K gf_SaltClouds_127 (ty_8e (ty_2_1 (ty_6_1 hk0)) b12) rfl dX6_judge_80 ?_
      refine J_icmp_eq (pc := 83) K 88 dX6_judge_83 (by decide) ?_ ?_
      · refine J_iinc (pc := 88) K (1) dX6_judge_88 3 rfl (by decide) (by decide) [(3, .int (u3 + 1)), (0, .ref (ω.1 + k0)), (1, .int w1), (2, .int w2)] rfl ?_
        refine J_goto (pc := 91) K 55 dX6_judge_91 (by decide) ?_
        refine J_lv [1, 2, 3, 0] [(0, .ref (ω.1 + k0)), (1, .int w1), (2, .int w2), (3, .int (u3 + 1))] rfl ?_
        exact ih (u3 + 1) h
      · refine J_iload_n (pc := 86) K dX6_judge_86 3 rfl 3 rfl ?_
        exact J_iret (pc := 87) K dX6_judge_87
def F_X6_judge (N : Nat) (k0 : Nat) (x1 : Int32) (h : Mem) : Option (Int32 × Mem) :=
  (bnd (F_X6_isSheet x1 h) (fun r1 h2 =>
  (if r1 = 0 then
    (bnd (F_X6_refuse k0 (-1000000001 : Int32) h2) (fun r3 h4 =>
    (some (r3, h4))))
  else
    (gin x1 4
    (bnd (F_X1_isMissing ((k0 + 85) + 9 + 2 * ix x1) h2) (fun r6 h7 =>
    (if r6 = 0 then
      (gin x1 4
      (bnd (F_J9_min_7cf53 (h7 ((k0 + 85) + 9 + 2 * ix x1) 1) (h7 (k0 + 1) 1) h7) (fun r9 h10 =>
      (F_X6_judge_55 N k0 x1 r9 (fun (h13 : Mem) =>
        (gin x1 4
        (if (h13 ((k0 + 85) + 9 + 2 * ix x1) 1) = (h13 (k0 + 1) 1) then
          (some ((-1 : Int32), h13))
        else
          (some (r9, h13))))) N (0 : Int32) h10))))
    else
      (bnd (F_X6_refuse k0 (-1000000002 : Int32) h7) (fun r15 h16 =>
      (some (r15, h16)))))))))))
set_option maxRecDepth 10000 in
set_option maxHeartbeats 1000000 in
theorem ok_X6_judge (l : Launch) (ω : WX) (N : Nat) {k0 : Nat} (hk0 : lay k0 = 6) (x1 : Int32) (h : Mem) : MC rvI l ω yX6_judge cX6_judge 4 (some .int) 2 [.ref (ω.1 + k0), .int x1] h (F_X6_judge N k0 x1 h) := by
  refine MC.of (by decide +kernel) [(0, .ref (ω.1 + k0)), (1, .int x1)] rfl (Nat.le_of_ble_eq_true rfl) (fun χ K => ?_)
  have K : Kok ω χ "SaltClouds" cX6_judge 4 (some .int) 2 := K
  unfold F_X6_judge
  refine J_iload_n (pc := 0) K dX6_judge_0 1 rfl 1 rfl ?_
  refine J_callTI (As := [.int x1]) (rest := []) (pc := 1) K cs_SaltClouds_206 (ok_X6_isSheet l ω x1 h) (by decide) rfl rfl (Nat.le_of_ble_eq_true rfl) dX6_judge_1 (fun r1 h2 => ?_)
  refine J_if_ne (pc := 4) K 14 dX6_judge_4 (by decide) ?_ ?_
  · refine J_aload_n (pc := 7) K dX6_judge_7 0 rfl 0 rfl ?_
    refine J_ldc (pc := 8) K kc_SaltClouds_59 dX6_judge_8 ?_
    refine J_callVI (As := [.int (-1000000001 : Int32)]) (rest := []) (pc := 10) K cs_SaltClouds_60 (ok_X6_refuse l ω hk0 (-1000000001 : Int32) h2) hk0 (by decide) rfl rfl (Nat.le_of_ble_eq_true rfl) dX6_judge_10 (fun r3 h4 => ?_)
    exact J_iret (pc := 13) K dX6_judge_13
  · refine J_aload_n (pc := 14) K dX6_judge_14 0 rfl 0 rfl ?_
    refine J_getR (pc := 15) K gf_SaltClouds_28 hk0 85 rfl dX6_judge_15 ?_
    refine J_iload_n (pc := 18) K dX6_judge_18 1 rfl 1 rfl ?_
    refine J_aldS (pc := 19) K (a := k0 + 85) (ty_6_85 hk0) dX6_judge_19 (fun b5 => ?_)
    refine J_callVI (As := []) (rest := []) (pc := 20) K cs_SaltClouds_209 (ok_X1_isMissing l ω (ty_9e (ty_6_85 hk0) b5) h2) (ty_9e (ty_6_85 hk0) b5) (by decide) rfl rfl (Nat.le_of_ble_eq_true rfl) dX6_judge_20 (fun r6 h7 => ?_)
    refine J_if_eq (pc := 23) K 33 dX6_judge_23 (by decide) ?_ ?_
    · refine J_aload_n (pc := 33) K dX6_judge_33 0 rfl 0 rfl ?_
      refine J_getR (pc := 34) K gf_SaltClouds_28 hk0 85 rfl dX6_judge_34 ?_
      refine J_iload_n (pc := 37) K dX6_judge_37 1 rfl 1 rfl ?_
      refine J_aldS (pc := 38) K (a := k0 + 85) (ty_6_85 hk0) dX6_judge_38 (fun b8 => ?_)
      refine J_getI (pc := 39) K gf_SaltClouds_213 (ty_9e (ty_6_85 hk0) b8) rfl dX6_judge_39 ?_
      refine J_aload_n (pc := 42) K dX6_judge_42 0 rfl 0 rfl ?_
      refine J_getR (pc := 43) K gf_SaltClouds_12 hk0 1 rfl dX6_judge_43 ?_
      refine J_getI (pc := 46) K gf_SaltClouds_64 (ty_6_1 hk0) rfl dX6_judge_46 ?_
      refine J_callTI (As := [.int (h7 ((k0 + 85) + 9 + 2 * ix x1) 1), .int (h7 (k0 + 1) 1)]) (rest := []) (pc := 49) K cs_SaltClouds_229 (ok_J9_min_7cf53 l ω (h7 ((k0 + 85) + 9 + 2 * ix x1) 1) (h7 (k0 + 1) 1) h7) (by decide) rfl rfl (Nat.le_of_ble_eq_true rfl) dX6_judge_49 (fun r9 h10 => ?_)
      refine J_istore_n (pc := 52) K dX6_judge_52 2 rfl (by decide) [(2, .int r9), (0, .ref (ω.1 + k0)), (1, .int x1)] rfl ?_
      refine J_iconst (pc := 53) K (0) dX6_judge_53 (by decide) ?_
      refine J_istore_n (pc := 54) K dX6_judge_54 3 rfl (by decide) [(3, .int (0 : Int32)), (2, .int r9), (0, .ref (ω.1 + k0)), (1, .int x1)] rfl ?_
      refine J_lv [2, 3, 1, 0] [(0, .ref (ω.1 + k0)), (1, .int x1), (2, .int r9), (3, .int (0 : Int32))] rfl ?_
      refine okL_X6_judge_55 K  (by decide) N hk0 (fun h13 => ?_) _ _ _
      refine J_aload_n (pc := 94) K dX6_judge_94 0 rfl 0 rfl ?_
      refine J_getR (pc := 95) K gf_SaltClouds_28 hk0 85 rfl dX6_judge_95 ?_
      refine J_iload_n (pc := 98) K dX6_judge_98 1 rfl 1 rfl ?_
      refine J_aldS (pc := 99) K (a := k0 + 85) (ty_6_85 hk0) dX6_judge_99 (fun b14 => ?_)
      refine J_getI (pc := 100) K gf_SaltClouds_213 (ty_9e (ty_6_85 hk0) b14) rfl dX6_judge_100 ?_
      refine J_aload_n (pc := 103) K dX6_judge_103 0 rfl 0 rfl ?_
      refine J_getR (pc := 104) K gf_SaltClouds_12 hk0 1 rfl dX6_judge_104 ?_
      refine J_getI (pc := 107) K gf_SaltClouds_64 (ty_6_1 hk0) rfl dX6_judge_107 ?_
      refine J_icmp_ne (pc := 110) K 117 dX6_judge_110 (by decide) ?_ ?_
      · refine J_iconst (pc := 113) K (-1) dX6_judge_113 (by decide) ?_
        refine J_goto (pc := 114) K 118 dX6_judge_114 (by decide) ?_
        exact J_iret (pc := 118) K dX6_judge_118
      · refine J_iload_n (pc := 117) K dX6_judge_117 2 rfl 2 rfl ?_
        exact J_iret (pc := 118) K dX6_judge_118
    · refine J_aload_n (pc := 26) K dX6_judge_26 0 rfl 0 rfl ?_
      refine J_ldc (pc := 27) K kc_SaltClouds_188 dX6_judge_27 ?_
      refine J_callVI (As := [.int (-1000000002 : Int32)]) (rest := []) (pc := 29) K cs_SaltClouds_60 (ok_X6_refuse l ω hk0 (-1000000002 : Int32) h7) hk0 (by decide) rfl rfl (Nat.le_of_ble_eq_true rfl) dX6_judge_29 (fun r15 h16 => ?_)
      exact J_iret (pc := 32) K dX6_judge_32
def F_X6_image (N : Nat) (k0 : Nat) (h : Mem) : Option (Int32 × Mem) :=
  (bnd (F_X2_takeFrom N (k0 + 29) (k0 + 1) h) (fun _ h2 =>
  (seqh (upm h2 k0 3 ((h2 k0 3) + (1 : Int32))) (fun h3 =>
  (some (h3 k0 3, h3))))))
set_option maxRecDepth 10000 in
set_option maxHeartbeats 1000000 in
theorem ok_X6_image (l : Launch) (ω : WX) (N : Nat) {k0 : Nat} (hk0 : lay k0 = 6) (h : Mem) : MC rvI l ω yX6_image cX6_image 1 (some .int) 3 [.ref (ω.1 + k0)] h (F_X6_image N k0 h) := by
  refine MC.of (by decide +kernel) [(0, .ref (ω.1 + k0))] rfl (Nat.le_of_ble_eq_true rfl) (fun χ K => ?_)
  have K : Kok ω χ "SaltClouds" cX6_image 1 (some .int) 3 := K
  unfold F_X6_image
  refine J_aload_n (pc := 0) K dX6_image_0 0 rfl 0 rfl ?_
  refine J_getR (pc := 1) K gf_SaltClouds_16 hk0 29 rfl dX6_image_1 ?_
  refine J_aload_n (pc := 4) K dX6_image_4 0 rfl 0 rfl ?_
  refine J_getR (pc := 5) K gf_SaltClouds_12 hk0 1 rfl dX6_image_5 ?_
  refine J_callVU (As := [.ref (ω.1 + (k0 + 1))]) (rest := []) (pc := 8) K cs_SaltClouds_179 (ok_X2_takeFrom l ω N (ty_6_29 hk0) (ty_6_1 hk0) h) (ty_6_29 hk0) (by decide) rfl rfl (Nat.le_of_ble_eq_true rfl) dX6_image_8 (fun _ h2 => ?_)
  refine J_aload_n (pc := 11) K dX6_image_11 0 rfl 0 rfl ?_
  refine J_dup (pc := 12) K dX6_image_12 rfl ?_
  refine J_getI (pc := 13) K gf_SaltClouds_22 hk0 rfl dX6_image_13 ?_
  refine J_iconst (pc := 16) K (1) dX6_image_16 (by decide) ?_
  refine J_iadd (pc := 17) K dX6_image_17 ?_
  refine J_putI (pc := 18) K gf_SaltClouds_22 hk0 (by decide) rfl dX6_image_18 (fun h3 => ?_)
  refine J_aload_n (pc := 21) K dX6_image_21 0 rfl 0 rfl ?_
  refine J_getI (pc := 22) K gf_SaltClouds_22 hk0 rfl dX6_image_22 ?_
  exact J_iret (pc := 25) K dX6_image_25
def F_X6_restore (N : Nat) (k0 : Nat) (h : Mem) : Option (Int32 × Mem) :=
  (if (h k0 3) = 0 then
    (bnd (F_X6_refuse k0 (-1000000002 : Int32) h) (fun r1 h2 =>
    (some (r1, h2))))
  else
    (bnd (F_X2_takeFrom N (k0 + 1) (k0 + 29) h) (fun _ h4 =>
    (some (h4 (k0 + 1) 4, h4)))))
set_option maxRecDepth 10000 in
set_option maxHeartbeats 1000000 in
theorem ok_X6_restore (l : Launch) (ω : WX) (N : Nat) {k0 : Nat} (hk0 : lay k0 = 6) (h : Mem) : MC rvI l ω yX6_restore cX6_restore 1 (some .int) 3 [.ref (ω.1 + k0)] h (F_X6_restore N k0 h) := by
  refine MC.of (by decide +kernel) [(0, .ref (ω.1 + k0))] rfl (Nat.le_of_ble_eq_true rfl) (fun χ K => ?_)
  have K : Kok ω χ "SaltClouds" cX6_restore 1 (some .int) 3 := K
  unfold F_X6_restore
  refine J_aload_n (pc := 0) K dX6_restore_0 0 rfl 0 rfl ?_
  refine J_getI (pc := 1) K gf_SaltClouds_22 hk0 rfl dX6_restore_1 ?_
  refine J_if_ne (pc := 4) K 14 dX6_restore_4 (by decide) ?_ ?_
  · refine J_aload_n (pc := 7) K dX6_restore_7 0 rfl 0 rfl ?_
    refine J_ldc (pc := 8) K kc_SaltClouds_188 dX6_restore_8 ?_
    refine J_callVI (As := [.int (-1000000002 : Int32)]) (rest := []) (pc := 10) K cs_SaltClouds_60 (ok_X6_refuse l ω hk0 (-1000000002 : Int32) h) hk0 (by decide) rfl rfl (Nat.le_of_ble_eq_true rfl) dX6_restore_10 (fun r1 h2 => ?_)
    exact J_iret (pc := 13) K dX6_restore_13
  · refine J_aload_n (pc := 14) K dX6_restore_14 0 rfl 0 rfl ?_
    refine J_getR (pc := 15) K gf_SaltClouds_12 hk0 1 rfl dX6_restore_15 ?_
    refine J_aload_n (pc := 18) K dX6_restore_18 0 rfl 0 rfl ?_
    refine J_getR (pc := 19) K gf_SaltClouds_16 hk0 29 rfl dX6_restore_19 ?_
    refine J_callVU (As := [.ref (ω.1 + (k0 + 29))]) (rest := []) (pc := 22) K cs_SaltClouds_179 (ok_X2_takeFrom l ω N (ty_6_1 hk0) (ty_6_29 hk0) h) (ty_6_1 hk0) (by decide) rfl rfl (Nat.le_of_ble_eq_true rfl) dX6_restore_22 (fun _ h4 => ?_)
    refine J_aload_n (pc := 25) K dX6_restore_25 0 rfl 0 rfl ?_
    refine J_getR (pc := 26) K gf_SaltClouds_12 hk0 1 rfl dX6_restore_26 ?_
    refine J_getI (pc := 29) K gf_SaltClouds_272 (ty_6_1 hk0) rfl dX6_restore_29 ?_
    exact J_iret (pc := 32) K dX6_restore_32
def F_X6_tell (k0 : Nat) (x1 : Int32) (h : Mem) : Option (Int32 × Mem) :=
  (if (h (k0 + 1) 12) < (20 : Int32) then
    (gin (h (k0 + 1) 12) 20 (seqh (upm h ((k0 + 1) + 11) (ix (h (k0 + 1) 12)) x1) (fun h1 =>
    (seqh (upm h1 (k0 + 1) 12 ((h1 (k0 + 1) 12) + (1 : Int32))) (fun h2 =>
    (some (h2 (k0 + 1) 12, h2)))))))
  else
    (bnd (F_X6_refuse k0 (-1000000004 : Int32) h) (fun r3 h4 =>
    (some (r3, h4)))))
set_option maxRecDepth 10000 in
set_option maxHeartbeats 1000000 in
theorem ok_X6_tell (l : Launch) (ω : WX) {k0 : Nat} (hk0 : lay k0 = 6) (x1 : Int32) (h : Mem) : MC rvI l ω yX6_tell cX6_tell 2 (some .int) 2 [.ref (ω.1 + k0), .int x1] h (F_X6_tell k0 x1 h) := by
  refine MC.of (by decide +kernel) [(0, .ref (ω.1 + k0)), (1, .int x1)] rfl (Nat.le_of_ble_eq_true rfl) (fun χ K => ?_)
  have K : Kok ω χ "SaltClouds" cX6_tell 2 (some .int) 2 := K
  unfold F_X6_tell
  refine J_aload_n (pc := 0) K dX6_tell_0 0 rfl 0 rfl ?_
  refine J_getR (pc := 1) K gf_SaltClouds_12 hk0 1 rfl dX6_tell_1 ?_
  refine J_getI (pc := 4) K gf_SaltClouds_275 (ty_6_1 hk0) rfl dX6_tell_4 ?_
  refine J_bipush (pc := 7) K (20) dX6_tell_7 (by decide) ?_
  refine J_icmp_lt (pc := 9) K 19 dX6_tell_9 (by decide) ?_ ?_
  · refine J_aload_n (pc := 19) K dX6_tell_19 0 rfl 0 rfl ?_
    refine J_getR (pc := 20) K gf_SaltClouds_12 hk0 1 rfl dX6_tell_20 ?_
    refine J_getR (pc := 23) K gf_SaltClouds_278 (ty_6_1 hk0) 11 rfl dX6_tell_23 ?_
    refine J_aload_n (pc := 26) K dX6_tell_26 0 rfl 0 rfl ?_
    refine J_getR (pc := 27) K gf_SaltClouds_12 hk0 1 rfl dX6_tell_27 ?_
    refine J_getI (pc := 30) K gf_SaltClouds_275 (ty_6_1 hk0) rfl dX6_tell_30 ?_
    refine J_iload_n (pc := 33) K dX6_tell_33 1 rfl 1 rfl ?_
    refine J_iast (pc := 34) K (a := (k0 + 1) + 11) (n := 20) (ty_2_11 (ty_6_1 hk0)) dX6_tell_34 (fun h1 => ?_)
    refine J_aload_n (pc := 35) K dX6_tell_35 0 rfl 0 rfl ?_
    refine J_getR (pc := 36) K gf_SaltClouds_12 hk0 1 rfl dX6_tell_36 ?_
    refine J_dup (pc := 39) K dX6_tell_39 rfl ?_
    refine J_getI (pc := 40) K gf_SaltClouds_275 (ty_6_1 hk0) rfl dX6_tell_40 ?_
    refine J_iconst (pc := 43) K (1) dX6_tell_43 (by decide) ?_
    refine J_iadd (pc := 44) K dX6_tell_44 ?_
    refine J_putI (pc := 45) K gf_SaltClouds_275 (ty_6_1 hk0) (by decide) rfl dX6_tell_45 (fun h2 => ?_)
    refine J_aload_n (pc := 48) K dX6_tell_48 0 rfl 0 rfl ?_
    refine J_getR (pc := 49) K gf_SaltClouds_12 hk0 1 rfl dX6_tell_49 ?_
    refine J_getI (pc := 52) K gf_SaltClouds_275 (ty_6_1 hk0) rfl dX6_tell_52 ?_
    exact J_iret (pc := 55) K dX6_tell_55
  · refine J_aload_n (pc := 12) K dX6_tell_12 0 rfl 0 rfl ?_
    refine J_ldc (pc := 13) K kc_SaltClouds_67 dX6_tell_13 ?_
    refine J_callVI (As := [.int (-1000000004 : Int32)]) (rest := []) (pc := 15) K cs_SaltClouds_60 (ok_X6_refuse l ω hk0 (-1000000004 : Int32) h) hk0 (by decide) rfl rfl (Nat.le_of_ble_eq_true rfl) dX6_tell_15 (fun r3 h4 => ?_)
    exact J_iret (pc := 18) K dX6_tell_18
def F_X6_check_29 (N : Nat) (k0 : Nat) (w1 : Int32) (kt : Mem → Option (Int32 × Mem)) : Nat → Int32 → Mem → Option (Int32 × Mem)
  | 0, _, _ => none
  | n + 1, u2, h =>
    (if w1 ≤ u2 then
      (kt h)
    else
      (bnd (F_X2_passHours N (k0 + 57) (1 : Int32) h) (fun _ h6 =>
      (bnd (F_X2_setOfAll N (k0 + 57) h6) (fun r7 h8 =>
      (bnd (F_X2_totalOf N (k0 + 57) r7 (0 : Int32) h8) (fun r9 h10 =>
      (gin u2 20
      (if r9 = (h10 ((k0 + 1) + 11) (ix u2)) then
        (F_X6_check_29 N k0 w1 kt n (u2 + 1) h10)
      else
        (some ((1 : Int32) + u2, h10)))))))))))
set_option maxRecDepth 10000 in
set_option maxHeartbeats 1000000 in
theorem okL_X6_check_29 {l : Launch} {ω : WX} {χ : KT} {d : Nat} (K : Kok ω χ "SaltClouds" cX6_check 3 (some .int) d) (hd : 7 ≤ d) (N : Nat) {k0 : Nat} (hk0 : lay k0 = 6) {w1 : Int32} {kt : Mem → Option (Int32 × Mem)} (hK : ∀ (h : Mem), J (ZM rvI ω χ) l ω χ 79 3 [] [] h (kt h)) : ∀ (n : Nat) (u2 : Int32) (h : Mem), J (ZM rvI ω χ) l ω χ 29 3 [(0, .ref (ω.1 + k0)), (1, .int w1), (2, .int u2)] [] h (F_X6_check_29 N k0 w1 kt n u2 h) := by
  intro n
  induction n with
  | zero =>
    intro u2 h
    exact J_none rfl
  | succ n ih =>
    intro u2 h
    rw [F_X6_check_29]
    refine J_iload_n (pc := 29) K dX6_check_29 2 rfl 2 rfl ?_
    refine J_iload_n (pc := 30) K dX6_check_30 1 rfl 1 rfl ?_
    refine J_icmp_ge (pc := 31) K 79 dX6_check_31 (by decide) ?_ ?_
    · refine J_lv [] [] rfl ?_
      exact hK h
    · refine J_aload_n (pc := 34) K dX6_check_34 0 rfl 0 rfl ?_
      refine J_getR (pc := 35) K gf_SaltClouds_19 hk0 57 rfl dX6_check_35 ?_
      refine J_iconst (pc := 38) K (1) dX6_check_38 (by decide) ?_
      refine J_callVU (As := [.int (1 : Int32)]) (rest := []) (pc := 39) K cs_SaltClouds_166 (ok_X2_passHours l ω N (ty_6_57 hk0) (1 : Int32) h) (ty_6_57 hk0) (by omega) rfl rfl (Nat.le_of_ble_eq_true rfl) dX6_check_39 (fun _ h6 => ?_)
      refine J_aload_n (pc := 42) K dX6_check_42 0 rfl 0 rfl ?_
      refine J_getR (pc := 43) K gf_SaltClouds_19 hk0 57 rfl dX6_check_43 ?_
      refine J_aload_n (pc := 46) K dX6_check_46 0 rfl 0 rfl ?_
      refine J_getR (pc := 47) K gf_SaltClouds_19 hk0 57 rfl dX6_check_47 ?_
      refine J_callVI (As := []) (rest := [.ref (ω.1 + (k0 + 57))]) (pc := 50) K cs_SaltClouds_200 (ok_X2_setOfAll l ω N (ty_6_57 hk0) h6) (ty_6_57 hk0) (by omega) rfl rfl (Nat.le_of_ble_eq_true rfl) dX6_check_50 (fun r7 h8 => ?_)
      refine J_iconst (pc := 53) K (0) dX6_check_53 (by decide) ?_
      refine J_callVI (As := [.int r7, .int (0 : Int32)]) (rest := []) (pc := 54) K cs_SaltClouds_203 (ok_X2_totalOf l ω N (ty_6_57 hk0) r7 (0 : Int32) h8) (ty_6_57 hk0) (by omega) rfl rfl (Nat.le_of_ble_eq_true rfl) dX6_check_54 (fun r9 h10 => ?_)
      refine J_aload_n (pc := 57) K dX6_check_57 0 rfl 0 rfl ?_
      refine J_getR (pc := 58) K gf_SaltClouds_12 hk0 1 rfl dX6_check_58 ?_
      refine J_getR (pc := 61) K gf_SaltClouds_278 (ty_6_1 hk0) 11 rfl dX6_check_61 ?_
      refine J_iload_n (pc := 64) K dX6_check_64 2 rfl 2 rfl ?_
      refine J_iald (pc := 65) K (a := (k0 + 1) + 11) (n := 20) (ty_2_11 (ty_6_1 hk0)) dX6_check_65 ?_
      refine J_icmp_eq (pc := 66) K 73 dX6_check_66 (by decide) ?_ ?_
      · refine J_iinc (pc := 73) K (1) dX6_check_73 2 rfl (by decide) (by decide) [(2, .int (u2 + 1)), (0, .ref (ω.1 + k0)), (1, .int w1)] rfl ?_
        refine J_goto (pc := 76) K 29 dX6_check_76 (by decide) ?_
        refine J_lv [1, 2, 0] [(0, .ref (ω.1 + k0)), (1, .int w1), (2, .int (u2 + 1))] rfl ?_
        exact ih (u2 + 1) h10
      · refine J_iconst (pc := 69) K (1) dX6_check_69 (by decide) ?_
        refine J_iload_n (pc := 70) K dX6_check_70 2 rfl 2 rfl ?_
        refine J_iadd (pc := 71) K dX6_check_71 ?_
        exact J_iret (pc := 72) K dX6_check_72
def F_X6_check (N : Nat) (k0 : Nat) (h : Mem) : Option (Int32 × Mem) :=
  (seqi (h (k0 + 1) 12) (fun v1 =>
  (seqh (upm h (k0 + 1) 12 (0 : Int32)) (fun h2 =>
  (bnd (F_X2_takeFrom N (k0 + 57) (k0 + 1) h2) (fun _ h4 =>
  (F_X6_check_29 N k0 v1 (fun (h11 : Mem) =>
    (some ((0 : Int32), h11))) N (0 : Int32) h4)))))))
set_option maxRecDepth 10000 in
set_option maxHeartbeats 1000000 in
theorem ok_X6_check (l : Launch) (ω : WX) (N : Nat) {k0 : Nat} (hk0 : lay k0 = 6) (h : Mem) : MC rvI l ω yX6_check cX6_check 3 (some .int) 7 [.ref (ω.1 + k0)] h (F_X6_check N k0 h) := by
  refine MC.of (by decide +kernel) [(0, .ref (ω.1 + k0))] rfl (Nat.le_of_ble_eq_true rfl) (fun χ K => ?_)
  have K : Kok ω χ "SaltClouds" cX6_check 3 (some .int) 7 := K
  unfold F_X6_check
  refine J_aload_n (pc := 0) K dX6_check_0 0 rfl 0 rfl ?_
  refine J_getR (pc := 1) K gf_SaltClouds_12 hk0 1 rfl dX6_check_1 ?_
  refine J_getI (pc := 4) K gf_SaltClouds_275 (ty_6_1 hk0) rfl dX6_check_4 ?_
  refine J_topi (fun v1 => ?_)
  refine J_istore_n (pc := 7) K dX6_check_7 1 rfl (by decide) [(1, .int v1), (0, .ref (ω.1 + k0))] rfl ?_
  refine J_aload_n (pc := 8) K dX6_check_8 0 rfl 1 rfl ?_
  refine J_getR (pc := 9) K gf_SaltClouds_12 hk0 1 rfl dX6_check_9 ?_
  refine J_iconst (pc := 12) K (0) dX6_check_12 (by decide) ?_
  refine J_putI (pc := 13) K gf_SaltClouds_275 (ty_6_1 hk0) (by decide) rfl dX6_check_13 (fun h2 => ?_)
  refine J_aload_n (pc := 16) K dX6_check_16 0 rfl 1 rfl ?_
  refine J_getR (pc := 17) K gf_SaltClouds_19 hk0 57 rfl dX6_check_17 ?_
  refine J_aload_n (pc := 20) K dX6_check_20 0 rfl 1 rfl ?_
  refine J_getR (pc := 21) K gf_SaltClouds_12 hk0 1 rfl dX6_check_21 ?_
  refine J_callVU (As := [.ref (ω.1 + (k0 + 1))]) (rest := []) (pc := 24) K cs_SaltClouds_179 (ok_X2_takeFrom l ω N (ty_6_57 hk0) (ty_6_1 hk0) h2) (ty_6_57 hk0) (by decide) rfl rfl (Nat.le_of_ble_eq_true rfl) dX6_check_24 (fun _ h4 => ?_)
  refine J_iconst (pc := 27) K (0) dX6_check_27 (by decide) ?_
  refine J_istore_n (pc := 28) K dX6_check_28 2 rfl (by decide) [(2, .int (0 : Int32)), (1, .int v1), (0, .ref (ω.1 + k0))] rfl ?_
  refine J_lv [2, 1, 0] [(0, .ref (ω.1 + k0)), (1, .int v1), (2, .int (0 : Int32))] rfl ?_
  refine okL_X6_check_29 K  (by decide) N hk0 (fun h11 => ?_) _ _ _
  refine J_iconst (pc := 79) K (0) dX6_check_79 (by decide) ?_
  exact J_iret (pc := 80) K dX6_check_80
def F_X6_count (N : Nat) (k0 : Nat) (x1 : Int32) (h : Mem) : Option (Int32 × Mem) :=
  (if x1 = (0 : Int32) then
    (some (h (k0 + 1) 1, h))
  else
    (if x1 = (1 : Int32) then
      (some (h (k0 + 1) 4, h))
    else
      (if x1 = (2 : Int32) then
        (some (h (k0 + 1) 5, h))
      else
        (if x1 = (3 : Int32) then
          (bnd (F_X2_setOfAll N (k0 + 1) h) (fun r1 h2 =>
          (bnd (F_J6_bitCount_0f7a4 r1 h2) (fun r3 h4 =>
          (some (r3, h4))))))
        else
          (if x1 = (4 : Int32) then
            (bnd (F_X2_nobodies N (k0 + 1) h) (fun r5 h6 =>
            (some (r5, h6))))
          else
            (if x1 = (5 : Int32) then
              (bnd (F_X2_setOfAll N (k0 + 1) h) (fun r7 h8 =>
              (bnd (F_X2_totalOf N (k0 + 1) r7 (0 : Int32) h8) (fun r9 h10 =>
              (some (r9, h10))))))
            else
              (if x1 = (6 : Int32) then
                (some (h (k0 + 1) 8, h))
              else
                (if x1 = (7 : Int32) then
                  (some (h (k0 + 1) 12, h))
                else
                  (if x1 = (8 : Int32) then
                    (some (h (k0 + 91) 1, h))
                  else
                    (if x1 = (9 : Int32) then
                      (some (h (k0 + 1) 6, h))
                    else
                      (bnd (F_X6_refuse k0 (-1000000001 : Int32) h) (fun r11 h12 =>
                      (some (r11, h12))))))))))))))
set_option maxRecDepth 10000 in
set_option maxHeartbeats 1000000 in
theorem ok_X6_count (l : Launch) (ω : WX) (N : Nat) {k0 : Nat} (hk0 : lay k0 = 6) (x1 : Int32) (h : Mem) : MC rvI l ω yX6_count cX6_count 2 (some .int) 6 [.ref (ω.1 + k0), .int x1] h (F_X6_count N k0 x1 h) := by
  refine MC.of (by decide +kernel) [(0, .ref (ω.1 + k0)), (1, .int x1)] rfl (Nat.le_of_ble_eq_true rfl) (fun χ K => ?_)
  have K : Kok ω χ "SaltClouds" cX6_count 2 (some .int) 6 := K
  unfold F_X6_count
  refine J_iload_n (pc := 0) K dX6_count_0 1 rfl 1 rfl ?_
  refine J_ite (fun e1_0 => ?_) (fun e1_0 => ?_)
  · refine J_tableIn (pc := 1) K (v := 0) 56 e1_0 dX6_count_1 (by decide) (by decide) rfl (by decide) ?_
    refine J_aload_n (pc := 56) K dX6_count_56 0 rfl 0 rfl ?_
    refine J_getR (pc := 57) K gf_SaltClouds_12 hk0 1 rfl dX6_count_57 ?_
    refine J_getI (pc := 60) K gf_SaltClouds_64 (ty_6_1 hk0) rfl dX6_count_60 ?_
    exact J_iret (pc := 63) K dX6_count_63
  · refine J_ite (fun e1_1 => ?_) (fun e1_1 => ?_)
    · refine J_tableIn (pc := 1) K (v := 1) 64 e1_1 dX6_count_1 (by decide) (by decide) rfl (by decide) ?_
      refine J_aload_n (pc := 64) K dX6_count_64 0 rfl 0 rfl ?_
      refine J_getR (pc := 65) K gf_SaltClouds_12 hk0 1 rfl dX6_count_65 ?_
      refine J_getI (pc := 68) K gf_SaltClouds_272 (ty_6_1 hk0) rfl dX6_count_68 ?_
      exact J_iret (pc := 71) K dX6_count_71
    · refine J_ite (fun e1_2 => ?_) (fun e1_2 => ?_)
      · refine J_tableIn (pc := 1) K (v := 2) 72 e1_2 dX6_count_1 (by decide) (by decide) rfl (by decide) ?_
        refine J_aload_n (pc := 72) K dX6_count_72 0 rfl 0 rfl ?_
        refine J_getR (pc := 73) K gf_SaltClouds_12 hk0 1 rfl dX6_count_73 ?_
        refine J_getI (pc := 76) K gf_SaltClouds_281 (ty_6_1 hk0) rfl dX6_count_76 ?_
        exact J_iret (pc := 79) K dX6_count_79
      · refine J_ite (fun e1_3 => ?_) (fun e1_3 => ?_)
        · refine J_tableIn (pc := 1) K (v := 3) 80 e1_3 dX6_count_1 (by decide) (by decide) rfl (by decide) ?_
          refine J_aload_n (pc := 80) K dX6_count_80 0 rfl 0 rfl ?_
          refine J_getR (pc := 81) K gf_SaltClouds_12 hk0 1 rfl dX6_count_81 ?_
          refine J_callVI (As := []) (rest := []) (pc := 84) K cs_SaltClouds_200 (ok_X2_setOfAll l ω N (ty_6_1 hk0) h) (ty_6_1 hk0) (by decide) rfl rfl (Nat.le_of_ble_eq_true rfl) dX6_count_84 (fun r1 h2 => ?_)
          refine J_callTI (As := [.int r1]) (rest := []) (pc := 87) K cs_SaltClouds_195 (ok_J6_bitCount_0f7a4 l ω r1 h2) (by decide) rfl rfl (Nat.le_of_ble_eq_true rfl) dX6_count_87 (fun r3 h4 => ?_)
          exact J_iret (pc := 90) K dX6_count_90
        · refine J_ite (fun e1_4 => ?_) (fun e1_4 => ?_)
          · refine J_tableIn (pc := 1) K (v := 4) 91 e1_4 dX6_count_1 (by decide) (by decide) rfl (by decide) ?_
            refine J_aload_n (pc := 91) K dX6_count_91 0 rfl 0 rfl ?_
            refine J_getR (pc := 92) K gf_SaltClouds_12 hk0 1 rfl dX6_count_92 ?_
            refine J_callVI (As := []) (rest := []) (pc := 95) K cs_SaltClouds_169 (ok_X2_nobodies l ω N (ty_6_1 hk0) h) (ty_6_1 hk0) (by decide) rfl rfl (Nat.le_of_ble_eq_true rfl) dX6_count_95 (fun r5 h6 => ?_)
            exact J_iret (pc := 98) K dX6_count_98
          · refine J_ite (fun e1_5 => ?_) (fun e1_5 => ?_)
            · refine J_tableIn (pc := 1) K (v := 5) 99 e1_5 dX6_count_1 (by decide) (by decide) rfl (by decide) ?_
              refine J_aload_n (pc := 99) K dX6_count_99 0 rfl 0 rfl ?_
              refine J_getR (pc := 100) K gf_SaltClouds_12 hk0 1 rfl dX6_count_100 ?_
              refine J_aload_n (pc := 103) K dX6_count_103 0 rfl 0 rfl ?_
              refine J_getR (pc := 104) K gf_SaltClouds_12 hk0 1 rfl dX6_count_104 ?_
              refine J_callVI (As := []) (rest := [.ref (ω.1 + (k0 + 1))]) (pc := 107) K cs_SaltClouds_200 (ok_X2_setOfAll l ω N (ty_6_1 hk0) h) (ty_6_1 hk0) (by decide) rfl rfl (Nat.le_of_ble_eq_true rfl) dX6_count_107 (fun r7 h8 => ?_)
              refine J_iconst (pc := 110) K (0) dX6_count_110 (by decide) ?_
              refine J_callVI (As := [.int r7, .int (0 : Int32)]) (rest := []) (pc := 111) K cs_SaltClouds_203 (ok_X2_totalOf l ω N (ty_6_1 hk0) r7 (0 : Int32) h8) (ty_6_1 hk0) (by decide) rfl rfl (Nat.le_of_ble_eq_true rfl) dX6_count_111 (fun r9 h10 => ?_)
              exact J_iret (pc := 114) K dX6_count_114
            · refine J_ite (fun e1_6 => ?_) (fun e1_6 => ?_)
              · refine J_tableIn (pc := 1) K (v := 6) 115 e1_6 dX6_count_1 (by decide) (by decide) rfl (by decide) ?_
                refine J_aload_n (pc := 115) K dX6_count_115 0 rfl 0 rfl ?_
                refine J_getR (pc := 116) K gf_SaltClouds_12 hk0 1 rfl dX6_count_116 ?_
                refine J_getI (pc := 119) K gf_SaltClouds_133 (ty_6_1 hk0) rfl dX6_count_119 ?_
                exact J_iret (pc := 122) K dX6_count_122
              · refine J_ite (fun e1_7 => ?_) (fun e1_7 => ?_)
                · refine J_tableIn (pc := 1) K (v := 7) 123 e1_7 dX6_count_1 (by decide) (by decide) rfl (by decide) ?_
                  refine J_aload_n (pc := 123) K dX6_count_123 0 rfl 0 rfl ?_
                  refine J_getR (pc := 124) K gf_SaltClouds_12 hk0 1 rfl dX6_count_124 ?_
                  refine J_getI (pc := 127) K gf_SaltClouds_275 (ty_6_1 hk0) rfl dX6_count_127 ?_
                  exact J_iret (pc := 130) K dX6_count_130
                · refine J_ite (fun e1_8 => ?_) (fun e1_8 => ?_)
                  · refine J_tableIn (pc := 1) K (v := 8) 131 e1_8 dX6_count_1 (by decide) (by decide) rfl (by decide) ?_
                    refine J_aload_n (pc := 131) K dX6_count_131 0 rfl 0 rfl ?_
                    refine J_getR (pc := 132) K gf_SaltClouds_42 hk0 91 rfl dX6_count_132 ?_
                    refine J_getI (pc := 135) K gf_SaltClouds_247 (ty_6_91 hk0) rfl dX6_count_135 ?_
                    exact J_iret (pc := 138) K dX6_count_138
                  · refine J_ite (fun e1_9 => ?_) (fun e1_9 => ?_)
                    · refine J_tableIn (pc := 1) K (v := 9) 139 e1_9 dX6_count_1 (by decide) (by decide) rfl (by decide) ?_
                      refine J_aload_n (pc := 139) K dX6_count_139 0 rfl 0 rfl ?_
                      refine J_getR (pc := 140) K gf_SaltClouds_12 hk0 1 rfl dX6_count_140 ?_
                      refine J_getI (pc := 143) K gf_SaltClouds_240 (ty_6_1 hk0) rfl dX6_count_143 ?_
                      exact J_iret (pc := 146) K dX6_count_146
                    · refine J_tableOut (pc := 1) K 147 dX6_count_1 (by have q0 := lv_neT e1_0 (a := 0) (by decide); have q1 := lv_neT e1_1 (a := 1) (by decide); have q2 := lv_neT e1_2 (a := 2) (by decide); have q3 := lv_neT e1_3 (a := 3) (by decide); have q4 := lv_neT e1_4 (a := 4) (by decide); have q5 := lv_neT e1_5 (a := 5) (by decide); have q6 := lv_neT e1_6 (a := 6) (by decide); have q7 := lv_neT e1_7 (a := 7) (by decide); have q8 := lv_neT e1_8 (a := 8) (by decide); have q9 := lv_neT e1_9 (a := 9) (by decide); omega) (by decide) ?_
                      refine J_aload_n (pc := 147) K dX6_count_147 0 rfl 0 rfl ?_
                      refine J_ldc (pc := 148) K kc_SaltClouds_59 dX6_count_148 ?_
                      refine J_callVI (As := [.int (-1000000001 : Int32)]) (rest := []) (pc := 150) K cs_SaltClouds_60 (ok_X6_refuse l ω hk0 (-1000000001 : Int32) h) hk0 (by decide) rfl rfl (Nat.le_of_ble_eq_true rfl) dX6_count_150 (fun r11 h12 => ?_)
                      exact J_iret (pc := 153) K dX6_count_153
def F_X6_told (k0 : Nat) (x1 : Int32) (h : Mem) : Option (Int32 × Mem) :=
  (bnd (F_X6_within x1 (1 : Int32) (5 : Int32) h) (fun r1 h2 =>
  (if r1 = 0 then
    (bnd (F_X6_refuse k0 (-1000000001 : Int32) h2) (fun r3 h4 =>
    (some (r3, h4))))
  else
    (gin x1 6
    (some (h2 (k0 + 93) (ix x1), h2))))))
set_option maxRecDepth 10000 in
set_option maxHeartbeats 1000000 in
theorem ok_X6_told (l : Launch) (ω : WX) {k0 : Nat} (hk0 : lay k0 = 6) (x1 : Int32) (h : Mem) : MC rvI l ω yX6_told cX6_told 2 (some .int) 2 [.ref (ω.1 + k0), .int x1] h (F_X6_told k0 x1 h) := by
  refine MC.of (by decide +kernel) [(0, .ref (ω.1 + k0)), (1, .int x1)] rfl (Nat.le_of_ble_eq_true rfl) (fun χ K => ?_)
  have K : Kok ω χ "SaltClouds" cX6_told 2 (some .int) 2 := K
  unfold F_X6_told
  refine J_iload_n (pc := 0) K dX6_told_0 1 rfl 1 rfl ?_
  refine J_iconst (pc := 1) K (1) dX6_told_1 (by decide) ?_
  refine J_iconst (pc := 2) K (5) dX6_told_2 (by decide) ?_
  refine J_callTI (As := [.int x1, .int (1 : Int32), .int (5 : Int32)]) (rest := []) (pc := 3) K cs_SaltClouds_51 (ok_X6_within l ω x1 (1 : Int32) (5 : Int32) h) (by decide) rfl rfl (Nat.le_of_ble_eq_true rfl) dX6_told_3 (fun r1 h2 => ?_)
  refine J_if_ne (pc := 6) K 16 dX6_told_6 (by decide) ?_ ?_
  · refine J_aload_n (pc := 9) K dX6_told_9 0 rfl 0 rfl ?_
    refine J_ldc (pc := 10) K kc_SaltClouds_59 dX6_told_10 ?_
    refine J_callVI (As := [.int (-1000000001 : Int32)]) (rest := []) (pc := 12) K cs_SaltClouds_60 (ok_X6_refuse l ω hk0 (-1000000001 : Int32) h2) hk0 (by decide) rfl rfl (Nat.le_of_ble_eq_true rfl) dX6_told_12 (fun r3 h4 => ?_)
    exact J_iret (pc := 15) K dX6_told_15
  · refine J_aload_n (pc := 16) K dX6_told_16 0 rfl 0 rfl ?_
    refine J_getR (pc := 17) K gf_SaltClouds_46 hk0 93 rfl dX6_told_17 ?_
    refine J_iload_n (pc := 20) K dX6_told_20 1 rfl 1 rfl ?_
    refine J_iald (pc := 21) K (a := k0 + 93) (n := 6) (ty_6_93 hk0) dX6_told_21 ?_
    exact J_iret (pc := 22) K dX6_told_22
def F_X7_in (x0 : Int32) (x1 : Int32) (x2 : Int32) (h : Mem) : Option (Int32 × Mem) :=
  (if x0 < x1 then
    (some ((0 : Int32), h))
  else
    (if x2 < x0 then
      (some ((0 : Int32), h))
    else
      (some ((1 : Int32), h))))
set_option maxRecDepth 10000 in
set_option maxHeartbeats 1000000 in
theorem ok_X7_in (l : Launch) (ω : WX) (x0 : Int32) (x1 : Int32) (x2 : Int32) (h : Mem) : MC rvI l ω yX7_in cX7_in 3 (some .boolean) 0 [.int x0, .int x1, .int x2] h (F_X7_in x0 x1 x2 h) := by
  refine MC.of (by decide +kernel) [(0, .int x0), (1, .int x1), (2, .int x2)] rfl (Nat.le_of_ble_eq_true rfl) (fun χ K => ?_)
  have K : Kok ω χ "SaltCloudsModel" cX7_in 3 (some .boolean) 0 := K
  unfold F_X7_in
  refine J_iload_n (pc := 0) K dX7_in_0 0 rfl 0 rfl ?_
  refine J_iload_n (pc := 1) K dX7_in_1 1 rfl 1 rfl ?_
  refine J_icmp_lt (pc := 2) K 14 dX7_in_2 (by decide) ?_ ?_
  · refine J_iconst (pc := 14) K (0) dX7_in_14 (by decide) ?_
    exact J_nret (pc := 15) K rfl dX7_in_15
  · refine J_iload_n (pc := 5) K dX7_in_5 0 rfl 0 rfl ?_
    refine J_iload_n (pc := 6) K dX7_in_6 2 rfl 2 rfl ?_
    refine J_icmp_gt (pc := 7) K 14 dX7_in_7 (by decide) ?_ ?_
    · refine J_iconst (pc := 14) K (0) dX7_in_14 (by decide) ?_
      exact J_nret (pc := 15) K rfl dX7_in_15
    · refine J_iconst (pc := 10) K (1) dX7_in_10 (by decide) ?_
      refine J_goto (pc := 11) K 15 dX7_in_11 (by decide) ?_
      exact J_nret (pc := 15) K rfl dX7_in_15
