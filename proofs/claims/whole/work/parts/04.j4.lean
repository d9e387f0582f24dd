/-! ARRAYCOPY, STRING CONSTANTS, short forms of the calls -/
def gcp {α : Type} (sp dp n : Int32) (n0 n1 : Nat) (o : Option α) : Option α := if ¬ sp < 0 ∧ ¬ dp < 0 ∧ ¬ n < 0 ∧ ix sp + ix n ≤ n0 ∧ ix dp + ix n ≤ n1 then o else none
def CP (own : String) (index : Nat) : Prop := Cond.methodLink own index arraycopyName ∈ jw ∧ Cond.native arraycopyName ∈ jw ∧ Cond.static arraycopyName ∈ jw ∧ Cond.initialized "java/lang/System" ∈ jw
def VSs (index : Nat) (y : MethodName) (cc : ByteArray) (nL : Nat) (rt : Option FieldType) (n : Nat) (own : String) : Prop :=
  Cond.methodLink own index y ∈ jw ∧ Cond.instanceMethod y ∈ jw ∧ Cond.selects "java/lang/String" y y ∈ jw ∧ Cond.initialized y.cls ∈ jw ∧ Cond.code y cc nL rt ∈ jw ∧ okY y n ∧ nL ≤ 40
def gly {α : Type} (k t : Nat) (o : Option α) : Option α := if lay k = t then o else none
section JS
variable {ρ σ : Type} {Z : ρ → Mem → State → Prop} {rv1 : σ → Option Value} {l : Launch} {ω : WX} {χ : KT} {own : String} {cc : ByteArray} {d pc nL : Nat} {rt : Option FieldType} {lv lv' : List (Nat × Value)} {st : List Value} {h : Mem} {o : Option (ρ × Mem)}
theorem J_gly {k t : Nat} (kk : lay k = t → J Z l ω χ pc nL lv st h o) : J Z l ω χ pc nL lv st h (gly k t o) := by
  intro r h' ho
  unfold gly at ho
  split at ho
  · rename_i q
    exact kk q r h' ho
  · cases ho
theorem J_copy (K : Kok ω χ own cc nL rt d) {index a0 a1 n0 n1 : Nat} (hw : CP own index) (ha0 : lay a0 = 1000 + n0) (ha1 : lay a1 = 1000 + n1) (hd : 1 ≤ d) {sp dp n : Int32} (hc : (st.map fun v => v.category).sum ≤ 8) (hdg : decode cc pc = .ok (.invokestatic index, 3)) {k9 : Mem → Option (ρ × Mem)} (kk : ∀ h1 : Mem, J Z l ω χ (pc + 3) nL lv st h1 (k9 h1)) : J Z l ω χ pc nL lv (.int n :: .int dp :: .ref (ω.1 + a1) :: .int sp :: .ref (ω.1 + a0) :: st) h (gcp sp dp n n0 n1 (seqh (rwm h a1 (va_cpy (h a0) (h a1) (ix sp) (ix dp) (ix n))) k9)) := by
  intro r h' ho H locs ls hP hS hl
  unfold gcp at ho
  split at ho
  · rename_i q
    obtain ⟨w1, w2, w3, w4⟩ := hw
    have hts := K.2.2.2.2.1
    have hk0 : a0 < nC := lay_lt ha0 (by omega)
    have hk1 : a1 < nC := lay_lt ha1 (by omega)
    have he0 := ws_at (ω := ω) (h := h) hk0
    have he1 := ws_at (ω := ω) (h := h) hk1
    rw [cont_arr ha0] at he0
    rw [cont_arr ha1] at he1
    have h9 : nativeFrameWords "java/lang/System" "arraycopy" 5 + 11 + 8 ≤ 64 := by decide
    refine va_copyi K.1 K.2.1 (K.2.2.1.trans hl.1.symm) K.2.2.2.1 (hts _ w1) (hts _ w2) (hts _ w3) (hts _ w4) K.2.2.2.2.2.2.2.1 hP (ws_D ω h) hS a0 a1 0 0 (ty := .int) he0 he1 rfl rfl rfl q.1 q.2.1 q.2.2.1 q.2.2.2.1 q.2.2.2.2 (fun i _ => rfl) (Nat.le_trans hd K.2.2.2.2.2.2.2.2.2.1.1) (by have := K.2.2.2.2.2.2.2.2.2.1.2; omega) hdg (fun H1 locs1 hP1 hD1 hS1 => ?_)
    have e : cont ω (rwm h a1 (va_cpy (h a0) (h a1) (ix sp) (ix dp) (ix n))) a1 = .inl (ω.2.2.1.1, n1, .inl (va_cpy (h a0) (h a1) sp.toNatClampNeg dp.toNatClampNeg n.toNatClampNeg)) := by rw [cont_arr ha1, rwm_row]; rfl
    rw [← e, ws_set hk1 rwm_off] at hP1
    exact kk _ r h' ho H1 locs1 ls hP1 hS1 hl
  · cases ho
theorem J_ldcS (K : Kok ω χ "SaltClouds$TextReader" cc nL rt d) {index : Nat} (i : Nat) (hi : i < 10) (tx : String) (hs : strL[i]? = some (index, tx)) (hdg : decode cc pc = .ok (.ldc index, 2)) (kk : J Z l ω χ (pc + 2) nL lv (.ref (ω.2.2.2.1 i) :: st) h o) : J Z l ω χ pc nL lv st h o := by
  intro r h' ho H locs ls hP hS hl
  have h2 := K.2.2.2.2.2.2.2.2.1.2.1 i hi
  have e : strL.getD i (0, "") = (index, tx) := by simp [List.getD, hs]
  rw [e] at h2
  exact va_ldcS K.1 K.2.1 K.2.2.2.1 h2 hdg (kk r h' ho H locs ls hP hS hl)
theorem J_sval (K : Kok ω χ "java/lang/String" cc nL rt d) {index i : Nat} (hi : i < 10) (hw : Cond.fieldLink "java/lang/String" index "java/lang/String" "value" "[B" ∈ jw) (hdg : decode cc pc = .ok (.getfield index, 3)) (kk : J Z l ω χ (pc + 3) nL lv (.ref (ω.2.2.2.2 i) :: st) h o) : J Z l ω χ pc nL lv (.ref (ω.2.2.2.1 i) :: st) h o := by
  intro r h' ho H locs ls hP hS hl
  exact vk_getf K.1 K.2.1 (K.2.2.2.2.2.2.2.2.1.1.1 i hi).2.2.1 hS K.2.2.2.1 (K.2.2.2.2.1 _ hw) (fun _ q => q) hdg (kk r h' ho H locs ls hP hS hl)
theorem J_scod (K : Kok ω χ "java/lang/String" cc nL rt d) {index i : Nat} (hi : i < 10) (hw : Cond.fieldLink "java/lang/String" index "java/lang/String" "coder" "B" ∈ jw) (hdg : decode cc pc = .ok (.getfield index, 3)) (kk : J Z l ω χ (pc + 3) nL lv (.int 0 :: st) h o) : J Z l ω χ pc nL lv (.ref (ω.2.2.2.1 i) :: st) h o := by
  intro r h' ho H locs ls hP hS hl
  exact vk_getf K.1 K.2.1 (K.2.2.2.2.2.2.2.2.1.1.1 i hi).2.1 hS K.2.2.2.1 (K.2.2.2.2.1 _ hw) (fun _ q => q) hdg (kk r h' ho H locs ls hP hS hl)
theorem J_gets (K : Kok ω χ "java/lang/String" cc nL rt d) {index : Nat} (hw : Cond.fieldLink "java/lang/String" index "java/lang/String" "COMPACT_STRINGS" "Z" ∈ jw) (hdg : decode cc pc = .ok (.getstatic index, 3)) (kk : J Z l ω χ (pc + 3) nL lv (.int 1 :: st) h o) : J Z l ω χ pc nL lv st h o := by
  intro r h' ho H locs ls hP hS hl
  exact va_gets K.1 K.2.1 K.2.2.2.2.2.2.2.2.1.2.2.1 hS K.2.2.2.1 (K.2.2.2.2.1 _ hw) (fun _ q => q) hdg (kk r h' ho H locs ls hP hS hl)
theorem J_slen (K : Kok ω χ own cc nL rt d) {i : Nat} (hi : i < 10) (hdg : decode cc pc = .ok (.arraylength, 1)) (kk : J Z l ω χ (pc + 1) nL lv (.int (nI (lenS.getD i 0)) :: st) h o) : J Z l ω χ pc nL lv (.ref (ω.2.2.2.2 i) :: st) h o := by
  intro r h' ho H locs ls hP hS hl
  exact va_tlen K.1 K.2.1 (K.2.2.2.2.2.2.2.2.1.1.1 i hi).2.2.2 hS rfl hdg (kk r h' ho H locs ls hP hS hl)
theorem J_bald (K : Kok ω χ own cc nL rt d) {i : Nat} (hi : i < 10) {j : Int32} (hdg : decode cc pc = .ok (.baload, 1)) (kk : J Z l ω χ (pc + 1) nL lv (.int ((bytS.getD i []).getD (ix j) 0) :: st) h o) : J Z l ω χ pc nL lv (.int j :: .ref (ω.2.2.2.2 i) :: st) h (gin j (lenS.getD i 0) o) := by
  intro r h' ho H locs ls hP hS hl
  obtain ⟨hin, ho⟩ := gin_some ho
  exact va_tb K.1 K.2.1 (K.2.2.2.2.2.2.2.2.1.1.1 i hi).2.2.2 hS hin rfl hdg (kk r h' ho H locs ls hP hS hl)
theorem J_callVs (K : Kok ω χ own cc nL rt d) {index n nL1 d1 i : Nat} {y : MethodName} {cc1 : ByteArray} {rt1 : Option FieldType} {As rest st0 : List Value} {o1 : Option (σ × Mem)} (hV : VSs index y cc1 nL1 rt1 n own) (hM : MC rv1 l ω y cc1 nL1 rt1 d1 (.ref (ω.2.2.2.1 i) :: As) h o1) (hi : i < 10) (hd : d1 + 1 ≤ d) (hst : st0 = As.reverse ++ .ref (ω.2.2.2.1 i) :: rest) (hn : As.length = n) (hc : (rest.map fun v => v.category).sum ≤ 8) (hdg : decode cc pc = .ok (.invokevirtual index, 3)) {k9 : σ → Mem → Option (ρ × Mem)}
    (kk : ∀ (r : σ) (h1 : Mem), J Z l ω χ (pc + 3) nL lv ((rv1 r).toList ++ rest) h1 (k9 r h1)) : J Z l ω χ pc nL lv st0 h (bnd o1 k9) := by
  intro r h' ho H locs ls hP hS hl
  obtain ⟨r1, h1, ho1, ho2⟩ := bnd_some ho
  obtain ⟨v1, v2, v3, v4, v5, v6, v7⟩ := hV
  have hts := K.2.2.2.2.1
  refine J_behind hS hl (va_runV (cc := cc) (As := As) (rest := rest) (b := ω.2.2.2.1 i) (C := "java/lang/String") (n := n) ⟨K.1, K.2.1, K.2.2.1, K.2.2.2.1, hts⟩ (hM r1 h1 ho1) ⟨callB_of n hts (jw_code v5) rfl rfl rfl (hts _ v4) (hts _ v1) v6 (jroom K.2.2.2.2.2.2.2.2.2.1 hd v7), hts _ v2, hts _ v3⟩ ⟨InvS.blind ω _ h, ?_, fun U hU hW => ⟨rfl, by rw [hU]; exact hP, va_K.moved hW.alike K.2.2.2.2.2.2.2.1, SS.to K.2.2.2.2.2.2.2.2.1 hS hU hW⟩⟩ rfl hn hl.1 hst (lv_room hc) hdg K.2.2.2.2.2.2.2.2.2.2) (kk r1 h1) ho2
  exact vk_recv K.2.2.2.2.2.2.2.2.1.1 hi hS
end JS
section JW
variable {ρ : Type} {Z : ρ → Mem → State → Prop} {l : Launch} {ω : WX} {χ : KT} {own : String} {cc : ByteArray} {d pc nL : Nat} {rt : Option FieldType} {lv lv' : List (Nat × Value)} {st : List Value} {h : Mem} {o : Option (ρ × Mem)}
theorem J_callVI (K : Kok ω χ own cc nL rt d) {index n ci nL1 d1 k : Nat} {y : MethodName} {cc1 : ByteArray} {rt1 : Option FieldType} {As rest st0 : List Value} {o1 : Option (Int32 × Mem)} (hV : VS own index y cc1 nL1 rt1 n ci) (hM : MC rvI l ω y cc1 nL1 rt1 d1 (.ref (ω.1 + k) :: As) h o1) (hk : lay k = ci) (hd : d1 + 1 ≤ d) (hst : st0 = As.reverse ++ .ref (ω.1 + k) :: rest) (hn : As.length = n) (hc : (rest.map fun v => v.category).sum ≤ 8) (hdg : decode cc pc = .ok (.invokevirtual index, 3)) {k9 : Int32 → Mem → Option (ρ × Mem)}
    (kk : ∀ (r : Int32) (h1 : Mem), J Z l ω χ (pc + 3) nL lv (.int r :: rest) h1 (k9 r h1)) : J Z l ω χ pc nL lv st0 h (bnd o1 k9) := J_callV K hV hM hk hd hst hn hc hdg kk
theorem J_callVU (K : Kok ω χ own cc nL rt d) {index n ci nL1 d1 k : Nat} {y : MethodName} {cc1 : ByteArray} {rt1 : Option FieldType} {As rest st0 : List Value} {o1 : Option (Unit × Mem)} (hV : VS own index y cc1 nL1 rt1 n ci) (hM : MC rvV l ω y cc1 nL1 rt1 d1 (.ref (ω.1 + k) :: As) h o1) (hk : lay k = ci) (hd : d1 + 1 ≤ d) (hst : st0 = As.reverse ++ .ref (ω.1 + k) :: rest) (hn : As.length = n) (hc : (rest.map fun v => v.category).sum ≤ 8) (hdg : decode cc pc = .ok (.invokevirtual index, 3)) {k9 : Unit → Mem → Option (ρ × Mem)}
    (kk : ∀ (r : Unit) (h1 : Mem), J Z l ω χ (pc + 3) nL lv rest h1 (k9 r h1)) : J Z l ω χ pc nL lv st0 h (bnd o1 k9) := J_callV K hV hM hk hd hst hn hc hdg kk
theorem J_callVR (K : Kok ω χ own cc nL rt d) {index n ci nL1 d1 k : Nat} {y : MethodName} {cc1 : ByteArray} {rt1 : Option FieldType} {As rest st0 : List Value} {o1 : Option (Nat × Mem)} (hV : VS own index y cc1 nL1 rt1 n ci) (hM : MC (rvR ω) l ω y cc1 nL1 rt1 d1 (.ref (ω.1 + k) :: As) h o1) (hk : lay k = ci) (hd : d1 + 1 ≤ d) (hst : st0 = As.reverse ++ .ref (ω.1 + k) :: rest) (hn : As.length = n) (hc : (rest.map fun v => v.category).sum ≤ 8) (hdg : decode cc pc = .ok (.invokevirtual index, 3)) {k9 : Nat → Mem → Option (ρ × Mem)}
    (kk : ∀ (r : Nat) (h1 : Mem), J Z l ω χ (pc + 3) nL lv (.ref (ω.1 + r) :: rest) h1 (k9 r h1)) : J Z l ω χ pc nL lv st0 h (bnd o1 k9) := J_callV K hV hM hk hd hst hn hc hdg kk
theorem J_callTI (K : Kok ω χ own cc nL rt d) {index n nL1 d1 : Nat} {y : MethodName} {cc1 : ByteArray} {rt1 : Option FieldType} {As rest st0 : List Value} {o1 : Option (Int32 × Mem)} (hV : TS own index y cc1 nL1 rt1 n) (hM : MC rvI l ω y cc1 nL1 rt1 d1 (As) h o1) (hd : d1 + 1 ≤ d) (hst : st0 = As.reverse ++  rest) (hn : As.length = n) (hc : (rest.map fun v => v.category).sum ≤ 8) (hdg : decode cc pc = .ok (.invokestatic index, 3)) {k9 : Int32 → Mem → Option (ρ × Mem)}
    (kk : ∀ (r : Int32) (h1 : Mem), J Z l ω χ (pc + 3) nL lv (.int r :: rest) h1 (k9 r h1)) : J Z l ω χ pc nL lv st0 h (bnd o1 k9) := J_callT K hV hM hd hst hn hc hdg kk
theorem J_callNI (K : Kok ω χ own cc nL rt d) {index n nL1 d1 : Nat} {y : MethodName} {cc1 : ByteArray} {rt1 : Option FieldType} {As rest st0 : List Value} {o1 : Option (Int32 × Mem)} (hV : NS own index y cc1 nL1 rt1 n) (hM : MC rvI l ω y cc1 nL1 rt1 d1 (As) h o1) (hd : d1 + 1 ≤ d) (hst : st0 = As.reverse ++  rest) (hn : As.length = n) (hc : (rest.map fun v => v.category).sum ≤ 8) (hdg : decode cc pc = .ok (.invokestatic index, 3)) {k9 : Int32 → Mem → Option (ρ × Mem)}
    (kk : ∀ (r : Int32) (h1 : Mem), J Z l ω χ (pc + 3) nL lv (.int r :: rest) h1 (k9 r h1)) : J Z l ω χ pc nL lv st0 h (bnd o1 k9) := J_callN K hV hM hd hst hn hc hdg kk
theorem J_callVsI (K : Kok ω χ own cc nL rt d) {index n nL1 d1 i : Nat} {y : MethodName} {cc1 : ByteArray} {rt1 : Option FieldType} {As rest st0 : List Value} {o1 : Option (Int32 × Mem)} (hV : VSs index y cc1 nL1 rt1 n own) (hM : MC rvI l ω y cc1 nL1 rt1 d1 (.ref (ω.2.2.2.1 i) :: As) h o1) (hi : i < 10) (hd : d1 + 1 ≤ d) (hst : st0 = As.reverse ++ .ref (ω.2.2.2.1 i) :: rest) (hn : As.length = n) (hc : (rest.map fun v => v.category).sum ≤ 8) (hdg : decode cc pc = .ok (.invokevirtual index, 3)) {k9 : Int32 → Mem → Option (ρ × Mem)}
    (kk : ∀ (r : Int32) (h1 : Mem), J Z l ω χ (pc + 3) nL lv (.int r :: rest) h1 (k9 r h1)) : J Z l ω χ pc nL lv st0 h (bnd o1 k9) := J_callVs K hV hM hi hd hst hn hc hdg kk
end JW
