/-! the constructors, by program -/
theorem va_nd_of {l : List Nat} (h : l.Nodup) : va_nd l = true := by
  induction l with
  | nil => rfl
  | cons a l ih =>
    rw [List.nodup_cons] at h
    simp [va_nd, h.1, ih h.2]
theorem va_D_iff {A : Nat → Prop} {ws : va_W} : va_D A ws ↔ (ws.map Prod.fst).Nodup ∧ ∀ q ∈ ws, A q.1 := by
  constructor
  · rintro ⟨h1, h2⟩
    refine ⟨?_, fun q hq => ?_⟩
    · rw [List.nodup_iff_pairwise_ne, List.pairwise_iff_getElem]
      intro i j hi hj hij e
      simp only [List.length_map] at hi hj
      simp only [List.getElem_map] at e
      have := h1 i j ws[i] ws[j] (List.getElem?_eq_getElem hi) (List.getElem?_eq_getElem hj) e
      omega
    · obtain ⟨i, hi⟩ := List.getElem?_of_mem hq
      exact h2 i q hi
  · rintro ⟨h1, h2⟩
    refine ⟨fun i j p q hi hj e => ?_, fun k q hk => h2 q (List.mem_of_getElem? hk)⟩
    rw [List.nodup_iff_pairwise_ne, List.pairwise_iff_getElem] at h1
    obtain ⟨hi1, hi2⟩ := List.getElem?_eq_some_iff.mp hi
    obtain ⟨hj1, hj2⟩ := List.getElem?_eq_some_iff.mp hj
    rcases Nat.lt_trichotomy i j with h | h | h
    · exact (h1 i j (by simpa using hi1) (by simpa using hj1) h (by simp [hi2, hj2, e])).elim
    · exact h
    · exact (h1 j i (by simpa using hj1) (by simpa using hi1) h (by simp [hi2, hj2, e])).elim
theorem va_P_iff {D : va_G} {cl : List vw_C} {ws : va_W} {H : Heap} : va_P D cl ws H ↔ ∀ q ∈ ws, va_at D cl q H := by
  constructor
  · intro h q hq
    obtain ⟨i, hi⟩ := List.getElem?_of_mem hq
    exact h i q hi
  · intro h k q hk
    exact h q (List.mem_of_getElem? hk)
section CP
variable {Z : State → Prop} {l : Launch} {ω : WX} {χ : KT} {A : Nat → Prop} {own : String} {cc : ByteArray} {d pc nL : Nat} {lv : List (Nat × Value)} {st : List Value} {n q z : Nat}
theorem C_perm {ws ws' : va_W} (h : ws.Perm ws') (kk : C1 Z l ω χ A pc nL lv st n ws' q z) : C1 Z l ω χ A pc nL lv st n ws q z := by
  intro H locs ls hn hP hD hS hl
  refine kk H locs ls hn (va_P_iff.mpr fun x hx => va_P_iff.mp hP x (h.mem_iff.mpr hx)) (va_D_iff.mpr ⟨?_, fun x hx => (va_D_iff.mp hD).2 x (h.mem_iff.mpr hx)⟩) hS hl
  exact ((h.map Prod.fst).nodup_iff).mp (va_D_iff.mp hD).1
/-- new, dup, the constructor -/
theorem C_make {ws : va_W} (K : KC ω χ A own cc nL d) {index index2 nL1 d1 n' mc ms : Nat} {y : MethodName} {cc1 : ByteArray} {ws1 : va_W} (ci : Nat) (C : vw_C) (ty : Nat → FieldType) (hc : vwCl[ci]? = some C) (hw : Cond.classLink own index C.1 ∈ jw ∧ Cond.instantiable C.1 C.2.2 ∈ jw ∧ Cond.initialized C.1 ∈ jw ∧ ∀ w ∈ u_ws C.1 C.2.1 C.2.2, w ∈ jw) (hty : ∀ k, k < C.2.2 → parseFieldDescriptor (C.2.1 k).2.2.1 = some (ty k)) (fs : List Value) (hfs : ∀ j, j < C.2.2 → defaultValue (ty j) = vp_V fs j)
    (hM : CM l ω y cc1 nL1 d1 n (n + 1) [(n, .inr (ci, fs))] n' ws1 mc ms) (hV : (Cond.methodLink own index2 y ∈ jw ∨ ∃ host, (own, index2, y, host) ∈ nestC) ∧ Cond.instanceMethod y ∈ jw ∧ Cond.initialized y.cls ∈ jw ∧ Cond.code y cc1 nL1 none ∈ jw ∧ okY y 0 ∧ nL1 ≤ 40 ∧ y.name = "<init>") (hb : ω.1 ≤ n) (hd : d1 + 1 ≤ d) (hcat : ((.ref n :: st).map fun v => v.category).sum ≤ 8) (hdg : decode cc pc = .ok (.new index, 3)) (hdg2 : decode cc (pc + 3) = .ok (.dup, 1)) (hdg3 : decode cc (pc + 4) = .ok (.invokespecial index2, 3)) (hcells : q + 1 + mc ≤ (kR χ).cells) (hslots : z + C.2.2 + ms ≤ (kR χ).slots)
    (kk : C1 Z l ω χ A (pc + 7) nL lv (.ref n :: st) n' (ws ++ ws1) (q + 1 + mc) (z + C.2.2 + ms)) : C1 Z l ω χ A pc nL lv st n ws q z := by
  refine C_new K ci C ty hc hw hty fs hfs hdg (by omega) (by omega) ?_
  refine C_dup K hdg2 rfl ?_
  refine C_call K (fs := fs) (ci := ci) (wr := ws) [ws.length] (List.range ws.length) ?_ ?_ (va_nd_of List.nodup_range) ?_ hM ⟨hb, by omega⟩ hV hd hcat hcells hslots hdg3 kk
  · simp
  · apply List.ext_getElem?
    intro i
    by_cases h : i < List.length ws
    · rw [List.getElem?_map, List.getElem?_range h, List.getElem?_map]
      show some ((ws ++ [(n, Sum.inr (ci, fs))])[i]?) = _
      rw [List.getElem?_append_left h, List.getElem?_eq_getElem h]
      rfl
    · simp [List.getElem?_map, h]
  · intro i hi
    have := List.mem_range.mp hi
    simp
    omega
theorem C_newaA {x : Nat × va_E} {w : va_W} (K : KC ω χ A own cc nL d) {m : Int32} (N' : Nat) (hw : Cond.arrayClass .int ∈ jw) (hm : ¬ m < 0) (hN : m.toNatClampNeg = N') (hbytes : N' * 4 ≤ 536870912) (hdg : decode cc pc = .ok (.newarray .int, 2)) (hcells : q + 1 ≤ (kR χ).cells) (hslots : z + N' ≤ (kR χ).slots)
    (kk : C1 Z l ω χ A (pc + 2) nL lv (.ref n :: st) (n + 1) (x :: ((n, .inl (ω.2.2.1.1, N', .inl (fun _ => 0))) :: w)) (q + 1) (z + N')) : C1 Z l ω χ A pc nL lv (.int m :: st) n (x :: w) q z :=
  C_newa K N' hw hm hN hbytes hdg hcells hslots (C_perm (List.Perm.cons x (List.perm_append_comm)) kk)
theorem C_anewA {x : Nat × va_E} {w : va_W} (K : KC ω χ A own cc nL d) {index : Nat} (C : String) {m : Int32} (N' t0 : Nat) (cA : ClassId) (ht : (jT ω)[t0]? = some (cA, .object C)) (hw : Cond.classLink own index C ∈ jw) (hover : va_AO C (kS χ)) (hm : ¬ m < 0) (hN : m.toNatClampNeg = N') (hbytes : N' * 4 ≤ 536870912) (hdg : decode cc pc = .ok (.anewarray index, 3)) (hcells : q + 1 ≤ (kR χ).cells) (hslots : z + N' ≤ (kR χ).slots)
    (kk : C1 Z l ω χ A (pc + 3) nL lv (.ref n :: st) (n + 1) (x :: ((n, .inl (cA, N', .inr (.inr (.inr (.inr (fun _ => none)))))) :: w)) (q + 1) (z + N')) : C1 Z l ω χ A pc nL lv (.int m :: st) n (x :: w) q z :=
  C_anew K C N' t0 cA ht hw hover hm hN hbytes hdg hcells hslots (C_perm (List.Perm.cons x (List.perm_append_comm)) kk)
theorem C_makeA {x : Nat × va_E} {w : va_W} (K : KC ω χ A own cc nL d) {index index2 nL1 d1 n' mc ms : Nat} {y9 : MethodName} {cc1 : ByteArray} {ws1 : va_W} (ci : Nat) (C : vw_C) (ty : Nat → FieldType) (hc : vwCl[ci]? = some C) (hw : Cond.classLink own index C.1 ∈ jw ∧ Cond.instantiable C.1 C.2.2 ∈ jw ∧ Cond.initialized C.1 ∈ jw ∧ ∀ w ∈ u_ws C.1 C.2.1 C.2.2, w ∈ jw) (hty : ∀ k, k < C.2.2 → parseFieldDescriptor (C.2.1 k).2.2.1 = some (ty k)) (fs : List Value) (hfs : ∀ j, j < C.2.2 → defaultValue (ty j) = vp_V fs j)
    (hM : CM l ω y9 cc1 nL1 d1 n (n + 1) [(n, .inr (ci, fs))] n' ws1 mc ms) (hV : (Cond.methodLink own index2 y9 ∈ jw ∨ ∃ host, (own, index2, y9, host) ∈ nestC) ∧ Cond.instanceMethod y9 ∈ jw ∧ Cond.initialized y9.cls ∈ jw ∧ Cond.code y9 cc1 nL1 none ∈ jw ∧ okY y9 0 ∧ nL1 ≤ 40 ∧ y9.name = "<init>") (hb : ω.1 ≤ n) (hd : d1 + 1 ≤ d) (hcat : ((.ref n :: st).map fun v => v.category).sum ≤ 8) (hdg : decode cc pc = .ok (.new index, 3)) (hdg2 : decode cc (pc + 3) = .ok (.dup, 1)) (hdg3 : decode cc (pc + 4) = .ok (.invokespecial index2, 3)) (hcells : q + 1 + mc ≤ (kR χ).cells) (hslots : z + C.2.2 + ms ≤ (kR χ).slots)
    (kk : C1 Z l ω χ A (pc + 7) nL lv (.ref n :: st) n' (x :: (ws1 ++ w)) (q + 1 + mc) (z + C.2.2 + ms)) : C1 Z l ω χ A pc nL lv st n (x :: w) q z :=
  C_make K ci C ty hc hw hty fs hfs hM hV hb hd hcat hdg hdg2 hdg3 hcells hslots (C_perm (List.Perm.cons x (List.perm_append_comm)) kk)
theorem C_newaB {x y : Nat × va_E} {w : va_W} (K : KC ω χ A own cc nL d) {m : Int32} (N' : Nat) (hw : Cond.arrayClass .int ∈ jw) (hm : ¬ m < 0) (hN : m.toNatClampNeg = N') (hbytes : N' * 4 ≤ 536870912) (hdg : decode cc pc = .ok (.newarray .int, 2)) (hcells : q + 1 ≤ (kR χ).cells) (hslots : z + N' ≤ (kR χ).slots)
    (kk : C1 Z l ω χ A (pc + 2) nL lv (.ref n :: st) (n + 1) (x :: y :: ((n, .inl (ω.2.2.1.1, N', .inl (fun _ => 0))) :: w)) (q + 1) (z + N')) : C1 Z l ω χ A pc nL lv (.int m :: st) n (x :: y :: w) q z :=
  C_newa K N' hw hm hN hbytes hdg hcells hslots (C_perm (List.Perm.cons x (List.Perm.cons y (List.perm_append_comm))) kk)
theorem C_anewB {x y : Nat × va_E} {w : va_W} (K : KC ω χ A own cc nL d) {index : Nat} (C : String) {m : Int32} (N' t0 : Nat) (cA : ClassId) (ht : (jT ω)[t0]? = some (cA, .object C)) (hw : Cond.classLink own index C ∈ jw) (hover : va_AO C (kS χ)) (hm : ¬ m < 0) (hN : m.toNatClampNeg = N') (hbytes : N' * 4 ≤ 536870912) (hdg : decode cc pc = .ok (.anewarray index, 3)) (hcells : q + 1 ≤ (kR χ).cells) (hslots : z + N' ≤ (kR χ).slots)
    (kk : C1 Z l ω χ A (pc + 3) nL lv (.ref n :: st) (n + 1) (x :: y :: ((n, .inl (cA, N', .inr (.inr (.inr (.inr (fun _ => none)))))) :: w)) (q + 1) (z + N')) : C1 Z l ω χ A pc nL lv (.int m :: st) n (x :: y :: w) q z :=
  C_anew K C N' t0 cA ht hw hover hm hN hbytes hdg hcells hslots (C_perm (List.Perm.cons x (List.Perm.cons y (List.perm_append_comm))) kk)
theorem C_makeB {x y : Nat × va_E} {w : va_W} (K : KC ω χ A own cc nL d) {index index2 nL1 d1 n' mc ms : Nat} {y9 : MethodName} {cc1 : ByteArray} {ws1 : va_W} (ci : Nat) (C : vw_C) (ty : Nat → FieldType) (hc : vwCl[ci]? = some C) (hw : Cond.classLink own index C.1 ∈ jw ∧ Cond.instantiable C.1 C.2.2 ∈ jw ∧ Cond.initialized C.1 ∈ jw ∧ ∀ w ∈ u_ws C.1 C.2.1 C.2.2, w ∈ jw) (hty : ∀ k, k < C.2.2 → parseFieldDescriptor (C.2.1 k).2.2.1 = some (ty k)) (fs : List Value) (hfs : ∀ j, j < C.2.2 → defaultValue (ty j) = vp_V fs j)
    (hM : CM l ω y9 cc1 nL1 d1 n (n + 1) [(n, .inr (ci, fs))] n' ws1 mc ms) (hV : (Cond.methodLink own index2 y9 ∈ jw ∨ ∃ host, (own, index2, y9, host) ∈ nestC) ∧ Cond.instanceMethod y9 ∈ jw ∧ Cond.initialized y9.cls ∈ jw ∧ Cond.code y9 cc1 nL1 none ∈ jw ∧ okY y9 0 ∧ nL1 ≤ 40 ∧ y9.name = "<init>") (hb : ω.1 ≤ n) (hd : d1 + 1 ≤ d) (hcat : ((.ref n :: st).map fun v => v.category).sum ≤ 8) (hdg : decode cc pc = .ok (.new index, 3)) (hdg2 : decode cc (pc + 3) = .ok (.dup, 1)) (hdg3 : decode cc (pc + 4) = .ok (.invokespecial index2, 3)) (hcells : q + 1 + mc ≤ (kR χ).cells) (hslots : z + C.2.2 + ms ≤ (kR χ).slots)
    (kk : C1 Z l ω χ A (pc + 7) nL lv (.ref n :: st) n' (x :: y :: (ws1 ++ w)) (q + 1 + mc) (z + C.2.2 + ms)) : C1 Z l ω χ A pc nL lv st n (x :: y :: w) q z :=
  C_make K ci C ty hc hw hty fs hfs hM hV hb hd hcat hdg hdg2 hdg3 hcells hslots (C_perm (List.Perm.cons x (List.Perm.cons y (List.perm_append_comm))) kk)
theorem C_put0 (K : KC ω χ A own cc nL d) {index ci j : Nat} {ty : FieldType} {fin : Bool} (g : GF own index ci j ty fin) (hin : (kH χ).name = "<init>") {a : Nat} {w : va_W} (fs fs' : List Value) {v : Value} (hfs : fs.set j v = fs') (hf : fin = true → ∀ r : vw_C, vwCl[ci]? = some r → (r.2.1 j).1 = own) (hn : narrow ty v = v) (hfit : fits ty v = true) (hlen : j < fs.length) (hdg : decode cc pc = .ok (.putfield index, 3)) (kk : C1 Z l ω χ A (pc + 3) nL lv st n ((a, .inr (ci, fs')) :: w) q z) : C1 Z l ω χ A pc nL lv (v :: .ref a :: st) n ((a, .inr (ci, fs)) :: w) q z := by
  subst hfs
  exact C_put K g hin 0 fs rfl hf hn hfit hlen hdg kk
theorem C_iast1 (K : KC ω χ A own cc nL d) {a : Nat} {x0 : Nat × va_E} {w : va_W} {N' : Nat} {f : Nat → Int32} {i x : Int32} (hin : vp_in i N') (hdg : decode cc pc = .ok (.iastore, 1)) (kk : C1 Z l ω χ A (pc + 1) nL lv st n (x0 :: (a, .inl (ω.2.2.1.1, N', .inl (upd f i.toNatClampNeg x))) :: w) q z) : C1 Z l ω χ A pc nL lv (.int x :: .int i :: .ref a :: st) n (x0 :: (a, .inl (ω.2.2.1.1, N', .inl f)) :: w) q z := C_iast K 1 rfl hin hdg kk
theorem C_aast1 (K : KC ω χ A own cc nL d) {a : Nat} {x0 : Nat × va_E} {w : va_W} (t0 qk ci : Nat) {cA : ClassId} {r : vw_C} {N' v : Nat} {vs : List Value} {f : Nat → Option Nat} (ht : (jT ω)[t0]? = some (cA, .object r.1)) (hv : w[qk]? = some (v, .inr (ci, vs))) (hc : vwCl[ci]? = some r) {i : Int32} (hin : vp_in i N') (hdg : decode cc pc = .ok (.aastore, 1)) (kk : C1 Z l ω χ A (pc + 1) nL lv st n (x0 :: (a, .inl (cA, N', .inr (.inr (.inr (.inr (va_up f i.toNatClampNeg (some v))))))) :: w) q z) : C1 Z l ω χ A pc nL lv (.ref v :: .int i :: .ref a :: st) n (x0 :: (a, .inl (cA, N', .inr (.inr (.inr (.inr f))))) :: w) q z := C_aast K 1 t0 (qk + 2) ci rfl ht (by simpa using hv) hc hin hdg kk
end CP
theorem C_vret0 {l : Launch} {ω : WX} {χ : KT} {A : Nat → Prop} {own : String} {cc : ByteArray} {d pc nL n n' mc ms q z : Nat} {lv : List (Nat × Value)} {ws wsE ws' : va_W} {n0 : Nat} (K : KC ω χ A own cc nL d) (hr : (kH χ).sig.returnType = none) (hlocks : (kH χ).locks = false) (hA : A = va_A ws n0) (hq : q ≤ mc) (hz : z ≤ ms) (hn : n = n') (h1 : wsE = ws') (hdg : decode cc pc = .ok (.return_, 1)) : C1 (ZC ω χ ws n0 n' ws' mc ms) l ω χ A pc nL lv [] n wsE q z := by
  intro H locs ls hn1 hP hD hS hl
  subst hA
  subst h1
  refine W.widen hq hz ?_
  exact W.vret K.1 K.2.1 hr (fun t ht hW => ⟨rfl, by rw [ht, hn1, hn], by rw [ht]; exact hP, hD, hS.F ht⟩) hS.2.2 hdg (hlocks := hlocks)
theorem ob_SaltClouds_3 : Cond.methodLink "SaltClouds" 3 objectInit ∈ jw ∧ Cond.instanceMethod objectInit ∈ jw ∧ Cond.code objectInit ⟨#[0xb1]⟩ 1 none ∈ jw := ⟨jw_at 90 (by decide +kernel) rfl, jw_at 91 (by decide +kernel) rfl, jw_at 92 (by decide +kernel) rfl⟩
theorem ob_SaltClouds_Sky_3 : Cond.methodLink "SaltClouds$Sky" 3 objectInit ∈ jw ∧ Cond.instanceMethod objectInit ∈ jw ∧ Cond.code objectInit ⟨#[0xb1]⟩ 1 none ∈ jw := ⟨jw_at 98 (by decide +kernel) rfl, jw_at 91 (by decide +kernel) rfl, jw_at 92 (by decide +kernel) rfl⟩
theorem ob_SaltClouds_Text_3 : Cond.methodLink "SaltClouds$Text" 3 objectInit ∈ jw ∧ Cond.instanceMethod objectInit ∈ jw ∧ Cond.code objectInit ⟨#[0xb1]⟩ 1 none ∈ jw := ⟨jw_at 106 (by decide +kernel) rfl, jw_at 91 (by decide +kernel) rfl, jw_at 92 (by decide +kernel) rfl⟩
theorem ob_SaltClouds_Cloud_3 : Cond.methodLink "SaltClouds$Cloud" 3 objectInit ∈ jw ∧ Cond.instanceMethod objectInit ∈ jw ∧ Cond.code objectInit ⟨#[0xb1]⟩ 1 none ∈ jw := ⟨jw_at 127 (by decide +kernel) rfl, jw_at 91 (by decide +kernel) rfl, jw_at 92 (by decide +kernel) rfl⟩
theorem ob_SaltClouds_TextReader_3 : Cond.methodLink "SaltClouds$TextReader" 3 objectInit ∈ jw ∧ Cond.instanceMethod objectInit ∈ jw ∧ Cond.code objectInit ⟨#[0xb1]⟩ 1 none ∈ jw := ⟨jw_at 217 (by decide +kernel) rfl, jw_at 91 (by decide +kernel) rfl, jw_at 92 (by decide +kernel) rfl⟩
theorem ob_SaltClouds_Voices_3 : Cond.methodLink "SaltClouds$Voices" 3 objectInit ∈ jw ∧ Cond.instanceMethod objectInit ∈ jw ∧ Cond.code objectInit ⟨#[0xb1]⟩ 1 none ∈ jw := ⟨jw_at 247 (by decide +kernel) rfl, jw_at 91 (by decide +kernel) rfl, jw_at 92 (by decide +kernel) rfl⟩
theorem ob_SaltClouds_Sheet_3 : Cond.methodLink "SaltClouds$Sheet" 3 objectInit ∈ jw ∧ Cond.instanceMethod objectInit ∈ jw ∧ Cond.code objectInit ⟨#[0xb1]⟩ 1 none ∈ jw := ⟨jw_at 270 (by decide +kernel) rfl, jw_at 91 (by decide +kernel) rfl, jw_at 92 (by decide +kernel) rfl⟩
theorem ob_SaltCloudsModel_1 : Cond.methodLink "SaltCloudsModel" 1 objectInit ∈ jw ∧ Cond.instanceMethod objectInit ∈ jw ∧ Cond.code objectInit ⟨#[0xb1]⟩ 1 none ∈ jw := ⟨jw_at 935 (by decide +kernel) rfl, jw_at 91 (by decide +kernel) rfl, jw_at 92 (by decide +kernel) rfl⟩
theorem ac_int : Cond.arrayClass .int ∈ jw := jw_at 122 (by decide +kernel) rfl
theorem nw_SaltClouds_TextReader_9 : Cond.classLink "SaltClouds$TextReader" 9 RX3 ∈ jw ∧ Cond.instantiable RX3 4 ∈ jw ∧ Cond.initialized RX3 ∈ jw ∧ ∀ w ∈ u_ws RX3 TX3 4, w ∈ jw := ⟨jw_at 218 (by decide +kernel) rfl, jw_at 102 (by decide +kernel) rfl, jw_at 71 (by decide +kernel) rfl, inw_X3⟩
theorem oy_X3_init : okY yX3_init 0 := ⟨by decide, by decide, by decide +kernel⟩
theorem mc_X3_init : Cond.code yX3_init cX3_init 1 none ∈ jw := jw_at 105 (by decide +kernel) rfl
theorem ci_SaltClouds_TextReader_11 : (Cond.methodLink "SaltClouds$TextReader" 11 yX3_init ∈ jw ∨ ∃ host, ("SaltClouds$TextReader", 11, yX3_init, host) ∈ nestC) ∧ Cond.instanceMethod yX3_init ∈ jw ∧ Cond.initialized (yX3_init).cls ∈ jw ∧ Cond.code yX3_init cX3_init 1 none ∈ jw ∧ okY yX3_init 0 ∧ 1 ≤ 40 ∧ (yX3_init).name = "<init>" := ⟨Or.inr ⟨"SaltClouds", by decide +kernel⟩, jw_at 104 (by decide +kernel) rfl, jw_at 71 (by decide +kernel) rfl, mc_X3_init, oy_X3_init, by decide, rfl⟩
theorem al_SaltClouds_Sky_9 : Cond.classLink "SaltClouds$Sky" 9 "SaltClouds$Cloud" ∈ jw := jw_at 99 (by decide +kernel) rfl
theorem nw_SaltClouds_Sky_43 : Cond.classLink "SaltClouds$Sky" 43 RX3 ∈ jw ∧ Cond.instantiable RX3 4 ∈ jw ∧ Cond.initialized RX3 ∈ jw ∧ ∀ w ∈ u_ws RX3 TX3 4, w ∈ jw := ⟨jw_at 101 (by decide +kernel) rfl, jw_at 102 (by decide +kernel) rfl, jw_at 71 (by decide +kernel) rfl, inw_X3⟩
theorem ci_SaltClouds_Sky_45 : (Cond.methodLink "SaltClouds$Sky" 45 yX3_init ∈ jw ∨ ∃ host, ("SaltClouds$Sky", 45, yX3_init, host) ∈ nestC) ∧ Cond.instanceMethod yX3_init ∈ jw ∧ Cond.initialized (yX3_init).cls ∈ jw ∧ Cond.code yX3_init cX3_init 1 none ∈ jw ∧ okY yX3_init 0 ∧ 1 ≤ 40 ∧ (yX3_init).name = "<init>" := ⟨Or.inr ⟨"SaltClouds", by decide +kernel⟩, jw_at 104 (by decide +kernel) rfl, jw_at 71 (by decide +kernel) rfl, mc_X3_init, oy_X3_init, by decide, rfl⟩
theorem nw_SaltClouds_Sky_9 : Cond.classLink "SaltClouds$Sky" 9 RX0 ∈ jw ∧ Cond.instantiable RX0 6 ∈ jw ∧ Cond.initialized RX0 ∈ jw ∧ ∀ w ∈ u_ws RX0 TX0 6, w ∈ jw := ⟨jw_at 99 (by decide +kernel) rfl, jw_at 123 (by decide +kernel) rfl, jw_at 72 (by decide +kernel) rfl, inw_X0⟩
theorem oy_X0_init : okY yX0_init 0 := ⟨by decide, by decide, by decide +kernel⟩
theorem mc_X0_init : Cond.code yX0_init cX0_init 1 none ∈ jw := jw_at 126 (by decide +kernel) rfl
theorem ci_SaltClouds_Sky_59 : (Cond.methodLink "SaltClouds$Sky" 59 yX0_init ∈ jw ∨ ∃ host, ("SaltClouds$Sky", 59, yX0_init, host) ∈ nestC) ∧ Cond.instanceMethod yX0_init ∈ jw ∧ Cond.initialized (yX0_init).cls ∈ jw ∧ Cond.code yX0_init cX0_init 1 none ∈ jw ∧ okY yX0_init 0 ∧ 1 ≤ 40 ∧ (yX0_init).name = "<init>" := ⟨Or.inr ⟨"SaltClouds", by decide +kernel⟩, jw_at 125 (by decide +kernel) rfl, jw_at 72 (by decide +kernel) rfl, mc_X0_init, oy_X0_init, by decide, rfl⟩
theorem nw_SaltClouds_9 : Cond.classLink "SaltClouds" 9 RX2 ∈ jw ∧ Cond.instantiable RX2 13 ∈ jw ∧ Cond.initialized RX2 ∈ jw ∧ ∀ w ∈ u_ws RX2 TX2 13, w ∈ jw := ⟨jw_at 93 (by decide +kernel) rfl, jw_at 94 (by decide +kernel) rfl, jw_at 70 (by decide +kernel) rfl, inw_X2⟩
theorem oy_X2_init : okY yX2_init 0 := ⟨by decide, by decide, by decide +kernel⟩
theorem mc_X2_init : Cond.code yX2_init cX2_init 2 none ∈ jw := jw_at 97 (by decide +kernel) rfl
theorem ci_SaltClouds_11 : (Cond.methodLink "SaltClouds" 11 yX2_init ∈ jw ∨ ∃ host, ("SaltClouds", 11, yX2_init, host) ∈ nestC) ∧ Cond.instanceMethod yX2_init ∈ jw ∧ Cond.initialized (yX2_init).cls ∈ jw ∧ Cond.code yX2_init cX2_init 2 none ∈ jw ∧ okY yX2_init 0 ∧ 2 ≤ 40 ∧ (yX2_init).name = "<init>" := ⟨Or.inl (jw_at 95 (by decide +kernel) rfl), jw_at 96 (by decide +kernel) rfl, jw_at 70 (by decide +kernel) rfl, mc_X2_init, oy_X2_init, by decide, rfl⟩
theorem al_SaltClouds_26 : Cond.classLink "SaltClouds" 26 "SaltClouds$Sheet" ∈ jw := jw_at 210 (by decide +kernel) rfl
theorem nw_SaltClouds_32 : Cond.classLink "SaltClouds" 32 RX4 ∈ jw ∧ Cond.instantiable RX4 6 ∈ jw ∧ Cond.initialized RX4 ∈ jw ∧ ∀ w ∈ u_ws RX4 TX4 6, w ∈ jw := ⟨jw_at 212 (by decide +kernel) rfl, jw_at 213 (by decide +kernel) rfl, jw_at 73 (by decide +kernel) rfl, inw_X4⟩
theorem oy_X4_init : okY yX4_init 0 := ⟨by decide, by decide, by decide +kernel⟩
theorem mc_X4_init : Cond.code yX4_init cX4_init 1 none ∈ jw := jw_at 216 (by decide +kernel) rfl
theorem ci_SaltClouds_34 : (Cond.methodLink "SaltClouds" 34 yX4_init ∈ jw ∨ ∃ host, ("SaltClouds", 34, yX4_init, host) ∈ nestC) ∧ Cond.instanceMethod yX4_init ∈ jw ∧ Cond.initialized (yX4_init).cls ∈ jw ∧ Cond.code yX4_init cX4_init 1 none ∈ jw ∧ okY yX4_init 0 ∧ 1 ≤ 40 ∧ (yX4_init).name = "<init>" := ⟨Or.inr ⟨"SaltClouds", by decide +kernel⟩, jw_at 215 (by decide +kernel) rfl, jw_at 73 (by decide +kernel) rfl, mc_X4_init, oy_X4_init, by decide, rfl⟩
theorem nw_SaltClouds_39 : Cond.classLink "SaltClouds" 39 RX5 ∈ jw ∧ Cond.instantiable RX5 5 ∈ jw ∧ Cond.initialized RX5 ∈ jw ∧ ∀ w ∈ u_ws RX5 TX5 5, w ∈ jw := ⟨jw_at 242 (by decide +kernel) rfl, jw_at 243 (by decide +kernel) rfl, jw_at 74 (by decide +kernel) rfl, inw_X5⟩
theorem oy_X5_init : okY yX5_init 0 := ⟨by decide, by decide, by decide +kernel⟩
theorem mc_X5_init : Cond.code yX5_init cX5_init 1 none ∈ jw := jw_at 246 (by decide +kernel) rfl
theorem ci_SaltClouds_41 : (Cond.methodLink "SaltClouds" 41 yX5_init ∈ jw ∨ ∃ host, ("SaltClouds", 41, yX5_init, host) ∈ nestC) ∧ Cond.instanceMethod yX5_init ∈ jw ∧ Cond.initialized (yX5_init).cls ∈ jw ∧ Cond.code yX5_init cX5_init 1 none ∈ jw ∧ okY yX5_init 0 ∧ 1 ≤ 40 ∧ (yX5_init).name = "<init>" := ⟨Or.inr ⟨"SaltClouds", by decide +kernel⟩, jw_at 245 (by decide +kernel) rfl, jw_at 74 (by decide +kernel) rfl, mc_X5_init, oy_X5_init, by decide, rfl⟩
theorem nw_SaltClouds_26 : Cond.classLink "SaltClouds" 26 RX1 ∈ jw ∧ Cond.instantiable RX1 3 ∈ jw ∧ Cond.initialized RX1 ∈ jw ∧ ∀ w ∈ u_ws RX1 TX1 3, w ∈ jw := ⟨jw_at 210 (by decide +kernel) rfl, jw_at 266 (by decide +kernel) rfl, jw_at 75 (by decide +kernel) rfl, inw_X1⟩
theorem oy_X1_init : okY yX1_init 0 := ⟨by decide, by decide, by decide +kernel⟩
theorem mc_X1_init : Cond.code yX1_init cX1_init 1 none ∈ jw := jw_at 269 (by decide +kernel) rfl
theorem ci_SaltClouds_50 : (Cond.methodLink "SaltClouds" 50 yX1_init ∈ jw ∨ ∃ host, ("SaltClouds", 50, yX1_init, host) ∈ nestC) ∧ Cond.instanceMethod yX1_init ∈ jw ∧ Cond.initialized (yX1_init).cls ∈ jw ∧ Cond.code yX1_init cX1_init 1 none ∈ jw ∧ okY yX1_init 0 ∧ 1 ≤ 40 ∧ (yX1_init).name = "<init>" := ⟨Or.inr ⟨"SaltClouds", by decide +kernel⟩, jw_at 268 (by decide +kernel) rfl, jw_at 75 (by decide +kernel) rfl, mc_X1_init, oy_X1_init, by decide, rfl⟩
def WX0_init (ω : WX) (a n : Nat) : va_W := (a, .inr (0, [.int 0, .int 0, .int 0, .int 0, .int 0, .ref (n)])) :: ((n, .inl (ω.2.2.1.1, 3, .inl (fun _ => 0))) :: [])
set_option maxRecDepth 100000 in
set_option maxHeartbeats 4000000 in
theorem ok_X0_init (l : Launch) (ω : WX) (a n : Nat) : CM l ω yX0_init cX0_init 1 1 a n [(a, .inr (0, [.int 0, .int 0, .int 0, .int 0, .int 0, .null]))] (n + 1) (WX0_init ω a n) 1 3 := by
  intro ha hn
  refine CM.of (by decide +kernel) rfl (by decide) (fun q e h => ?_) (fun χ A hR K hin hr hlocks hA => ?_) ha hn
  · have hq := (List.getElem?_eq_some_iff.mp h).1
    have hq0 : q = 0 := by simpa using hq
    subst hq0
    cases h
    rfl
  have K : KC ω χ A "SaltClouds$Cloud" cX0_init 1 1 := K
  refine C_aload_n (pc := 0) K dX0_init_0 0 rfl 0 rfl ?_
  refine C_obj (pc := 1) K (by decide) ob_SaltClouds_Cloud_3 (Nat.le_of_ble_eq_true rfl) dX0_init_1 ?_
  refine C_aload_n (pc := 4) K dX0_init_4 0 rfl 0 rfl ?_
  refine C_iconst (pc := 5) K (0) dX0_init_5 (by decide) ?_
  refine C_put0 (pc := 6) K gf_SaltClouds_Cloud_9 hin [.int 0, .int 0, .int 0, .int 0, .int 0, .null] [.int 0, .int 0, .int 0, .int 0, .int 0, .null] (v := .int 0) rfl (fun hf r hr => by cases hr; first | rfl | cases hf) rfl rfl (Nat.le_of_ble_eq_true rfl) dX0_init_6 ?_
  refine C_aload_n (pc := 9) K dX0_init_9 0 rfl 0 rfl ?_
  refine C_iconst (pc := 10) K (0) dX0_init_10 (by decide) ?_
  refine C_put0 (pc := 11) K gf_SaltClouds_Cloud_15 hin [.int 0, .int 0, .int 0, .int 0, .int 0, .null] [.int 0, .int 0, .int 0, .int 0, .int 0, .null] (v := .int 0) rfl (fun hf r hr => by cases hr; first | rfl | cases hf) rfl rfl (Nat.le_of_ble_eq_true rfl) dX0_init_11 ?_
  refine C_aload_n (pc := 14) K dX0_init_14 0 rfl 0 rfl ?_
  refine C_iconst (pc := 15) K (0) dX0_init_15 (by decide) ?_
  refine C_put0 (pc := 16) K gf_SaltClouds_Cloud_18 hin [.int 0, .int 0, .int 0, .int 0, .int 0, .null] [.int 0, .int 0, .int 0, .int 0, .int 0, .null] (v := .int 0) rfl (fun hf r hr => by cases hr; first | rfl | cases hf) rfl rfl (Nat.le_of_ble_eq_true rfl) dX0_init_16 ?_
  refine C_aload_n (pc := 19) K dX0_init_19 0 rfl 0 rfl ?_
  refine C_iconst (pc := 20) K (0) dX0_init_20 (by decide) ?_
  refine C_put0 (pc := 21) K gf_SaltClouds_Cloud_21 hin [.int 0, .int 0, .int 0, .int 0, .int 0, .null] [.int 0, .int 0, .int 0, .int 0, .int 0, .null] (v := .int 0) rfl (fun hf r hr => by cases hr; first | rfl | cases hf) rfl rfl (Nat.le_of_ble_eq_true rfl) dX0_init_21 ?_
  refine C_aload_n (pc := 24) K dX0_init_24 0 rfl 0 rfl ?_
  refine C_iconst (pc := 25) K (0) dX0_init_25 (by decide) ?_
  refine C_put0 (pc := 26) K gf_SaltClouds_Cloud_24 hin [.int 0, .int 0, .int 0, .int 0, .int 0, .null] [.int 0, .int 0, .int 0, .int 0, .int 0, .null] (v := .int 0) rfl (fun hf r hr => by cases hr; first | rfl | cases hf) rfl rfl (Nat.le_of_ble_eq_true rfl) dX0_init_26 ?_
  refine C_aload_n (pc := 29) K dX0_init_29 0 rfl 0 rfl ?_
  refine C_iconst (pc := 30) K (3) dX0_init_30 (by decide) ?_
  refine C_newaA (pc := 31) K 3 ac_int (by decide) (by decide) (by decide) dX0_init_31 (by rw [hR]; decide) (by rw [hR]; decide) ?_
  refine C_put0 (pc := 33) K gf_SaltClouds_Cloud_28 hin [.int 0, .int 0, .int 0, .int 0, .int 0, .null] [.int 0, .int 0, .int 0, .int 0, .int 0, .ref (n)] (v := .ref (n)) rfl (fun hf r hr => by cases hr; first | rfl | cases hf) rfl rfl (Nat.le_of_ble_eq_true rfl) dX0_init_33 ?_
  exact C_vret0 K hr hlocks hA (by decide) (by decide) rfl rfl dX0_init_36
def WX1_init (ω : WX) (a n : Nat) : va_W := (a, .inr (1, [.int 0, .int 0, .ref (n)])) :: ((n, .inl (ω.2.2.1.1, 40, .inl (fun _ => 0))) :: [])
set_option maxRecDepth 100000 in
set_option maxHeartbeats 4000000 in
theorem ok_X1_init (l : Launch) (ω : WX) (a n : Nat) : CM l ω yX1_init cX1_init 1 1 a n [(a, .inr (1, [.int 0, .int 0, .null]))] (n + 1) (WX1_init ω a n) 1 40 := by
  intro ha hn
  refine CM.of (by decide +kernel) rfl (by decide) (fun q e h => ?_) (fun χ A hR K hin hr hlocks hA => ?_) ha hn
  · have hq := (List.getElem?_eq_some_iff.mp h).1
    have hq0 : q = 0 := by simpa using hq
    subst hq0
    cases h
    rfl
  have K : KC ω χ A "SaltClouds$Sheet" cX1_init 1 1 := K
  refine C_aload_n (pc := 0) K dX1_init_0 0 rfl 0 rfl ?_
  refine C_obj (pc := 1) K (by decide) ob_SaltClouds_Sheet_3 (Nat.le_of_ble_eq_true rfl) dX1_init_1 ?_
  refine C_aload_n (pc := 4) K dX1_init_4 0 rfl 0 rfl ?_
  refine C_iconst (pc := 5) K (0) dX1_init_5 (by decide) ?_
  refine C_put0 (pc := 6) K gf_SaltClouds_Sheet_9 hin [.int 0, .int 0, .null] [.int 0, .int 0, .null] (v := .int 0) rfl (fun hf r hr => by cases hr; first | rfl | cases hf) rfl rfl (Nat.le_of_ble_eq_true rfl) dX1_init_6 ?_
  refine C_aload_n (pc := 9) K dX1_init_9 0 rfl 0 rfl ?_
  refine C_iconst (pc := 10) K (0) dX1_init_10 (by decide) ?_
  refine C_put0 (pc := 11) K gf_SaltClouds_Sheet_15 hin [.int 0, .int 0, .null] [.int 0, .int 0, .null] (v := .int 0) rfl (fun hf r hr => by cases hr; first | rfl | cases hf) rfl rfl (Nat.le_of_ble_eq_true rfl) dX1_init_11 ?_
  refine C_aload_n (pc := 14) K dX1_init_14 0 rfl 0 rfl ?_
  refine C_bipush (pc := 15) K (40) dX1_init_15 (by decide) ?_
  refine C_newaA (pc := 17) K 40 ac_int (by decide) (by decide) (by decide) dX1_init_17 (by rw [hR]; decide) (by rw [hR]; decide) ?_
  refine C_put0 (pc := 19) K gf_SaltClouds_Sheet_18 hin [.int 0, .int 0, .null] [.int 0, .int 0, .ref (n)] (v := .ref (n)) rfl (fun hf r hr => by cases hr; first | rfl | cases hf) rfl rfl (Nat.le_of_ble_eq_true rfl) dX1_init_19 ?_
  exact C_vret0 K hr hlocks hA (by decide) (by decide) rfl rfl dX1_init_22
def WX3_init (ω : WX) (a n : Nat) : va_W := (a, .inr (3, [.int 0, .ref (n), .int 0, .ref (n + 1)])) :: ((n + 1, .inl (ω.2.2.1.1, 50, .inl (fun _ => 0))) :: ((n, .inl (ω.2.2.1.1, 50, .inl (fun _ => 0))) :: []))
set_option maxRecDepth 100000 in
set_option maxHeartbeats 4000000 in
theorem ok_X3_init (l : Launch) (ω : WX) (a n : Nat) : CM l ω yX3_init cX3_init 1 1 a n [(a, .inr (3, [.int 0, .null, .int 0, .null]))] (n + 2) (WX3_init ω a n) 2 100 := by
  intro ha hn
  refine CM.of (by decide +kernel) rfl (by decide) (fun q e h => ?_) (fun χ A hR K hin hr hlocks hA => ?_) ha hn
  · have hq := (List.getElem?_eq_some_iff.mp h).1
    have hq0 : q = 0 := by simpa using hq
    subst hq0
    cases h
    rfl
  have K : KC ω χ A "SaltClouds$Text" cX3_init 1 1 := K
  refine C_aload_n (pc := 0) K dX3_init_0 0 rfl 0 rfl ?_
  refine C_obj (pc := 1) K (by decide) ob_SaltClouds_Text_3 (Nat.le_of_ble_eq_true rfl) dX3_init_1 ?_
  refine C_aload_n (pc := 4) K dX3_init_4 0 rfl 0 rfl ?_
  refine C_iconst (pc := 5) K (0) dX3_init_5 (by decide) ?_
  refine C_put0 (pc := 6) K gf_SaltClouds_Text_9 hin [.int 0, .null, .int 0, .null] [.int 0, .null, .int 0, .null] (v := .int 0) rfl (fun hf r hr => by cases hr; first | rfl | cases hf) rfl rfl (Nat.le_of_ble_eq_true rfl) dX3_init_6 ?_
  refine C_aload_n (pc := 9) K dX3_init_9 0 rfl 0 rfl ?_
  refine C_bipush (pc := 10) K (50) dX3_init_10 (by decide) ?_
  refine C_newaA (pc := 12) K 50 ac_int (by decide) (by decide) (by decide) dX3_init_12 (by rw [hR]; decide) (by rw [hR]; decide) ?_
  refine C_put0 (pc := 14) K gf_SaltClouds_Text_15 hin [.int 0, .null, .int 0, .null] [.int 0, .ref (n), .int 0, .null] (v := .ref (n)) rfl (fun hf r hr => by cases hr; first | rfl | cases hf) rfl rfl (Nat.le_of_ble_eq_true rfl) dX3_init_14 ?_
  refine C_aload_n (pc := 17) K dX3_init_17 0 rfl 0 rfl ?_
  refine C_iconst (pc := 18) K (0) dX3_init_18 (by decide) ?_
  refine C_put0 (pc := 19) K gf_SaltClouds_Text_19 hin [.int 0, .ref (n), .int 0, .null] [.int 0, .ref (n), .int 0, .null] (v := .int 0) rfl (fun hf r hr => by cases hr; first | rfl | cases hf) rfl rfl (Nat.le_of_ble_eq_true rfl) dX3_init_19 ?_
  refine C_aload_n (pc := 22) K dX3_init_22 0 rfl 0 rfl ?_
  refine C_bipush (pc := 23) K (50) dX3_init_23 (by decide) ?_
  refine C_newaA (pc := 25) K 50 ac_int (by decide) (by decide) (by decide) dX3_init_25 (by rw [hR]; decide) (by rw [hR]; decide) ?_
  refine C_put0 (pc := 27) K gf_SaltClouds_Text_23 hin [.int 0, .ref (n), .int 0, .null] [.int 0, .ref (n), .int 0, .ref (n + 1)] (v := .ref (n + 1)) rfl (fun hf r hr => by cases hr; first | rfl | cases hf) rfl rfl (Nat.le_of_ble_eq_true rfl) dX3_init_27 ?_
  exact C_vret0 K hr hlocks hA (by decide) (by decide) rfl rfl dX3_init_30
def WX5_init (ω : WX) (a n : Nat) : va_W := (a, .inr (5, [.ref (n), .int 0, .int 0, .int 0, .int 0])) :: ((n, .inl (ω.2.2.1.1, 40, .inl (fun _ => 0))) :: [])
set_option maxRecDepth 100000 in
set_option maxHeartbeats 4000000 in
theorem ok_X5_init (l : Launch) (ω : WX) (a n : Nat) : CM l ω yX5_init cX5_init 1 1 a n [(a, .inr (5, [.null, .int 0, .int 0, .int 0, .int 0]))] (n + 1) (WX5_init ω a n) 1 40 := by
  intro ha hn
  refine CM.of (by decide +kernel) rfl (by decide) (fun q e h => ?_) (fun χ A hR K hin hr hlocks hA => ?_) ha hn
  · have hq := (List.getElem?_eq_some_iff.mp h).1
    have hq0 : q = 0 := by simpa using hq
    subst hq0
    cases h
    rfl
  have K : KC ω χ A "SaltClouds$Voices" cX5_init 1 1 := K
  refine C_aload_n (pc := 0) K dX5_init_0 0 rfl 0 rfl ?_
  refine C_obj (pc := 1) K (by decide) ob_SaltClouds_Voices_3 (Nat.le_of_ble_eq_true rfl) dX5_init_1 ?_
  refine C_aload_n (pc := 4) K dX5_init_4 0 rfl 0 rfl ?_
  refine C_bipush (pc := 5) K (40) dX5_init_5 (by decide) ?_
  refine C_newaA (pc := 7) K 40 ac_int (by decide) (by decide) (by decide) dX5_init_7 (by rw [hR]; decide) (by rw [hR]; decide) ?_
  refine C_put0 (pc := 9) K gf_SaltClouds_Voices_11 hin [.null, .int 0, .int 0, .int 0, .int 0] [.ref (n), .int 0, .int 0, .int 0, .int 0] (v := .ref (n)) rfl (fun hf r hr => by cases hr; first | rfl | cases hf) rfl rfl (Nat.le_of_ble_eq_true rfl) dX5_init_9 ?_
  refine C_aload_n (pc := 12) K dX5_init_12 0 rfl 0 rfl ?_
  refine C_iconst (pc := 13) K (0) dX5_init_13 (by decide) ?_
  refine C_put0 (pc := 14) K gf_SaltClouds_Voices_15 hin [.ref (n), .int 0, .int 0, .int 0, .int 0] [.ref (n), .int 0, .int 0, .int 0, .int 0] (v := .int 0) rfl (fun hf r hr => by cases hr; first | rfl | cases hf) rfl rfl (Nat.le_of_ble_eq_true rfl) dX5_init_14 ?_
  refine C_aload_n (pc := 17) K dX5_init_17 0 rfl 0 rfl ?_
  refine C_iconst (pc := 18) K (0) dX5_init_18 (by decide) ?_
  refine C_put0 (pc := 19) K gf_SaltClouds_Voices_19 hin [.ref (n), .int 0, .int 0, .int 0, .int 0] [.ref (n), .int 0, .int 0, .int 0, .int 0] (v := .int 0) rfl (fun hf r hr => by cases hr; first | rfl | cases hf) rfl rfl (Nat.le_of_ble_eq_true rfl) dX5_init_19 ?_
  refine C_aload_n (pc := 22) K dX5_init_22 0 rfl 0 rfl ?_
  refine C_iconst (pc := 23) K (0) dX5_init_23 (by decide) ?_
  refine C_put0 (pc := 24) K gf_SaltClouds_Voices_22 hin [.ref (n), .int 0, .int 0, .int 0, .int 0] [.ref (n), .int 0, .int 0, .int 0, .int 0] (v := .int 0) rfl (fun hf r hr => by cases hr; first | rfl | cases hf) rfl rfl (Nat.le_of_ble_eq_true rfl) dX5_init_24 ?_
  refine C_aload_n (pc := 27) K dX5_init_27 0 rfl 0 rfl ?_
  refine C_iconst (pc := 28) K (0) dX5_init_28 (by decide) ?_
  refine C_put0 (pc := 29) K gf_SaltClouds_Voices_25 hin [.ref (n), .int 0, .int 0, .int 0, .int 0] [.ref (n), .int 0, .int 0, .int 0, .int 0] (v := .int 0) rfl (fun hf r hr => by cases hr; first | rfl | cases hf) rfl rfl (Nat.le_of_ble_eq_true rfl) dX5_init_29 ?_
  exact C_vret0 K hr hlocks hA (by decide) (by decide) rfl rfl dX5_init_32
def WX7_init (ω : WX) (a n : Nat) : va_W := (a, .inr (7, [.ref (n), .ref (n + 1), .ref (n + 2), .ref (n + 3), .int 0, .int 0, .ref (n + 4), .int 0, .int 0, .int 0, .int 0, .int 0, .int 0, .int 0, .int 0, .ref (n + 5), .ref (n + 6), .ref (n + 7), .ref (n + 8), .ref (n + 9), .int 0, .int 0, .int 0, .int 0])) :: (n, .inl (ω.2.2.1.1, 262, .inl (upd (upd (upd (fun _ => 0) (3 : Int32).toNatClampNeg (1)) (6 : Int32).toNatClampNeg (-1)) (7 : Int32).toNatClampNeg (-1)))) :: ((n + 9, .inl (ω.2.2.1.1, 40, .inl (fun _ => 0))) :: ((n + 8, .inl (ω.2.2.1.1, 40, .inl (fun _ => 0))) :: ((n + 7, .inl (ω.2.2.1.1, 160, .inl (fun _ => 0))) :: ((n + 6, .inl (ω.2.2.1.1, 4, .inl (fun _ => 0))) :: ((n + 5, .inl (ω.2.2.1.1, 4, .inl (fun _ => 0))) :: ((n + 4, .inl (ω.2.2.1.1, 6, .inl (fun _ => 0))) :: ((n + 3, .inl (ω.2.2.1.1, 262, .inl (fun _ => 0))) :: ((n + 2, .inl (ω.2.2.1.1, 262, .inl (fun _ => 0))) :: ((n + 1, .inl (ω.2.2.1.1, 262, .inl (fun _ => 0))) :: [])))))))))
set_option maxRecDepth 100000 in
set_option maxHeartbeats 4000000 in
theorem ok_X7_init (l : Launch) (ω : WX) (a n : Nat) : CM l ω yX7_init cX7_init 1 1 a n [(a, .inr (7, [.null, .null, .null, .null, .int 0, .int 0, .null, .int 0, .int 0, .int 0, .int 0, .int 0, .int 0, .int 0, .int 0, .null, .null, .null, .null, .null, .int 0, .int 0, .int 0, .int 0]))] (n + 10) (WX7_init ω a n) 10 1302 := by
  intro ha hn
  refine CM.of (by decide +kernel) rfl (by decide) (fun q e h => ?_) (fun χ A hR K hin hr hlocks hA => ?_) ha hn
  · have hq := (List.getElem?_eq_some_iff.mp h).1
    have hq0 : q = 0 := by simpa using hq
    subst hq0
    cases h
    rfl
  have K : KC ω χ A "SaltCloudsModel" cX7_init 1 1 := K
  refine C_aload_n (pc := 0) K dX7_init_0 0 rfl 0 rfl ?_
  refine C_obj (pc := 1) K (by decide) ob_SaltCloudsModel_1 (Nat.le_of_ble_eq_true rfl) dX7_init_1 ?_
  refine C_aload_n (pc := 4) K dX7_init_4 0 rfl 0 rfl ?_
  refine C_sipush (pc := 5) K (262) dX7_init_5 (by decide) ?_
  refine C_newaA (pc := 8) K 262 ac_int (by decide) (by decide) (by decide) dX7_init_8 (by rw [hR]; decide) (by rw [hR]; decide) ?_
  refine C_put0 (pc := 10) K gf_SaltCloudsModel_7 hin [.null, .null, .null, .null, .int 0, .int 0, .null, .int 0, .int 0, .int 0, .int 0, .int 0, .int 0, .int 0, .int 0, .null, .null, .null, .null, .null, .int 0, .int 0, .int 0, .int 0] [.ref (n), .null, .null, .null, .int 0, .int 0, .null, .int 0, .int 0, .int 0, .int 0, .int 0, .int 0, .int 0, .int 0, .null, .null, .null, .null, .null, .int 0, .int 0, .int 0, .int 0] (v := .ref (n)) rfl (fun hf r hr => by cases hr; first | rfl | cases hf) rfl rfl (Nat.le_of_ble_eq_true rfl) dX7_init_10 ?_
  refine C_aload_n (pc := 13) K dX7_init_13 0 rfl 0 rfl ?_
  refine C_sipush (pc := 14) K (262) dX7_init_14 (by decide) ?_
  refine C_newaB (pc := 17) K 262 ac_int (by decide) (by decide) (by decide) dX7_init_17 (by rw [hR]; decide) (by rw [hR]; decide) ?_
  refine C_put0 (pc := 19) K gf_SaltCloudsModel_13 hin [.ref (n), .null, .null, .null, .int 0, .int 0, .null, .int 0, .int 0, .int 0, .int 0, .int 0, .int 0, .int 0, .int 0, .null, .null, .null, .null, .null, .int 0, .int 0, .int 0, .int 0] [.ref (n), .ref (n + 1), .null, .null, .int 0, .int 0, .null, .int 0, .int 0, .int 0, .int 0, .int 0, .int 0, .int 0, .int 0, .null, .null, .null, .null, .null, .int 0, .int 0, .int 0, .int 0] (v := .ref (n + 1)) rfl (fun hf r hr => by cases hr; first | rfl | cases hf) rfl rfl (Nat.le_of_ble_eq_true rfl) dX7_init_19 ?_
  refine C_aload_n (pc := 22) K dX7_init_22 0 rfl 0 rfl ?_
  refine C_sipush (pc := 23) K (262) dX7_init_23 (by decide) ?_
  refine C_newaB (pc := 26) K 262 ac_int (by decide) (by decide) (by decide) dX7_init_26 (by rw [hR]; decide) (by rw [hR]; decide) ?_
  refine C_put0 (pc := 28) K gf_SaltCloudsModel_16 hin [.ref (n), .ref (n + 1), .null, .null, .int 0, .int 0, .null, .int 0, .int 0, .int 0, .int 0, .int 0, .int 0, .int 0, .int 0, .null, .null, .null, .null, .null, .int 0, .int 0, .int 0, .int 0] [.ref (n), .ref (n + 1), .ref (n + 2), .null, .int 0, .int 0, .null, .int 0, .int 0, .int 0, .int 0, .int 0, .int 0, .int 0, .int 0, .null, .null, .null, .null, .null, .int 0, .int 0, .int 0, .int 0] (v := .ref (n + 2)) rfl (fun hf r hr => by cases hr; first | rfl | cases hf) rfl rfl (Nat.le_of_ble_eq_true rfl) dX7_init_28 ?_
  refine C_aload_n (pc := 31) K dX7_init_31 0 rfl 0 rfl ?_
  refine C_sipush (pc := 32) K (262) dX7_init_32 (by decide) ?_
  refine C_newaB (pc := 35) K 262 ac_int (by decide) (by decide) (by decide) dX7_init_35 (by rw [hR]; decide) (by rw [hR]; decide) ?_
  refine C_put0 (pc := 37) K gf_SaltCloudsModel_19 hin [.ref (n), .ref (n + 1), .ref (n + 2), .null, .int 0, .int 0, .null, .int 0, .int 0, .int 0, .int 0, .int 0, .int 0, .int 0, .int 0, .null, .null, .null, .null, .null, .int 0, .int 0, .int 0, .int 0] [.ref (n), .ref (n + 1), .ref (n + 2), .ref (n + 3), .int 0, .int 0, .null, .int 0, .int 0, .int 0, .int 0, .int 0, .int 0, .int 0, .int 0, .null, .null, .null, .null, .null, .int 0, .int 0, .int 0, .int 0] (v := .ref (n + 3)) rfl (fun hf r hr => by cases hr; first | rfl | cases hf) rfl rfl (Nat.le_of_ble_eq_true rfl) dX7_init_37 ?_
  refine C_aload_n (pc := 40) K dX7_init_40 0 rfl 0 rfl ?_
  refine C_bipush (pc := 41) K (6) dX7_init_41 (by decide) ?_
  refine C_newaB (pc := 43) K 6 ac_int (by decide) (by decide) (by decide) dX7_init_43 (by rw [hR]; decide) (by rw [hR]; decide) ?_
  refine C_put0 (pc := 45) K gf_SaltCloudsModel_22 hin [.ref (n), .ref (n + 1), .ref (n + 2), .ref (n + 3), .int 0, .int 0, .null, .int 0, .int 0, .int 0, .int 0, .int 0, .int 0, .int 0, .int 0, .null, .null, .null, .null, .null, .int 0, .int 0, .int 0, .int 0] [.ref (n), .ref (n + 1), .ref (n + 2), .ref (n + 3), .int 0, .int 0, .ref (n + 4), .int 0, .int 0, .int 0, .int 0, .int 0, .int 0, .int 0, .int 0, .null, .null, .null, .null, .null, .int 0, .int 0, .int 0, .int 0] (v := .ref (n + 4)) rfl (fun hf r hr => by cases hr; first | rfl | cases hf) rfl rfl (Nat.le_of_ble_eq_true rfl) dX7_init_45 ?_
  refine C_aload_n (pc := 48) K dX7_init_48 0 rfl 0 rfl ?_
  refine C_iconst (pc := 49) K (4) dX7_init_49 (by decide) ?_
  refine C_newaB (pc := 50) K 4 ac_int (by decide) (by decide) (by decide) dX7_init_50 (by rw [hR]; decide) (by rw [hR]; decide) ?_
  refine C_put0 (pc := 52) K gf_SaltCloudsModel_25 hin [.ref (n), .ref (n + 1), .ref (n + 2), .ref (n + 3), .int 0, .int 0, .ref (n + 4), .int 0, .int 0, .int 0, .int 0, .int 0, .int 0, .int 0, .int 0, .null, .null, .null, .null, .null, .int 0, .int 0, .int 0, .int 0] [.ref (n), .ref (n + 1), .ref (n + 2), .ref (n + 3), .int 0, .int 0, .ref (n + 4), .int 0, .int 0, .int 0, .int 0, .int 0, .int 0, .int 0, .int 0, .ref (n + 5), .null, .null, .null, .null, .int 0, .int 0, .int 0, .int 0] (v := .ref (n + 5)) rfl (fun hf r hr => by cases hr; first | rfl | cases hf) rfl rfl (Nat.le_of_ble_eq_true rfl) dX7_init_52 ?_
  refine C_aload_n (pc := 55) K dX7_init_55 0 rfl 0 rfl ?_
  refine C_iconst (pc := 56) K (4) dX7_init_56 (by decide) ?_
  refine C_newaB (pc := 57) K 4 ac_int (by decide) (by decide) (by decide) dX7_init_57 (by rw [hR]; decide) (by rw [hR]; decide) ?_
  refine C_put0 (pc := 59) K gf_SaltCloudsModel_28 hin [.ref (n), .ref (n + 1), .ref (n + 2), .ref (n + 3), .int 0, .int 0, .ref (n + 4), .int 0, .int 0, .int 0, .int 0, .int 0, .int 0, .int 0, .int 0, .ref (n + 5), .null, .null, .null, .null, .int 0, .int 0, .int 0, .int 0] [.ref (n), .ref (n + 1), .ref (n + 2), .ref (n + 3), .int 0, .int 0, .ref (n + 4), .int 0, .int 0, .int 0, .int 0, .int 0, .int 0, .int 0, .int 0, .ref (n + 5), .ref (n + 6), .null, .null, .null, .int 0, .int 0, .int 0, .int 0] (v := .ref (n + 6)) rfl (fun hf r hr => by cases hr; first | rfl | cases hf) rfl rfl (Nat.le_of_ble_eq_true rfl) dX7_init_59 ?_
  refine C_aload_n (pc := 62) K dX7_init_62 0 rfl 0 rfl ?_
  refine C_sipush (pc := 63) K (160) dX7_init_63 (by decide) ?_
  refine C_newaB (pc := 66) K 160 ac_int (by decide) (by decide) (by decide) dX7_init_66 (by rw [hR]; decide) (by rw [hR]; decide) ?_
  refine C_put0 (pc := 68) K gf_SaltCloudsModel_31 hin [.ref (n), .ref (n + 1), .ref (n + 2), .ref (n + 3), .int 0, .int 0, .ref (n + 4), .int 0, .int 0, .int 0, .int 0, .int 0, .int 0, .int 0, .int 0, .ref (n + 5), .ref (n + 6), .null, .null, .null, .int 0, .int 0, .int 0, .int 0] [.ref (n), .ref (n + 1), .ref (n + 2), .ref (n + 3), .int 0, .int 0, .ref (n + 4), .int 0, .int 0, .int 0, .int 0, .int 0, .int 0, .int 0, .int 0, .ref (n + 5), .ref (n + 6), .ref (n + 7), .null, .null, .int 0, .int 0, .int 0, .int 0] (v := .ref (n + 7)) rfl (fun hf r hr => by cases hr; first | rfl | cases hf) rfl rfl (Nat.le_of_ble_eq_true rfl) dX7_init_68 ?_
  refine C_aload_n (pc := 71) K dX7_init_71 0 rfl 0 rfl ?_
  refine C_bipush (pc := 72) K (40) dX7_init_72 (by decide) ?_
  refine C_newaB (pc := 74) K 40 ac_int (by decide) (by decide) (by decide) dX7_init_74 (by rw [hR]; decide) (by rw [hR]; decide) ?_
  refine C_put0 (pc := 76) K gf_SaltCloudsModel_34 hin [.ref (n), .ref (n + 1), .ref (n + 2), .ref (n + 3), .int 0, .int 0, .ref (n + 4), .int 0, .int 0, .int 0, .int 0, .int 0, .int 0, .int 0, .int 0, .ref (n + 5), .ref (n + 6), .ref (n + 7), .null, .null, .int 0, .int 0, .int 0, .int 0] [.ref (n), .ref (n + 1), .ref (n + 2), .ref (n + 3), .int 0, .int 0, .ref (n + 4), .int 0, .int 0, .int 0, .int 0, .int 0, .int 0, .int 0, .int 0, .ref (n + 5), .ref (n + 6), .ref (n + 7), .ref (n + 8), .null, .int 0, .int 0, .int 0, .int 0] (v := .ref (n + 8)) rfl (fun hf r hr => by cases hr; first | rfl | cases hf) rfl rfl (Nat.le_of_ble_eq_true rfl) dX7_init_76 ?_
  refine C_aload_n (pc := 79) K dX7_init_79 0 rfl 0 rfl ?_
  refine C_bipush (pc := 80) K (40) dX7_init_80 (by decide) ?_
  refine C_newaB (pc := 82) K 40 ac_int (by decide) (by decide) (by decide) dX7_init_82 (by rw [hR]; decide) (by rw [hR]; decide) ?_
  refine C_put0 (pc := 84) K gf_SaltCloudsModel_37 hin [.ref (n), .ref (n + 1), .ref (n + 2), .ref (n + 3), .int 0, .int 0, .ref (n + 4), .int 0, .int 0, .int 0, .int 0, .int 0, .int 0, .int 0, .int 0, .ref (n + 5), .ref (n + 6), .ref (n + 7), .ref (n + 8), .null, .int 0, .int 0, .int 0, .int 0] [.ref (n), .ref (n + 1), .ref (n + 2), .ref (n + 3), .int 0, .int 0, .ref (n + 4), .int 0, .int 0, .int 0, .int 0, .int 0, .int 0, .int 0, .int 0, .ref (n + 5), .ref (n + 6), .ref (n + 7), .ref (n + 8), .ref (n + 9), .int 0, .int 0, .int 0, .int 0] (v := .ref (n + 9)) rfl (fun hf r hr => by cases hr; first | rfl | cases hf) rfl rfl (Nat.le_of_ble_eq_true rfl) dX7_init_84 ?_
  refine C_aload_n (pc := 87) K dX7_init_87 0 rfl 0 rfl ?_
  refine C_get (pc := 88) K gf_SaltCloudsModel_7 0 [.ref (n), .ref (n + 1), .ref (n + 2), .ref (n + 3), .int 0, .int 0, .ref (n + 4), .int 0, .int 0, .int 0, .int 0, .int 0, .int 0, .int 0, .int 0, .ref (n + 5), .ref (n + 6), .ref (n + 7), .ref (n + 8), .ref (n + 9), .int 0, .int 0, .int 0, .int 0] rfl (v := .ref (n)) rfl dX7_init_88 ?_
  refine C_iconst (pc := 91) K (3) dX7_init_91 (by decide) ?_
  refine C_iconst (pc := 92) K (1) dX7_init_92 (by decide) ?_
  refine C_iast1 (pc := 93) K (N' := 262) (i := 3) (x := (1)) (by unfold vp_in; decide) dX7_init_93 ?_
  refine C_aload_n (pc := 94) K dX7_init_94 0 rfl 0 rfl ?_
  refine C_get (pc := 95) K gf_SaltCloudsModel_7 0 [.ref (n), .ref (n + 1), .ref (n + 2), .ref (n + 3), .int 0, .int 0, .ref (n + 4), .int 0, .int 0, .int 0, .int 0, .int 0, .int 0, .int 0, .int 0, .ref (n + 5), .ref (n + 6), .ref (n + 7), .ref (n + 8), .ref (n + 9), .int 0, .int 0, .int 0, .int 0] rfl (v := .ref (n)) rfl dX7_init_95 ?_
  refine C_bipush (pc := 98) K (6) dX7_init_98 (by decide) ?_
  refine C_iconst (pc := 100) K (-1) dX7_init_100 (by decide) ?_
  refine C_iast1 (pc := 101) K (N' := 262) (i := 6) (x := (-1)) (by unfold vp_in; decide) dX7_init_101 ?_
  refine C_aload_n (pc := 102) K dX7_init_102 0 rfl 0 rfl ?_
  refine C_get (pc := 103) K gf_SaltCloudsModel_7 0 [.ref (n), .ref (n + 1), .ref (n + 2), .ref (n + 3), .int 0, .int 0, .ref (n + 4), .int 0, .int 0, .int 0, .int 0, .int 0, .int 0, .int 0, .int 0, .ref (n + 5), .ref (n + 6), .ref (n + 7), .ref (n + 8), .ref (n + 9), .int 0, .int 0, .int 0, .int 0] rfl (v := .ref (n)) rfl dX7_init_103 ?_
  refine C_bipush (pc := 106) K (7) dX7_init_106 (by decide) ?_
  refine C_iconst (pc := 108) K (-1) dX7_init_108 (by decide) ?_
  refine C_iast1 (pc := 109) K (N' := 262) (i := 7) (x := (-1)) (by unfold vp_in; decide) dX7_init_109 ?_
  exact C_vret0 K hr hlocks hA (by decide) (by decide) rfl rfl dX7_init_110
def WX4_init (ω : WX) (a n : Nat) : va_W := (a, .inr (4, [.ref (n), .ref (n + 3), .int 0, .ref (ω.2.2.2.1 0), .int 0, .int (-1)])) :: ((n + 3, .inl (ω.2.2.1.1, 0, .inl (fun _ => 0))) :: (WX3_init ω (n) (n + 1) ++ []))
set_option maxRecDepth 100000 in
set_option maxHeartbeats 4000000 in
theorem ok_X4_init (l : Launch) (ω : WX) (a n : Nat) : CM l ω yX4_init cX4_init 1 2 a n [(a, .inr (4, [.null, .null, .int 0, .null, .int 0, .int 0]))] (n + 4) (WX4_init ω a n) 4 104 := by
  intro ha hn
  refine CM.of (by decide +kernel) rfl (by decide) (fun q e h => ?_) (fun χ A hR K hin hr hlocks hA => ?_) ha hn
  · have hq := (List.getElem?_eq_some_iff.mp h).1
    have hq0 : q = 0 := by simpa using hq
    subst hq0
    cases h
    rfl
  have K : KC ω χ A "SaltClouds$TextReader" cX4_init 1 2 := K
  refine C_aload_n (pc := 0) K dX4_init_0 0 rfl 0 rfl ?_
  refine C_obj (pc := 1) K (by decide) ob_SaltClouds_TextReader_3 (Nat.le_of_ble_eq_true rfl) dX4_init_1 ?_
  refine C_aload_n (pc := 4) K dX4_init_4 0 rfl 0 rfl ?_
  refine C_makeA (pc := 5) K 3 (RX3, TX3, 4) tyX3 rfl nw_SaltClouds_TextReader_9 tyX3_ok [.int 0, .null, .int 0, .null] (by decide +kernel) (ok_X3_init l ω (n) _) ci_SaltClouds_TextReader_11 (by omega) (by decide) (Nat.le_of_ble_eq_true rfl) dX4_init_5 dX4_init_8 dX4_init_9 (by rw [hR]; decide) (by rw [hR]; decide) ?_
  refine C_put0 (pc := 12) K gf_SaltClouds_TextReader_12 hin [.null, .null, .int 0, .null, .int 0, .int 0] [.ref (n), .null, .int 0, .null, .int 0, .int 0] (v := .ref (n)) rfl (fun hf r hr => by cases hr; first | rfl | cases hf) rfl rfl (Nat.le_of_ble_eq_true rfl) dX4_init_12 ?_
  refine C_aload_n (pc := 15) K dX4_init_15 0 rfl 0 rfl ?_
  refine C_iconst (pc := 16) K (0) dX4_init_16 (by decide) ?_
  refine C_newaA (pc := 17) K 0 ac_int (by decide) (by decide) (by decide) dX4_init_17 (by rw [hR]; decide) (by rw [hR]; decide) ?_
  refine C_put0 (pc := 19) K gf_SaltClouds_TextReader_18 hin [.ref (n), .null, .int 0, .null, .int 0, .int 0] [.ref (n), .ref (n + 3), .int 0, .null, .int 0, .int 0] (v := .ref (n + 3)) rfl (fun hf r hr => by cases hr; first | rfl | cases hf) rfl rfl (Nat.le_of_ble_eq_true rfl) dX4_init_19 ?_
  refine C_aload_n (pc := 22) K dX4_init_22 0 rfl 0 rfl ?_
  refine C_iconst (pc := 23) K (0) dX4_init_23 (by decide) ?_
  refine C_put0 (pc := 24) K gf_SaltClouds_TextReader_22 hin [.ref (n), .ref (n + 3), .int 0, .null, .int 0, .int 0] [.ref (n), .ref (n + 3), .int 0, .null, .int 0, .int 0] (v := .int 0) rfl (fun hf r hr => by cases hr; first | rfl | cases hf) rfl rfl (Nat.le_of_ble_eq_true rfl) dX4_init_24 ?_
  refine C_aload_n (pc := 27) K dX4_init_27 0 rfl 0 rfl ?_
  refine C_ldcS (pc := 28) K 0 (by decide) "" rfl dX4_init_28 ?_
  refine C_put0 (pc := 30) K gf_SaltClouds_TextReader_28 hin [.ref (n), .ref (n + 3), .int 0, .null, .int 0, .int 0] [.ref (n), .ref (n + 3), .int 0, .ref (ω.2.2.2.1 0), .int 0, .int 0] (v := .ref (ω.2.2.2.1 0)) rfl (fun hf r hr => by cases hr; first | rfl | cases hf) rfl rfl (Nat.le_of_ble_eq_true rfl) dX4_init_30 ?_
  refine C_aload_n (pc := 33) K dX4_init_33 0 rfl 0 rfl ?_
  refine C_iconst (pc := 34) K (0) dX4_init_34 (by decide) ?_
  refine C_put0 (pc := 35) K gf_SaltClouds_TextReader_32 hin [.ref (n), .ref (n + 3), .int 0, .ref (ω.2.2.2.1 0), .int 0, .int 0] [.ref (n), .ref (n + 3), .int 0, .ref (ω.2.2.2.1 0), .int 0, .int 0] (v := .int 0) rfl (fun hf r hr => by cases hr; first | rfl | cases hf) rfl rfl (Nat.le_of_ble_eq_true rfl) dX4_init_35 ?_
  refine C_aload_n (pc := 38) K dX4_init_38 0 rfl 0 rfl ?_
  refine C_iconst (pc := 39) K (-1) dX4_init_39 (by decide) ?_
  refine C_put0 (pc := 40) K gf_SaltClouds_TextReader_35 hin [.ref (n), .ref (n + 3), .int 0, .ref (ω.2.2.2.1 0), .int 0, .int 0] [.ref (n), .ref (n + 3), .int 0, .ref (ω.2.2.2.1 0), .int 0, .int (-1)] (v := .int (-1)) rfl (fun hf r hr => by cases hr; first | rfl | cases hf) rfl rfl (Nat.le_of_ble_eq_true rfl) dX4_init_40 ?_
  exact C_vret0 K hr hlocks hA (by decide) (by decide) rfl rfl dX4_init_43
def WX2_init (ω : WX) (a n : Nat) : va_W := (a, .inr (2, [.ref (n), .int 0, .ref (n + 1), .ref (n + 2), .int 0, .int 0, .int 1, .ref (n + 3), .int 0, .ref (n + 4), .ref (n + 7), .ref (n + 10), .int 0])) :: (n, .inl (ω.2.2.1.2.1, 8, .inr (.inr (.inr (.inr (va_up (va_up (va_up (va_up (va_up (va_up (va_up (va_up (fun _ => none) (0 : Int32).toNatClampNeg (some (n + 11))) (1 : Int32).toNatClampNeg (some (n + 13))) (2 : Int32).toNatClampNeg (some (n + 15))) (3 : Int32).toNatClampNeg (some (n + 17))) (4 : Int32).toNatClampNeg (some (n + 19))) (5 : Int32).toNatClampNeg (some (n + 21))) (6 : Int32).toNatClampNeg (some (n + 23))) (7 : Int32).toNatClampNeg (some (n + 25)))))))) :: (WX0_init ω (n + 25) (n + 26) ++ (WX0_init ω (n + 23) (n + 24) ++ (WX0_init ω (n + 21) (n + 22) ++ (WX0_init ω (n + 19) (n + 20) ++ (WX0_init ω (n + 17) (n + 18) ++ (WX0_init ω (n + 15) (n + 16) ++ (WX0_init ω (n + 13) (n + 14) ++ (WX0_init ω (n + 11) (n + 12) ++ ((n + 10, .inl (ω.2.2.1.1, 20, .inl (fun _ => 0))) :: (WX3_init ω (n + 7) (n + 8) ++ (WX3_init ω (n + 4) (n + 5) ++ ((n + 3, .inl (ω.2.2.1.1, 50, .inl (fun _ => 0))) :: ((n + 2, .inl (ω.2.2.1.1, 8, .inl (fun _ => 0))) :: ((n + 1, .inl (ω.2.2.1.1, 12, .inl (fun _ => 0))) :: []))))))))))))))
set_option maxRecDepth 100000 in
set_option maxHeartbeats 4000000 in
theorem ok_X2_init (l : Launch) (ω : WX) (a n : Nat) : CM l ω yX2_init cX2_init 2 2 a n [(a, .inr (2, [.null, .int 0, .null, .null, .int 0, .int 0, .int 0, .null, .int 0, .null, .null, .null, .int 0]))] (n + 27) (WX2_init ω a n) 27 378 := by
  intro ha hn
  refine CM.of (by decide +kernel) rfl (by decide) (fun q e h => ?_) (fun χ A hR K hin hr hlocks hA => ?_) ha hn
  · have hq := (List.getElem?_eq_some_iff.mp h).1
    have hq0 : q = 0 := by simpa using hq
    subst hq0
    cases h
    rfl
  have K : KC ω χ A "SaltClouds$Sky" cX2_init 2 2 := K
  refine C_aload_n (pc := 0) K dX2_init_0 0 rfl 0 rfl ?_
  refine C_obj (pc := 1) K (by decide) ob_SaltClouds_Sky_3 (Nat.le_of_ble_eq_true rfl) dX2_init_1 ?_
  refine C_aload_n (pc := 4) K dX2_init_4 0 rfl 0 rfl ?_
  refine C_bipush (pc := 5) K (8) dX2_init_5 (by decide) ?_
  refine C_anewA (pc := 7) K "SaltClouds$Cloud" 8 1 _ rfl al_SaltClouds_Sky_9 K.2.2.2.2.2.2.1.2.1 (by decide) (by decide) (by decide) dX2_init_7 (by rw [hR]; decide) (by rw [hR]; decide) ?_
  refine C_put0 (pc := 10) K gf_SaltClouds_Sky_11 hin [.null, .int 0, .null, .null, .int 0, .int 0, .int 0, .null, .int 0, .null, .null, .null, .int 0] [.ref (n), .int 0, .null, .null, .int 0, .int 0, .int 0, .null, .int 0, .null, .null, .null, .int 0] (v := .ref (n)) rfl (fun hf r hr => by cases hr; first | rfl | cases hf) rfl rfl (Nat.le_of_ble_eq_true rfl) dX2_init_10 ?_
  refine C_aload_n (pc := 13) K dX2_init_13 0 rfl 0 rfl ?_
  refine C_iconst (pc := 14) K (0) dX2_init_14 (by decide) ?_
  refine C_put0 (pc := 15) K gf_SaltClouds_Sky_17 hin [.ref (n), .int 0, .null, .null, .int 0, .int 0, .int 0, .null, .int 0, .null, .null, .null, .int 0] [.ref (n), .int 0, .null, .null, .int 0, .int 0, .int 0, .null, .int 0, .null, .null, .null, .int 0] (v := .int 0) rfl (fun hf r hr => by cases hr; first | rfl | cases hf) rfl rfl (Nat.le_of_ble_eq_true rfl) dX2_init_15 ?_
  refine C_aload_n (pc := 18) K dX2_init_18 0 rfl 0 rfl ?_
  refine C_bipush (pc := 19) K (12) dX2_init_19 (by decide) ?_
  refine C_newaB (pc := 21) K 12 ac_int (by decide) (by decide) (by decide) dX2_init_21 (by rw [hR]; decide) (by rw [hR]; decide) ?_
  refine C_put0 (pc := 23) K gf_SaltClouds_Sky_21 hin [.ref (n), .int 0, .null, .null, .int 0, .int 0, .int 0, .null, .int 0, .null, .null, .null, .int 0] [.ref (n), .int 0, .ref (n + 1), .null, .int 0, .int 0, .int 0, .null, .int 0, .null, .null, .null, .int 0] (v := .ref (n + 1)) rfl (fun hf r hr => by cases hr; first | rfl | cases hf) rfl rfl (Nat.le_of_ble_eq_true rfl) dX2_init_23 ?_
  refine C_aload_n (pc := 26) K dX2_init_26 0 rfl 0 rfl ?_
  refine C_bipush (pc := 27) K (8) dX2_init_27 (by decide) ?_
  refine C_newaB (pc := 29) K 8 ac_int (by decide) (by decide) (by decide) dX2_init_29 (by rw [hR]; decide) (by rw [hR]; decide) ?_
  refine C_put0 (pc := 31) K gf_SaltClouds_Sky_25 hin [.ref (n), .int 0, .ref (n + 1), .null, .int 0, .int 0, .int 0, .null, .int 0, .null, .null, .null, .int 0] [.ref (n), .int 0, .ref (n + 1), .ref (n + 2), .int 0, .int 0, .int 0, .null, .int 0, .null, .null, .null, .int 0] (v := .ref (n + 2)) rfl (fun hf r hr => by cases hr; first | rfl | cases hf) rfl rfl (Nat.le_of_ble_eq_true rfl) dX2_init_31 ?_
  refine C_aload_n (pc := 34) K dX2_init_34 0 rfl 0 rfl ?_
  refine C_iconst (pc := 35) K (0) dX2_init_35 (by decide) ?_
  refine C_put0 (pc := 36) K gf_SaltClouds_Sky_28 hin [.ref (n), .int 0, .ref (n + 1), .ref (n + 2), .int 0, .int 0, .int 0, .null, .int 0, .null, .null, .null, .int 0] [.ref (n), .int 0, .ref (n + 1), .ref (n + 2), .int 0, .int 0, .int 0, .null, .int 0, .null, .null, .null, .int 0] (v := .int 0) rfl (fun hf r hr => by cases hr; first | rfl | cases hf) rfl rfl (Nat.le_of_ble_eq_true rfl) dX2_init_36 ?_
  refine C_aload_n (pc := 39) K dX2_init_39 0 rfl 0 rfl ?_
  refine C_iconst (pc := 40) K (0) dX2_init_40 (by decide) ?_
  refine C_put0 (pc := 41) K gf_SaltClouds_Sky_31 hin [.ref (n), .int 0, .ref (n + 1), .ref (n + 2), .int 0, .int 0, .int 0, .null, .int 0, .null, .null, .null, .int 0] [.ref (n), .int 0, .ref (n + 1), .ref (n + 2), .int 0, .int 0, .int 0, .null, .int 0, .null, .null, .null, .int 0] (v := .int 0) rfl (fun hf r hr => by cases hr; first | rfl | cases hf) rfl rfl (Nat.le_of_ble_eq_true rfl) dX2_init_41 ?_
  refine C_aload_n (pc := 44) K dX2_init_44 0 rfl 0 rfl ?_
  refine C_iconst (pc := 45) K (1) dX2_init_45 (by decide) ?_
  refine C_put0 (pc := 46) K gf_SaltClouds_Sky_34 hin [.ref (n), .int 0, .ref (n + 1), .ref (n + 2), .int 0, .int 0, .int 0, .null, .int 0, .null, .null, .null, .int 0] [.ref (n), .int 0, .ref (n + 1), .ref (n + 2), .int 0, .int 0, .int 1, .null, .int 0, .null, .null, .null, .int 0] (v := .int 1) rfl (fun hf r hr => by cases hr; first | rfl | cases hf) rfl rfl (Nat.le_of_ble_eq_true rfl) dX2_init_46 ?_
  refine C_aload_n (pc := 49) K dX2_init_49 0 rfl 0 rfl ?_
  refine C_bipush (pc := 50) K (50) dX2_init_50 (by decide) ?_
  refine C_newaB (pc := 52) K 50 ac_int (by decide) (by decide) (by decide) dX2_init_52 (by rw [hR]; decide) (by rw [hR]; decide) ?_
  refine C_put0 (pc := 54) K gf_SaltClouds_Sky_37 hin [.ref (n), .int 0, .ref (n + 1), .ref (n + 2), .int 0, .int 0, .int 1, .null, .int 0, .null, .null, .null, .int 0] [.ref (n), .int 0, .ref (n + 1), .ref (n + 2), .int 0, .int 0, .int 1, .ref (n + 3), .int 0, .null, .null, .null, .int 0] (v := .ref (n + 3)) rfl (fun hf r hr => by cases hr; first | rfl | cases hf) rfl rfl (Nat.le_of_ble_eq_true rfl) dX2_init_54 ?_
  refine C_aload_n (pc := 57) K dX2_init_57 0 rfl 0 rfl ?_
  refine C_iconst (pc := 58) K (0) dX2_init_58 (by decide) ?_
  refine C_put0 (pc := 59) K gf_SaltClouds_Sky_40 hin [.ref (n), .int 0, .ref (n + 1), .ref (n + 2), .int 0, .int 0, .int 1, .ref (n + 3), .int 0, .null, .null, .null, .int 0] [.ref (n), .int 0, .ref (n + 1), .ref (n + 2), .int 0, .int 0, .int 1, .ref (n + 3), .int 0, .null, .null, .null, .int 0] (v := .int 0) rfl (fun hf r hr => by cases hr; first | rfl | cases hf) rfl rfl (Nat.le_of_ble_eq_true rfl) dX2_init_59 ?_
  refine C_aload_n (pc := 62) K dX2_init_62 0 rfl 0 rfl ?_
  refine C_makeB (pc := 63) K 3 (RX3, TX3, 4) tyX3 rfl nw_SaltClouds_Sky_43 tyX3_ok [.int 0, .null, .int 0, .null] (by decide +kernel) (ok_X3_init l ω (n + 4) _) ci_SaltClouds_Sky_45 (by omega) (by decide) (Nat.le_of_ble_eq_true rfl) dX2_init_63 dX2_init_66 dX2_init_67 (by rw [hR]; decide) (by rw [hR]; decide) ?_
  refine C_put0 (pc := 70) K gf_SaltClouds_Sky_46 hin [.ref (n), .int 0, .ref (n + 1), .ref (n + 2), .int 0, .int 0, .int 1, .ref (n + 3), .int 0, .null, .null, .null, .int 0] [.ref (n), .int 0, .ref (n + 1), .ref (n + 2), .int 0, .int 0, .int 1, .ref (n + 3), .int 0, .ref (n + 4), .null, .null, .int 0] (v := .ref (n + 4)) rfl (fun hf r hr => by cases hr; first | rfl | cases hf) rfl rfl (Nat.le_of_ble_eq_true rfl) dX2_init_70 ?_
  refine C_aload_n (pc := 73) K dX2_init_73 0 rfl 0 rfl ?_
  refine C_makeB (pc := 74) K 3 (RX3, TX3, 4) tyX3 rfl nw_SaltClouds_Sky_43 tyX3_ok [.int 0, .null, .int 0, .null] (by decide +kernel) (ok_X3_init l ω (n + 7) _) ci_SaltClouds_Sky_45 (by omega) (by decide) (Nat.le_of_ble_eq_true rfl) dX2_init_74 dX2_init_77 dX2_init_78 (by rw [hR]; decide) (by rw [hR]; decide) ?_
  refine C_put0 (pc := 81) K gf_SaltClouds_Sky_50 hin [.ref (n), .int 0, .ref (n + 1), .ref (n + 2), .int 0, .int 0, .int 1, .ref (n + 3), .int 0, .ref (n + 4), .null, .null, .int 0] [.ref (n), .int 0, .ref (n + 1), .ref (n + 2), .int 0, .int 0, .int 1, .ref (n + 3), .int 0, .ref (n + 4), .ref (n + 7), .null, .int 0] (v := .ref (n + 7)) rfl (fun hf r hr => by cases hr; first | rfl | cases hf) rfl rfl (Nat.le_of_ble_eq_true rfl) dX2_init_81 ?_
  refine C_aload_n (pc := 84) K dX2_init_84 0 rfl 0 rfl ?_
  refine C_bipush (pc := 85) K (20) dX2_init_85 (by decide) ?_
  refine C_newaB (pc := 87) K 20 ac_int (by decide) (by decide) (by decide) dX2_init_87 (by rw [hR]; decide) (by rw [hR]; decide) ?_
  refine C_put0 (pc := 89) K gf_SaltClouds_Sky_53 hin [.ref (n), .int 0, .ref (n + 1), .ref (n + 2), .int 0, .int 0, .int 1, .ref (n + 3), .int 0, .ref (n + 4), .ref (n + 7), .null, .int 0] [.ref (n), .int 0, .ref (n + 1), .ref (n + 2), .int 0, .int 0, .int 1, .ref (n + 3), .int 0, .ref (n + 4), .ref (n + 7), .ref (n + 10), .int 0] (v := .ref (n + 10)) rfl (fun hf r hr => by cases hr; first | rfl | cases hf) rfl rfl (Nat.le_of_ble_eq_true rfl) dX2_init_89 ?_
  refine C_aload_n (pc := 92) K dX2_init_92 0 rfl 0 rfl ?_
  refine C_iconst (pc := 93) K (0) dX2_init_93 (by decide) ?_
  refine C_put0 (pc := 94) K gf_SaltClouds_Sky_56 hin [.ref (n), .int 0, .ref (n + 1), .ref (n + 2), .int 0, .int 0, .int 1, .ref (n + 3), .int 0, .ref (n + 4), .ref (n + 7), .ref (n + 10), .int 0] [.ref (n), .int 0, .ref (n + 1), .ref (n + 2), .int 0, .int 0, .int 1, .ref (n + 3), .int 0, .ref (n + 4), .ref (n + 7), .ref (n + 10), .int 0] (v := .int 0) rfl (fun hf r hr => by cases hr; first | rfl | cases hf) rfl rfl (Nat.le_of_ble_eq_true rfl) dX2_init_94 ?_
  refine C_iconst (pc := 97) K (0) dX2_init_97 (by decide) ?_
  refine C_istore_n (pc := 98) K dX2_init_98 1 rfl (by decide) [(1, .int 0), (0, .ref a)] rfl ?_
  refine C_iload_n (pc := 99) K dX2_init_99 1 rfl 0 rfl ?_
  refine C_aload_n (pc := 100) K dX2_init_100 0 rfl 1 rfl ?_
  refine C_get (pc := 101) K gf_SaltClouds_Sky_11 0 [.ref (n), .int 0, .ref (n + 1), .ref (n + 2), .int 0, .int 0, .int 1, .ref (n + 3), .int 0, .ref (n + 4), .ref (n + 7), .ref (n + 10), .int 0] rfl (v := .ref (n)) rfl dX2_init_101 ?_
  refine C_alen (pc := 104) K 1 1 rfl (ty := .object RX0) rfl (8) rfl dX2_init_104 ?_
  refine C_geF (pc := 105) K 127 dX2_init_105 (by decide) (by decide) ?_
  refine C_aload_n (pc := 108) K dX2_init_108 0 rfl 1 rfl ?_
  refine C_get (pc := 109) K gf_SaltClouds_Sky_11 0 [.ref (n), .int 0, .ref (n + 1), .ref (n + 2), .int 0, .int 0, .int 1, .ref (n + 3), .int 0, .ref (n + 4), .ref (n + 7), .ref (n + 10), .int 0] rfl (v := .ref (n)) rfl dX2_init_109 ?_
  refine C_iload_n (pc := 112) K dX2_init_112 1 rfl 0 rfl ?_
  refine C_makeB (pc := 113) K 0 (RX0, TX0, 6) tyX0 rfl nw_SaltClouds_Sky_9 tyX0_ok [.int 0, .int 0, .int 0, .int 0, .int 0, .null] (by decide +kernel) (ok_X0_init l ω (n + 11) _) ci_SaltClouds_Sky_59 (by omega) (by decide) (Nat.le_of_ble_eq_true rfl) dX2_init_113 dX2_init_116 dX2_init_117 (by rw [hR]; decide) (by rw [hR]; decide) ?_
  refine C_aast1 (pc := 120) K 1 0 0 (r := (RX0, TX0, 6)) rfl rfl rfl (i := 0) (by unfold vp_in; decide) dX2_init_120 ?_
  refine C_iinc (pc := 121) K (1) dX2_init_121 0 rfl (by decide) (by decide) [(1, .int 1), (0, .ref a)] rfl ?_
  refine C_goto (pc := 124) K 99 dX2_init_124 (by decide) ?_
  refine C_iload_n (pc := 99) K dX2_init_99 1 rfl 0 rfl ?_
  refine C_aload_n (pc := 100) K dX2_init_100 0 rfl 1 rfl ?_
  refine C_get (pc := 101) K gf_SaltClouds_Sky_11 0 [.ref (n), .int 0, .ref (n + 1), .ref (n + 2), .int 0, .int 0, .int 1, .ref (n + 3), .int 0, .ref (n + 4), .ref (n + 7), .ref (n + 10), .int 0] rfl (v := .ref (n)) rfl dX2_init_101 ?_
  refine C_alen (pc := 104) K 1 1 rfl (ty := .object RX0) rfl (8) rfl dX2_init_104 ?_
  refine C_geF (pc := 105) K 127 dX2_init_105 (by decide) (by decide) ?_
  refine C_aload_n (pc := 108) K dX2_init_108 0 rfl 1 rfl ?_
  refine C_get (pc := 109) K gf_SaltClouds_Sky_11 0 [.ref (n), .int 0, .ref (n + 1), .ref (n + 2), .int 0, .int 0, .int 1, .ref (n + 3), .int 0, .ref (n + 4), .ref (n + 7), .ref (n + 10), .int 0] rfl (v := .ref (n)) rfl dX2_init_109 ?_
  refine C_iload_n (pc := 112) K dX2_init_112 1 rfl 0 rfl ?_
  refine C_makeB (pc := 113) K 0 (RX0, TX0, 6) tyX0 rfl nw_SaltClouds_Sky_9 tyX0_ok [.int 0, .int 0, .int 0, .int 0, .int 0, .null] (by decide +kernel) (ok_X0_init l ω (n + 13) _) ci_SaltClouds_Sky_59 (by omega) (by decide) (Nat.le_of_ble_eq_true rfl) dX2_init_113 dX2_init_116 dX2_init_117 (by rw [hR]; decide) (by rw [hR]; decide) ?_
  refine C_aast1 (pc := 120) K 1 0 0 (r := (RX0, TX0, 6)) rfl rfl rfl (i := 1) (by unfold vp_in; decide) dX2_init_120 ?_
  refine C_iinc (pc := 121) K (2) dX2_init_121 0 rfl (by decide) (by decide) [(1, .int 2), (0, .ref a)] rfl ?_
  refine C_goto (pc := 124) K 99 dX2_init_124 (by decide) ?_
  refine C_iload_n (pc := 99) K dX2_init_99 1 rfl 0 rfl ?_
  refine C_aload_n (pc := 100) K dX2_init_100 0 rfl 1 rfl ?_
  refine C_get (pc := 101) K gf_SaltClouds_Sky_11 0 [.ref (n), .int 0, .ref (n + 1), .ref (n + 2), .int 0, .int 0, .int 1, .ref (n + 3), .int 0, .ref (n + 4), .ref (n + 7), .ref (n + 10), .int 0] rfl (v := .ref (n)) rfl dX2_init_101 ?_
  refine C_alen (pc := 104) K 1 1 rfl (ty := .object RX0) rfl (8) rfl dX2_init_104 ?_
  refine C_geF (pc := 105) K 127 dX2_init_105 (by decide) (by decide) ?_
  refine C_aload_n (pc := 108) K dX2_init_108 0 rfl 1 rfl ?_
  refine C_get (pc := 109) K gf_SaltClouds_Sky_11 0 [.ref (n), .int 0, .ref (n + 1), .ref (n + 2), .int 0, .int 0, .int 1, .ref (n + 3), .int 0, .ref (n + 4), .ref (n + 7), .ref (n + 10), .int 0] rfl (v := .ref (n)) rfl dX2_init_109 ?_
  refine C_iload_n (pc := 112) K dX2_init_112 1 rfl 0 rfl ?_
  refine C_makeB (pc := 113) K 0 (RX0, TX0, 6) tyX0 rfl nw_SaltClouds_Sky_9 tyX0_ok [.int 0, .int 0, .int 0, .int 0, .int 0, .null] (by decide +kernel) (ok_X0_init l ω (n + 15) _) ci_SaltClouds_Sky_59 (by omega) (by decide) (Nat.le_of_ble_eq_true rfl) dX2_init_113 dX2_init_116 dX2_init_117 (by rw [hR]; decide) (by rw [hR]; decide) ?_
  refine C_aast1 (pc := 120) K 1 0 0 (r := (RX0, TX0, 6)) rfl rfl rfl (i := 2) (by unfold vp_in; decide) dX2_init_120 ?_
  refine C_iinc (pc := 121) K (3) dX2_init_121 0 rfl (by decide) (by decide) [(1, .int 3), (0, .ref a)] rfl ?_
  refine C_goto (pc := 124) K 99 dX2_init_124 (by decide) ?_
  refine C_iload_n (pc := 99) K dX2_init_99 1 rfl 0 rfl ?_
  refine C_aload_n (pc := 100) K dX2_init_100 0 rfl 1 rfl ?_
  refine C_get (pc := 101) K gf_SaltClouds_Sky_11 0 [.ref (n), .int 0, .ref (n + 1), .ref (n + 2), .int 0, .int 0, .int 1, .ref (n + 3), .int 0, .ref (n + 4), .ref (n + 7), .ref (n + 10), .int 0] rfl (v := .ref (n)) rfl dX2_init_101 ?_
  refine C_alen (pc := 104) K 1 1 rfl (ty := .object RX0) rfl (8) rfl dX2_init_104 ?_
  refine C_geF (pc := 105) K 127 dX2_init_105 (by decide) (by decide) ?_
  refine C_aload_n (pc := 108) K dX2_init_108 0 rfl 1 rfl ?_
  refine C_get (pc := 109) K gf_SaltClouds_Sky_11 0 [.ref (n), .int 0, .ref (n + 1), .ref (n + 2), .int 0, .int 0, .int 1, .ref (n + 3), .int 0, .ref (n + 4), .ref (n + 7), .ref (n + 10), .int 0] rfl (v := .ref (n)) rfl dX2_init_109 ?_
  refine C_iload_n (pc := 112) K dX2_init_112 1 rfl 0 rfl ?_
  refine C_makeB (pc := 113) K 0 (RX0, TX0, 6) tyX0 rfl nw_SaltClouds_Sky_9 tyX0_ok [.int 0, .int 0, .int 0, .int 0, .int 0, .null] (by decide +kernel) (ok_X0_init l ω (n + 17) _) ci_SaltClouds_Sky_59 (by omega) (by decide) (Nat.le_of_ble_eq_true rfl) dX2_init_113 dX2_init_116 dX2_init_117 (by rw [hR]; decide) (by rw [hR]; decide) ?_
  refine C_aast1 (pc := 120) K 1 0 0 (r := (RX0, TX0, 6)) rfl rfl rfl (i := 3) (by unfold vp_in; decide) dX2_init_120 ?_
  refine C_iinc (pc := 121) K (4) dX2_init_121 0 rfl (by decide) (by decide) [(1, .int 4), (0, .ref a)] rfl ?_
  refine C_goto (pc := 124) K 99 dX2_init_124 (by decide) ?_
  refine C_iload_n (pc := 99) K dX2_init_99 1 rfl 0 rfl ?_
  refine C_aload_n (pc := 100) K dX2_init_100 0 rfl 1 rfl ?_
  refine C_get (pc := 101) K gf_SaltClouds_Sky_11 0 [.ref (n), .int 0, .ref (n + 1), .ref (n + 2), .int 0, .int 0, .int 1, .ref (n + 3), .int 0, .ref (n + 4), .ref (n + 7), .ref (n + 10), .int 0] rfl (v := .ref (n)) rfl dX2_init_101 ?_
  refine C_alen (pc := 104) K 1 1 rfl (ty := .object RX0) rfl (8) rfl dX2_init_104 ?_
  refine C_geF (pc := 105) K 127 dX2_init_105 (by decide) (by decide) ?_
  refine C_aload_n (pc := 108) K dX2_init_108 0 rfl 1 rfl ?_
  refine C_get (pc := 109) K gf_SaltClouds_Sky_11 0 [.ref (n), .int 0, .ref (n + 1), .ref (n + 2), .int 0, .int 0, .int 1, .ref (n + 3), .int 0, .ref (n + 4), .ref (n + 7), .ref (n + 10), .int 0] rfl (v := .ref (n)) rfl dX2_init_109 ?_
  refine C_iload_n (pc := 112) K dX2_init_112 1 rfl 0 rfl ?_
  refine C_makeB (pc := 113) K 0 (RX0, TX0, 6) tyX0 rfl nw_SaltClouds_Sky_9 tyX0_ok [.int 0, .int 0, .int 0, .int 0, .int 0, .null] (by decide +kernel) (ok_X0_init l ω (n + 19) _) ci_SaltClouds_Sky_59 (by omega) (by decide) (Nat.le_of_ble_eq_true rfl) dX2_init_113 dX2_init_116 dX2_init_117 (by rw [hR]; decide) (by rw [hR]; decide) ?_
  refine C_aast1 (pc := 120) K 1 0 0 (r := (RX0, TX0, 6)) rfl rfl rfl (i := 4) (by unfold vp_in; decide) dX2_init_120 ?_
  refine C_iinc (pc := 121) K (5) dX2_init_121 0 rfl (by decide) (by decide) [(1, .int 5), (0, .ref a)] rfl ?_
  refine C_goto (pc := 124) K 99 dX2_init_124 (by decide) ?_
  refine C_iload_n (pc := 99) K dX2_init_99 1 rfl 0 rfl ?_
  refine C_aload_n (pc := 100) K dX2_init_100 0 rfl 1 rfl ?_
  refine C_get (pc := 101) K gf_SaltClouds_Sky_11 0 [.ref (n), .int 0, .ref (n + 1), .ref (n + 2), .int 0, .int 0, .int 1, .ref (n + 3), .int 0, .ref (n + 4), .ref (n + 7), .ref (n + 10), .int 0] rfl (v := .ref (n)) rfl dX2_init_101 ?_
  refine C_alen (pc := 104) K 1 1 rfl (ty := .object RX0) rfl (8) rfl dX2_init_104 ?_
  refine C_geF (pc := 105) K 127 dX2_init_105 (by decide) (by decide) ?_
  refine C_aload_n (pc := 108) K dX2_init_108 0 rfl 1 rfl ?_
  refine C_get (pc := 109) K gf_SaltClouds_Sky_11 0 [.ref (n), .int 0, .ref (n + 1), .ref (n + 2), .int 0, .int 0, .int 1, .ref (n + 3), .int 0, .ref (n + 4), .ref (n + 7), .ref (n + 10), .int 0] rfl (v := .ref (n)) rfl dX2_init_109 ?_
  refine C_iload_n (pc := 112) K dX2_init_112 1 rfl 0 rfl ?_
  refine C_makeB (pc := 113) K 0 (RX0, TX0, 6) tyX0 rfl nw_SaltClouds_Sky_9 tyX0_ok [.int 0, .int 0, .int 0, .int 0, .int 0, .null] (by decide +kernel) (ok_X0_init l ω (n + 21) _) ci_SaltClouds_Sky_59 (by omega) (by decide) (Nat.le_of_ble_eq_true rfl) dX2_init_113 dX2_init_116 dX2_init_117 (by rw [hR]; decide) (by rw [hR]; decide) ?_
  refine C_aast1 (pc := 120) K 1 0 0 (r := (RX0, TX0, 6)) rfl rfl rfl (i := 5) (by unfold vp_in; decide) dX2_init_120 ?_
  refine C_iinc (pc := 121) K (6) dX2_init_121 0 rfl (by decide) (by decide) [(1, .int 6), (0, .ref a)] rfl ?_
  refine C_goto (pc := 124) K 99 dX2_init_124 (by decide) ?_
  refine C_iload_n (pc := 99) K dX2_init_99 1 rfl 0 rfl ?_
  refine C_aload_n (pc := 100) K dX2_init_100 0 rfl 1 rfl ?_
  refine C_get (pc := 101) K gf_SaltClouds_Sky_11 0 [.ref (n), .int 0, .ref (n + 1), .ref (n + 2), .int 0, .int 0, .int 1, .ref (n + 3), .int 0, .ref (n + 4), .ref (n + 7), .ref (n + 10), .int 0] rfl (v := .ref (n)) rfl dX2_init_101 ?_
  refine C_alen (pc := 104) K 1 1 rfl (ty := .object RX0) rfl (8) rfl dX2_init_104 ?_
  refine C_geF (pc := 105) K 127 dX2_init_105 (by decide) (by decide) ?_
  refine C_aload_n (pc := 108) K dX2_init_108 0 rfl 1 rfl ?_
  refine C_get (pc := 109) K gf_SaltClouds_Sky_11 0 [.ref (n), .int 0, .ref (n + 1), .ref (n + 2), .int 0, .int 0, .int 1, .ref (n + 3), .int 0, .ref (n + 4), .ref (n + 7), .ref (n + 10), .int 0] rfl (v := .ref (n)) rfl dX2_init_109 ?_
  refine C_iload_n (pc := 112) K dX2_init_112 1 rfl 0 rfl ?_
  refine C_makeB (pc := 113) K 0 (RX0, TX0, 6) tyX0 rfl nw_SaltClouds_Sky_9 tyX0_ok [.int 0, .int 0, .int 0, .int 0, .int 0, .null] (by decide +kernel) (ok_X0_init l ω (n + 23) _) ci_SaltClouds_Sky_59 (by omega) (by decide) (Nat.le_of_ble_eq_true rfl) dX2_init_113 dX2_init_116 dX2_init_117 (by rw [hR]; decide) (by rw [hR]; decide) ?_
  refine C_aast1 (pc := 120) K 1 0 0 (r := (RX0, TX0, 6)) rfl rfl rfl (i := 6) (by unfold vp_in; decide) dX2_init_120 ?_
  refine C_iinc (pc := 121) K (7) dX2_init_121 0 rfl (by decide) (by decide) [(1, .int 7), (0, .ref a)] rfl ?_
  refine C_goto (pc := 124) K 99 dX2_init_124 (by decide) ?_
  refine C_iload_n (pc := 99) K dX2_init_99 1 rfl 0 rfl ?_
  refine C_aload_n (pc := 100) K dX2_init_100 0 rfl 1 rfl ?_
  refine C_get (pc := 101) K gf_SaltClouds_Sky_11 0 [.ref (n), .int 0, .ref (n + 1), .ref (n + 2), .int 0, .int 0, .int 1, .ref (n + 3), .int 0, .ref (n + 4), .ref (n + 7), .ref (n + 10), .int 0] rfl (v := .ref (n)) rfl dX2_init_101 ?_
  refine C_alen (pc := 104) K 1 1 rfl (ty := .object RX0) rfl (8) rfl dX2_init_104 ?_
  refine C_geF (pc := 105) K 127 dX2_init_105 (by decide) (by decide) ?_
  refine C_aload_n (pc := 108) K dX2_init_108 0 rfl 1 rfl ?_
  refine C_get (pc := 109) K gf_SaltClouds_Sky_11 0 [.ref (n), .int 0, .ref (n + 1), .ref (n + 2), .int 0, .int 0, .int 1, .ref (n + 3), .int 0, .ref (n + 4), .ref (n + 7), .ref (n + 10), .int 0] rfl (v := .ref (n)) rfl dX2_init_109 ?_
  refine C_iload_n (pc := 112) K dX2_init_112 1 rfl 0 rfl ?_
  refine C_makeB (pc := 113) K 0 (RX0, TX0, 6) tyX0 rfl nw_SaltClouds_Sky_9 tyX0_ok [.int 0, .int 0, .int 0, .int 0, .int 0, .null] (by decide +kernel) (ok_X0_init l ω (n + 25) _) ci_SaltClouds_Sky_59 (by omega) (by decide) (Nat.le_of_ble_eq_true rfl) dX2_init_113 dX2_init_116 dX2_init_117 (by rw [hR]; decide) (by rw [hR]; decide) ?_
  refine C_aast1 (pc := 120) K 1 0 0 (r := (RX0, TX0, 6)) rfl rfl rfl (i := 7) (by unfold vp_in; decide) dX2_init_120 ?_
  refine C_iinc (pc := 121) K (8) dX2_init_121 0 rfl (by decide) (by decide) [(1, .int 8), (0, .ref a)] rfl ?_
  refine C_goto (pc := 124) K 99 dX2_init_124 (by decide) ?_
  refine C_iload_n (pc := 99) K dX2_init_99 1 rfl 0 rfl ?_
  refine C_aload_n (pc := 100) K dX2_init_100 0 rfl 1 rfl ?_
  refine C_get (pc := 101) K gf_SaltClouds_Sky_11 0 [.ref (n), .int 0, .ref (n + 1), .ref (n + 2), .int 0, .int 0, .int 1, .ref (n + 3), .int 0, .ref (n + 4), .ref (n + 7), .ref (n + 10), .int 0] rfl (v := .ref (n)) rfl dX2_init_101 ?_
  refine C_alen (pc := 104) K 1 1 rfl (ty := .object RX0) rfl (8) rfl dX2_init_104 ?_
  refine C_geT (pc := 105) K 127 dX2_init_105 (by decide) (by decide) ?_
  exact C_vret0 K hr hlocks hA (by decide) (by decide) rfl rfl dX2_init_127
def WX6_init (ω : WX) (a n : Nat) : va_W := (a, .inr (6, [.ref (n), .ref (n + 28), .ref (n + 56), .int 0, .ref (n + 84), .ref (n + 85), .ref (n + 90), .ref (n + 92)])) :: (n + 84, .inl (ω.2.2.1.2.2, 4, .inr (.inr (.inr (.inr (va_up (va_up (va_up (va_up (fun _ => none) (0 : Int32).toNatClampNeg (some (n + 93))) (1 : Int32).toNatClampNeg (some (n + 95))) (2 : Int32).toNatClampNeg (some (n + 97))) (3 : Int32).toNatClampNeg (some (n + 99)))))))) :: (WX1_init ω (n + 99) (n + 100) ++ (WX1_init ω (n + 97) (n + 98) ++ (WX1_init ω (n + 95) (n + 96) ++ (WX1_init ω (n + 93) (n + 94) ++ ((n + 92, .inl (ω.2.2.1.1, 6, .inl (fun _ => 0))) :: (WX5_init ω (n + 90) (n + 91) ++ (WX4_init ω (n + 85) (n + 86) ++ (WX2_init ω (n + 56) (n + 57) ++ (WX2_init ω (n + 28) (n + 29) ++ (WX2_init ω (n) (n + 1) ++ []))))))))))
set_option maxRecDepth 100000 in
set_option maxHeartbeats 4000000 in
theorem ok_X6_init (l : Launch) (ω : WX) (a n : Nat) : CM l ω yX6_init cX6_init 2 3 a n [(a, .inr (6, [.null, .null, .null, .int 0, .null, .null, .null, .null]))] (n + 101) (WX6_init ω a n) 101 1510 := by
  intro ha hn
  refine CM.of (by decide +kernel) rfl (by decide) (fun q e h => ?_) (fun χ A hR K hin hr hlocks hA => ?_) ha hn
  · have hq := (List.getElem?_eq_some_iff.mp h).1
    have hq0 : q = 0 := by simpa using hq
    subst hq0
    cases h
    rfl
  have K : KC ω χ A "SaltClouds" cX6_init 2 3 := K
  refine C_aload_n (pc := 0) K dX6_init_0 0 rfl 0 rfl ?_
  refine C_obj (pc := 1) K (by decide) ob_SaltClouds_3 (Nat.le_of_ble_eq_true rfl) dX6_init_1 ?_
  refine C_aload_n (pc := 4) K dX6_init_4 0 rfl 0 rfl ?_
  refine C_makeA (pc := 5) K 2 (RX2, TX2, 13) tyX2 rfl nw_SaltClouds_9 tyX2_ok [.null, .int 0, .null, .null, .int 0, .int 0, .int 0, .null, .int 0, .null, .null, .null, .int 0] (by decide +kernel) (ok_X2_init l ω (n) _) ci_SaltClouds_11 (by omega) (by decide) (Nat.le_of_ble_eq_true rfl) dX6_init_5 dX6_init_8 dX6_init_9 (by rw [hR]; decide) (by rw [hR]; decide) ?_
  refine C_put0 (pc := 12) K gf_SaltClouds_12 hin [.null, .null, .null, .int 0, .null, .null, .null, .null] [.ref (n), .null, .null, .int 0, .null, .null, .null, .null] (v := .ref (n)) rfl (fun hf r hr => by cases hr; first | rfl | cases hf) rfl rfl (Nat.le_of_ble_eq_true rfl) dX6_init_12 ?_
  refine C_aload_n (pc := 15) K dX6_init_15 0 rfl 0 rfl ?_
  refine C_makeA (pc := 16) K 2 (RX2, TX2, 13) tyX2 rfl nw_SaltClouds_9 tyX2_ok [.null, .int 0, .null, .null, .int 0, .int 0, .int 0, .null, .int 0, .null, .null, .null, .int 0] (by decide +kernel) (ok_X2_init l ω (n + 28) _) ci_SaltClouds_11 (by omega) (by decide) (Nat.le_of_ble_eq_true rfl) dX6_init_16 dX6_init_19 dX6_init_20 (by rw [hR]; decide) (by rw [hR]; decide) ?_
  refine C_put0 (pc := 23) K gf_SaltClouds_16 hin [.ref (n), .null, .null, .int 0, .null, .null, .null, .null] [.ref (n), .ref (n + 28), .null, .int 0, .null, .null, .null, .null] (v := .ref (n + 28)) rfl (fun hf r hr => by cases hr; first | rfl | cases hf) rfl rfl (Nat.le_of_ble_eq_true rfl) dX6_init_23 ?_
  refine C_aload_n (pc := 26) K dX6_init_26 0 rfl 0 rfl ?_
  refine C_makeA (pc := 27) K 2 (RX2, TX2, 13) tyX2 rfl nw_SaltClouds_9 tyX2_ok [.null, .int 0, .null, .null, .int 0, .int 0, .int 0, .null, .int 0, .null, .null, .null, .int 0] (by decide +kernel) (ok_X2_init l ω (n + 56) _) ci_SaltClouds_11 (by omega) (by decide) (Nat.le_of_ble_eq_true rfl) dX6_init_27 dX6_init_30 dX6_init_31 (by rw [hR]; decide) (by rw [hR]; decide) ?_
  refine C_put0 (pc := 34) K gf_SaltClouds_19 hin [.ref (n), .ref (n + 28), .null, .int 0, .null, .null, .null, .null] [.ref (n), .ref (n + 28), .ref (n + 56), .int 0, .null, .null, .null, .null] (v := .ref (n + 56)) rfl (fun hf r hr => by cases hr; first | rfl | cases hf) rfl rfl (Nat.le_of_ble_eq_true rfl) dX6_init_34 ?_
  refine C_aload_n (pc := 37) K dX6_init_37 0 rfl 0 rfl ?_
  refine C_iconst (pc := 38) K (0) dX6_init_38 (by decide) ?_
  refine C_put0 (pc := 39) K gf_SaltClouds_22 hin [.ref (n), .ref (n + 28), .ref (n + 56), .int 0, .null, .null, .null, .null] [.ref (n), .ref (n + 28), .ref (n + 56), .int 0, .null, .null, .null, .null] (v := .int 0) rfl (fun hf r hr => by cases hr; first | rfl | cases hf) rfl rfl (Nat.le_of_ble_eq_true rfl) dX6_init_39 ?_
  refine C_aload_n (pc := 42) K dX6_init_42 0 rfl 0 rfl ?_
  refine C_iconst (pc := 43) K (4) dX6_init_43 (by decide) ?_
  refine C_anewA (pc := 44) K "SaltClouds$Sheet" 4 2 _ rfl al_SaltClouds_26 K.2.2.2.2.2.2.1.2.2.1 (by decide) (by decide) (by decide) dX6_init_44 (by rw [hR]; decide) (by rw [hR]; decide) ?_
  refine C_put0 (pc := 47) K gf_SaltClouds_28 hin [.ref (n), .ref (n + 28), .ref (n + 56), .int 0, .null, .null, .null, .null] [.ref (n), .ref (n + 28), .ref (n + 56), .int 0, .ref (n + 84), .null, .null, .null] (v := .ref (n + 84)) rfl (fun hf r hr => by cases hr; first | rfl | cases hf) rfl rfl (Nat.le_of_ble_eq_true rfl) dX6_init_47 ?_
  refine C_aload_n (pc := 50) K dX6_init_50 0 rfl 0 rfl ?_
  refine C_makeB (pc := 51) K 4 (RX4, TX4, 6) tyX4 rfl nw_SaltClouds_32 tyX4_ok [.null, .null, .int 0, .null, .int 0, .int 0] (by decide +kernel) (ok_X4_init l ω (n + 85) _) ci_SaltClouds_34 (by omega) (by decide) (Nat.le_of_ble_eq_true rfl) dX6_init_51 dX6_init_54 dX6_init_55 (by rw [hR]; decide) (by rw [hR]; decide) ?_
  refine C_put0 (pc := 58) K gf_SaltClouds_35 hin [.ref (n), .ref (n + 28), .ref (n + 56), .int 0, .ref (n + 84), .null, .null, .null] [.ref (n), .ref (n + 28), .ref (n + 56), .int 0, .ref (n + 84), .ref (n + 85), .null, .null] (v := .ref (n + 85)) rfl (fun hf r hr => by cases hr; first | rfl | cases hf) rfl rfl (Nat.le_of_ble_eq_true rfl) dX6_init_58 ?_
  refine C_aload_n (pc := 61) K dX6_init_61 0 rfl 0 rfl ?_
  refine C_makeB (pc := 62) K 5 (RX5, TX5, 5) tyX5 rfl nw_SaltClouds_39 tyX5_ok [.null, .int 0, .int 0, .int 0, .int 0] (by decide +kernel) (ok_X5_init l ω (n + 90) _) ci_SaltClouds_41 (by omega) (by decide) (Nat.le_of_ble_eq_true rfl) dX6_init_62 dX6_init_65 dX6_init_66 (by rw [hR]; decide) (by rw [hR]; decide) ?_
  refine C_put0 (pc := 69) K gf_SaltClouds_42 hin [.ref (n), .ref (n + 28), .ref (n + 56), .int 0, .ref (n + 84), .ref (n + 85), .null, .null] [.ref (n), .ref (n + 28), .ref (n + 56), .int 0, .ref (n + 84), .ref (n + 85), .ref (n + 90), .null] (v := .ref (n + 90)) rfl (fun hf r hr => by cases hr; first | rfl | cases hf) rfl rfl (Nat.le_of_ble_eq_true rfl) dX6_init_69 ?_
  refine C_aload_n (pc := 72) K dX6_init_72 0 rfl 0 rfl ?_
  refine C_bipush (pc := 73) K (6) dX6_init_73 (by decide) ?_
  refine C_newaB (pc := 75) K 6 ac_int (by decide) (by decide) (by decide) dX6_init_75 (by rw [hR]; decide) (by rw [hR]; decide) ?_
  refine C_put0 (pc := 77) K gf_SaltClouds_46 hin [.ref (n), .ref (n + 28), .ref (n + 56), .int 0, .ref (n + 84), .ref (n + 85), .ref (n + 90), .null] [.ref (n), .ref (n + 28), .ref (n + 56), .int 0, .ref (n + 84), .ref (n + 85), .ref (n + 90), .ref (n + 92)] (v := .ref (n + 92)) rfl (fun hf r hr => by cases hr; first | rfl | cases hf) rfl rfl (Nat.le_of_ble_eq_true rfl) dX6_init_77 ?_
  refine C_iconst (pc := 80) K (0) dX6_init_80 (by decide) ?_
  refine C_istore_n (pc := 81) K dX6_init_81 1 rfl (by decide) [(1, .int 0), (0, .ref a)] rfl ?_
  refine C_iload_n (pc := 82) K dX6_init_82 1 rfl 0 rfl ?_
  refine C_aload_n (pc := 83) K dX6_init_83 0 rfl 1 rfl ?_
  refine C_get (pc := 84) K gf_SaltClouds_28 0 [.ref (n), .ref (n + 28), .ref (n + 56), .int 0, .ref (n + 84), .ref (n + 85), .ref (n + 90), .ref (n + 92)] rfl (v := .ref (n + 84)) rfl dX6_init_84 ?_
  refine C_alen (pc := 87) K 1 2 rfl (ty := .object RX1) rfl (4) rfl dX6_init_87 ?_
  refine C_geF (pc := 88) K 110 dX6_init_88 (by decide) (by decide) ?_
  refine C_aload_n (pc := 91) K dX6_init_91 0 rfl 1 rfl ?_
  refine C_get (pc := 92) K gf_SaltClouds_28 0 [.ref (n), .ref (n + 28), .ref (n + 56), .int 0, .ref (n + 84), .ref (n + 85), .ref (n + 90), .ref (n + 92)] rfl (v := .ref (n + 84)) rfl dX6_init_92 ?_
  refine C_iload_n (pc := 95) K dX6_init_95 1 rfl 0 rfl ?_
  refine C_makeB (pc := 96) K 1 (RX1, TX1, 3) tyX1 rfl nw_SaltClouds_26 tyX1_ok [.int 0, .int 0, .null] (by decide +kernel) (ok_X1_init l ω (n + 93) _) ci_SaltClouds_50 (by omega) (by decide) (Nat.le_of_ble_eq_true rfl) dX6_init_96 dX6_init_99 dX6_init_100 (by rw [hR]; decide) (by rw [hR]; decide) ?_
  refine C_aast1 (pc := 103) K 2 0 1 (r := (RX1, TX1, 3)) rfl rfl rfl (i := 0) (by unfold vp_in; decide) dX6_init_103 ?_
  refine C_iinc (pc := 104) K (1) dX6_init_104 0 rfl (by decide) (by decide) [(1, .int 1), (0, .ref a)] rfl ?_
  refine C_goto (pc := 107) K 82 dX6_init_107 (by decide) ?_
  refine C_iload_n (pc := 82) K dX6_init_82 1 rfl 0 rfl ?_
  refine C_aload_n (pc := 83) K dX6_init_83 0 rfl 1 rfl ?_
  refine C_get (pc := 84) K gf_SaltClouds_28 0 [.ref (n), .ref (n + 28), .ref (n + 56), .int 0, .ref (n + 84), .ref (n + 85), .ref (n + 90), .ref (n + 92)] rfl (v := .ref (n + 84)) rfl dX6_init_84 ?_
  refine C_alen (pc := 87) K 1 2 rfl (ty := .object RX1) rfl (4) rfl dX6_init_87 ?_
  refine C_geF (pc := 88) K 110 dX6_init_88 (by decide) (by decide) ?_
  refine C_aload_n (pc := 91) K dX6_init_91 0 rfl 1 rfl ?_
  refine C_get (pc := 92) K gf_SaltClouds_28 0 [.ref (n), .ref (n + 28), .ref (n + 56), .int 0, .ref (n + 84), .ref (n + 85), .ref (n + 90), .ref (n + 92)] rfl (v := .ref (n + 84)) rfl dX6_init_92 ?_
  refine C_iload_n (pc := 95) K dX6_init_95 1 rfl 0 rfl ?_
  refine C_makeB (pc := 96) K 1 (RX1, TX1, 3) tyX1 rfl nw_SaltClouds_26 tyX1_ok [.int 0, .int 0, .null] (by decide +kernel) (ok_X1_init l ω (n + 95) _) ci_SaltClouds_50 (by omega) (by decide) (Nat.le_of_ble_eq_true rfl) dX6_init_96 dX6_init_99 dX6_init_100 (by rw [hR]; decide) (by rw [hR]; decide) ?_
  refine C_aast1 (pc := 103) K 2 0 1 (r := (RX1, TX1, 3)) rfl rfl rfl (i := 1) (by unfold vp_in; decide) dX6_init_103 ?_
  refine C_iinc (pc := 104) K (2) dX6_init_104 0 rfl (by decide) (by decide) [(1, .int 2), (0, .ref a)] rfl ?_
  refine C_goto (pc := 107) K 82 dX6_init_107 (by decide) ?_
  refine C_iload_n (pc := 82) K dX6_init_82 1 rfl 0 rfl ?_
  refine C_aload_n (pc := 83) K dX6_init_83 0 rfl 1 rfl ?_
  refine C_get (pc := 84) K gf_SaltClouds_28 0 [.ref (n), .ref (n + 28), .ref (n + 56), .int 0, .ref (n + 84), .ref (n + 85), .ref (n + 90), .ref (n + 92)] rfl (v := .ref (n + 84)) rfl dX6_init_84 ?_
  refine C_alen (pc := 87) K 1 2 rfl (ty := .object RX1) rfl (4) rfl dX6_init_87 ?_
  refine C_geF (pc := 88) K 110 dX6_init_88 (by decide) (by decide) ?_
  refine C_aload_n (pc := 91) K dX6_init_91 0 rfl 1 rfl ?_
  refine C_get (pc := 92) K gf_SaltClouds_28 0 [.ref (n), .ref (n + 28), .ref (n + 56), .int 0, .ref (n + 84), .ref (n + 85), .ref (n + 90), .ref (n + 92)] rfl (v := .ref (n + 84)) rfl dX6_init_92 ?_
  refine C_iload_n (pc := 95) K dX6_init_95 1 rfl 0 rfl ?_
  refine C_makeB (pc := 96) K 1 (RX1, TX1, 3) tyX1 rfl nw_SaltClouds_26 tyX1_ok [.int 0, .int 0, .null] (by decide +kernel) (ok_X1_init l ω (n + 97) _) ci_SaltClouds_50 (by omega) (by decide) (Nat.le_of_ble_eq_true rfl) dX6_init_96 dX6_init_99 dX6_init_100 (by rw [hR]; decide) (by rw [hR]; decide) ?_
  refine C_aast1 (pc := 103) K 2 0 1 (r := (RX1, TX1, 3)) rfl rfl rfl (i := 2) (by unfold vp_in; decide) dX6_init_103 ?_
  refine C_iinc (pc := 104) K (3) dX6_init_104 0 rfl (by decide) (by decide) [(1, .int 3), (0, .ref a)] rfl ?_
  refine C_goto (pc := 107) K 82 dX6_init_107 (by decide) ?_
  refine C_iload_n (pc := 82) K dX6_init_82 1 rfl 0 rfl ?_
  refine C_aload_n (pc := 83) K dX6_init_83 0 rfl 1 rfl ?_
  refine C_get (pc := 84) K gf_SaltClouds_28 0 [.ref (n), .ref (n + 28), .ref (n + 56), .int 0, .ref (n + 84), .ref (n + 85), .ref (n + 90), .ref (n + 92)] rfl (v := .ref (n + 84)) rfl dX6_init_84 ?_
  refine C_alen (pc := 87) K 1 2 rfl (ty := .object RX1) rfl (4) rfl dX6_init_87 ?_
  refine C_geF (pc := 88) K 110 dX6_init_88 (by decide) (by decide) ?_
  refine C_aload_n (pc := 91) K dX6_init_91 0 rfl 1 rfl ?_
  refine C_get (pc := 92) K gf_SaltClouds_28 0 [.ref (n), .ref (n + 28), .ref (n + 56), .int 0, .ref (n + 84), .ref (n + 85), .ref (n + 90), .ref (n + 92)] rfl (v := .ref (n + 84)) rfl dX6_init_92 ?_
  refine C_iload_n (pc := 95) K dX6_init_95 1 rfl 0 rfl ?_
  refine C_makeB (pc := 96) K 1 (RX1, TX1, 3) tyX1 rfl nw_SaltClouds_26 tyX1_ok [.int 0, .int 0, .null] (by decide +kernel) (ok_X1_init l ω (n + 99) _) ci_SaltClouds_50 (by omega) (by decide) (Nat.le_of_ble_eq_true rfl) dX6_init_96 dX6_init_99 dX6_init_100 (by rw [hR]; decide) (by rw [hR]; decide) ?_
  refine C_aast1 (pc := 103) K 2 0 1 (r := (RX1, TX1, 3)) rfl rfl rfl (i := 3) (by unfold vp_in; decide) dX6_init_103 ?_
  refine C_iinc (pc := 104) K (4) dX6_init_104 0 rfl (by decide) (by decide) [(1, .int 4), (0, .ref a)] rfl ?_
  refine C_goto (pc := 107) K 82 dX6_init_107 (by decide) ?_
  refine C_iload_n (pc := 82) K dX6_init_82 1 rfl 0 rfl ?_
  refine C_aload_n (pc := 83) K dX6_init_83 0 rfl 1 rfl ?_
  refine C_get (pc := 84) K gf_SaltClouds_28 0 [.ref (n), .ref (n + 28), .ref (n + 56), .int 0, .ref (n + 84), .ref (n + 85), .ref (n + 90), .ref (n + 92)] rfl (v := .ref (n + 84)) rfl dX6_init_84 ?_
  refine C_alen (pc := 87) K 1 2 rfl (ty := .object RX1) rfl (4) rfl dX6_init_87 ?_
  refine C_geT (pc := 88) K 110 dX6_init_88 (by decide) (by decide) ?_
  exact C_vret0 K hr hlocks hA (by decide) (by decide) rfl rfl dX6_init_110
