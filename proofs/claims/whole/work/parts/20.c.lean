/-! CONSTRUCTORS: a world of listed cells, the heap's size told -/
def nestC : List (String × Nat × MethodName × String) := [("SaltClouds$Sky", 45, (⟨"SaltClouds$Text", "<init>", "()V"⟩ : MethodName), "SaltClouds"), ("SaltClouds$Sky", 59, (⟨"SaltClouds$Cloud", "<init>", "()V"⟩ : MethodName), "SaltClouds"), ("SaltClouds", 34, (⟨"SaltClouds$TextReader", "<init>", "()V"⟩ : MethodName), "SaltClouds"), ("SaltClouds$TextReader", 11, (⟨"SaltClouds$Text", "<init>", "()V"⟩ : MethodName), "SaltClouds"), ("SaltClouds", 41, (⟨"SaltClouds$Voices", "<init>", "()V"⟩ : MethodName), "SaltClouds"), ("SaltClouds", 50, (⟨"SaltClouds$Sheet", "<init>", "()V"⟩ : MethodName), "SaltClouds")]
def SC (ω : WX) (U : State) : Prop := SS ω U ∧ va_AO "SaltClouds$Cloud" U ∧ va_AO "SaltClouds$Sheet" U ∧ ∀ q ∈ nestC, va_Nw (.methodLinkNest q.1 q.2.1 q.2.2.1 q.2.2.2) U
def rmC (d mc ms : Nat) : Room := { frames := d, cells := mc, slots := ms, locals := 64 * d }
def KC (ω : WX) (χ : KT) (A : Nat → Prop) (own : String) (cc : ByteArray) (nL d : Nat) : Prop :=
  (kP χ).tables.exec = Jvm.exec ∧ (kD χ).code = cc ∧ (kD χ).maxLocals = nL ∧ (kS χ).vm.findClass own = some (kM χ).cls ∧ (∀ w ∈ jw, w.before (kA χ) (kS χ) = true) ∧
  va_K ω.2.1 vwCl (jT ω) (kS χ) ∧ SC ω (kS χ) ∧ (d ≤ (kR χ).frames ∧ 64 * d ≤ (kR χ).locals) ∧ (∀ q, (kS χ).heap.size ≤ q → A q) ∧ (∀ q, A q → jA ω q)
def C1 (Z : State → Prop) (l : Launch) (ω : WX) (χ : KT) (A : Nat → Prop) (pc nL : Nat) (lv : List (Nat × Value)) (st : List Value) (n : Nat) (ws : va_W) (q z : Nat) : Prop :=
  ∀ (H : Heap) (locs : List Loc) (ls : Array Slot), H.size = n → va_P ω.2.1 vwCl ws H → va_D A ws → va_S A (kS χ).heap H locs → lv_has ls nL lv →
    W (kP χ) l (kE χ) (kR χ) (kS χ) (kM χ) (kA χ) (kB χ) (kH χ) (kD χ) H locs q z Z (F0 (kM χ) pc ls st)
def CM (l : Launch) (ω : WX) (y : MethodName) (cc : ByteArray) (nL d : Nat) (a n : Nat) (ws : va_W) (n' : Nat) (ws' : va_W) (mc ms : Nat) : Prop :=
  ω.1 ≤ a → ω.1 ≤ n → Met l y (Cond.code y cc nL none :: jw) (rmC d mc ms) (va_Pc [.ref a] (fun U => U.heap.size = n ∧ va_P ω.2.1 vwCl ws U.heap ∧ va_D (fun _ => True) ws ∧ va_K ω.2.1 vwCl (jT ω) U ∧ SC ω U)) (fun _ st oc t => oc = .returned none ∧ t.heap.size = n' ∧ va_P ω.2.1 vwCl ws' t.heap ∧ va_D (va_A ws n) ws' ∧ va_F (va_A ws n) st t) mc ms (va_A ws n)
/-- a constructor's end -/
def ZC (ω : WX) (χ : KT) (ws : va_W) (n n' : Nat) (ws' : va_W) (mc ms : Nat) : State → Prop := MQ (kB χ) (fun _ st oc t => oc = .returned none ∧ t.heap.size = n' ∧ va_P ω.2.1 vwCl ws' t.heap ∧ va_D (va_A ws n) ws' ∧ va_F (va_A ws n) st t) (kA χ) (kS χ) mc ms (va_A ws n)
theorem CM.of {l : Launch} {ω : WX} {y : MethodName} {cc : ByteArray} {nL d a n n' mc ms : Nat} {ws ws' : va_W} (hy : plainFor y = true) (hyn : y.name = "<init>") (hn : 1 ≤ nL) (hin : ∀ (q : Nat) (e : Nat × va_E), ws[q]? = some e → e.1 = a)
    (body : ∀ (χ : KT) (A : Nat → Prop), kR χ = rmC d mc ms → KC ω χ A y.cls cc nL d → (kH χ).name = "<init>" → (kH χ).sig.returnType = none → (kH χ).locks = false → A = va_A ws n → C1 (ZC ω χ ws n n' ws' mc ms) l ω χ A 0 nL [(0, .ref a)] [] n ws 0 0) : CM l ω y cc nL d a n ws n' ws' mc ms := by
  intro ha hn0
  refine va_MetF (cc := cc) (maxL := nL) (ret := none) hy rfl ?_
  intro p e s m args below meth c s₁ B hml hv
  obtain ⟨rfl, hsz, hP, hD, hK, hSS⟩ := hv
  have hts := atoms_spec (ws := Cond.code y cc nL none :: jw) B.pre
  have hA : ∀ q, s.heap.size ≤ q → va_A ws n q := fun q h => Or.inr (by omega)
  have hAj : ∀ q, va_A ws n q → jA ω q := by
    intro q h
    rcases h with ⟨k, e9, h⟩ | h
    · have := hin k _ h
      simp only at this
      show ω.1 ≤ q
      omega
    · show ω.1 ≤ q
      omega
  have K : KC ω (p, e, rmC d mc ms, 0, 0, s, m, ([.ref a] : List Value).toArray, below, meth, c) (va_A ws n) y.cls cc nL d := ⟨B.exec, B.bytes, hml, findClass_of_methodNamed B.named, fun w hw => hts w (List.mem_cons_of_mem _ hw), hK, hSS, ⟨Nat.le_refl _, Nat.le_refl _⟩, hA, hAj⟩
  have hl := lv_entry ([.ref a]) (n := nL) hn
  rw [lg_entry_eq]
  have hname : meth.name = "<init>" := ((name_of_methodNamed B.named B.method).1).trans hyn
  exact body _ _ rfl K hname B.returns B.notSynchronized rfl s.heap [] _ hsz hP hD.self va_S.rf hl
section CR
variable {Z : State → Prop} {l : Launch} {ω : WX} {χ : KT} {A : Nat → Prop} {own : String} {cc : ByteArray} {d pc nL : Nat} {lv lv' : List (Nat × Value)} {st : List Value} {n q z : Nat} {ws : va_W}
theorem C_aload_n (K : KC ω χ A own cc nL d) {k : Fin 4} {x : Nat} (hdg : decode cc pc = .ok (.aload_n k, 1)) (i : Nat) (hi : (k : Nat) = i) (g : Nat) (hq : lv[g]? = some (i, .ref x)) (kk : C1 Z l ω χ A (pc + 1) nL lv (.ref x :: st) n ws q z) : C1 Z l ω χ A pc nL lv st n ws q z := by
  intro H locs ls hn hP hD hS hl
  exact lv_aload_n K.1 K.2.1 hdg hi (lv_at hl g hq) (kk H locs ls hn hP hD hS hl)
theorem C_iload_n (K : KC ω χ A own cc nL d) {k : Fin 4} {x : Int32} (hdg : decode cc pc = .ok (.iload_n k, 1)) (i : Nat) (hi : (k : Nat) = i) (g : Nat) (hq : lv[g]? = some (i, .int x)) (kk : C1 Z l ω χ A (pc + 1) nL lv (.int x :: st) n ws q z) : C1 Z l ω χ A pc nL lv st n ws q z := by
  intro H locs ls hn hP hD hS hl
  exact lv_iload_n K.1 K.2.1 hdg hi (lv_at hl g hq) (kk H locs ls hn hP hD hS hl)
theorem C_iconst (K : KC ω χ A own cc nL d) {m : Int} (v : Int32) (hdg : decode cc pc = .ok (.iconst m, 1)) (hv : Int32.ofInt m = v) (kk : C1 Z l ω χ A (pc + 1) nL lv (.int v :: st) n ws q z) : C1 Z l ω χ A pc nL lv st n ws q z := by
  intro H locs ls hn hP hD hS hl
  exact lv_iconst K.1 K.2.1 hdg hv (kk H locs ls hn hP hD hS hl)
theorem C_bipush (K : KC ω χ A own cc nL d) {m : Int} (v : Int32) (hdg : decode cc pc = .ok (.bipush m, 2)) (hv : (Int8.ofInt m).toInt32 = v) (kk : C1 Z l ω χ A (pc + 2) nL lv (.int v :: st) n ws q z) : C1 Z l ω χ A pc nL lv st n ws q z := by
  intro H locs ls hn hP hD hS hl
  exact lv_bipush K.1 K.2.1 hdg hv (kk H locs ls hn hP hD hS hl)
theorem C_sipush (K : KC ω χ A own cc nL d) {m : Int} (v : Int32) (hdg : decode cc pc = .ok (.sipush m, 3)) (hv : (Int16.ofInt m).toInt32 = v) (kk : C1 Z l ω χ A (pc + 3) nL lv (.int v :: st) n ws q z) : C1 Z l ω χ A pc nL lv st n ws q z := by
  intro H locs ls hn hP hD hS hl
  exact lv_sipush K.1 K.2.1 hdg hv (kk H locs ls hn hP hD hS hl)
theorem C_istore_n (K : KC ω χ A own cc nL d) {k : Fin 4} {x : Int32} (hdg : decode cc pc = .ok (.istore_n k, 1)) (i : Nat) (hi : (k : Nat) = i) (hn : i < nL) (lv' : List (Nat × Value)) (hl' : (i, Value.int x) :: lv.filter (fun q => !(q.1 == i) && !(q.1 + 1 == i && q.2.category == 2)) = lv') (kk : C1 Z l ω χ A (pc + 1) nL lv' st n ws q z) : C1 Z l ω χ A pc nL lv (.int x :: st) n ws q z := by
  intro H locs ls hn1 hP hD hS hl
  exact lv_istore_n K.1 K.2.1 hdg hi hl hn hl' (fun ls hl => kk H locs ls hn1 hP hD hS hl)
theorem C_astore_n (K : KC ω χ A own cc nL d) {k : Fin 4} {x : Nat} (hdg : decode cc pc = .ok (.astore_n k, 1)) (i : Nat) (hi : (k : Nat) = i) (hn : i < nL) (lv' : List (Nat × Value)) (hl' : (i, Value.ref x) :: lv.filter (fun q => !(q.1 == i) && !(q.1 + 1 == i && q.2.category == 2)) = lv') (kk : C1 Z l ω χ A (pc + 1) nL lv' st n ws q z) : C1 Z l ω χ A pc nL lv (.ref x :: st) n ws q z := by
  intro H locs ls hn1 hP hD hS hl
  exact lv_astore_n K.1 K.2.1 hdg hi hl hn hl' (fun ls hl => kk H locs ls hn1 hP hD hS hl)
theorem C_iinc (K : KC ω χ A own cc nL d) {i : Nat} {m : Int} {x : Int32} (v : Int32) (hdg : decode cc pc = .ok (.iinc i m, 3)) (g : Nat) (hq : lv[g]? = some (i, .int x)) (hv : x + Int32.ofInt m = v) (hn : i < nL) (lv' : List (Nat × Value)) (hl' : (i, Value.int v) :: lv.filter (fun q => !(q.1 == i) && !(q.1 + 1 == i && q.2.category == 2)) = lv') (kk : C1 Z l ω χ A (pc + 3) nL lv' st n ws q z) : C1 Z l ω χ A pc nL lv st n ws q z := by
  intro H locs ls hn1 hP hD hS hl
  exact lv_iinc K.1 K.2.1 hdg hl hq hv hn hl' (fun ls hl => kk H locs ls hn1 hP hD hS hl)
theorem C_goto (K : KC ω χ A own cc nL d) {off : Int} (tgt : Nat) (hdg : decode cc pc = .ok (.goto off, 3)) (ht : (pc : Int) + off = (tgt : Int)) (kk : C1 Z l ω χ A tgt nL lv st n ws q z) : C1 Z l ω χ A pc nL lv st n ws q z := by
  intro H locs ls hn hP hD hS hl
  exact lv_goto K.1 K.2.1 hdg ht (kk H locs ls hn hP hD hS hl)
theorem C_dup (K : KC ω χ A own cc nL d) {va : Value} (hdg : decode cc pc = .ok (.dup, 1)) (hva : va.category = 1) (kk : C1 Z l ω χ A (pc + 1) nL lv (va :: va :: st) n ws q z) : C1 Z l ω χ A pc nL lv (va :: st) n ws q z := by
  intro H locs ls hn hP hD hS hl
  exact lv_dup K.1 K.2.1 hdg hva (kk H locs ls hn hP hD hS hl)
theorem C_geT (K : KC ω χ A own cc nL d) {x y : Int32} {off : Int} (tgt : Nat) (hdg : decode cc pc = .ok (.if_icmp .ge off, 3)) (ht : (pc : Int) + off = (tgt : Int)) (hc : y ≤ x) (kk : C1 Z l ω χ A tgt nL lv st n ws q z) : C1 Z l ω χ A pc nL lv (.int y :: .int x :: st) n ws q z := by
  intro H locs ls hn hP hD hS hl
  exact lv_icmp_ge K.1 K.2.1 hdg ht (fun _ => kk H locs ls hn hP hD hS hl) (fun h => absurd hc h)
theorem C_geF (K : KC ω χ A own cc nL d) {x y : Int32} {off : Int} (tgt : Nat) (hdg : decode cc pc = .ok (.if_icmp .ge off, 3)) (ht : (pc : Int) + off = (tgt : Int)) (hc : ¬ y ≤ x) (kk : C1 Z l ω χ A (pc + 3) nL lv st n ws q z) : C1 Z l ω χ A pc nL lv (.int y :: .int x :: st) n ws q z := by
  intro H locs ls hn hP hD hS hl
  exact lv_icmp_ge K.1 K.2.1 hdg ht (fun h => absurd h hc) (fun _ => kk H locs ls hn hP hD hS hl)
theorem C_ldcS (K : KC ω χ A "SaltClouds$TextReader" cc nL d) {index : Nat} (i : Nat) (hi : i < 10) (tx : String) (hs : strL[i]? = some (index, tx)) (hdg : decode cc pc = .ok (.ldc index, 2)) (kk : C1 Z l ω χ A (pc + 2) nL lv (.ref (ω.2.2.2.1 i) :: st) n ws q z) : C1 Z l ω χ A pc nL lv st n ws q z := by
  intro H locs ls hn hP hD hS hl
  have h2 := K.2.2.2.2.2.2.1.1.2.1 i hi
  have e : strL.getD i (0, "") = (index, tx) := by simp [List.getD, hs]
  rw [e] at h2
  exact va_ldcS K.1 K.2.1 K.2.2.2.1 h2 hdg (kk H locs ls hn hP hD hS hl)
theorem C_obj (K : KC ω χ A own cc nL d) {idx a : Nat} (hd : 1 ≤ d) (hw : Cond.methodLink own idx objectInit ∈ jw ∧ Cond.instanceMethod objectInit ∈ jw ∧ Cond.code objectInit ⟨#[0xb1]⟩ 1 none ∈ jw) (hc : (st.map fun v => v.category).sum ≤ 8) (hdg : decode cc pc = .ok (.invokespecial idx, 3)) (kk : C1 Z l ω χ A (pc + 3) nL lv st n ws q z) : C1 Z l ω χ A pc nL lv (.ref a :: st) n ws q z := by
  intro H locs ls hn hP hD hS hl
  have hts := K.2.2.2.2.1
  have hr := K.2.2.2.2.2.2.2.1
  exact W.objInit K.1 K.2.1 K.2.2.2.1 (hts _ hw.1) (hts _ hw.2.1) (hts _ hw.2.2) rfl (hl.1.trans K.2.2.1.symm) rfl hdg (by omega) (by show 2 * 0 + _ + 12 ≤ _; omega) (kk H locs ls hn hP hD hS hl)
theorem C_new (K : KC ω χ A own cc nL d) {index : Nat} (ci : Nat) (C : vw_C) (ty : Nat → FieldType) (hc : vwCl[ci]? = some C) (hw : Cond.classLink own index C.1 ∈ jw ∧ Cond.instantiable C.1 C.2.2 ∈ jw ∧ Cond.initialized C.1 ∈ jw ∧ ∀ w ∈ u_ws C.1 C.2.1 C.2.2, w ∈ jw) (hty : ∀ k, k < C.2.2 → parseFieldDescriptor (C.2.1 k).2.2.1 = some (ty k)) (fs : List Value) (hfs : ∀ j, j < C.2.2 → defaultValue (ty j) = vp_V fs j) (hdg : decode cc pc = .ok (.new index, 3)) (hcells : q + 1 ≤ (kR χ).cells) (hslots : z + C.2.2 ≤ (kR χ).slots)
    (kk : C1 Z l ω χ A (pc + 3) nL lv (.ref n :: st) (n + 1) (ws ++ [(n, .inr (ci, fs))]) (q + 1) (z + C.2.2)) : C1 Z l ω χ A pc nL lv st n ws q z := by
  intro H locs ls hn hP hD hS hl
  have hts := K.2.2.2.2.1
  have hKn := K.2.2.2.2.2.1.1 ci _ hc
  subst hn
  refine W.newcK K.1 K.2.1 K.2.2.2.1 (hts _ hw.1) (hts _ hw.2.1) (hts _ hw.2.2.1) rfl hdg hcells hslots hKn.2.1 rfl fun H1 kC hkC e1 z1 o1 => ?_
  have hk : ∀ (k : Nat) (x : Nat × va_E), ws[k]? = some x → H1[x.1]? = H[x.1]? := fun k x hx => o1 x.1 ((hP k x hx).lt)
  refine kk H1 locs ls z1 ((hP.kept hk).app (fun k x hx => ?_)) (hD.push hP rfl (K.2.2.2.2.2.2.2.2.1 _ hS.1)) ⟨Nat.le_trans hS.1 (by omega), fun x h1 h2 => (o1 x (Nat.lt_of_lt_of_le h1 hS.1)).trans (hS.2.1 x h1 h2), hS.2.2⟩ hl
  have hz : k < 1 := (List.getElem?_eq_some_iff.mp hx).1
  rw [show k = 0 by omega] at hx
  cases hx
  exact ⟨_, hc, (u_born ty hts hw.2.2.2 hKn hkC e1 hty).to hfs⟩
theorem C_newa (K : KC ω χ A own cc nL d) {m : Int32} (N' : Nat) (hw : Cond.arrayClass .int ∈ jw) (hm : ¬ m < 0) (hN : m.toNatClampNeg = N') (hbytes : N' * 4 ≤ 536870912) (hdg : decode cc pc = .ok (.newarray .int, 2)) (hcells : q + 1 ≤ (kR χ).cells) (hslots : z + N' ≤ (kR χ).slots)
    (kk : C1 Z l ω χ A (pc + 2) nL lv (.ref n :: st) (n + 1) (ws ++ [(n, .inl (ω.2.2.1.1, N', .inl (fun _ => 0)))]) (q + 1) (z + N')) : C1 Z l ω χ A pc nL lv (.int m :: st) n ws q z := by
  intro H locs ls hn hP hD hS hl
  have hts := K.2.2.2.2.1
  subst hn
  refine va_newaK (atype := .int) K.1 K.2.1 (hts _ hw) rfl hdg rfl hm hN hbytes hcells hslots rfl fun H1 cA e1 z1 o1 hAr hNm => ?_
  have hcI : (kS χ).vm.findClass ("[" ++ FieldType.int.toString) = some ω.2.2.1.1 := (K.2.2.2.2.2.1.2 0 _ rfl).2
  have hcA : cA = ω.2.2.1.1 := Option.some.inj (hNm.symm.trans hcI)
  subst hcA
  have hk : ∀ (k : Nat) (x : Nat × va_E), ws[k]? = some x → H1[x.1]? = H[x.1]? := fun k x hx => o1 x.1 ((hP k x hx).lt)
  refine kk H1 locs ls z1 ((hP.kept hk).app (fun k x hx => ?_)) (hD.push hP rfl (K.2.2.2.2.2.2.2.2.1 _ hS.1)) ⟨Nat.le_trans hS.1 (by omega), fun x h1 h2 => (o1 x (Nat.lt_of_lt_of_le h1 hS.1)).trans (hS.2.1 x h1 h2), hS.2.2⟩ hl
  have hz : k < 1 := (List.getElem?_eq_some_iff.mp hx).1
  rw [show k = 0 by omega] at hx
  cases hx
  exact e1
theorem C_anew (K : KC ω χ A own cc nL d) {index : Nat} (C : String) {m : Int32} (N' t0 : Nat) (cA : ClassId) (ht : (jT ω)[t0]? = some (cA, .object C)) (hw : Cond.classLink own index C ∈ jw) (hover : va_AO C (kS χ)) (hm : ¬ m < 0) (hN : m.toNatClampNeg = N') (hbytes : N' * 4 ≤ 536870912) (hdg : decode cc pc = .ok (.anewarray index, 3)) (hcells : q + 1 ≤ (kR χ).cells) (hslots : z + N' ≤ (kR χ).slots)
    (kk : C1 Z l ω χ A (pc + 3) nL lv (.ref n :: st) (n + 1) (ws ++ [(n, .inl (cA, N', .inr (.inr (.inr (.inr (fun _ => none))))))]) (q + 1) (z + N')) : C1 Z l ω χ A pc nL lv (.int m :: st) n ws q z := by
  intro H locs ls hn hP hD hS hl
  have hts := K.2.2.2.2.1
  subst hN
  subst hn
  refine W.anew K.1 K.2.1 K.2.2.2.1 (hts _ hw) (va_AO.use hover) rfl hdg rfl hm hbytes hcells hslots fun cA1 kA comp f1 f2 f3 f4 => ?_
  obtain ⟨kA2, comp2, g1, g2, g3, g4⟩ := (K.2.2.2.2.2.1.2 t0 _ ht).2
  have hcA : cA1 = cA := Option.some.inj (f1.symm.trans g4)
  subst hcA
  generalize hH1 : H.push ({ cls := cA1, slots := Array.replicate m.toNatClampNeg .null, vm := .none } : Cell) = H1
  have z1 : H1.size = H.size + 1 := by rw [← hH1, Array.size_push]
  have e1 : H1[H.size]? = some (arrV cA1 m.toNatClampNeg (fun _ => .null)) := by rw [← hH1, Array.getElem?_push_size, ← arrV_new]
  have o1 : ∀ q : Nat, q < H.size → H1[q]? = H[q]? := fun q hq => by rw [← hH1, Array.getElem?_push, if_neg (Nat.ne_of_lt hq)]
  have hk : ∀ (k : Nat) (x : Nat × va_E), ws[k]? = some x → H1[x.1]? = H[x.1]? := fun k x hx => o1 x.1 ((hP k x hx).lt)
  refine kk H1 locs ls z1 ((hP.kept hk).app (fun k x hx => ?_)) (hD.push hP rfl (K.2.2.2.2.2.2.2.2.1 _ hS.1)) ⟨Nat.le_trans hS.1 (by omega), fun x h1 h2 => (o1 x (Nat.lt_of_lt_of_le h1 hS.1)).trans (hS.2.1 x h1 h2), hS.2.2⟩ hl
  have hz : k < 1 := (List.getElem?_eq_some_iff.mp hx).1
  rw [show k = 0 by omega] at hx
  cases hx
  show H1[H.size]? = some (vp_cell _ _)
  rw [vp_cell_q]
  exact e1
theorem C_put (K : KC ω χ A own cc nL d) {index ci j : Nat} {ty : FieldType} {fin : Bool} (g : GF own index ci j ty fin) (hin : (kH χ).name = "<init>") {a : Nat} (q0 : Nat) (fs : List Value) (he : ws[q0]? = some (a, .inr (ci, fs))) {v : Value} (hf : fin = true → ∀ r : vw_C, vwCl[ci]? = some r → (r.2.1 j).1 = own) (hn : narrow ty v = v) (hfit : fits ty v = true) (hlen : j < fs.length) (hdg : decode cc pc = .ok (.putfield index, 3)) (kk : C1 Z l ω χ A (pc + 3) nL lv st n (ws.set q0 (a, .inr (ci, fs.set j v))) q z) : C1 Z l ω χ A pc nL lv (v :: .ref a :: st) n ws q z := by
  intro H locs ls hn1 hP hD hS0 hl
  obtain ⟨⟨C, T, N⟩, ty0, g1, g2, g3, g4, g5, g6, g7, g8, g9, g10⟩ := g
  have hts := K.2.2.2.2.1
  have hown := K.2.2.2.1
  have hK := K.2.2.2.2.2.1
  have hd : parseFieldDescriptor (T j).2.2.1 = some ty := by rw [g7 j g2, g9]
  have hap := va_apart (own := own) hts g6 ty0 g7 g8 hK g1
  obtain ⟨r, h1, cell, q1, q2, q3, q4⟩ := hP q0 _ he
  have hr : r = (C, T, N) := Option.some.inj (h1.symm.trans g1)
  subst hr
  obtain ⟨hS, hfc, kC, hkC, hkind⟩ := hK.1 ci _ g1
  obtain ⟨cf, kf, fi, f, hi, hsl⟩ := hS j g2
  have hlay := hts _ (g6 _ (u_in_lay g2))
  have hst := (u_facts hfc hkC (u_lays hts g6 g2) hi).1
  have fin9 : ∀ (H' : Heap), H'[a]? = some (cell.setSlot f.slot v) → H'.size = H.size → (∀ x, x ≠ a → H'[x]? = H[x]?) → W (kP χ) l (kE χ) (kR χ) (kS χ) (kM χ) (kA χ) (kB χ) (kH χ) (kD χ) H' (locs ++ [⟨a, f.slot⟩]) q z Z (F0 (kM χ) (pc + 3) ls st) := by
    intro H' e1 e2 e3
    rw [hsl] at e1 ⊢
    exact kk H' _ ls (e2.trans hn1) (hP.set hD he ⟨_, g1, t_OB.to (V := updV (vp_V fs) j v) ⟨_, e1, q2, q3, t_set q4 hap g2 v⟩ (fun _ _ => vp_updV_set hlen v _)⟩ e3) (hD.set he) (hS0.put e2 e3 (hD.2 q0 _ he)) hl
  unfold u_lay at hlay
  cases fin with
  | false =>
    rw [if_neg (by rw [g10]; decide)] at hlay
    have h6 := u_store hfc hkC hkind hlay hi hd hn hfit
    exact W.putK K.1 K.2.1 (f := f) ⟨hown, hts _ g5, ⟨_, _, _, hi⟩, hst⟩ (by rw [q2]; exact h6) q1 q3 (by rw [hsl]; exact k2_hasslot (q4 j g2)) rfl rfl hdg fin9
  | true =>
    rw [if_pos g10] at hlay
    have hcf : (kM χ).cls = cf := by
      obtain ⟨_, _, c', _, _, _, -, -, hf', -, -, -, hown2, -⟩ := Cond.laysFinal_spec hlay
      have e1 : c' = cf := by have := hi.symm.trans hf'; simp at this; exact this.1.symm
      have hdecl : (T j).1 = own := hf rfl _ g1
      rw [hdecl] at hown2
      rw [← e1]; exact Option.some.inj (hown.symm.trans hown2)
    have h6 := u_fits hfc hkC hkind (Or.inr hlay) hi hd hn hfit
    exact W.putFinK K.1 K.2.1 hown (hts _ g5) hi hst hcf hin (by rw [q2]; exact h6) q1 q3 (by rw [hsl]; exact k2_hasslot (q4 j g2)) rfl rfl hdg fin9
theorem C_get (K : KC ω χ A own cc nL d) {index ci j : Nat} {ty : FieldType} {fin : Bool} (g : GF own index ci j ty fin) {a : Nat} (q0 : Nat) (fs : List Value) (he : ws[q0]? = some (a, .inr (ci, fs))) {v : Value} (hv : fs[j]? = some v) (hdg : decode cc pc = .ok (.getfield index, 3)) (kk : C1 Z l ω χ A (pc + 3) nL lv (v :: st) n ws q z) : C1 Z l ω χ A pc nL lv (.ref a :: st) n ws q z := by
  intro H locs ls hn hP hD hS hl
  obtain ⟨⟨C, T, N⟩, ty0, g1, g2, g3, g4, g5, g6, g7, g8, g9, g10⟩ := g
  exact va_get K.1 K.2.1 K.2.2.2.2.1 g6 K.2.2.2.1 K.2.2.2.2.2.1 hP q0 he g1 j g2 (K.2.2.2.2.1 _ g5) (fun _ q => q) hv hdg (kk H locs ls hn hP hD hS hl)
theorem C_alen (K : KC ω χ A own cc nL d) {a : Nat} (q0 t0 : Nat) {cA : ClassId} {x : vp_A} (he : ws[q0]? = some (a, .inl (cA, x))) {ty : FieldType} (ht : (jT ω)[t0]? = some (cA, ty)) (v : Int32) (hv : Int32.ofNat x.1 = v) (hdg : decode cc pc = .ok (.arraylength, 1)) (kk : C1 Z l ω χ A (pc + 1) nL lv (.int v :: st) n ws q z) : C1 Z l ω χ A pc nL lv (.ref a :: st) n ws q z := by
  intro H locs ls hn hP hD hS hl
  exact va_alen K.1 K.2.1 K.2.2.2.2.2.1 hP q0 t0 he ht hv hdg (kk H locs ls hn hP hD hS hl)
theorem C_iast (K : KC ω χ A own cc nL d) {a : Nat} (q0 : Nat) {N' : Nat} {f : Nat → Int32} (he : ws[q0]? = some (a, .inl (ω.2.2.1.1, N', .inl f))) {i x : Int32} (hin : vp_in i N') (hdg : decode cc pc = .ok (.iastore, 1)) (kk : C1 Z l ω χ A (pc + 1) nL lv st n (ws.set q0 (a, .inl (ω.2.2.1.1, N', .inl (upd f i.toNatClampNeg x)))) q z) : C1 Z l ω χ A pc nL lv (.int x :: .int i :: .ref a :: st) n ws q z := by
  intro H locs ls hn hP hD hS hl
  refine W.iast K.1 K.2.1 (hP q0 _ he) ((K.2.2.2.2.2.1.2 0 _ rfl).1 N' (fun j => .int (f j))) (fun q => by cases q) (by show ¬ (i < 0 ∨ (arrV _ _ _).slots.size ≤ _); rw [arrV_size]; exact hin) rfl rfl hdg fun H1 e z1 oq => ?_
  refine kk H1 _ ls (z1.trans hn) (hP.set hD he ?_ oq) (hD.set he) (hS.put z1 oq (hD.2 q0 _ he)) hl
  show H1[a]? = some (vp_cell _ _)
  rw [e]
  rw [vp_cell_i, vp_cell_i, arrV_store]
  congr 2
  funext j
  simp only [updV, upd]
  split <;> rfl
theorem C_aast (K : KC ω χ A own cc nL d) {a : Nat} (q0 t0 qk ci : Nat) {cA : ClassId} {r : vw_C} {N' v : Nat} {vs : List Value} {f : Nat → Option Nat} (he : ws[q0]? = some (a, .inl (cA, N', .inr (.inr (.inr (.inr f)))))) (ht : (jT ω)[t0]? = some (cA, .object r.1)) (hv : ws[qk]? = some (v, .inr (ci, vs))) (hc : vwCl[ci]? = some r) {i : Int32} (hin : vp_in i N') (hdg : decode cc pc = .ok (.aastore, 1)) (kk : C1 Z l ω χ A (pc + 1) nL lv st n (ws.set q0 (a, .inl (cA, N', .inr (.inr (.inr (.inr (va_up f i.toNatClampNeg (some v)))))))) q z) : C1 Z l ω χ A pc nL lv (.ref v :: .int i :: .ref a :: st) n ws q z := by
  intro H locs ls hn hP hD hS hl
  have hK := K.2.2.2.2.2.1
  have hlt : i.toNatClampNeg < N' := Nat.not_le.mp fun q => hin (Or.inr q)
  have h0 : ¬ i < 0 := fun q => hin (Or.inl q)
  obtain ⟨r', hr', cellV, g1, g2, g3, -⟩ := hP qk _ hv
  have hcls := (hK.1 ci r hc).2
  obtain ⟨kA, comp, k1, k2, k3, -⟩ := (hK.2 t0 _ ht).2
  have hcomp : comp = ω.2.1.1 ci := Option.some.inj (k3.symm.trans hcls.1)
  subst hcomp
  obtain ⟨kC, hkC, -⟩ := hcls.2
  refine W.aast K.1 K.2.1 (hP q0 _ he) (fun q h => by cases h) (fun h => by cases h) k1 k2 rfl hkC ⟨h0, by show _ < (arrV _ _ _).slots.size; rw [arrV_size]; exact hlt⟩ g1 (fun q h => by rw [g3] at h; cases h) (by rw [g2]; exact hkC) (by rw [g2]; exact va_assign hcls) rfl rfl hdg fun H1 e z1 oq => ?_
  refine kk H1 _ ls (z1.trans hn) (hP.set hD he ?_ oq) (hD.set he) (hS.put z1 oq (hD.2 q0 _ he)) hl
  show H1[a]? = some (vp_cell _ _)
  rw [e, vp_cell_q, vp_cell_q, arrV_store]
  congr 2
  funext j
  simp only [updV, va_up]
  split <;> rfl
theorem C_widen {q' z' : Nat} (h1 : q ≤ q') (h2 : z ≤ z') (kk : C1 Z l ω χ A pc nL lv st n ws q' z') : C1 Z l ω χ A pc nL lv st n ws q z := by
  intro H locs ls hn hP hD hS hl
  exact W.widen h1 h2 (kk H locs ls hn hP hD hS hl)
theorem C_ws {ws' : va_W} (e : ws = ws') (kk : C1 Z l ω χ A pc nL lv st n ws' q z) : C1 Z l ω χ A pc nL lv st n ws q z := e ▸ kk
theorem C_call (K : KC ω χ A own cc nL d) {index nL1 d1 a n' mc ms ci : Nat} {fs : List Value} {y : MethodName} {cc1 : ByteArray} {ws1 wr : va_W} (isC isR : List Nat) (hC : isC.map (fun i => ws[i]?) = [(a, .inr (ci, fs))].map some) (hR : isR.map (fun i => ws[i]?) = wr.map some) (hnd : va_nd isR = true) (hdis : ∀ i ∈ isR, i ∉ isC)
    (hM : CM l ω y cc1 nL1 d1 a n [(a, .inr (ci, fs))] n' ws1 mc ms) (hb : ω.1 ≤ a ∧ ω.1 ≤ n) (hV : (Cond.methodLink own index y ∈ jw ∨ ∃ host, (own, index, y, host) ∈ nestC) ∧ Cond.instanceMethod y ∈ jw ∧ Cond.initialized y.cls ∈ jw ∧ Cond.code y cc1 nL1 none ∈ jw ∧ okY y 0 ∧ nL1 ≤ 40 ∧ y.name = "<init>") (hd : d1 + 1 ≤ d) (hc : (st.map fun v => v.category).sum ≤ 8) (hcells : q + mc ≤ (kR χ).cells) (hslots : z + ms ≤ (kR χ).slots) (hdg : decode cc pc = .ok (.invokespecial index, 3))
    (kk : C1 Z l ω χ A (pc + 3) nL lv st n' (wr ++ ws1) (q + mc) (z + ms)) : C1 Z l ω χ A pc nL lv (.ref a :: st) n ws q z := by
  intro H locs ls hn hP hD hS hl
  subst hn
  obtain ⟨v1, v2, v4, v5, v6, v7, v8⟩ := hV
  have hts := K.2.2.2.2.1
  have hR9 := K.2.2.2.2.2.2.2.1
  have hA := K.2.2.2.2.2.2.2.2.1
  have hroom : (rmC d1 mc ms).frames + 1 ≤ (kR χ).frames ∧ 8 + (nL1 + 11) + (rmC d1 mc ms).locals ≤ (kR χ).locals := ⟨Nat.le_trans hd hR9.1, by show 8 + (nL1 + 11) + 64 * d1 ≤ _; omega⟩
  have hMet := hM hb.1 hb.2
  have hPc := hP.sub (ws' := [(a, .inr (ci, fs))]) isC (by
    have : isC.filterMap (fun i => ws[i]?) = (isC.map (fun i => ws[i]?)).filterMap id := by rw [List.filterMap_map]; rfl
    rw [this, hC]; rfl)
  have hSj : va_S (jA ω) (kS χ).heap H locs := ⟨hS.1, fun x h1 h2 => hS.2.1 x h1 (fun h => h2 (K.2.2.2.2.2.2.2.2.2 _ h)), fun x hx => K.2.2.2.2.2.2.2.2.2 _ (hS.2.2 x hx)⟩
  have hFc := va_free (wc := [(a, .inr (ci, fs))]) hD hS hA isC hC
  have hDc : va_D (fun _ => True) [(a, (.inr (ci, fs) : va_E))] := ⟨fun i j p q hi hj _ => by
    have hi' := (List.getElem?_eq_some_iff.mp hi).1
    have hj' := (List.getElem?_eq_some_iff.mp hj).1
    simp at hi' hj'
    omega, fun _ _ _ => trivial⟩
  have hpre : PreS (kS χ) H (va_Pc [.ref a] (fun U => U.heap.size = H.size ∧ va_P ω.2.1 vwCl [(a, .inr (ci, fs))] U.heap ∧ va_D (fun _ => True) [(a, .inr (ci, fs))] ∧ va_K ω.2.1 vwCl (jT ω) U ∧ SC ω U)) (.ref a :: []) := by
    refine ⟨?_, fun U hU hW => ⟨rfl, by rw [hU], by rw [hU]; exact hPc, hDc, va_K.moved hW.alike K.2.2.2.2.2.1, ?_⟩⟩
    · intro a' U g mk q
      obtain ⟨q0, q1, qP, qD, qK, ⟨p1, p2, p3, p4⟩, q5, q6, q7⟩ := q
      exact ⟨q0, q1, qP, qD, va_K.moved (u := U) (U := U.calling g mk a') (Vm.Alike.refl U.vm) qK, ⟨p1.moved (U := U.calling g mk a') (Vm.Alike.refl U.vm), fun i hi => (p2 i hi).same (U := U.calling g mk a') rfl, p3.moved (U := U.calling g mk a') (Vm.Alike.refl U.vm), fun z hz => (p4 z hz).same (U := U.calling g mk a') rfl rfl⟩, va_AO.moved (u := U) (U := U.calling g mk a') (Vm.Alike.refl U.vm) q5, va_AO.moved (u := U) (U := U.calling g mk a') (Vm.Alike.refl U.vm) q6, fun z hz => (q7 z hz).same (U := U.calling g mk a') rfl rfl⟩
    · have hSC := K.2.2.2.2.2.2.1
      exact ⟨SS.to hSC.1 hSj hU hW, hSC.2.1.moved hW.alike, hSC.2.2.1.moved hW.alike, fun z hz => va_Nw.warmM hW (hSC.2.2.2 z hz)⟩
  have hrun : va_Run (kP χ) l (kE χ) (kR χ) (kS χ) (kM χ) (kA χ) (kB χ) (kH χ) (kD χ) H locs q z mc ms (F0 (kM χ) pc ls (.ref a :: st)) st ((fun _ st oc t => oc = .returned none ∧ t.heap.size = n' ∧ va_P ω.2.1 vwCl ws1 t.heap ∧ va_D (va_A [(a, .inr (ci, fs))] H.size) ws1 ∧ va_F (va_A [(a, .inr (ci, fs))] H.size) st t : Array Value → State → Outcome → State → Prop) (Value.ref a :: []).toArray) (va_A [(a, .inr (ci, fs))] H.size) := by
    rcases v1 with v1 | ⟨host, v1⟩
    · exact va_runI (cc := cc) (As := []) (rest := st) (b := a) (n := 0) ⟨K.1, K.2.1, K.2.2.1, K.2.2.2.1, hts⟩ hMet ⟨callB_of 0 hts (jw_code v5) rfl rfl rfl (hts _ v4) (hts _ v1) v6 hroom, v8, hts _ v2⟩ hpre rfl rfl hl.1 rfl (lv_room hc) hdg ⟨hcells, hslots⟩
    · exact va_runIN (cc := cc) (As := []) (rest := st) (b := a) (n := 0) (host := host) ⟨K.1, K.2.1, K.2.2.1, K.2.2.2.1, hts⟩ hMet ⟨va_cnB 0 hts (jw_code v5) rfl rfl rfl (K.2.2.2.2.2.2.1.2.2.2 _ v1) (hts _ v4) v6 hroom, v8, hts _ v2⟩ hpre rfl rfl hl.1 rfl (lv_room hc) hdg ⟨hcells, hslots⟩
  intro T hT X
  obtain ⟨v, st₀, t, T', L, h0, X', hL, e1, e2, ⟨hv, hz1, hPt, hDt, hz2, hk⟩, stp⟩ := hrun T hT X
  cases hv
  rw [h0] at hz2 hk
  obtain ⟨hP2, hD2⟩ := va_join (wc := [(a, .inr (ci, fs))]) hP hD isC isR hC hR hnd hdis (H1 := t.heap) (fun q h1 h2 => hk q h1 h2) hFc hPt hDt
  obtain ⟨t2, a1, b1⟩ := kk T'.heap (locs ++ L) ls (by rw [e1]; exact hz1) (by rw [e1]; exact hP2) hD2
    ⟨Nat.le_trans hS.1 (by rw [e1]; exact hz2), fun q h1 h2 => by rw [e1, hk q (Nat.lt_of_lt_of_le h1 hS.1) (fun h => h2 (hFc q h))]; exact hS.2.1 q h1 h2, fun q hq => by
      rcases List.mem_append.mp hq with h | h
      · exact hS.2.2 q h
      · exact hFc _ (hL q h)⟩ hl T' rfl X'
  exact ⟨t2, stp t2 a1, b1⟩
end CR
/-- a constructor's last instruction -/
theorem C_vret {l : Launch} {ω : WX} {χ : KT} {A : Nat → Prop} {own : String} {cc : ByteArray} {d pc nL n n' mc ms q z : Nat} {lv : List (Nat × Value)} {ws wsE ws' : va_W} {n0 : Nat} (K : KC ω χ A own cc nL d) (hr : (kH χ).sig.returnType = none) (hlocks : (kH χ).locks = false) (hA : A = va_A ws n0) (hq : q ≤ mc) (hz : z ≤ ms) (hn : n = n') (is : List Nat) (h1 : is.filterMap (fun i => wsE[i]?) = ws') (h2 : is.map (fun i => wsE[i]?) = ws'.map some) (h3 : va_nd is = true) (hdg : decode cc pc = .ok (.return_, 1)) : C1 (ZC ω χ ws n0 n' ws' mc ms) l ω χ A pc nL lv [] n wsE q z := by
  intro H locs ls hn1 hP hD hS hl
  subst hA
  refine W.widen hq hz ?_
  exact W.vret K.1 K.2.1 hr (fun t ht hW => ⟨rfl, by rw [ht, hn1, hn], by rw [ht]; exact hP.sub is h1, hD.sub is h3 h2, hS.F ht⟩) hS.2.2 hdg (hlocks := hlocks)
