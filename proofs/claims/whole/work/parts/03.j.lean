/-! the world of this claim: by program -/
def nC : Nat := 113
def layL : List Nat := [6, 2, 8, 1012, 1008, 1050, 3, 1050, 1050, 3, 1050, 1050, 1020, 0, 1003, 0, 1003, 0, 1003, 0, 1003, 0, 1003, 0, 1003, 0, 1003, 0, 1003, 2, 8, 1012, 1008, 1050, 3, 1050, 1050, 3, 1050, 1050, 1020, 0, 1003, 0, 1003, 0, 1003, 0, 1003, 0, 1003, 0, 1003, 0, 1003, 0, 1003, 2, 8, 1012, 1008, 1050, 3, 1050, 1050, 3, 1050, 1050, 1020, 0, 1003, 0, 1003, 0, 1003, 0, 1003, 0, 1003, 0, 1003, 0, 1003, 0, 1003, 9, 4, 3, 1050, 1050, 1000, 5, 1040, 1006, 1, 1040, 1, 1040, 1, 1040, 1, 1040, 7, 1262, 1262, 1262, 1262, 1006, 1004, 1004, 1160, 1040, 1040]
def nfL : List Nat := [6, 3, 13, 4, 6, 5, 8, 24]
def fkL : List (List Nat) := [[0, 0, 0, 0, 0, 3], [0, 0, 3], [3, 0, 4, 5, 0, 0, 0, 6, 0, 7, 10, 13, 0], [0, 3, 0, 4], [3, 1, 0, 1, 0, 0], [3, 0, 0, 0, 0], [3, 31, 59, 0, 87, 88, 93, 95], [3, 4, 5, 6, 0, 0, 7, 0, 0, 0, 0, 0, 0, 0, 0, 8, 9, 10, 11, 12, 0, 0, 0, 0]]
def strL : List (Nat × String) := [(26, ""), (44, "tws"), (46, "abh"), (107, "!("), (109, ")"), (92, "*/%"), (87, "+-"), (82, "<=>"), (77, "&"), (65, "|")]
def lenS : List Nat := [0, 3, 3, 2, 1, 3, 2, 3, 1, 1]
def bytS : List (List Int32) := [[], [116, 119, 115], [97, 98, 104], [33, 40], [41], [42, 47, 37], [43, 45], [60, 61, 62], [38], [124]]
def nestL : List (String × Nat × MethodName × String) := [("SaltClouds$Cloud", 46, (⟨"SaltClouds", "tasteBy", "(II)I"⟩ : MethodName), "SaltClouds"), ("SaltClouds$Sky", 117, (⟨"SaltClouds", "isPlace", "(I)Z"⟩ : MethodName), "SaltClouds"), ("SaltClouds$Sky", 179, (⟨"SaltClouds", "tasteBy", "(II)I"⟩ : MethodName), "SaltClouds"), ("SaltClouds$Voices", 44, (⟨"SaltClouds", "kindAbove", "(I)I"⟩ : MethodName), "SaltClouds")]
/-! THE WORLD: one block of cells from a place on, laid once for all; 'lay k' is the kind of its cell k. What the cells hold of numbers is a memory: cell, place, number. -/
abbrev Mem : Type := Nat → Nat → Int32
def lay (k : Nat) : Nat := layL.getD k 10
def nf (ci : Nat) : Nat := nfL.getD ci 0
/-- 0: a number; 1: a reference told by the memory; n + 2: the reference to the cell n behind -/
def fk (ci j : Nat) : Nat := (fkL.getD ci []).getD j 0
/-- the place of the block; what the tables say of the classes; the classes of the arrays; the String constants, and their bytes -/
abbrev WX : Type := Nat × va_G × (ClassId × ClassId × ClassId) × (Nat → Nat) × (Nat → Nat)
def adr (ω : WX) (x : Int32) : Nat := if x < 0 then ω.2.2.2.1 ((-x).toNatClampNeg - 1) else ω.1 + x.toNatClampNeg
def fv (ω : WX) (h : Mem) (k j : Nat) : Nat → Value
  | 0 => .int (h k j)
  | 1 => .ref (adr ω (h k j))
  | n + 2 => .ref (ω.1 + (k + n))
def flds (ω : WX) (h : Mem) (k ci : Nat) : List Value := (List.range (nf ci)).map fun j => fv ω h k j (fk ci j)
def cont (ω : WX) (h : Mem) (k : Nat) : va_E :=
  if lay k < 8 then .inr (lay k, flds ω h k (lay k))
  else if lay k = 8 then .inl (ω.2.2.1.2.1, 8, .inr (.inr (.inr (.inr (fun i => some (ω.1 + (k + 11 + 2 * i)))))))
  else if lay k = 9 then .inl (ω.2.2.1.2.2, 4, .inr (.inr (.inr (.inr (fun i => some (ω.1 + (k + 9 + 2 * i)))))))
  else .inl (ω.2.2.1.1, lay k - 1000, .inl (h k))
def wsOf (ω : WX) (h : Mem) : va_W := (List.range nC).map fun k => (ω.1 + k, cont ω h k)
def jA (ω : WX) : Nat → Prop := fun q => ω.1 ≤ q
theorem ws_at {ω : WX} {h : Mem} {k : Nat} (hk : k < nC) : (wsOf ω h)[k]? = some (ω.1 + k, cont ω h k) := by
  simp [wsOf, List.getElem?_map, List.getElem?_range, hk]
theorem ws_inv {ω : WX} {h : Mem} {k : Nat} {q : Nat × va_E} (hk : (wsOf ω h)[k]? = some q) : k < nC ∧ q = (ω.1 + k, cont ω h k) := by
  have hl : k < nC := by
    have := (List.getElem?_eq_some_iff.mp hk).1
    simpa [wsOf] using this
  exact ⟨hl, by rw [ws_at hl] at hk; exact (Option.some.inj hk).symm⟩
theorem ws_D (ω : WX) (h : Mem) : va_D (jA ω) (wsOf ω h) := by
  refine ⟨fun i j p q hi hj e => ?_, fun k q hk => ?_⟩
  · obtain ⟨-, rfl⟩ := ws_inv hi
    obtain ⟨-, rfl⟩ := ws_inv hj
    have e' : ω.1 + i = ω.1 + j := e
    omega
  · obtain ⟨-, rfl⟩ := ws_inv hk
    exact Nat.le_add_right _ _
theorem cont_congr {ω : WX} {h h' : Mem} {k : Nat} (e : h' k = h k) : cont ω h' k = cont ω h k := by
  unfold cont flds
  have e2 : ∀ j, fv ω h' k j = fv ω h k j := by
    intro j
    funext n
    match n with
    | 0 => simp [fv, e]
    | 1 => simp [fv, e]
    | n + 2 => simp [fv]
  simp only [e, e2]
theorem ws_set {ω : WX} {h h' : Mem} {k : Nat} (hk : k < nC) (e : ∀ a, a ≠ k → h' a = h a) : (wsOf ω h).set k (ω.1 + k, cont ω h' k) = wsOf ω h' := by
  apply List.ext_getElem?
  intro i
  by_cases hi : i = k
  · subst hi
    rw [List.getElem?_set_self (by simpa [wsOf] using hk), ws_at hk]
  · rw [List.getElem?_set_ne (Ne.symm hi)]
    by_cases hl : i < nC
    · rw [ws_at hl, ws_at hl, cont_congr (e i hi)]
    · simp [wsOf, List.getElem?_map, hl]
def upm (h : Mem) (k j : Nat) (x : Int32) : Mem := fun a b => if a = k ∧ b = j then x else h a b
def rwm (h : Mem) (k : Nat) (f : Nat → Int32) : Mem := fun a => if a = k then f else h a
theorem upm_off {h : Mem} {k j : Nat} {x : Int32} : ∀ a, a ≠ k → upm h k j x a = h a := by
  intro a ha
  funext b
  simp [upm, ha]
theorem rwm_off {h : Mem} {k : Nat} {f : Nat → Int32} : ∀ a, a ≠ k → rwm h k f a = h a := by
  intro a ha
  simp [rwm, ha]
theorem upm_row {h : Mem} {k j : Nat} {x : Int32} : upm h k j x k = upd (h k) j x := by
  funext b
  simp [upm, upd]
theorem rwm_row {h : Mem} {k : Nat} {f : Nat → Int32} : rwm h k f k = f := by simp [rwm]
theorem lay_lt {k t : Nat} (h : lay k = t) (ht : t ≠ 10) : k < nC := by
  rcases Nat.lt_or_ge k nC with q | q
  · exact q
  · exfalso
    apply ht
    rw [← h]
    have hl : layL.length = nC := by decide +kernel
    have hn : layL[k]? = none := List.getElem?_eq_none (by omega)
    simp [lay, List.getD, hn]
theorem cont_obj {ω : WX} {h : Mem} {k ci : Nat} (hk : lay k = ci) (hc : ci < 8) : cont ω h k = .inr (ci, flds ω h k ci) := by
  unfold cont
  rw [hk, if_pos hc]
theorem cont_arr {ω : WX} {h : Mem} {k n : Nat} (hk : lay k = 1000 + n) : cont ω h k = .inl (ω.2.2.1.1, n, .inl (h k)) := by
  unfold cont
  rw [hk, if_neg (by omega), if_neg (by omega), if_neg (by omega), Nat.add_sub_cancel_left]
theorem flds_at {ω : WX} {h : Mem} {k ci j : Nat} (hj : j < nf ci) : (flds ω h k ci)[j]? = some (fv ω h k j (fk ci j)) := by
  simp [flds, List.getElem?_map, List.getElem?_range, hj]
theorem flds_set {ω : WX} {h : Mem} {k ci j : Nat} {x : Int32} (hj : j < nf ci) (hf : fk ci j = 0) : (flds ω h k ci).set j (.int x) = flds ω (upm h k j x) k ci := by
  apply List.ext_getElem?
  intro i
  by_cases hi : i = j
  · subst hi
    rw [List.getElem?_set_self (by simpa [flds] using hj), flds_at hj, hf]
    simp [fv, upm]
  · rw [List.getElem?_set_ne (Ne.symm hi)]
    by_cases hl : i < nf ci
    · rw [flds_at hl, flds_at hl]
      congr 1
      generalize fk ci i = n
      match n with
      | 0 => simp [fv, upm, hi]
      | 1 => simp [fv, upm, hi]
      | n + 2 => simp [fv]
    · simp [flds, List.getElem?_map, hl]
theorem flds_setR {ω : WX} {h : Mem} {k ci j : Nat} {x : Int32} (hj : j < nf ci) (hf : fk ci j = 1) : (flds ω h k ci).set j (.ref (adr ω x)) = flds ω (upm h k j x) k ci := by
  apply List.ext_getElem?
  intro i
  by_cases hi : i = j
  · subst hi
    rw [List.getElem?_set_self (by simpa [flds] using hj), flds_at hj, hf]
    simp [fv, upm]
  · rw [List.getElem?_set_ne (Ne.symm hi)]
    by_cases hl : i < nf ci
    · rw [flds_at hl, flds_at hl]
      congr 1
      generalize fk ci i = n
      match n with
      | 0 => simp [fv, upm, hi]
      | 1 => simp [fv, upm, hi]
      | n + 2 => simp [fv]
    · simp [flds, List.getElem?_map, hl]
/-- the words that stay true: those of the tables that a callee may be told -/
def jw : List Cond := lw_tbl.filter goodWord
theorem jw_at {w : Cond} (i : Nat) (h : lw_tbl[i]? = some w) (hg : goodWord w = true) : w ∈ jw := List.mem_filter.mpr ⟨List.mem_of_getElem? h, hg⟩
theorem jw_good : GoodIn jw jw := fun w h => ⟨h, good_of_word (List.mem_filter.mp h).2⟩
/-- String constants and the outer class's own static methods -/
def SS (ω : WX) (U : State) : Prop :=
  vk_S 10 lenS bytS ω.2.2.2.1 ω.2.2.2.2 (jA ω) U U.heap ∧ (∀ i, i < 10 → vk_R "SaltClouds$TextReader" (strL.getD i (0, "")).1 (strL.getD i (0, "")).2 (ω.2.2.2.1 i) U) ∧ va_Z "java/lang/String" "COMPACT_STRINGS" "Z" (.int 1) (jA ω) U U.heap ∧ ∀ q ∈ nestL, va_Nw (.methodLinkNest q.1 q.2.1 q.2.2.1 q.2.2.2) U
def jT (ω : WX) : List (ClassId × FieldType) := [(ω.2.2.1.1, .int), (ω.2.2.1.2.1, .object RX0), (ω.2.2.1.2.2, .object RX1)]
def InvS (ω : WX) (h : Mem) (U : State) : Prop := va_P ω.2.1 vwCl (wsOf ω h) U.heap ∧ va_K ω.2.1 vwCl (jT ω) U ∧ SS ω U
theorem SS.to {ω : WX} {s U : State} {H : Heap} {locs : List Loc} (h : SS ω s) (hS : va_S (jA ω) s.heap H locs) (hU : U.heap = H) (hW : s.WarmedH U.vm) : SS ω U := by
  obtain ⟨h1, h2, h3, h4⟩ := h
  refine ⟨?_, fun i hi => (h2 i hi).warm hW, ?_, fun q hq => va_Nw.warmM hW (h4 q hq)⟩
  · rw [hU]
    exact (h1.moved hW.alike).kept hS.2.1
  · rw [hU]
    exact (h3.moved hW.alike).kept hS.2.1
/-! THE JUDGEMENT: from here the method comes to its end as the function says -/
abbrev KT : Type := Program × Env × Room × Nat × Nat × State × MethodId × Array Value × List Frame × Method × Code
abbrev kP (χ : KT) : Program := χ.1
abbrev kE (χ : KT) : Env := χ.2.1
abbrev kR (χ : KT) : Room := χ.2.2.1
abbrev kC (χ : KT) : Nat := χ.2.2.2.1
abbrev kN (χ : KT) : Nat := χ.2.2.2.2.1
abbrev kS (χ : KT) : State := χ.2.2.2.2.2.1
abbrev kM (χ : KT) : MethodId := χ.2.2.2.2.2.2.1
abbrev kA (χ : KT) : Array Value := χ.2.2.2.2.2.2.2.1
abbrev kB (χ : KT) : List Frame := χ.2.2.2.2.2.2.2.2.1
abbrev kH (χ : KT) : Method := χ.2.2.2.2.2.2.2.2.2.1
abbrev kD (χ : KT) : Code := χ.2.2.2.2.2.2.2.2.2.2
def rmOf (d : Nat) : Room := { frames := d, cells := 0, slots := 0, locals := 64 * d }
def Kok (ω : WX) (χ : KT) (own : String) (cc : ByteArray) (nL : Nat) (rt : Option FieldType) (d : Nat) : Prop :=
  (kP χ).tables.exec = Jvm.exec ∧ (kD χ).code = cc ∧ (kD χ).maxLocals = nL ∧ (kS χ).vm.findClass own = some (kM χ).cls ∧ (∀ w ∈ jw, w.before (kA χ) (kS χ) = true) ∧
  (kH χ).sig.returnType = rt ∧ (kH χ).locks = false ∧ va_K ω.2.1 vwCl (jT ω) (kS χ) ∧ SS ω (kS χ) ∧ (d ≤ (kR χ).frames ∧ 64 * d ≤ (kR χ).locals) ∧ (kC χ ≤ (kR χ).cells ∧ kN χ ≤ (kR χ).slots)
def QJ (ω : WX) (v : Option Value) (h' : Mem) : Array Value → State → Outcome → State → Prop := fun _ st oc t => oc = .returned v ∧ va_P ω.2.1 vwCl (wsOf ω h') t.heap ∧ va_F (jA ω) st t
def J {ρ : Type} (Z : ρ → Mem → State → Prop) (l : Launch) (ω : WX) (χ : KT) (pc nL : Nat) (lv : List (Nat × Value)) (st : List Value) (h : Mem) (o : Option (ρ × Mem)) : Prop :=
  ∀ (r : ρ) (h' : Mem), o = some (r, h') → ∀ (H : Heap) (locs : List Loc) (ls : Array Slot), va_P ω.2.1 vwCl (wsOf ω h) H → va_S (jA ω) (kS χ).heap H locs → lv_has ls nL lv →
    W (kP χ) l (kE χ) (kR χ) (kS χ) (kM χ) (kA χ) (kB χ) (kH χ) (kD χ) H locs (kC χ) (kN χ) (Z r h') (F0 (kM χ) pc ls st)
/-- a method's end -/
def ZM {ρ : Type} (rv : ρ → Option Value) (ω : WX) (χ : KT) : ρ → Mem → State → Prop := fun r h' => MQ (kB χ) (QJ ω (rv r) h') (kA χ) (kS χ) (kC χ) (kN χ) (jA ω)
def MC {ρ : Type} (rv : ρ → Option Value) (l : Launch) (ω : WX) (y : MethodName) (cc : ByteArray) (nL : Nat) (rt : Option FieldType) (d : Nat) (as : List Value) (h : Mem) (o : Option (ρ × Mem)) : Prop :=
  ∀ (r : ρ) (h' : Mem), o = some (r, h') → Met l y (Cond.code y cc nL rt :: jw) (rmOf d) (va_Pc as (fun U => InvS ω h U)) (QJ ω (rv r) h') 0 0 (jA ω)
def rvI : Int32 → Option Value := fun x => some (.int x)
def rvV : Unit → Option Value := fun _ => none
def rvR (ω : WX) : Nat → Option Value := fun k => some (.ref (ω.1 + k))
/-- the words of the functions: a memory, a number by name; an index in range; a call -/
def seqh {α : Type} (h : Mem) (k : Mem → α) : α := k h
def seqi {α : Type} (x : Int32) (k : Int32 → α) : α := k x
def ix (i : Int32) : Nat := i.toNatClampNeg
def gin {α : Type} (i : Int32) (n : Nat) (o : Option α) : Option α := if i < 0 ∨ n ≤ i.toNatClampNeg then none else o
def gnz {α : Type} (y : Int32) (o : Option α) : Option α := if y = 0 then none else o
def gbo {α : Type} (x : Int32) (o : Option α) : Option α := if x = 0 ∨ x = 1 then o else none
def bnd {ρ σ : Type} (o : Option (ρ × Mem)) (k : ρ → Mem → Option (σ × Mem)) : Option (σ × Mem) := match o with
  | none => none
  | some q => k q.1 q.2
theorem bnd_some {ρ σ : Type} {o : Option (ρ × Mem)} {k : ρ → Mem → Option (σ × Mem)} {z : σ × Mem} (h : bnd o k = some z) : ∃ r h1, o = some (r, h1) ∧ k r h1 = some z := by
  cases o with
  | none => cases h
  | some q => exact ⟨q.1, q.2, rfl, h⟩
theorem MC.of {ρ : Type} {rv : ρ → Option Value} {l : Launch} {ω : WX} {y : MethodName} {cc : ByteArray} {nL : Nat} {rt : Option FieldType} {d : Nat} {as : List Value} {h : Mem} {o : Option (ρ × Mem)} (hy : plainFor y = true) (lv : List (Nat × Value)) (hlv : lv_args 0 as = lv) (hn : (lg_sl as).length ≤ nL)
    (body : ∀ χ : KT, Kok ω χ y.cls cc nL rt d → J (ZM rv ω χ) l ω χ 0 nL lv [] h o) : MC rv l ω y cc nL rt d as h o := by
  intro r h' ho
  refine va_MetF (cc := cc) (maxL := nL) (ret := rt) hy rfl ?_
  intro p e s m args below meth c s₁ B hml hv
  obtain ⟨rfl, hP, hK, hSS⟩ := hv
  have hts := atoms_spec (ws := Cond.code y cc nL rt :: jw) B.pre
  have K : Kok ω (p, e, rmOf d, 0, 0, s, m, as.toArray, below, meth, c) y.cls cc nL rt d := ⟨B.exec, B.bytes, hml, findClass_of_methodNamed B.named, fun w hw => hts w (List.mem_cons_of_mem _ hw), B.returns, B.notSynchronized, hK, hSS, ⟨Nat.le_refl _, Nat.le_refl _⟩, Nat.le_refl _, Nat.le_refl _⟩
  have hl := lv_entry as (n := nL) hn
  rw [lg_entry_eq]
  rw [hlv] at hl
  exact body _ K r h' ho s.heap [] _ hP va_S.rf hl
section JR
variable {ρ : Type} {Z : ρ → Mem → State → Prop} {l : Launch} {ω : WX} {χ : KT} {own : String} {cc : ByteArray} {d pc nL : Nat} {rt : Option FieldType} {lv lv' : List (Nat × Value)} {st : List Value} {h : Mem} {o o1 o2 : Option (ρ × Mem)}
theorem J_iconst (K : Kok ω χ own cc nL rt d) {n : Int} (v : Int32) (hdg : decode cc pc = .ok (.iconst n, 1)) (hv : Int32.ofInt n = v) (kk : J Z l ω χ (pc + 1) nL lv (.int v :: st) h o) : J Z l ω χ pc nL lv st h o := by
  intro r h' ho H locs ls hP hS hl
  exact lv_iconst K.1 K.2.1 hdg hv (kk r h' ho H locs ls hP hS hl)
theorem J_bipush (K : Kok ω χ own cc nL rt d) {n : Int} (v : Int32) (hdg : decode cc pc = .ok (.bipush n, 2)) (hv : (Int8.ofInt n).toInt32 = v) (kk : J Z l ω χ (pc + 2) nL lv (.int v :: st) h o) : J Z l ω χ pc nL lv st h o := by
  intro r h' ho H locs ls hP hS hl
  exact lv_bipush K.1 K.2.1 hdg hv (kk r h' ho H locs ls hP hS hl)
theorem J_sipush (K : Kok ω χ own cc nL rt d) {n : Int} (v : Int32) (hdg : decode cc pc = .ok (.sipush n, 3)) (hv : (Int16.ofInt n).toInt32 = v) (kk : J Z l ω χ (pc + 3) nL lv (.int v :: st) h o) : J Z l ω χ pc nL lv st h o := by
  intro r h' ho H locs ls hP hS hl
  exact lv_sipush K.1 K.2.1 hdg hv (kk r h' ho H locs ls hP hS hl)
theorem J_ldc (K : Kok ω χ own cc nL rt d) {index : Nat} {v : Int32} (hw : Cond.constant own index v ∈ jw) (hdg : decode cc pc = .ok (.ldc index, 2)) (kk : J Z l ω χ (pc + 2) nL lv (.int v :: st) h o) : J Z l ω χ pc nL lv st h o := by
  intro r h' ho H locs ls hP hS hl
  exact lv_ldc K.1 K.2.1 K.2.2.2.1 (K.2.2.2.2.1 _ hw) hdg (kk r h' ho H locs ls hP hS hl)
theorem J_ldcw (K : Kok ω χ own cc nL rt d) {index : Nat} {v : Int32} (hw : Cond.constant own index v ∈ jw) (hdg : decode cc pc = .ok (.ldc_w index, 3)) (kk : J Z l ω χ (pc + 3) nL lv (.int v :: st) h o) : J Z l ω χ pc nL lv st h o := by
  intro r h' ho H locs ls hP hS hl
  exact lv_ldcw K.1 K.2.1 K.2.2.2.1 (K.2.2.2.2.1 _ hw) hdg (kk r h' ho H locs ls hP hS hl)
theorem J_ldc2 (K : Kok ω χ own cc nL rt d) {index : Nat} {v : Int64} (hw : Cond.constantLong own index v ∈ jw) (hdg : decode cc pc = .ok (.ldc2_w index, 3)) (kk : J Z l ω χ (pc + 3) nL lv (.long v :: st) h o) : J Z l ω χ pc nL lv st h o := by
  intro r h' ho H locs ls hP hS hl
  exact lv_ldc2 K.1 K.2.1 K.2.2.2.1 (K.2.2.2.2.1 _ hw) hdg (kk r h' ho H locs ls hP hS hl)
theorem J_iload_n (K : Kok ω χ own cc nL rt d) {k : Fin 4} {x : Int32} (hdg : decode cc pc = .ok (.iload_n k, 1)) (i : Nat) (hi : (k : Nat) = i) (q : Nat) (hq : lv[q]? = some (i, .int x)) (kk : J Z l ω χ (pc + 1) nL lv (.int x :: st) h o) : J Z l ω χ pc nL lv st h o := by
  intro r h' ho H locs ls hP hS hl
  exact lv_iload_n K.1 K.2.1 hdg hi (lv_at hl q hq) (kk r h' ho H locs ls hP hS hl)
theorem J_iload (K : Kok ω χ own cc nL rt d) {i : Nat} {x : Int32} (hdg : decode cc pc = .ok (.iload i, 2)) (q : Nat) (hq : lv[q]? = some (i, .int x)) (kk : J Z l ω χ (pc + 2) nL lv (.int x :: st) h o) : J Z l ω χ pc nL lv st h o := by
  intro r h' ho H locs ls hP hS hl
  exact lv_iload K.1 K.2.1 hdg (lv_at hl q hq) (kk r h' ho H locs ls hP hS hl)
theorem J_lload_n (K : Kok ω χ own cc nL rt d) {k : Fin 4} {x : Int64} (hdg : decode cc pc = .ok (.lload_n k, 1)) (i : Nat) (hi : (k : Nat) = i) (q : Nat) (hq : lv[q]? = some (i, .long x)) (kk : J Z l ω χ (pc + 1) nL lv (.long x :: st) h o) : J Z l ω χ pc nL lv st h o := by
  intro r h' ho H locs ls hP hS hl
  exact lv_lload_n K.1 K.2.1 hdg hi (lv_at hl q hq) (kk r h' ho H locs ls hP hS hl)
theorem J_aload_n (K : Kok ω χ own cc nL rt d) {k : Fin 4} {x : Nat} (hdg : decode cc pc = .ok (.aload_n k, 1)) (i : Nat) (hi : (k : Nat) = i) (q : Nat) (hq : lv[q]? = some (i, .ref x)) (kk : J Z l ω χ (pc + 1) nL lv (.ref x :: st) h o) : J Z l ω χ pc nL lv st h o := by
  intro r h' ho H locs ls hP hS hl
  exact lv_aload_n K.1 K.2.1 hdg hi (lv_at hl q hq) (kk r h' ho H locs ls hP hS hl)
theorem J_aload (K : Kok ω χ own cc nL rt d) {i : Nat} {x : Nat} (hdg : decode cc pc = .ok (.aload i, 2)) (q : Nat) (hq : lv[q]? = some (i, .ref x)) (kk : J Z l ω χ (pc + 2) nL lv (.ref x :: st) h o) : J Z l ω χ pc nL lv st h o := by
  intro r h' ho H locs ls hP hS hl
  exact lv_aload K.1 K.2.1 hdg (lv_at hl q hq) (kk r h' ho H locs ls hP hS hl)
theorem J_istore_n (K : Kok ω χ own cc nL rt d) {k : Fin 4} {x : Int32} (hdg : decode cc pc = .ok (.istore_n k, 1)) (i : Nat) (hi : (k : Nat) = i) (hn : i < nL) (lv' : List (Nat × Value)) (hl' : (i, Value.int x) :: lv.filter (fun q => !(q.1 == i) && !(q.1 + 1 == i && q.2.category == 2)) = lv') (kk : J Z l ω χ (pc + 1) nL lv' st h o) : J Z l ω χ pc nL lv (.int x :: st) h o := by
  intro r h' ho H locs ls hP hS hl
  exact lv_istore_n K.1 K.2.1 hdg hi hl hn hl' (fun ls hl => kk r h' ho H locs ls hP hS hl)
theorem J_istore (K : Kok ω χ own cc nL rt d) {i : Nat} {x : Int32} (hdg : decode cc pc = .ok (.istore i, 2)) (hn : i < nL) (lv' : List (Nat × Value)) (hl' : (i, Value.int x) :: lv.filter (fun q => !(q.1 == i) && !(q.1 + 1 == i && q.2.category == 2)) = lv') (kk : J Z l ω χ (pc + 2) nL lv' st h o) : J Z l ω χ pc nL lv (.int x :: st) h o := by
  intro r h' ho H locs ls hP hS hl
  exact lv_istore K.1 K.2.1 hdg hl hn hl' (fun ls hl => kk r h' ho H locs ls hP hS hl)
theorem J_astore_n (K : Kok ω χ own cc nL rt d) {k : Fin 4} {x : Nat} (hdg : decode cc pc = .ok (.astore_n k, 1)) (i : Nat) (hi : (k : Nat) = i) (hn : i < nL) (lv' : List (Nat × Value)) (hl' : (i, Value.ref x) :: lv.filter (fun q => !(q.1 == i) && !(q.1 + 1 == i && q.2.category == 2)) = lv') (kk : J Z l ω χ (pc + 1) nL lv' st h o) : J Z l ω χ pc nL lv (.ref x :: st) h o := by
  intro r h' ho H locs ls hP hS hl
  exact lv_astore_n K.1 K.2.1 hdg hi hl hn hl' (fun ls hl => kk r h' ho H locs ls hP hS hl)
theorem J_astore (K : Kok ω χ own cc nL rt d) {i : Nat} {x : Nat} (hdg : decode cc pc = .ok (.astore i, 2)) (hn : i < nL) (lv' : List (Nat × Value)) (hl' : (i, Value.ref x) :: lv.filter (fun q => !(q.1 == i) && !(q.1 + 1 == i && q.2.category == 2)) = lv') (kk : J Z l ω χ (pc + 2) nL lv' st h o) : J Z l ω χ pc nL lv (.ref x :: st) h o := by
  intro r h' ho H locs ls hP hS hl
  exact lv_astore K.1 K.2.1 hdg hl hn hl' (fun ls hl => kk r h' ho H locs ls hP hS hl)
theorem J_iinc (K : Kok ω χ own cc nL rt d) {i : Nat} {n : Int} {x : Int32} (v : Int32) (hdg : decode cc pc = .ok (.iinc i n, 3)) (q : Nat) (hq : lv[q]? = some (i, .int x)) (hv : Int32.ofInt n = v) (hn : i < nL) (lv' : List (Nat × Value)) (hl' : (i, Value.int (x + v)) :: lv.filter (fun q => !(q.1 == i) && !(q.1 + 1 == i && q.2.category == 2)) = lv') (kk : J Z l ω χ (pc + 3) nL lv' st h o) : J Z l ω χ pc nL lv st h o := by
  intro r h' ho H locs ls hP hS hl
  exact lv_iinc K.1 K.2.1 hdg hl hq (by rw [hv]) hn hl' (fun ls hl => kk r h' ho H locs ls hP hS hl)
theorem J_goto (K : Kok ω χ own cc nL rt d) {off : Int} (tgt : Nat) (hdg : decode cc pc = .ok (.goto off, 3)) (ht : (pc : Int) + off = (tgt : Int)) (kk : J Z l ω χ tgt nL lv st h o) : J Z l ω χ pc nL lv st h o := by
  intro r h' ho H locs ls hP hS hl
  exact lv_goto K.1 K.2.1 hdg ht (kk r h' ho H locs ls hP hS hl)
theorem J_dup (K : Kok ω χ own cc nL rt d) {va : Value} (hdg : decode cc pc = .ok (.dup, 1)) (hva : va.category = 1) (kk : J Z l ω χ (pc + 1) nL lv (va :: va :: st) h o) : J Z l ω χ pc nL lv (va :: st) h o := by
  intro r h' ho H locs ls hP hS hl
  exact lv_dup K.1 K.2.1 hdg hva (kk r h' ho H locs ls hP hS hl)
theorem J_dup2 (K : Kok ω χ own cc nL rt d) {va vb : Value} (hdg : decode cc pc = .ok (.dup2, 1)) (hva : va.category = 1) (hvb : vb.category = 1) (kk : J Z l ω χ (pc + 1) nL lv (va :: vb :: va :: vb :: st) h o) : J Z l ω χ pc nL lv (va :: vb :: st) h o := by
  intro r h' ho H locs ls hP hS hl
  exact lv_dup2_11 K.1 K.2.1 hdg hva hvb (kk r h' ho H locs ls hP hS hl)
theorem J_pop (K : Kok ω χ own cc nL rt d) {va : Value} (hdg : decode cc pc = .ok (.pop, 1)) (hva : va.category = 1) (kk : J Z l ω χ (pc + 1) nL lv st h o) : J Z l ω χ pc nL lv (va :: st) h o := by
  intro r h' ho H locs ls hP hS hl
  exact lv_pop K.1 K.2.1 hdg hva (kk r h' ho H locs ls hP hS hl)
theorem J_iadd (K : Kok ω χ own cc nL rt d) {x y : Int32} (hdg : decode cc pc = .ok (.iadd, 1)) (kk : J Z l ω χ (pc + 1) nL lv (.int (x + y) :: st) h o) : J Z l ω χ pc nL lv (.int y :: .int x :: st) h o := by
  intro r h' ho H locs ls hP hS hl
  exact lv_iadd K.1 K.2.1 hdg (kk r h' ho H locs ls hP hS hl)
theorem J_isub (K : Kok ω χ own cc nL rt d) {x y : Int32} (hdg : decode cc pc = .ok (.isub, 1)) (kk : J Z l ω χ (pc + 1) nL lv (.int (x - y) :: st) h o) : J Z l ω χ pc nL lv (.int y :: .int x :: st) h o := by
  intro r h' ho H locs ls hP hS hl
  exact lv_isub K.1 K.2.1 hdg (kk r h' ho H locs ls hP hS hl)
theorem J_imul (K : Kok ω χ own cc nL rt d) {x y : Int32} (hdg : decode cc pc = .ok (.imul, 1)) (kk : J Z l ω χ (pc + 1) nL lv (.int (x * y) :: st) h o) : J Z l ω χ pc nL lv (.int y :: .int x :: st) h o := by
  intro r h' ho H locs ls hP hS hl
  exact lv_imul K.1 K.2.1 hdg (kk r h' ho H locs ls hP hS hl)
theorem J_iand (K : Kok ω χ own cc nL rt d) {x y : Int32} (hdg : decode cc pc = .ok (.iand, 1)) (kk : J Z l ω χ (pc + 1) nL lv (.int (x &&& y) :: st) h o) : J Z l ω χ pc nL lv (.int y :: .int x :: st) h o := by
  intro r h' ho H locs ls hP hS hl
  exact lv_iand K.1 K.2.1 hdg (kk r h' ho H locs ls hP hS hl)
theorem J_ior (K : Kok ω χ own cc nL rt d) {x y : Int32} (hdg : decode cc pc = .ok (.ior, 1)) (kk : J Z l ω χ (pc + 1) nL lv (.int (x ||| y) :: st) h o) : J Z l ω χ pc nL lv (.int y :: .int x :: st) h o := by
  intro r h' ho H locs ls hP hS hl
  exact lv_ior K.1 K.2.1 hdg (kk r h' ho H locs ls hP hS hl)
theorem J_ixor (K : Kok ω χ own cc nL rt d) {x y : Int32} (hdg : decode cc pc = .ok (.ixor, 1)) (kk : J Z l ω χ (pc + 1) nL lv (.int (x ^^^ y) :: st) h o) : J Z l ω χ pc nL lv (.int y :: .int x :: st) h o := by
  intro r h' ho H locs ls hP hS hl
  exact lv_ixor K.1 K.2.1 hdg (kk r h' ho H locs ls hP hS hl)
theorem J_ishl (K : Kok ω χ own cc nL rt d) {x y : Int32} (hdg : decode cc pc = .ok (.ishl, 1)) (kk : J Z l ω χ (pc + 1) nL lv (.int (x <<< (y &&& 31)) :: st) h o) : J Z l ω χ pc nL lv (.int y :: .int x :: st) h o := by
  intro r h' ho H locs ls hP hS hl
  exact lv_ishl K.1 K.2.1 hdg (kk r h' ho H locs ls hP hS hl)
theorem J_ishr (K : Kok ω χ own cc nL rt d) {x y : Int32} (hdg : decode cc pc = .ok (.ishr, 1)) (kk : J Z l ω χ (pc + 1) nL lv (.int (x >>> (y &&& 31)) :: st) h o) : J Z l ω χ pc nL lv (.int y :: .int x :: st) h o := by
  intro r h' ho H locs ls hP hS hl
  exact lv_ishr K.1 K.2.1 hdg (kk r h' ho H locs ls hP hS hl)
theorem J_land (K : Kok ω χ own cc nL rt d) {x y : Int64} (hdg : decode cc pc = .ok (.land, 1)) (kk : J Z l ω χ (pc + 1) nL lv (.long (x &&& y) :: st) h o) : J Z l ω χ pc nL lv (.long y :: .long x :: st) h o := by
  intro r h' ho H locs ls hP hS hl
  exact lv_land K.1 K.2.1 hdg (kk r h' ho H locs ls hP hS hl)
theorem J_lor (K : Kok ω χ own cc nL rt d) {x y : Int64} (hdg : decode cc pc = .ok (.lor, 1)) (kk : J Z l ω χ (pc + 1) nL lv (.long (x ||| y) :: st) h o) : J Z l ω χ pc nL lv (.long y :: .long x :: st) h o := by
  intro r h' ho H locs ls hP hS hl
  exact lv_lor K.1 K.2.1 hdg (kk r h' ho H locs ls hP hS hl)
def iush (x y : Int32) : Int32 := (x.toUInt32 >>> (y.toUInt32 &&& Int32.toUInt32 31)).toInt32
def lush (x : Int64) (y : Int32) : Int64 := (x.toUInt64 >>> (y.toInt64.toUInt64 &&& Int64.toUInt64 63)).toInt64
def lshl (x : Int64) (y : Int32) : Int64 := x <<< (y.toInt64 &&& 63)
def lshr (x : Int64) (y : Int32) : Int64 := x >>> (y.toInt64 &&& 63)
def irm (x y : Int32) : Int32 := x - x / y * y
def i2b (x : Int32) : Int32 := x.toInt8.toInt32
def i2s (x : Int32) : Int32 := x.toInt16.toInt32
def i2c (x : Int32) : Int32 := (x.toUInt32 % 65536).toInt32
theorem J_iushr (K : Kok ω χ own cc nL rt d) {x y : Int32} (hdg : decode cc pc = .ok (.iushr, 1)) (kk : J Z l ω χ (pc + 1) nL lv (.int (iush x y) :: st) h o) : J Z l ω χ pc nL lv (.int y :: .int x :: st) h o := by
  intro r h' ho H locs ls hP hS hl
  exact lv_iushr K.1 K.2.1 hdg rfl (kk r h' ho H locs ls hP hS hl)
theorem J_lushr (K : Kok ω χ own cc nL rt d) {x : Int64} {y : Int32} (hdg : decode cc pc = .ok (.lushr, 1)) (kk : J Z l ω χ (pc + 1) nL lv (.long (lush x y) :: st) h o) : J Z l ω χ pc nL lv (.int y :: .long x :: st) h o := by
  intro r h' ho H locs ls hP hS hl
  exact lv_lushr K.1 K.2.1 hdg rfl (kk r h' ho H locs ls hP hS hl)
theorem J_lshl (K : Kok ω χ own cc nL rt d) {x : Int64} {y : Int32} (hdg : decode cc pc = .ok (.lshl, 1)) (kk : J Z l ω χ (pc + 1) nL lv (.long (lshl x y) :: st) h o) : J Z l ω χ pc nL lv (.int y :: .long x :: st) h o := by
  intro r h' ho H locs ls hP hS hl
  exact lv_lshl K.1 K.2.1 hdg rfl (kk r h' ho H locs ls hP hS hl)
theorem J_lshr (K : Kok ω χ own cc nL rt d) {x : Int64} {y : Int32} (hdg : decode cc pc = .ok (.lshr, 1)) (kk : J Z l ω χ (pc + 1) nL lv (.long (lshr x y) :: st) h o) : J Z l ω χ pc nL lv (.int y :: .long x :: st) h o := by
  intro r h' ho H locs ls hP hS hl
  exact lv_lshr K.1 K.2.1 hdg rfl (kk r h' ho H locs ls hP hS hl)
theorem J_i2b (K : Kok ω χ own cc nL rt d) {x : Int32} (hdg : decode cc pc = .ok (.i2b, 1)) (kk : J Z l ω χ (pc + 1) nL lv (.int (i2b x) :: st) h o) : J Z l ω χ pc nL lv (.int x :: st) h o := by
  intro r h' ho H locs ls hP hS hl
  exact lv_i2b K.1 K.2.1 hdg rfl (kk r h' ho H locs ls hP hS hl)
theorem J_i2s (K : Kok ω χ own cc nL rt d) {x : Int32} (hdg : decode cc pc = .ok (.i2s, 1)) (kk : J Z l ω χ (pc + 1) nL lv (.int (i2s x) :: st) h o) : J Z l ω χ pc nL lv (.int x :: st) h o := by
  intro r h' ho H locs ls hP hS hl
  exact lv_i2s K.1 K.2.1 hdg rfl (kk r h' ho H locs ls hP hS hl)
theorem J_i2c (K : Kok ω χ own cc nL rt d) {x : Int32} (hdg : decode cc pc = .ok (.i2c, 1)) (kk : J Z l ω χ (pc + 1) nL lv (.int (i2c x) :: st) h o) : J Z l ω χ pc nL lv (.int x :: st) h o := by
  intro r h' ho H locs ls hP hS hl
  exact lv_i2c K.1 K.2.1 hdg rfl (kk r h' ho H locs ls hP hS hl)
theorem J_i2l (K : Kok ω χ own cc nL rt d) {x : Int32} (hdg : decode cc pc = .ok (.i2l, 1)) (kk : J Z l ω χ (pc + 1) nL lv (.long x.toInt64 :: st) h o) : J Z l ω χ pc nL lv (.int x :: st) h o := by
  intro r h' ho H locs ls hP hS hl
  exact lv_i2l K.1 K.2.1 hdg rfl (kk r h' ho H locs ls hP hS hl)
theorem J_l2i (K : Kok ω χ own cc nL rt d) {x : Int64} (hdg : decode cc pc = .ok (.l2i, 1)) (kk : J Z l ω χ (pc + 1) nL lv (.int x.toInt32 :: st) h o) : J Z l ω χ pc nL lv (.long x :: st) h o := by
  intro r h' ho H locs ls hP hS hl
  exact lv_l2i K.1 K.2.1 hdg rfl (kk r h' ho H locs ls hP hS hl)
theorem J_ineg (K : Kok ω χ own cc nL rt d) {x : Int32} (hdg : decode cc pc = .ok (.ineg, 1)) (kk : J Z l ω χ (pc + 1) nL lv (.int (-x) :: st) h o) : J Z l ω χ pc nL lv (.int x :: st) h o := by
  intro r h' ho H locs ls hP hS hl
  exact lv_ineg K.1 K.2.1 hdg (kk r h' ho H locs ls hP hS hl)
theorem gnz_some {α : Type} {y : Int32} {o : Option α} {z : α} (h : gnz y o = some z) : ¬ y = 0 ∧ o = some z := by
  unfold gnz at h
  split at h
  · cases h
  · exact ⟨by assumption, h⟩
theorem gin_some {α : Type} {i : Int32} {n : Nat} {o : Option α} {z : α} (h : gin i n o = some z) : vp_in i n ∧ o = some z := by
  unfold gin at h
  split at h
  · cases h
  · exact ⟨by assumption, h⟩
theorem gbo_some {α : Type} {x : Int32} {o : Option α} {z : α} (h : gbo x o = some z) : (x = 0 ∨ x = 1) ∧ o = some z := by
  unfold gbo at h
  split at h
  · exact ⟨by assumption, h⟩
  · cases h
theorem J_idiv (K : Kok ω χ own cc nL rt d) {x y : Int32} (hdg : decode cc pc = .ok (.idiv, 1)) (kk : J Z l ω χ (pc + 1) nL lv (.int (x / y) :: st) h o) : J Z l ω χ pc nL lv (.int y :: .int x :: st) h (gnz y o) := by
  intro r h' ho H locs ls hP hS hl
  obtain ⟨hy, ho⟩ := gnz_some ho
  exact lv_idiv K.1 K.2.1 hdg hy (kk r h' ho H locs ls hP hS hl)
theorem J_irem (K : Kok ω χ own cc nL rt d) {x y : Int32} (hdg : decode cc pc = .ok (.irem, 1)) (kk : J Z l ω χ (pc + 1) nL lv (.int (irm x y) :: st) h o) : J Z l ω χ pc nL lv (.int y :: .int x :: st) h (gnz y o) := by
  intro r h' ho H locs ls hP hS hl
  obtain ⟨hy, ho⟩ := gnz_some ho
  exact lv_irem K.1 K.2.1 hdg hy (kk r h' ho H locs ls hP hS hl)
theorem J_if_eq (K : Kok ω χ own cc nL rt d) {x : Int32} {off : Int} (tgt : Nat) (hdg : decode cc pc = .ok (.ifCond .eq off, 3)) (ht : (pc : Int) + off = (tgt : Int)) (k1 : J Z l ω χ tgt nL lv st h o1) (k2 : J Z l ω χ (pc + 3) nL lv st h o2) : J Z l ω χ pc nL lv (.int x :: st) h (if x = 0 then o1 else o2) := by
  intro r h' ho H locs ls hP hS hl
  refine lv_if_eq K.1 K.2.1 hdg ht (fun q => ?_) (fun q => ?_)
  · rw [if_pos q] at ho
    exact k1 r h' ho H locs ls hP hS hl
  · rw [if_neg q] at ho
    exact k2 r h' ho H locs ls hP hS hl
theorem J_if_ne (K : Kok ω χ own cc nL rt d) {x : Int32} {off : Int} (tgt : Nat) (hdg : decode cc pc = .ok (.ifCond .ne off, 3)) (ht : (pc : Int) + off = (tgt : Int)) (k1 : J Z l ω χ (pc + 3) nL lv st h o1) (k2 : J Z l ω χ tgt nL lv st h o2) : J Z l ω χ pc nL lv (.int x :: st) h (if x = 0 then o1 else o2) := by
  intro r h' ho H locs ls hP hS hl
  refine lv_if_ne K.1 K.2.1 hdg ht (fun q => ?_) (fun q => ?_)
  · rw [if_neg q] at ho
    exact k2 r h' ho H locs ls hP hS hl
  · rw [if_pos q] at ho
    exact k1 r h' ho H locs ls hP hS hl
theorem J_if_lt (K : Kok ω χ own cc nL rt d) {x : Int32} {off : Int} (tgt : Nat) (hdg : decode cc pc = .ok (.ifCond .lt off, 3)) (ht : (pc : Int) + off = (tgt : Int)) (k1 : J Z l ω χ tgt nL lv st h o1) (k2 : J Z l ω χ (pc + 3) nL lv st h o2) : J Z l ω χ pc nL lv (.int x :: st) h (if x < 0 then o1 else o2) := by
  intro r h' ho H locs ls hP hS hl
  refine lv_if_lt K.1 K.2.1 hdg ht (fun q => ?_) (fun q => ?_)
  · rw [if_pos q] at ho
    exact k1 r h' ho H locs ls hP hS hl
  · rw [if_neg q] at ho
    exact k2 r h' ho H locs ls hP hS hl
theorem J_if_ge (K : Kok ω χ own cc nL rt d) {x : Int32} {off : Int} (tgt : Nat) (hdg : decode cc pc = .ok (.ifCond .ge off, 3)) (ht : (pc : Int) + off = (tgt : Int)) (k1 : J Z l ω χ tgt nL lv st h o1) (k2 : J Z l ω χ (pc + 3) nL lv st h o2) : J Z l ω χ pc nL lv (.int x :: st) h (if 0 ≤ x then o1 else o2) := by
  intro r h' ho H locs ls hP hS hl
  refine lv_if_ge K.1 K.2.1 hdg ht (fun q => ?_) (fun q => ?_)
  · rw [if_pos q] at ho
    exact k1 r h' ho H locs ls hP hS hl
  · rw [if_neg q] at ho
    exact k2 r h' ho H locs ls hP hS hl
theorem J_if_gt (K : Kok ω χ own cc nL rt d) {x : Int32} {off : Int} (tgt : Nat) (hdg : decode cc pc = .ok (.ifCond .gt off, 3)) (ht : (pc : Int) + off = (tgt : Int)) (k1 : J Z l ω χ tgt nL lv st h o1) (k2 : J Z l ω χ (pc + 3) nL lv st h o2) : J Z l ω χ pc nL lv (.int x :: st) h (if 0 < x then o1 else o2) := by
  intro r h' ho H locs ls hP hS hl
  refine lv_if_gt K.1 K.2.1 hdg ht (fun q => ?_) (fun q => ?_)
  · rw [if_pos q] at ho
    exact k1 r h' ho H locs ls hP hS hl
  · rw [if_neg q] at ho
    exact k2 r h' ho H locs ls hP hS hl
theorem J_if_le (K : Kok ω χ own cc nL rt d) {x : Int32} {off : Int} (tgt : Nat) (hdg : decode cc pc = .ok (.ifCond .le off, 3)) (ht : (pc : Int) + off = (tgt : Int)) (k1 : J Z l ω χ tgt nL lv st h o1) (k2 : J Z l ω χ (pc + 3) nL lv st h o2) : J Z l ω χ pc nL lv (.int x :: st) h (if x ≤ 0 then o1 else o2) := by
  intro r h' ho H locs ls hP hS hl
  refine lv_if_le K.1 K.2.1 hdg ht (fun q => ?_) (fun q => ?_)
  · rw [if_pos q] at ho
    exact k1 r h' ho H locs ls hP hS hl
  · rw [if_neg q] at ho
    exact k2 r h' ho H locs ls hP hS hl
theorem J_icmp_eq (K : Kok ω χ own cc nL rt d) {x y : Int32} {off : Int} (tgt : Nat) (hdg : decode cc pc = .ok (.if_icmp .eq off, 3)) (ht : (pc : Int) + off = (tgt : Int)) (k1 : J Z l ω χ tgt nL lv st h o1) (k2 : J Z l ω χ (pc + 3) nL lv st h o2) : J Z l ω χ pc nL lv (.int y :: .int x :: st) h (if x = y then o1 else o2) := by
  intro r h' ho H locs ls hP hS hl
  refine lv_icmp_eq K.1 K.2.1 hdg ht (fun q => ?_) (fun q => ?_)
  · rw [if_pos q] at ho
    exact k1 r h' ho H locs ls hP hS hl
  · rw [if_neg q] at ho
    exact k2 r h' ho H locs ls hP hS hl
theorem J_icmp_ne (K : Kok ω χ own cc nL rt d) {x y : Int32} {off : Int} (tgt : Nat) (hdg : decode cc pc = .ok (.if_icmp .ne off, 3)) (ht : (pc : Int) + off = (tgt : Int)) (k1 : J Z l ω χ (pc + 3) nL lv st h o1) (k2 : J Z l ω χ tgt nL lv st h o2) : J Z l ω χ pc nL lv (.int y :: .int x :: st) h (if x = y then o1 else o2) := by
  intro r h' ho H locs ls hP hS hl
  refine lv_icmp_ne K.1 K.2.1 hdg ht (fun q => ?_) (fun q => ?_)
  · rw [if_neg q] at ho
    exact k2 r h' ho H locs ls hP hS hl
  · rw [if_pos q] at ho
    exact k1 r h' ho H locs ls hP hS hl
theorem J_icmp_lt (K : Kok ω χ own cc nL rt d) {x y : Int32} {off : Int} (tgt : Nat) (hdg : decode cc pc = .ok (.if_icmp .lt off, 3)) (ht : (pc : Int) + off = (tgt : Int)) (k1 : J Z l ω χ tgt nL lv st h o1) (k2 : J Z l ω χ (pc + 3) nL lv st h o2) : J Z l ω χ pc nL lv (.int y :: .int x :: st) h (if x < y then o1 else o2) := by
  intro r h' ho H locs ls hP hS hl
  refine lv_icmp_lt K.1 K.2.1 hdg ht (fun q => ?_) (fun q => ?_)
  · rw [if_pos q] at ho
    exact k1 r h' ho H locs ls hP hS hl
  · rw [if_neg q] at ho
    exact k2 r h' ho H locs ls hP hS hl
theorem J_icmp_ge (K : Kok ω χ own cc nL rt d) {x y : Int32} {off : Int} (tgt : Nat) (hdg : decode cc pc = .ok (.if_icmp .ge off, 3)) (ht : (pc : Int) + off = (tgt : Int)) (k1 : J Z l ω χ tgt nL lv st h o1) (k2 : J Z l ω χ (pc + 3) nL lv st h o2) : J Z l ω χ pc nL lv (.int y :: .int x :: st) h (if y ≤ x then o1 else o2) := by
  intro r h' ho H locs ls hP hS hl
  refine lv_icmp_ge K.1 K.2.1 hdg ht (fun q => ?_) (fun q => ?_)
  · rw [if_pos q] at ho
    exact k1 r h' ho H locs ls hP hS hl
  · rw [if_neg q] at ho
    exact k2 r h' ho H locs ls hP hS hl
theorem J_icmp_gt (K : Kok ω χ own cc nL rt d) {x y : Int32} {off : Int} (tgt : Nat) (hdg : decode cc pc = .ok (.if_icmp .gt off, 3)) (ht : (pc : Int) + off = (tgt : Int)) (k1 : J Z l ω χ tgt nL lv st h o1) (k2 : J Z l ω χ (pc + 3) nL lv st h o2) : J Z l ω χ pc nL lv (.int y :: .int x :: st) h (if y < x then o1 else o2) := by
  intro r h' ho H locs ls hP hS hl
  refine lv_icmp_gt K.1 K.2.1 hdg ht (fun q => ?_) (fun q => ?_)
  · rw [if_pos q] at ho
    exact k1 r h' ho H locs ls hP hS hl
  · rw [if_neg q] at ho
    exact k2 r h' ho H locs ls hP hS hl
theorem J_icmp_le (K : Kok ω χ own cc nL rt d) {x y : Int32} {off : Int} (tgt : Nat) (hdg : decode cc pc = .ok (.if_icmp .le off, 3)) (ht : (pc : Int) + off = (tgt : Int)) (k1 : J Z l ω χ tgt nL lv st h o1) (k2 : J Z l ω χ (pc + 3) nL lv st h o2) : J Z l ω χ pc nL lv (.int y :: .int x :: st) h (if x ≤ y then o1 else o2) := by
  intro r h' ho H locs ls hP hS hl
  refine lv_icmp_le K.1 K.2.1 hdg ht (fun q => ?_) (fun q => ?_)
  · rw [if_pos q] at ho
    exact k1 r h' ho H locs ls hP hS hl
  · rw [if_neg q] at ho
    exact k2 r h' ho H locs ls hP hS hl
theorem J_ite {c : Prop} [Decidable c] (k1 : c → J Z l ω χ pc nL lv st h o1) (k2 : ¬ c → J Z l ω χ pc nL lv st h o2) : J Z l ω χ pc nL lv st h (if c then o1 else o2) := by
  intro r h' ho
  by_cases q : c
  · rw [if_pos q] at ho
    exact k1 q r h' ho
  · rw [if_neg q] at ho
    exact k2 q r h' ho
theorem J_tableIn (K : Kok ω χ own cc nL rt d) {dflt lo hi : Int} {offs : Array Int} {len : Nat} {x : Int32} {v : Int32} {off : Int} (tgt : Nat) (hx : x = v) (hdg : decode cc pc = .ok (.tableswitch dflt lo hi offs, len)) (h1 : ¬ v.toInt < lo) (h2 : ¬ hi < v.toInt) (hf : offs[(v.toInt - lo).toNat]? = some off) (ht : (pc : Int) + off = (tgt : Int)) (kk : J Z l ω χ tgt nL lv st h o) : J Z l ω χ pc nL lv (.int x :: st) h o := by
  subst hx
  intro r h' ho H locs ls hP hS hl
  exact lv_tableIn K.1 K.2.1 hdg h1 h2 hf ht (kk r h' ho H locs ls hP hS hl)
theorem J_tableOut (K : Kok ω χ own cc nL rt d) {dflt lo hi : Int} {offs : Array Int} {len : Nat} {x : Int32} (tgt : Nat) (hdg : decode cc pc = .ok (.tableswitch dflt lo hi offs, len)) (h1 : x.toInt < lo ∨ hi < x.toInt) (ht : (pc : Int) + dflt = (tgt : Int)) (kk : J Z l ω χ tgt nL lv st h o) : J Z l ω χ pc nL lv (.int x :: st) h o := by
  intro r h' ho H locs ls hP hS hl
  exact lv_tableOut K.1 K.2.1 hdg h1 ht (kk r h' ho H locs ls hP hS hl)
theorem J_lookup (K : Kok ω χ own cc nL rt d) {dflt : Int} {ps : Array (Int × Int)} {len : Nat} {x : Int32} {off : Int} (tgt : Nat) (hdg : decode cc pc = .ok (.lookupswitch dflt ps, len)) (hp : (ps.toList.zip (ps.toList.drop 1)).all (fun (a, next) => a.1 < next.1) = true) (hf : Op.lookupswitch.offset ps.toList dflt x.toInt = off) (ht : (pc : Int) + off = (tgt : Int)) (kk : J Z l ω χ tgt nL lv st h o) : J Z l ω χ pc nL lv (.int x :: st) h o := by
  intro r h' ho H locs ls hP hS hl
  exact lv_lookup K.1 K.2.1 hdg hp hf ht (kk r h' ho H locs ls hP hS hl)
/-- a number on the stack gets a name -/
theorem J_topi {x : Int32} {k : Int32 → Option (ρ × Mem)} (kk : ∀ y : Int32, J Z l ω χ pc nL lv (.int y :: st) h (k y)) : J Z l ω χ pc nL lv (.int x :: st) h (seqi x k) := kk x
theorem J_mono (e : o = o1) (kk : J Z l ω χ pc nL lv st h o1) : J Z l ω χ pc nL lv st h o := e ▸ kk
/-- what is known of a field's instruction -/
def GF (own : String) (index ci j : Nat) (ty : FieldType) (fin : Bool) : Prop := ∃ (q : vw_C) (ty0 : Nat → FieldType), vwCl[ci]? = some q ∧ j < q.2.2 ∧ nf ci = q.2.2 ∧ ci < 8 ∧ Cond.fieldLink own index (q.2.1 j).1 (q.2.1 j).2.1 (q.2.1 j).2.2.1 ∈ jw ∧
  (∀ w ∈ u_ws q.1 q.2.1 q.2.2, w ∈ jw) ∧ (∀ k, k < q.2.2 → parseFieldDescriptor (q.2.1 k).2.2.1 = some (ty0 k)) ∧ (∀ a, a < q.2.2 → ∀ b, b < q.2.2 → a ≠ b → (q.2.1 a).2.1 ≠ (q.2.1 b).2.1) ∧ ty0 j = ty ∧ (q.2.1 j).2.2.2 = fin
theorem J_get (K : Kok ω χ own cc nL rt d) {index ci j k : Nat} {ty : FieldType} {fin : Bool} (g : GF own index ci j ty fin) (hk : lay k = ci) {v : Value} (hv : fv ω h k j (fk ci j) = v) (hdg : decode cc pc = .ok (.getfield index, 3)) (kk : J Z l ω χ (pc + 3) nL lv (v :: st) h o) : J Z l ω χ pc nL lv (.ref (ω.1 + k) :: st) h o := by
  intro r h' ho H locs ls hP hS hl
  obtain ⟨⟨C, T, N⟩, ty0, g1, g2, g3, g4, g5, g6, g7, g8, g9, g10⟩ := g
  have hkn : k < nC := lay_lt hk (by omega)
  have he := ws_at (ω := ω) (h := h) hkn
  rw [cont_obj hk g4] at he
  exact va_get K.1 K.2.1 K.2.2.2.2.1 g6 K.2.2.2.1 K.2.2.2.2.2.2.2.1 hP k he g1 j g2 (K.2.2.2.2.1 _ g5) (fun _ q => q) (v := v) (by rw [flds_at (by rw [g3]; exact g2), hv]) hdg (kk r h' ho H locs ls hP hS hl)
theorem J_getI (K : Kok ω χ own cc nL rt d) {index ci j k : Nat} {ty : FieldType} {fin : Bool} (g : GF own index ci j ty fin) (hk : lay k = ci) (hf : fk ci j = 0) (hdg : decode cc pc = .ok (.getfield index, 3)) (kk : J Z l ω χ (pc + 3) nL lv (.int (h k j) :: st) h o) : J Z l ω χ pc nL lv (.ref (ω.1 + k) :: st) h o := J_get K g hk (by rw [hf]; rfl) hdg kk
theorem J_getR (K : Kok ω χ own cc nL rt d) {index ci j k : Nat} {ty : FieldType} {fin : Bool} (g : GF own index ci j ty fin) (hk : lay k = ci) (n : Nat) (hf : fk ci j = n + 2) (hdg : decode cc pc = .ok (.getfield index, 3)) (kk : J Z l ω χ (pc + 3) nL lv (.ref (ω.1 + (k + n)) :: st) h o) : J Z l ω χ pc nL lv (.ref (ω.1 + k) :: st) h o := J_get K g hk (by rw [hf]; rfl) hdg kk
/-- a reference of the memory to an array of numbers; to a String constant -/
def gar {α : Type} (x : Int32) (o : Nat → Option α) : Option α := if 0 ≤ x ∧ 1000 ≤ lay x.toNatClampNeg then o x.toNatClampNeg else none
def gst {α : Type} (x : Int32) (o : Nat → Option α) : Option α := if x < 0 ∧ (-x).toNatClampNeg - 1 < 10 then o ((-x).toNatClampNeg - 1) else none
theorem J_getA (K : Kok ω χ own cc nL rt d) {index ci j k : Nat} {ty : FieldType} {fin : Bool} (g : GF own index ci j ty fin) (hk : lay k = ci) (hf : fk ci j = 1) (hdg : decode cc pc = .ok (.getfield index, 3)) {k9 : Nat → Option (ρ × Mem)} (kk : ∀ a : Nat, lay a = 1000 + (lay a - 1000) → J Z l ω χ (pc + 3) nL lv (.ref (ω.1 + a) :: st) h (k9 a)) : J Z l ω χ pc nL lv (.ref (ω.1 + k) :: st) h (gar (h k j) k9) := by
  intro r h' ho
  unfold gar at ho
  split at ho
  · rename_i q
    have e : fv ω h k j (fk ci j) = .ref (ω.1 + (h k j).toNatClampNeg) := by
      rw [hf]
      simp only [fv, adr]
      rw [if_neg (Int32.not_lt.mpr q.1)]
    exact J_get K g hk e hdg (kk _ (by omega)) r h' ho
  · cases ho
theorem J_getS (K : Kok ω χ own cc nL rt d) {index ci j k : Nat} {ty : FieldType} {fin : Bool} (g : GF own index ci j ty fin) (hk : lay k = ci) (hf : fk ci j = 1) (hdg : decode cc pc = .ok (.getfield index, 3)) {k9 : Nat → Option (ρ × Mem)} (kk : ∀ a : Nat, a < 10 → J Z l ω χ (pc + 3) nL lv (.ref (ω.2.2.2.1 a) :: st) h (k9 a)) : J Z l ω χ pc nL lv (.ref (ω.1 + k) :: st) h (gst (h k j) k9) := by
  intro r h' ho
  unfold gst at ho
  split at ho
  · rename_i q
    have e : fv ω h k j (fk ci j) = .ref (ω.2.2.2.1 ((-(h k j)).toNatClampNeg - 1)) := by
      rw [hf]
      simp only [fv, adr]
      rw [if_pos q.1]
    exact J_get K g hk e hdg (kk _ q.2) r h' ho
  · cases ho
theorem J_put (K : Kok ω χ own cc nL rt d) {index ci j k : Nat} {ty : FieldType} (g : GF own index ci j ty false) (hk : lay k = ci) {v : Value} {h1 : Mem} (hfs : (flds ω h k ci).set j v = flds ω h1 k ci) (h1o : ∀ a, a ≠ k → h1 a = h a) (hn : narrow ty v = v) (hfit : fits ty v = true) (hdg : decode cc pc = .ok (.putfield index, 3)) (kk : J Z l ω χ (pc + 3) nL lv st h1 o) : J Z l ω χ pc nL lv (v :: .ref (ω.1 + k) :: st) h o := by
  intro r h' ho H locs ls hP hS hl
  obtain ⟨⟨C, T, N⟩, ty0, g1, g2, g3, g4, g5, g6, g7, g8, g9, g10⟩ := g
  have hkn : k < nC := lay_lt hk (by omega)
  have he := ws_at (ω := ω) (h := h) hkn
  rw [cont_obj hk g4] at he
  refine va_put K.1 K.2.1 K.2.2.2.2.1 g6 ty0 g7 g8 K.2.2.2.1 K.2.2.2.2.2.2.2.1 hP (ws_D ω h) hS k he g1 j g2 (K.2.2.2.2.1 _ g5) (fun _ q => q) g10 (ty := ty) (by rw [g7 j g2, g9]) hn hfit (by simpa [flds, g3] using g2) hdg (fun H1 locs1 hP1 hD1 hS1 => ?_)
  rw [hfs, ← cont_obj hk g4, ws_set hkn h1o] at hP1
  exact kk r h' ho H1 locs1 ls hP1 hS1 hl
theorem J_putI (K : Kok ω χ own cc nL rt d) {index ci j k : Nat} {x : Int32} (g : GF own index ci j .int false) (hk : lay k = ci) (hj : j < nf ci) (hf : fk ci j = 0) (hdg : decode cc pc = .ok (.putfield index, 3)) {k9 : Mem → Option (ρ × Mem)} (kk : ∀ h1 : Mem, J Z l ω χ (pc + 3) nL lv st h1 (k9 h1)) : J Z l ω χ pc nL lv (.int x :: .ref (ω.1 + k) :: st) h (seqh (upm h k j x) k9) :=
  J_put K g hk (flds_set hj hf) upm_off rfl rfl hdg (kk _)
theorem J_putZ (K : Kok ω χ own cc nL rt d) {index ci j k : Nat} {x : Int32} (g : GF own index ci j .boolean false) (hk : lay k = ci) (hj : j < nf ci) (hf : fk ci j = 0) (hdg : decode cc pc = .ok (.putfield index, 3)) {k9 : Mem → Option (ρ × Mem)} (kk : ∀ h1 : Mem, J Z l ω χ (pc + 3) nL lv st h1 (k9 h1)) : J Z l ω χ pc nL lv (.int x :: .ref (ω.1 + k) :: st) h (gbo x (seqh (upm h k j x) k9)) := by
  intro r h' ho
  obtain ⟨hx, ho⟩ := gbo_some ho
  have hn : narrow .boolean (.int x) = .int x ∧ fits .boolean (.int x) = true := by
    rcases hx with rfl | rfl
    · exact ⟨rfl, rfl⟩
    · exact ⟨rfl, rfl⟩
  exact J_put K g hk (flds_set hj hf) upm_off hn.1 hn.2 hdg (kk _) r h' ho
theorem J_putZc (K : Kok ω χ own cc nL rt d) {index ci j k : Nat} {x : Int32} (hx : x = 0 ∨ x = 1) (g : GF own index ci j .boolean false) (hk : lay k = ci) (hj : j < nf ci) (hf : fk ci j = 0) (hdg : decode cc pc = .ok (.putfield index, 3)) {k9 : Mem → Option (ρ × Mem)} (kk : ∀ h1 : Mem, J Z l ω χ (pc + 3) nL lv st h1 (k9 h1)) : J Z l ω χ pc nL lv (.int x :: .ref (ω.1 + k) :: st) h (seqh (upm h k j x) k9) := by
  have hn : narrow .boolean (.int x) = .int x ∧ fits .boolean (.int x) = true := by
    rcases hx with rfl | rfl
    · exact ⟨rfl, rfl⟩
    · exact ⟨rfl, rfl⟩
  exact J_put K g hk (flds_set hj hf) upm_off hn.1 hn.2 hdg (kk _)
theorem J_putA (K : Kok ω χ own cc nL rt d) {index ci j k a : Nat} {ty : FieldType} {x : Int32} (g : GF own index ci j (.array ty) false) (hk : lay k = ci) (hj : j < nf ci) (hf : fk ci j = 1) (ha : a < nC) (hdg : decode cc pc = .ok (.putfield index, 3)) {k9 : Mem → Option (ρ × Mem)} (kk : ∀ h1 : Mem, J Z l ω χ (pc + 3) nL lv st h1 (k9 h1)) : J Z l ω χ pc nL lv (.ref (ω.1 + a) :: .ref (ω.1 + k) :: st) h (seqh (upm h k j (nI a)) k9) := by
  have hnc : nC < 1000 := by decide
  have e : adr ω (nI a) = ω.1 + a := by
    have h1 : ¬ nI a < 0 := nI_pos (by omega)
    simp only [adr]
    rw [if_neg h1, nI_clamp (by omega)]
  exact J_put K g hk (by rw [← e]; exact flds_setR hj hf) upm_off rfl rfl hdg (kk _)
theorem J_putS (K : Kok ω χ own cc nL rt d) {index ci j k a : Nat} {n : String} {x : Int32} (g : GF own index ci j (.object n) false) (hk : lay k = ci) (hj : j < nf ci) (hf : fk ci j = 1) (ha : a < 10) (hdg : decode cc pc = .ok (.putfield index, 3)) {k9 : Mem → Option (ρ × Mem)} (kk : ∀ h1 : Mem, J Z l ω χ (pc + 3) nL lv st h1 (k9 h1)) : J Z l ω χ pc nL lv (.ref (ω.2.2.2.1 a) :: .ref (ω.1 + k) :: st) h (seqh (upm h k j (-(nI (a + 1)))) k9) := by
  have e : adr ω (-(nI (a + 1))) = ω.2.2.2.1 a := by
    have hd : ∀ z, z < 10 → -(nI (z + 1)) < 0 ∧ (-(-(nI (z + 1)))).toNatClampNeg - 1 = z := by decide +kernel
    obtain ⟨h1, h2⟩ := hd a ha
    simp only [adr]
    rw [if_pos h1, h2]
  exact J_put K g hk (by rw [← e]; exact flds_setR hj hf) upm_off rfl rfl hdg (kk _)
theorem J_iald (K : Kok ω χ own cc nL rt d) {a n : Nat} (ha : lay a = 1000 + n) {i : Int32} (hdg : decode cc pc = .ok (.iaload, 1)) (kk : J Z l ω χ (pc + 1) nL lv (.int (h a (ix i)) :: st) h o) : J Z l ω χ pc nL lv (.int i :: .ref (ω.1 + a) :: st) h (gin i n o) := by
  intro r h' ho H locs ls hP hS hl
  obtain ⟨hin, ho⟩ := gin_some ho
  have he := ws_at (ω := ω) (h := h) (lay_lt ha (by omega))
  rw [cont_arr ha] at he
  exact va_iald K.1 K.2.1 K.2.2.2.2.2.2.2.1 hP a 0 he rfl hin hdg (kk r h' ho H locs ls hP hS hl)
theorem J_iast (K : Kok ω χ own cc nL rt d) {a n : Nat} (ha : lay a = 1000 + n) {i x : Int32} (hdg : decode cc pc = .ok (.iastore, 1)) {k9 : Mem → Option (ρ × Mem)} (kk : ∀ h1 : Mem, J Z l ω χ (pc + 1) nL lv st h1 (k9 h1)) : J Z l ω χ pc nL lv (.int x :: .int i :: .ref (ω.1 + a) :: st) h (gin i n (seqh (upm h a (ix i) x) k9)) := by
  intro r h' ho H locs ls hP hS hl
  obtain ⟨hin, ho⟩ := gin_some ho
  have hkn : a < nC := lay_lt ha (by omega)
  have he := ws_at (ω := ω) (h := h) hkn
  rw [cont_arr ha] at he
  refine va_iast K.1 K.2.1 K.2.2.2.2.2.2.2.1 hP (ws_D ω h) hS a 0 he rfl hin hdg (fun H1 locs1 hP1 hD1 hS1 => ?_)
  have e : cont ω (upm h a (ix i) x) a = .inl (ω.2.2.1.1, n, .inl (upd (h a) i.toNatClampNeg x)) := by rw [cont_arr ha, upm_row]; rfl
  rw [← e, ws_set hkn upm_off] at hP1
  exact kk _ r h' ho H1 locs1 ls hP1 hS1 hl
theorem J_alen (K : Kok ω χ own cc nL rt d) {a n : Nat} (ha : lay a = 1000 + n) (hdg : decode cc pc = .ok (.arraylength, 1)) (kk : J Z l ω χ (pc + 1) nL lv (.int (nI n) :: st) h o) : J Z l ω χ pc nL lv (.ref (ω.1 + a) :: st) h o := by
  intro r h' ho H locs ls hP hS hl
  have he := ws_at (ω := ω) (h := h) (lay_lt ha (by omega))
  rw [cont_arr ha] at he
  exact va_alen K.1 K.2.1 K.2.2.2.2.2.2.2.1 hP a 0 he rfl rfl hdg (kk r h' ho H locs ls hP hS hl)
theorem J_aldC (K : Kok ω χ own cc nL rt d) {a : Nat} (ha : lay a = 8) {i : Int32} (hdg : decode cc pc = .ok (.aaload, 1)) (kk : ix i < 8 → J Z l ω χ (pc + 1) nL lv (.ref (ω.1 + (a + 11 + 2 * ix i)) :: st) h o) : J Z l ω χ pc nL lv (.int i :: .ref (ω.1 + a) :: st) h (gin i 8 o) := by
  intro r h' ho H locs ls hP hS hl
  obtain ⟨hin, ho⟩ := gin_some ho
  have he := ws_at (ω := ω) (h := h) (lay_lt ha (by omega))
  have hc : cont ω h a = .inl (ω.2.2.1.2.1, 8, .inr (.inr (.inr (.inr (fun i => some (ω.1 + (a + 11 + 2 * i))))))) := by
    unfold cont
    rw [ha, if_neg (by omega), if_pos rfl]
  rw [hc] at he
  have hlt : ix i < 8 := Nat.not_le.mp fun q => hin (Or.inr q)
  exact va_aldq K.1 K.2.1 K.2.2.2.2.2.2.2.1 hP a 1 he rfl hin hdg (kk hlt r h' ho H locs ls hP hS hl)
theorem J_aldS (K : Kok ω χ own cc nL rt d) {a : Nat} (ha : lay a = 9) {i : Int32} (hdg : decode cc pc = .ok (.aaload, 1)) (kk : ix i < 4 → J Z l ω χ (pc + 1) nL lv (.ref (ω.1 + (a + 9 + 2 * ix i)) :: st) h o) : J Z l ω χ pc nL lv (.int i :: .ref (ω.1 + a) :: st) h (gin i 4 o) := by
  intro r h' ho H locs ls hP hS hl
  obtain ⟨hin, ho⟩ := gin_some ho
  have he := ws_at (ω := ω) (h := h) (lay_lt ha (by omega))
  have hc : cont ω h a = .inl (ω.2.2.1.2.2, 4, .inr (.inr (.inr (.inr (fun i => some (ω.1 + (a + 9 + 2 * i))))))) := by
    unfold cont
    rw [ha, if_neg (by omega), if_neg (by omega), if_pos rfl]
  rw [hc] at he
  have hlt : ix i < 4 := Nat.not_le.mp fun q => hin (Or.inr q)
  exact va_aldq K.1 K.2.1 K.2.2.2.2.2.2.2.1 hP a 2 he rfl hin hdg (kk hlt r h' ho H locs ls hP hS hl)
theorem J_alenC (K : Kok ω χ own cc nL rt d) {a : Nat} (ha : lay a = 8) (hdg : decode cc pc = .ok (.arraylength, 1)) (kk : J Z l ω χ (pc + 1) nL lv (.int 8 :: st) h o) : J Z l ω χ pc nL lv (.ref (ω.1 + a) :: st) h o := by
  intro r h' ho H locs ls hP hS hl
  have he := ws_at (ω := ω) (h := h) (lay_lt ha (by omega))
  have hc : cont ω h a = .inl (ω.2.2.1.2.1, 8, .inr (.inr (.inr (.inr (fun i => some (ω.1 + (a + 11 + 2 * i))))))) := by
    unfold cont
    rw [ha, if_neg (by omega), if_pos rfl]
  rw [hc] at he
  exact va_alen K.1 K.2.1 K.2.2.2.2.2.2.2.1 hP a 1 he rfl rfl hdg (kk r h' ho H locs ls hP hS hl)
theorem J_alenS (K : Kok ω χ own cc nL rt d) {a : Nat} (ha : lay a = 9) (hdg : decode cc pc = .ok (.arraylength, 1)) (kk : J Z l ω χ (pc + 1) nL lv (.int 4 :: st) h o) : J Z l ω χ pc nL lv (.ref (ω.1 + a) :: st) h o := by
  intro r h' ho H locs ls hP hS hl
  have he := ws_at (ω := ω) (h := h) (lay_lt ha (by omega))
  have hc : cont ω h a = .inl (ω.2.2.1.2.2, 4, .inr (.inr (.inr (.inr (fun i => some (ω.1 + (a + 9 + 2 * i))))))) := by
    unfold cont
    rw [ha, if_neg (by omega), if_neg (by omega), if_pos rfl]
  rw [hc] at he
  exact va_alen K.1 K.2.1 K.2.2.2.2.2.2.2.1 hP a 2 he rfl rfl hdg (kk r h' ho H locs ls hP hS hl)
theorem J_lv (ks : List Nat) (lv' : List (Nat × Value)) (e : lv_pick lv ks = lv') (kk : J Z l ω χ pc nL lv' st h o) : J Z l ω χ pc nL lv st h o := by
  intro r h' ho H locs ls hP hS hl
  exact kk r h' ho H locs ls hP hS (lv_sub hl ks e)
theorem J_none (e : o = none) : J Z l ω χ pc nL lv st h o := by
  intro r h' ho
  rw [e] at ho
  cases ho
/-- a place where ways meet again -/
def jn {α β : Type} (k : β) (f : β → α) : α := f k
theorem J_jn {β : Type} (P : β → Prop) {k : β} {f : β → Option (ρ × Mem)} (hk : P k) (hf : ∀ j, P j → J Z l ω χ pc nL lv st h (f j)) : J Z l ω χ pc nL lv st h (jn k f) := hf k hk
end JR
section JRI
variable {l : Launch} {ω : WX} {χ : KT} {own : String} {cc : ByteArray} {d pc nL : Nat} {rt : Option FieldType} {lv lv' : List (Nat × Value)} {st : List Value} {h : Mem}
theorem J_iret (K : Kok ω χ own cc nL (some .int) d) {x : Int32} (hdg : decode cc pc = .ok (.ireturn, 1)) : J (ZM rvI ω χ) l ω χ pc nL lv [.int x] h (some (x, h)) := by
  intro r h' ho H locs ls hP hS hl
  cases ho
  exact W.iret (v := x) K.1 K.2.1 K.2.2.2.2.2.1 (fun t ht hW => ⟨rfl, by rw [ht]; exact hP, hS.F ht⟩) hS.2.2 hdg (hlocks := K.2.2.2.2.2.2.1)
theorem J_zret (K : Kok ω χ own cc nL (some .boolean) d) {x : Int32} (hdg : decode cc pc = .ok (.ireturn, 1)) : J (ZM rvI ω χ) l ω χ pc nL lv [.int x] h (gbo x (some (x, h))) := by
  intro r h' ho H locs ls hP hS hl
  obtain ⟨hx, ho⟩ := gbo_some ho
  cases ho
  have hn : narrow .boolean (.int x) = .int x := by
    rcases hx with rfl | rfl <;> rfl
  exact W.zret (v := x) K.1 K.2.1 K.2.2.2.2.2.1 hn (fun t ht hW => ⟨rfl, by rw [ht]; exact hP, hS.F ht⟩) hS.2.2 hdg (hlocks := K.2.2.2.2.2.2.1)
theorem J_nret {rt9 : FieldType} (K : Kok ω χ own cc nL (some rt9) d) {x : Int32} (hn : narrow rt9 (.int x) = .int x) (hdg : decode cc pc = .ok (.ireturn, 1)) : J (ZM rvI ω χ) l ω χ pc nL lv [.int x] h (some (x, h)) := by
  intro r h' ho H locs ls hP hS hl
  cases ho
  exact W.zret (v := x) K.1 K.2.1 K.2.2.2.2.2.1 hn (fun t ht hW => ⟨rfl, by rw [ht]; exact hP, hS.F ht⟩) hS.2.2 hdg (hlocks := K.2.2.2.2.2.2.1)
theorem J_vret (K : Kok ω χ own cc nL none d) (hdg : decode cc pc = .ok (.return_, 1)) : J (ZM rvV ω χ) l ω χ pc nL lv [] h (some ((), h)) := by
  intro r h' ho H locs ls hP hS hl
  cases ho
  exact W.vret K.1 K.2.1 K.2.2.2.2.2.1 (fun t ht hW => ⟨rfl, by rw [ht]; exact hP, hS.F ht⟩) hS.2.2 hdg (hlocks := K.2.2.2.2.2.2.1)
theorem J_aret {rt9 : FieldType} (K : Kok ω χ own cc nL (some rt9) d) {k : Nat} (hr : (∃ n, rt9 = .object n) ∨ ∃ t, rt9 = .array t) (hdg : decode cc pc = .ok (.areturn, 1)) : J (ZM (rvR ω) ω χ) l ω χ pc nL lv [.ref (ω.1 + k)] h (some (k, h)) := by
  intro r h' ho H locs ls hP hS hl
  cases ho
  exact W.aret (v := .ref (ω.1 + k)) K.1 K.2.1 K.2.2.2.2.2.1 hr (Or.inr ⟨_, rfl⟩) (fun t ht hW => ⟨rfl, by rw [ht]; exact hP, hS.F ht⟩) hS.2.2 hdg (hlocks := K.2.2.2.2.2.2.1)
end JRI
/-! CALLS -/
def okY (y : MethodName) (n : Nat) : Prop := y.cls ≠ "java/lang/invoke/MethodHandle" ∧ y.cls ≠ "java/lang/invoke/VarHandle" ∧ (parseMethodDescriptor y.desc).map (fun d => d.parameters.length) = some n
def VS (own : String) (index : Nat) (y : MethodName) (cc : ByteArray) (nL : Nat) (rt : Option FieldType) (n ci : Nat) : Prop :=
  Cond.methodLink own index y ∈ jw ∧ Cond.instanceMethod y ∈ jw ∧ Cond.selects y.cls y y ∈ jw ∧ Cond.initialized y.cls ∈ jw ∧ Cond.code y cc nL rt ∈ jw ∧ okY y n ∧ nL ≤ 40 ∧ ci < 8 ∧ ∃ T N, vwCl[ci]? = some (y.cls, T, N)
def TS (own : String) (index : Nat) (y : MethodName) (cc : ByteArray) (nL : Nat) (rt : Option FieldType) (n : Nat) : Prop :=
  Cond.methodLink own index y ∈ jw ∧ Cond.static y ∈ jw ∧ Cond.initialized y.cls ∈ jw ∧ Cond.code y cc nL rt ∈ jw ∧ okY y n ∧ nL ≤ 40
def NS (own : String) (index : Nat) (y : MethodName) (cc : ByteArray) (nL : Nat) (rt : Option FieldType) (n : Nat) : Prop :=
  (∃ host, (own, index, y, host) ∈ nestL) ∧ Cond.static y ∈ jw ∧ Cond.initialized y.cls ∈ jw ∧ Cond.code y cc nL rt ∈ jw ∧ okY y n ∧ nL ≤ 40
theorem jw_code {y : MethodName} {cc : ByteArray} {nL : Nat} {rt : Option FieldType} (h : Cond.code y cc nL rt ∈ jw) : GoodIn jw (Cond.code y cc nL rt :: jw) := fun w hw => by
  rcases List.mem_cons.mp hw with rfl | hw
  · exact jw_good _ h
  · exact jw_good _ hw
theorem InvS.blind (ω : WX) (as : List Value) (h : Mem) : FrameBlind (va_Pc as (fun U => InvS ω h U)) := by
  intro a U g mk q
  obtain ⟨q0, qP, qK, q1, q2, q3, q4⟩ := q
  exact ⟨q0, qP, va_K.moved (u := U) (U := U.calling g mk a) (Vm.Alike.refl U.vm) qK, q1.moved (U := U.calling g mk a) (Vm.Alike.refl U.vm), fun i hi => (q2 i hi).same (U := U.calling g mk a) rfl, q3.moved (U := U.calling g mk a) (Vm.Alike.refl U.vm), fun z hz => (q4 z hz).same (U := U.calling g mk a) rfl rfl⟩
section JC
variable {ρ σ : Type} {Z : ρ → Mem → State → Prop} {rv1 : σ → Option Value} {l : Launch} {ω : WX} {χ : KT} {own : String} {cc : ByteArray} {d pc nL : Nat} {rt : Option FieldType} {lv lv' : List (Nat × Value)} {st : List Value} {h : Mem}
/-- behind a call -/
theorem J_behind {H : Heap} {locs : List Loc} {ls : Array Slot} {r : ρ} {h' h1 : Mem} {r1 : σ} {st0 rest : List Value} {a : Array Value} {o : Option (ρ × Mem)} (hS : va_S (jA ω) (kS χ).heap H locs) (hl : lv_has ls nL lv)
    (hr : va_Run (kP χ) l (kE χ) (kR χ) (kS χ) (kM χ) (kA χ) (kB χ) (kH χ) (kD χ) H locs (kC χ) (kN χ) 0 0 (F0 (kM χ) pc ls st0) rest (QJ ω (rv1 r1) h1 a) (jA ω))
    (kk : J Z l ω χ (pc + 3) nL lv ((rv1 r1).toList ++ rest) h1 o) (ho : o = some (r, h')) :
    W (kP χ) l (kE χ) (kR χ) (kS χ) (kM χ) (kA χ) (kB χ) (kH χ) (kD χ) H locs (kC χ) (kN χ) (Z r h') (F0 (kM χ) pc ls st0) := by
  intro T hT X
  obtain ⟨v, st₀, t, T', L, h0, X', hL, e1, e2, ⟨hv, hPt, hz, hk⟩, stp⟩ := hr T hT X
  cases hv
  rw [h0] at hz hk
  obtain ⟨t2, a1, b1⟩ := kk r h' ho T'.heap (locs ++ L) ls (by rw [e1]; exact hPt)
    ⟨Nat.le_trans hS.1 (by rw [e1]; exact hz), fun q h1 h2 => by rw [e1, hk q (Nat.lt_of_lt_of_le h1 hS.1) h2]; exact hS.2.1 q h1 h2, fun q hq => by
      rcases List.mem_append.mp hq with h | h
      · exact hS.2.2 q h
      · exact hL q h⟩ hl T' rfl X'
  exact ⟨t2, stp t2 a1, b1⟩
theorem jroom {R : Room} {d d1 : Nat} {nL1 : Nat} (hR : d ≤ R.frames ∧ 64 * d ≤ R.locals) (hd : d1 + 1 ≤ d) (hn : nL1 ≤ 40) : (rmOf d1).frames + 1 ≤ R.frames ∧ 8 + (nL1 + 11) + (rmOf d1).locals ≤ R.locals := by
  refine ⟨Nat.le_trans hd hR.1, ?_⟩
  show 8 + (nL1 + 11) + 64 * d1 ≤ R.locals
  omega
theorem J_callV (K : Kok ω χ own cc nL rt d) {index n ci nL1 d1 k : Nat} {y : MethodName} {cc1 : ByteArray} {rt1 : Option FieldType} {As rest st0 : List Value} {o1 : Option (σ × Mem)} (hV : VS own index y cc1 nL1 rt1 n ci) (hM : MC rv1 l ω y cc1 nL1 rt1 d1 (.ref (ω.1 + k) :: As) h o1) (hk : lay k = ci) (hd : d1 + 1 ≤ d) (hst : st0 = As.reverse ++ .ref (ω.1 + k) :: rest) (hn : As.length = n) (hc : (rest.map fun v => v.category).sum ≤ 8) (hdg : decode cc pc = .ok (.invokevirtual index, 3)) {k9 : σ → Mem → Option (ρ × Mem)}
    (kk : ∀ (r : σ) (h1 : Mem), J Z l ω χ (pc + 3) nL lv ((rv1 r).toList ++ rest) h1 (k9 r h1)) : J Z l ω χ pc nL lv st0 h (bnd o1 k9) := by
  intro r h' ho H locs ls hP hS hl
  obtain ⟨r1, h1, ho1, ho2⟩ := bnd_some ho
  obtain ⟨v1, v2, v3, v4, v5, v6, v7, v8, T, N, v9⟩ := hV
  have he := ws_at (ω := ω) (h := h) (lay_lt hk (by omega))
  rw [cont_obj hk v8] at he
  have hts := K.2.2.2.2.1
  refine J_behind hS hl (va_runV (cc := cc) (As := As) (rest := rest) (b := ω.1 + k) (C := y.cls) (n := n) ⟨K.1, K.2.1, K.2.2.1, K.2.2.2.1, hts⟩ (hM r1 h1 ho1) ⟨callB_of n hts (jw_code v5) rfl rfl rfl (hts _ v4) (hts _ v1) v6 (jroom K.2.2.2.2.2.2.2.2.2.1 hd v7), hts _ v2, hts _ v3⟩ ⟨InvS.blind ω _ h, ?_, fun U hU hW => ⟨rfl, by rw [hU]; exact hP, va_K.moved hW.alike K.2.2.2.2.2.2.2.1, SS.to K.2.2.2.2.2.2.2.2.1 hS hU hW⟩⟩ rfl hn hl.1 hst (lv_room hc) hdg K.2.2.2.2.2.2.2.2.2.2) (kk r1 h1) ho2
  exact va_recv K.2.2.2.2.2.2.2.1 hP v9 he
theorem J_callT (K : Kok ω χ own cc nL rt d) {index n nL1 d1 : Nat} {y : MethodName} {cc1 : ByteArray} {rt1 : Option FieldType} {As rest st0 : List Value} {o1 : Option (σ × Mem)} (hV : TS own index y cc1 nL1 rt1 n) (hM : MC rv1 l ω y cc1 nL1 rt1 d1 As h o1) (hd : d1 + 1 ≤ d) (hst : st0 = As.reverse ++ rest) (hn : As.length = n) (hc : (rest.map fun v => v.category).sum ≤ 8) (hdg : decode cc pc = .ok (.invokestatic index, 3)) {k9 : σ → Mem → Option (ρ × Mem)}
    (kk : ∀ (r : σ) (h1 : Mem), J Z l ω χ (pc + 3) nL lv ((rv1 r).toList ++ rest) h1 (k9 r h1)) : J Z l ω χ pc nL lv st0 h (bnd o1 k9) := by
  intro r h' ho H locs ls hP hS hl
  obtain ⟨r1, h1, ho1, ho2⟩ := bnd_some ho
  obtain ⟨v1, v2, v4, v5, v6, v7⟩ := hV
  have hts := K.2.2.2.2.1
  exact J_behind hS hl (va_runS (cc := cc) (As := As) (rest := rest) (n := n) ⟨K.1, K.2.1, K.2.2.1, K.2.2.2.1, hts⟩ (hM r1 h1 ho1) ⟨callB_of n hts (jw_code v5) rfl rfl rfl (hts _ v4) (hts _ v1) v6 (jroom K.2.2.2.2.2.2.2.2.2.1 hd v7), hts _ v2⟩ ⟨InvS.blind ω _ h, fun U hU hW => ⟨rfl, by rw [hU]; exact hP, va_K.moved hW.alike K.2.2.2.2.2.2.2.1, SS.to K.2.2.2.2.2.2.2.2.1 hS hU hW⟩⟩ rfl hn hl.1 hst (lv_room hc) hdg K.2.2.2.2.2.2.2.2.2.2) (kk r1 h1) ho2
theorem J_callN (K : Kok ω χ own cc nL rt d) {index n nL1 d1 : Nat} {y : MethodName} {cc1 : ByteArray} {rt1 : Option FieldType} {As rest st0 : List Value} {o1 : Option (σ × Mem)} (hV : NS own index y cc1 nL1 rt1 n) (hM : MC rv1 l ω y cc1 nL1 rt1 d1 As h o1) (hd : d1 + 1 ≤ d) (hst : st0 = As.reverse ++ rest) (hn : As.length = n) (hc : (rest.map fun v => v.category).sum ≤ 8) (hdg : decode cc pc = .ok (.invokestatic index, 3)) {k9 : σ → Mem → Option (ρ × Mem)}
    (kk : ∀ (r : σ) (h1 : Mem), J Z l ω χ (pc + 3) nL lv ((rv1 r).toList ++ rest) h1 (k9 r h1)) : J Z l ω χ pc nL lv st0 h (bnd o1 k9) := by
  intro r h' ho H locs ls hP hS hl
  obtain ⟨r1, h1, ho1, ho2⟩ := bnd_some ho
  obtain ⟨⟨host, v1⟩, v2, v4, v5, v6, v7⟩ := hV
  have hts := K.2.2.2.2.1
  have hN := K.2.2.2.2.2.2.2.2.1.2.2.2 _ v1
  exact J_behind hS hl (va_runSN (cc := cc) (As := As) (rest := rest) (n := n) (host := host) ⟨K.1, K.2.1, K.2.2.1, K.2.2.2.1, hts⟩ (hM r1 h1 ho1) ⟨va_cnB n hts (jw_code v5) rfl rfl rfl hN (hts _ v4) v6 (jroom K.2.2.2.2.2.2.2.2.2.1 hd v7), hts _ v2, trivial⟩ ⟨InvS.blind ω _ h, fun U hU hW => ⟨rfl, by rw [hU]; exact hP, va_K.moved hW.alike K.2.2.2.2.2.2.2.1, SS.to K.2.2.2.2.2.2.2.2.1 hS hU hW⟩⟩ rfl hn hl.1 hst (lv_room hc) hdg K.2.2.2.2.2.2.2.2.2.2) (kk r1 h1) ho2
end JC
