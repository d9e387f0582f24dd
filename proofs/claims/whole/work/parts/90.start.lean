/-! the start of the law -/
def tmS (i : Nat) : Term := Term.string "SaltClouds$TextReader" (strL.getD i (0, "")).1
def flN : List Cond := flatC (Jvm.Cond.and given_1 narrow_1)
theorem fl_ex : ∀ i, i < 10 → Cond.exactly (tmS i) "java/lang/String" ∈ flN := by decide +kernel
theorem fl_co : ∀ i, i < 10 → Cond.eq (.field (tmS i) "java/lang/String" "coder" "B") (.int 0) ∈ flN := by decide +kernel
theorem fl_ar : ∀ i, i < 10 → Cond.arrayOf (.field (tmS i) "java/lang/String" "value" "[B") .byte ∈ flN := by decide +kernel
theorem fl_le : ∀ i, i < 10 → Cond.eq (.length (.field (tmS i) "java/lang/String" "value" "[B")) (.int (Int32.ofNat (lenS.getD i 0))) ∈ flN := by decide +kernel
theorem fl_el : ∀ i, i < 10 → ∀ j, j < lenS.getD i 0 → Cond.eq (.elem (.field (tmS i) "java/lang/String" "value" "[B") (.int (Int32.ofNat j))) (.int ((bytS.getD i []).getD j 0)) ∈ flN := by decide +kernel
theorem fl_ne : ∀ i, i < 10 → ∀ j, j < 10 → i ≠ j → Cond.not (Cond.eq (tmS i) (tmS j)) ∈ flN ∨ Cond.not (Cond.eq (tmS j) (tmS i)) ∈ flN := by decide +kernel
theorem fl_cs : Cond.eq (Term.static "java/lang/String" "COMPACT_STRINGS" "Z") (.int 1) ∈ flN := by decide +kernel
theorem tw_ls : Cond.laysStatic "java/lang/String" "COMPACT_STRINGS" "Z" ∈ lw_tbl := List.mem_of_getElem? (i := 550) (by decide +kernel)
theorem tw_is : Cond.initialized "java/lang/String" ∈ lw_tbl := List.mem_of_getElem? (i := 78) (by decide +kernel)
theorem tw_sr : ∀ i, i < 10 → Cond.stringRef "SaltClouds$TextReader" (strL.getD i (0, "")).1 (strL.getD i (0, "")).2 ∈ lw_tbl := by decide +kernel
theorem tw_ne : ∀ q ∈ nestL, Cond.methodLinkNest q.1 q.2.1 q.2.2.1 q.2.2.2 ∈ lw_tbl := by decide +kernel
theorem tw_nc : ∀ q ∈ nestC, Cond.methodLinkNest q.1 q.2.1 q.2.2.1 q.2.2.2 ∈ lw_tbl := by decide +kernel
theorem tw_ac : Cond.arrayClass .int ∈ lw_tbl := List.mem_of_getElem? (i := 122) (by decide +kernel)
theorem tw_ao_Cloud : Cond.arrayOver (.object "SaltClouds$Cloud") ∈ lw_tbl := List.mem_of_getElem? (i := 100) (by decide +kernel)
theorem tw_ao_Sheet : Cond.arrayOver (.object "SaltClouds$Sheet") ∈ lw_tbl := List.mem_of_getElem? (i := 211) (by decide +kernel)
theorem tw_in0 : Cond.instantiable RX0 6 ∈ lw_tbl := List.mem_of_getElem? (i := 123) (by decide +kernel)
theorem tw_in1 : Cond.instantiable RX1 3 ∈ lw_tbl := List.mem_of_getElem? (i := 266) (by decide +kernel)
theorem tw_in2 : Cond.instantiable RX2 13 ∈ lw_tbl := List.mem_of_getElem? (i := 94) (by decide +kernel)
theorem tw_in3 : Cond.instantiable RX3 4 ∈ lw_tbl := List.mem_of_getElem? (i := 102) (by decide +kernel)
theorem tw_in4 : Cond.instantiable RX4 6 ∈ lw_tbl := List.mem_of_getElem? (i := 213) (by decide +kernel)
theorem tw_in5 : Cond.instantiable RX5 5 ∈ lw_tbl := List.mem_of_getElem? (i := 243) (by decide +kernel)
theorem tw_in6 : Cond.instantiable RX6 8 ∈ lw_tbl := List.mem_of_getElem? (i := 86) (by decide +kernel)
theorem tw_in7 : Cond.instantiable RX7 24 ∈ lw_tbl := List.mem_of_getElem? (i := 931) (by decide +kernel)
set_option maxRecDepth 100000 in
set_option maxHeartbeats 4000000 in
/-- what the world is made of -/
theorem start_world {s : State} {b : Nat} (hts : ∀ w ∈ lw_tbl, w.before #[Value.ref b] s = true) (hgv : (Jvm.Cond.and given_1 narrow_1).before #[Value.ref b] s = true) : ∃ ω : WX, ω.1 = s.heap.size ∧ va_K ω.2.1 vwCl (jT ω) s ∧ SC ω s := by
  have hs := flat_of_before _ hgv
  obtain ⟨c0, i0, k0⟩ := u_known (C := RX0) (T := TX0) (N := 6) (n := 6) hts (fun w hw => (List.mem_filter.mp (inw_X0 w hw)).1) (hts _ tw_in0)
  obtain ⟨c1, i1, k1⟩ := u_known (C := RX1) (T := TX1) (N := 3) (n := 3) hts (fun w hw => (List.mem_filter.mp (inw_X1 w hw)).1) (hts _ tw_in1)
  obtain ⟨c2, i2, k2⟩ := u_known (C := RX2) (T := TX2) (N := 13) (n := 13) hts (fun w hw => (List.mem_filter.mp (inw_X2 w hw)).1) (hts _ tw_in2)
  obtain ⟨c3, i3, k3⟩ := u_known (C := RX3) (T := TX3) (N := 4) (n := 4) hts (fun w hw => (List.mem_filter.mp (inw_X3 w hw)).1) (hts _ tw_in3)
  obtain ⟨c4, i4, k4⟩ := u_known (C := RX4) (T := TX4) (N := 6) (n := 6) hts (fun w hw => (List.mem_filter.mp (inw_X4 w hw)).1) (hts _ tw_in4)
  obtain ⟨c5, i5, k5⟩ := u_known (C := RX5) (T := TX5) (N := 5) (n := 5) hts (fun w hw => (List.mem_filter.mp (inw_X5 w hw)).1) (hts _ tw_in5)
  obtain ⟨c6, i6, k6⟩ := u_known (C := RX6) (T := TX6) (N := 8) (n := 8) hts (fun w hw => (List.mem_filter.mp (inw_X6 w hw)).1) (hts _ tw_in6)
  obtain ⟨c7, i7, k7⟩ := u_known (C := RX7) (T := TX7) (N := 24) (n := 24) hts (fun w hw => (List.mem_filter.mp (inw_X7 w hw)).1) (hts _ tw_in7)
  obtain ⟨cI, kI, pI, a1, a2, a3⟩ := Cond.arrayClass_spec (hts _ tw_ac)
  obtain ⟨pC, cC, kC, b1, b2, b3, b4, b5⟩ := Cond.arrayOver_spec (hts _ tw_ao_Cloud)
  obtain ⟨pS, cS, kS9, d1, d2, d3, d4, d5⟩ := Cond.arrayOver_spec (hts _ tw_ao_Sheet)
  have hA : ∀ a : Nat, a < s.heap.size → ¬ (fun q : Nat => s.heap.size ≤ q) a := fun a h => Nat.not_le.mpr h
  obtain ⟨adK, adV, hS, hadK⟩ := vk_Sof (N := 10) (tm := tmS) (len := lenS) (byt := bytS) (A := fun q : Nat => s.heap.size ≤ q) (args := #[Value.ref b]) (s := s) (by decide +kernel) (fun i hi => hs _ (fl_ex i hi)) (fun i hi => hs _ (fl_co i hi)) (fun i hi => hs _ (fl_ar i hi)) (fun i hi => hs _ (fl_le i hi)) (fun i hi j hj => hs _ (fl_el i hi j hj)) (fun i j hi hj hij => (fl_ne i hi j hj hij).imp (hs _) (hs _)) hA
  refine ⟨(s.heap.size, (fun k => [c0, c1, c2, c3, c4, c5, c6, c7].getD k 0, fun k => ([i0, i1, i2, i3, i4, i5, i6, i7] : List (Nat → Nat)).getD k (fun _ => 0)), (cI, cC, cS), adK, adV), rfl, ⟨?_, ?_⟩, ⟨hS, fun i hi => ?_, ?_, fun q hq => ?_⟩, hts _ tw_ao_Cloud, hts _ tw_ao_Sheet, fun q hq => ?_⟩
  · intro k q hq
    match k, hq with
    | 0, hq => cases hq; exact k0
    | 1, hq => cases hq; exact k1
    | 2, hq => cases hq; exact k2
    | 3, hq => cases hq; exact k3
    | 4, hq => cases hq; exact k4
    | 5, hq => cases hq; exact k5
    | 6, hq => cases hq; exact k6
    | 7, hq => cases hq; exact k7
    | k + 8, hq => simp [vwCl] at hq
  · intro k q hq
    match k, hq with
    | 0, hq => cases hq; exact ⟨fun N z => ⟨(fun k h => by cases h), kI, a2, pI, a3⟩, a1⟩
    | 1, hq => cases hq; exact ⟨fun N z => ⟨(fun k h => by cases h), kC, b3, pC, b4⟩, kC, pC, b3, b4, b1, b5⟩
    | 2, hq => cases hq; exact ⟨fun N z => ⟨(fun k h => by cases h), kS9, d3, pS, d4⟩, kS9, pS, d3, d4, d1, d5⟩
    | k + 3, hq => simp [jT] at hq
  · exact vk_R.of (hts _ (tw_sr i hi)) (hadK i hi)
  · exact va_Zof (hts _ tw_ls) (hts _ tw_is) (va_eqi (hs _ fl_cs)) hA
  · exact va_Nw.of rfl (hts _ (tw_ne q hq))
  · exact va_Nw.of rfl (hts _ (tw_nc q hq))
theorem nw_SaltCloudsLaw_7 : Cond.classLink "SaltCloudsLaw" 7 RX6 ∈ jw ∧ Cond.instantiable RX6 8 ∈ jw ∧ Cond.initialized RX6 ∈ jw ∧ ∀ w ∈ u_ws RX6 TX6 8, w ∈ jw := ⟨jw_at 85 (by decide +kernel) rfl, jw_at 86 (by decide +kernel) rfl, jw_at 69 (by decide +kernel) rfl, inw_X6⟩
theorem nw_SaltCloudsLaw_10 : Cond.classLink "SaltCloudsLaw" 10 RX7 ∈ jw ∧ Cond.instantiable RX7 24 ∈ jw ∧ Cond.initialized RX7 ∈ jw ∧ ∀ w ∈ u_ws RX7 TX7 24, w ∈ jw := ⟨jw_at 930 (by decide +kernel) rfl, jw_at 931 (by decide +kernel) rfl, jw_at 76 (by decide +kernel) rfl, inw_X7⟩
theorem oy_X6_init : okY yX6_init 0 := ⟨by decide, by decide, by decide +kernel⟩
theorem mc_X6_init : Cond.code yX6_init cX6_init 2 none ∈ jw := jw_at 89 (by decide +kernel) rfl
theorem ci_SaltCloudsLaw_9 : (Cond.methodLink "SaltCloudsLaw" 9 yX6_init ∈ jw ∨ ∃ host, ("SaltCloudsLaw", 9, yX6_init, host) ∈ nestC) ∧ Cond.instanceMethod yX6_init ∈ jw ∧ Cond.initialized (yX6_init).cls ∈ jw ∧ Cond.code yX6_init cX6_init 2 none ∈ jw ∧ okY yX6_init 0 ∧ 2 ≤ 40 ∧ (yX6_init).name = "<init>" := ⟨Or.inl (jw_at 87 (by decide +kernel) rfl), jw_at 88 (by decide +kernel) rfl, jw_at 69 (by decide +kernel) rfl, mc_X6_init, oy_X6_init, by decide, rfl⟩
theorem oy_X7_init : okY yX7_init 0 := ⟨by decide, by decide, by decide +kernel⟩
theorem mc_X7_init : Cond.code yX7_init cX7_init 1 none ∈ jw := jw_at 934 (by decide +kernel) rfl
theorem ci_SaltCloudsLaw_12 : (Cond.methodLink "SaltCloudsLaw" 12 yX7_init ∈ jw ∨ ∃ host, ("SaltCloudsLaw", 12, yX7_init, host) ∈ nestC) ∧ Cond.instanceMethod yX7_init ∈ jw ∧ Cond.initialized (yX7_init).cls ∈ jw ∧ Cond.code yX7_init cX7_init 1 none ∈ jw ∧ okY yX7_init 0 ∧ 1 ≤ 40 ∧ (yX7_init).name = "<init>" := ⟨Or.inl (jw_at 932 (by decide +kernel) rfl), jw_at 933 (by decide +kernel) rfl, jw_at 76 (by decide +kernel) rfl, mc_X7_init, oy_X7_init, by decide, rfl⟩
set_option maxRecDepth 100000 in
set_option maxHeartbeats 4000000 in
/-- THE LAW, from its entry -/
theorem whole_start {p : Program} {e : Env} {s : State} {m : MethodId} {below : List Frame} {meth : Method} {c : Code} (l : Launch) (hflags : l.flags = flags0) {b L : Nat} {xs : Nat → Int32} (hL : L ≤ 3072) (C0 : lw_At p s m meth c b L xs) : W p l e room_1 s m #[Value.ref b] below meth c s.heap [] 0 0 (lw_Z below #[Value.ref b] s) (entryFrame m ([Value.ref b] : List Value).toArray 4) := by
  obtain ⟨hx, hb, hr, hml, hown, hts, hX, hbl, hlocks, hgv⟩ := id C0
  obtain ⟨ω, hω, hK, hSC⟩ := start_world hts hgv
  obtain ⟨h9, hl2⟩ := l2_law L hL xs
  have hl := lv_entry ([.ref b]) (n := 4) (Nat.le_of_ble_eq_true rfl)
  rw [lg_entry_eq]
  generalize (lg_sl ([.ref b]) ++ List.replicate (4 - (lg_sl ([.ref b])).length) Slot.unset).toArray = ls at hl ⊢
  have hl : lv_has ls 4 [(0, .ref b)] := hl
  obtain ⟨χ, hχ⟩ : ∃ χ : KT, χ = (p, e, room_1, 600000, 7302250, s, m, #[Value.ref b], below, meth, c) := ⟨_, rfl⟩
  have htj : ∀ w ∈ jw, w.before #[Value.ref b] s = true := fun w hw => hts w (List.mem_filter.mp hw).1
  have KC9 : KC ω χ (jA ω) "SaltCloudsLaw" cL_law 4 1300 := by
    subst hχ
    exact ⟨hx, hb, hml, hown, htj, hK, hSC, ⟨Nat.le_of_ble_eq_true rfl, Nat.le_of_ble_eq_true rfl⟩, fun q h => by show ω.1 ≤ q; rw [hω]; exact h, fun q h => h⟩
  have KJ : Kok ω χ "SaltCloudsLaw" cL_law 4 ret 1300 := by
    subst hχ
    exact ⟨hx, hb, hml, hown, htj, hr, hlocks, hK, hSC.1, ⟨Nat.le_of_ble_eq_true rfl, Nat.le_of_ble_eq_true rfl⟩, Nat.le_refl _, Nat.le_refl _⟩
  have hχ2 : kR χ = room_1 ∧ kC χ = 600000 ∧ kN χ = 7302250 ∧ kA χ = #[Value.ref b] ∧ ω.1 = (kS χ).heap.size := by
    subst hχ
    exact ⟨rfl, rfl, rfl, rfl, hω⟩
  have hXS : XS ω χ b L xs := by
    subst hχ
    exact ⟨hX, hbl, by rw [hω]; exact hbl⟩
  have hR : kR χ = room_1 := hχ2.1
  have main : C1 (lw_Z below #[Value.ref b] s) l ω χ (jA ω) 0 4 [(0, .ref b)] [] ω.1 [] 0 0 := by
    refine C_make (pc := 0) KC9 6 (RX6, TX6, 8) tyX6 rfl nw_SaltCloudsLaw_7 tyX6_ok [.null, .null, .null, .int 0, .null, .null, .null, .null] (by decide +kernel) (ok_X6_init l ω ω.1 _) ci_SaltCloudsLaw_9 (Nat.le_refl _) (by decide) (Nat.le_of_ble_eq_true rfl) dL_law_0 dL_law_3 dL_law_4 (by rw [hR]; decide) (by rw [hR]; decide) ?_
    refine C_astore_n (pc := 7) KC9 dL_law_7 1 rfl (by decide) [(1, .ref (ω.1 + 0)), (0, .ref b)] rfl ?_
    refine C_make (pc := 8) KC9 7 (RX7, TX7, 24) tyX7 rfl nw_SaltCloudsLaw_10 tyX7_ok [.null, .null, .null, .null, .int 0, .int 0, .null, .int 0, .int 0, .int 0, .int 0, .int 0, .int 0, .int 0, .int 0, .null, .null, .null, .null, .null, .int 0, .int 0, .int 0, .int 0] (by decide +kernel) (ok_X7_init l ω (ω.1 + 1 + 101) _) ci_SaltCloudsLaw_12 (by omega) (by decide) (Nat.le_of_ble_eq_true rfl) dL_law_8 dL_law_11 dL_law_12 (by rw [hR]; decide) (by rw [hR]; decide) ?_
    refine C_astore_n (pc := 15) KC9 dL_law_15 2 rfl (by decide) [(2, .ref (ω.1 + 102)), (1, .ref (ω.1 + 0)), (0, .ref b)] rfl ?_
    refine C_iconst (pc := 16) KC9 (0) dL_law_16 (by decide) ?_
    refine C_istore_n (pc := 17) KC9 dL_law_17 3 rfl (by decide) [(3, .int 0), (2, .ref (ω.1 + 102)), (1, .ref (ω.1 + 0)), (0, .ref b)] rfl ?_
    intro H locs ls hn hP hD hS hl
    have hJ := okL_law (l := l) KJ (by decide) hχ2 hXS 4000 (k1 := 0) (k2 := 102) (by decide +kernel) (by decide +kernel) 4000 0 h0 () h9 hl2 H locs ls (hw0 hP) hS (lv_sub hl [3, 2, 1, 0] rfl)
    subst hχ
    exact W.widen (Nat.le_of_ble_eq_true rfl) (Nat.le_of_ble_eq_true rfl) hJ
  have hfin := main s.heap [] ls hω.symm (fun k q h => by simp at h) ⟨fun i j p q h => by simp at h, fun k q h => by simp at h⟩ (by subst hχ; exact va_S.rf) hl
  subst hχ
  exact hfin
-- ===== YOUR PART ENDS =====
set_option maxHeartbeats 4000000 in
theorem lw_walk (l : Launch) (hflags : l.flags = flags0) (b : Addr) (xs : List Int32) : MetFree l x (headSpec (Jvm.Cond.code x code maxLocals ret :: tables_1) room_1) (lw_P b xs) (fun _ _ _ _ _ => True) lw_Q := by
  refine MetFree.of_bodyS (code := code) (maxLocals := maxLocals) (ret := ret) (by decide) ?_ ?_
  · intro args s m h hn
    obtain ⟨meth, c, h1, h2, h3, h4, h5, h6, -, -⟩ := Cond.code_spec hn (atoms_spec (ws := Jvm.Cond.code x code maxLocals ret :: tables_1) h _ List.mem_cons_self)
    exact ⟨meth, c, h1, h2, h3, h4, h5, h6⟩
  · intro p e s m args below meth c s₁ B hml0 hP _
    obtain ⟨rfl, hx, hbd, hgv⟩ := hP
    obtain ⟨scr, harrAt, hlist, hof, hsmall⟩ := hx
    obtain ⟨hcb, hkn, -, -⟩ := State.arrayAt?_spec harrAt
    have hown : s.vm.findClass R_law = some m.cls := findClass_of_methodNamed B.named
    have hts0 : ∀ c ∈ (Jvm.Cond.code x code maxLocals ret :: tables_1), c.before #[Value.ref b] s = true := atoms_spec (ws := Jvm.Cond.code x code maxLocals ret :: tables_1) B.pre
    have hts : ∀ w ∈ lw_tbl, w.before #[Value.ref b] s = true := k2_hts_sels lw_privs (fun w hw => hts0 w (List.mem_cons_of_mem _ hw)) lw_privs_ok
    have hml : c.maxLocals = 4 := B.maxLocals_eq (hts0 _ List.mem_cons_self)
    have X₀ : Stand p l e room_1 s m #[Value.ref b] below meth c s₁ [] 0 0 := Stand.of_body B
    have hh0 : s₁.heap = s.heap := by rw [B.state]; rfl
    have hsz : scr.slots.size = xs.length := by rw [← Array.length_toList, hlist, List.length_map]
    have hval : ∀ j : Nat, j < xs.length → scr.slots[j]? = some (.int (xs.getD j 0)) := fun j hj => by
      rw [← Array.getElem?_toList, hlist]
      simp [hj]
    have hbl : b < s.heap.size := (Array.getElem?_eq_some_iff.mp hcb).1
    have hX : va_X b xs.length (fun j => xs.getD j 0) s s.heap := ⟨scr, hcb, hof, hkn, hsz, hval⟩
    have K : W p l e room_1 s m #[Value.ref b] below meth c s₁.heap [] 0 0 (lw_Z below #[Value.ref b] s) (entryFrame m ([Value.ref b] : List Value).toArray 4) := by
      rw [hh0]
      exact whole_start l hflags hbd ⟨B.exec, B.bytes, B.returns, hml, hown, hts, hX, hbl, B.notSynchronized, hgv⟩
    obtain ⟨t, a1, o, b1, b2, b3⟩ := K s₁ rfl X₀
    exact ⟨t, o, a1, b1, b2, b3⟩
theorem lw_pre_spec {args : Array Value} {s : State} (h : (Jvm.Cond.and given_1 narrow_1).before args s = true) (hr : rest_1_c.before args s = true) : ∃ (b : Addr) (xs : List Int32), lw_P b xs args s := by
  have hs := flat_of_before _ h
  have hq := flat_of_before _ hr
  have hc : (Cond.count 1).before args s = true := hs _ (by decide +kernel)
  have harr : (Cond.arrayOf (.arg 0) .int).before args s = true := hs _ (by decide +kernel)
  have hle : (Cond.le (.length (.arg 0)) (.int 3072)).before args s = true := hs _ (by decide +kernel)
  have hlen : (Cond.isInt (.length (.arg 0))).before args s = true := hq _ (by decide +kernel)
  have hall : (Cond.all (.arg 0) (.isInt (.elem (.arg 0) (.index 0)))).before args s = true := hq _ (by decide +kernel)
  obtain ⟨b, xs, hb, hx⟩ := State.ints_of_pre rfl harr hlen hall
  have hsm : xs.length < 2 ^ 31 := hx.choose_spec.2.2.2
  have hev : (Term.length (.arg 0)).eval args s none [] s = some (.int xs.length.toInt32) := hx.length_eval hb
  have hv := Cond.le_ints hev (show (Term.int 3072).eval args s none [] s = some (.int 3072) from rfl)
  have hd : xs.length.toInt32 ≤ 3072 := by
    simpa [Cond.before, Cond.holds, hv] using hle
  have hN : xs.length ≤ 3072 := (Int32.ofNat_le_ofNat hsm (by decide)).mp (show Int32.ofNat xs.length ≤ Int32.ofNat 3072 from hd)
  exact ⟨b, xs, Cond.one_arg hc (show args[0]? = some (.ref b) from hb), hx, hN, h⟩
theorem lw_comes (l : Launch) (hflags : l.flags = flags0) : Comes l x (Jvm.Cond.code x code maxLocals ret :: tables_1) room_1 (fun tb e args s => Calls_1 tb e args s ∧ rest_1 tb e args s ∧ Pre_1 tb e args s)
    (fun _ _ args s o t => lw_Q args s o t) := by
  intro p e ha hc hk s m args below hf hfit hheap happ hpre
  obtain ⟨b, xs, hP⟩ := lw_pre_spec hpre.2.2 hpre.2.1
  obtain ⟨k, o, h1, h2, h3, hQ⟩ := lw_walk l hflags b xs p e ha hc hk s m args below hf ((Spec.applies_iff_loose hf).mp happ).1 hP trivial
  exact ⟨k, o, h1, h2, h3, hQ⟩
theorem lw_frame {s t : State} {o : Outcome} {args : Array Value} (h : Framed s o t [] 600000 7302250) :
    Framed s o t (fieldLocs frame_1_writes args s ++ arrayLocs frame_1_arrays args s ++ staticLocs frame_1_statics s) 600000 7302250 := h
theorem lw_limb (L : Cond) (hL : ∀ (args : Array Value) (s t : State), L.after args s (.returned (some (.int 1))) t = true) :
    ArmFor flags0 classFile x code maxLocals ret World_1 tables_1 room_1 Calls_1 rest_1 Pre_1
      (fun tb e a s o t => postC L tb e a s o t ∧ Framed s o t (fieldLocs frame_1_writes a s ++ arrayLocs frame_1_arrays a s ++ staticLocs frame_1_statics s) 600000 7302250) := by
  intro l hflags _ _ p e ha hc hk s m args below hf hfit hheap happ hpre
  obtain ⟨k, o, h1, h2, h3, rfl, hF⟩ := lw_comes l hflags p e ha hc hk s m args below hf hfit hheap happ hpre
  exact ⟨k, _, h1, h2, h3, hL args s _, lw_frame hF⟩
theorem i_vc : Claimed_1_1 ∧ Claimed_1_2 := ⟨lw_limb limb_1_1 (fun args s t => by simp [limb_1_1, Cond.after, Cond.holds, Cond.value]), lw_limb limb_1_2 (fun args s t => Cond.after_iff.mpr (by
  first | (rw [show limb_1_2 = Cond.eq .result (.int 1) from rfl, Cond.eq_ints (x := 1) (y := 1) rfl rfl]; simp; done) | (simp [limb_1_2, Cond.value, Term.eval]; done)))⟩
