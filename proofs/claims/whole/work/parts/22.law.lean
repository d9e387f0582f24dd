-- ===== end of PART A; then your names; then what follows =====
/-! THE CLAIM OUT OF ONE WALK OF THE LAW'S BODY. Your part is whole_start (and what it stands on); all else here is the same for every law, but numbers. -/
def R_law : String := "SaltCloudsLaw"
def lw_P (b : Addr) (xs : List Int32) (args : Array Value) (s : State) : Prop := args = #[.ref b] ∧ s.IntsAt b xs ∧ xs.length ≤ 3072 ∧ (Jvm.Cond.and given_1 narrow_1).before args s = true
def lw_Q (_ : Array Value) (s : State) (o : Outcome) (t : State) : Prop := o = .returned (some (.int 1)) ∧ Framed s o t [] 600000 7302250
def lw_Z (below : List Frame) (a : Array Value) (s : State) : State → Prop := fun t => ∃ o, t.status = .running ∧ Ended t below o ∧ lw_Q a s o t
/-- the law's own end, with 1 on the stack, nothing written that was there before, its room as the claim has it -/
theorem lw_ret {p : Program} {l : Launch} {e : Env} {s : State} {m : MethodId} {below : List Frame} {meth : Method} {c : Code} {b : Nat} (hx : p.tables.exec = Jvm.exec) (hb : c.code = code) (hr : meth.sig.returnType = ret) (hlocks : meth.locks = false) {pc : Nat} {H : Heap} {ls : Array Slot} (hdg : decode code pc = .ok (.ireturn, 1)) : W p l e room_1 s m #[Value.ref b] below meth c H [] 600000 7302250 (lw_Z below #[Value.ref b] s) (F0 m pc ls [.int 1]) := by
  intro T hT X
  obtain ⟨fs, hret, hrun, hended, hW, hframe⟩ := X.leave (v := some (.int 1)) (hlocks := hlocks) (fun h => by rw [hr] at h; cases h)
  have hmeth' : T.vm.method? m = some meth := X.method'
  refine ⟨T.setFrames fs, ?_, .returned (some (.int 1)), hrun, hended, rfl, ⟨_, rfl⟩, hW, hframe⟩
  jvm_step X.here [X.here.top, hx, hb, hdg, hmeth', hr, ret, narrow_b1]
  (try refine ⟨rfl, ?_⟩); (try refine ⟨rfl, ?_⟩)
  first | (intro acts; rw [hret _ acts rfl rfl rfl]) | rw [hret _ _ rfl rfl rfl]
  exact Steps.refl _
/-- what holds at the law's entry: the machine, the code, the tables' words (any of lw_tbl by 'hts w (by decide +kernel)'), the script of L ints xs at the cell b, what the Statement gives of the start (any of its parts by flat_of_before) -/
def lw_At (p : Program) (s : State) (m : MethodId) (meth : Method) (c : Code) (b L : Nat) (xs : Nat → Int32) : Prop :=
  p.tables.exec = Jvm.exec ∧ c.code = code ∧ meth.sig.returnType = ret ∧ c.maxLocals = 4 ∧ s.vm.findClass R_law = some m.cls ∧ (∀ w ∈ lw_tbl, w.before #[Value.ref b] s = true) ∧ va_X b L xs s s.heap ∧ b < s.heap.size ∧ meth.locks = false ∧ (Jvm.Cond.and given_1 narrow_1).before #[Value.ref b] s = true
/-- the script, ahead of the block -/
def XS (ω : WX) (χ : KT) (b L : Nat) (xs : Nat → Int32) : Prop := va_X b L xs (kS χ) (kS χ).heap ∧ b < (kS χ).heap.size ∧ b < ω.1
def ZL (χ : KT) (b : Nat) : Unit → Mem → State → Prop := fun _ _ => lw_Z (kB χ) #[Value.ref b] (kS χ)
section JX
variable {ρ : Type} {Z : ρ → Mem → State → Prop} {l : Launch} {ω : WX} {χ : KT} {own : String} {cc : ByteArray} {d pc nL : Nat} {rt : Option FieldType} {lv : List (Nat × Value)} {st : List Value} {h : Mem} {o : Option (ρ × Mem)} {b L : Nat} {xs : Nat → Int32}
theorem J_scl (K : Kok ω χ own cc nL rt d) (hX : XS ω χ b L xs) (hdg : decode cc pc = .ok (.arraylength, 1)) (kk : J Z l ω χ (pc + 1) nL lv (.int (nI L) :: st) h o) : J Z l ω χ pc nL lv (.ref b :: st) h o := by
  intro r h' ho H locs ls hP hS hl
  exact va_slen K.1 K.2.1 hX.1 hX.2.1 (Nat.not_le.mpr hX.2.2) hS hdg (kk r h' ho H locs ls hP hS hl)
theorem J_scr (K : Kok ω χ own cc nL rt d) (hX : XS ω χ b L xs) {i : Int32} (hdg : decode cc pc = .ok (.iaload, 1)) (kk : J Z l ω χ (pc + 1) nL lv (.int (xs (ix i)) :: st) h o) : J Z l ω χ pc nL lv (.int i :: .ref b :: st) h (gin i L o) := by
  intro r h' ho H locs ls hP hS hl
  obtain ⟨hin, ho⟩ := gin_some ho
  exact va_sld K.1 K.2.1 hX.1 hX.2.1 (Nat.not_le.mpr hX.2.2) hS hin hdg (kk r h' ho H locs ls hP hS hl)
theorem J_lret (K : Kok ω χ own cL_law 4 ret d) (hχ : kR χ = room_1 ∧ kC χ = 600000 ∧ kN χ = 7302250 ∧ kA χ = #[Value.ref b] ∧ ω.1 = (kS χ).heap.size) (hdg : decode cL_law pc = .ok (.ireturn, 1)) : J (ZL χ b) l ω χ pc 4 lv [.int 1] h (some ((), h)) := by
  intro r h' ho H locs ls hP hS hl
  obtain ⟨p, e, R, cq, cz, s, m, args, below, meth, c⟩ := χ
  obtain ⟨h1, h2, h3, h4, h5⟩ := hχ
  subst h1
  subst h2
  subst h3
  subst h4
  have hf : ∀ q ∈ locs, s.heap.size ≤ q.base := fun q hq => by
    have h9 : ω.1 ≤ q.base := hS.2.2 q hq
    have h8 : ω.1 = s.heap.size := h5
    omega
  exact va_forget hf (lw_ret K.1 K.2.1 K.2.2.2.2.2.1 K.2.2.2.2.2.2.1 hdg)
end JX
theorem mi_X6_cloud : Cond.instanceMethod yX6_cloud ∈ jw ∧ Cond.selects (yX6_cloud).cls yX6_cloud yX6_cloud ∈ jw ∧ Cond.initialized (yX6_cloud).cls ∈ jw := ⟨jw_at 310 (by decide +kernel) rfl, jw_at 311 (by decide +kernel) rfl, jw_at 69 (by decide +kernel) rfl⟩
theorem cs_SaltCloudsLaw_13 : VS "SaltCloudsLaw" 13 yX6_cloud cX6_cloud 4 (some .int) 3 6 := ⟨jw_at 309 (by decide +kernel) rfl, mi_X6_cloud.1, mi_X6_cloud.2.1, mi_X6_cloud.2.2, mc_X6_cloud, oy_X6_cloud, by decide, by decide, TX6, 8, rfl⟩
theorem mi_X7_cloud : Cond.instanceMethod yX7_cloud ∈ jw ∧ Cond.selects (yX7_cloud).cls yX7_cloud yX7_cloud ∈ jw ∧ Cond.initialized (yX7_cloud).cls ∈ jw := ⟨jw_at 1010 (by decide +kernel) rfl, jw_at 1011 (by decide +kernel) rfl, jw_at 76 (by decide +kernel) rfl⟩
theorem cs_SaltCloudsLaw_17 : VS "SaltCloudsLaw" 17 yX7_cloud cX7_cloud 6 (some .int) 3 7 := ⟨jw_at 1009 (by decide +kernel) rfl, mi_X7_cloud.1, mi_X7_cloud.2.1, mi_X7_cloud.2.2, mc_X7_cloud, oy_X7_cloud, by decide, by decide, TX7, 24, rfl⟩
theorem mi_X6_ofCloud : Cond.instanceMethod yX6_ofCloud ∈ jw ∧ Cond.selects (yX6_ofCloud).cls yX6_ofCloud yX6_ofCloud ∈ jw ∧ Cond.initialized (yX6_ofCloud).cls ∈ jw := ⟨jw_at 339 (by decide +kernel) rfl, jw_at 340 (by decide +kernel) rfl, jw_at 69 (by decide +kernel) rfl⟩
theorem cs_SaltCloudsLaw_18 : VS "SaltCloudsLaw" 18 yX6_ofCloud cX6_ofCloud 3 (some .int) 2 6 := ⟨jw_at 338 (by decide +kernel) rfl, mi_X6_ofCloud.1, mi_X6_ofCloud.2.1, mi_X6_ofCloud.2.2, mc_X6_ofCloud, oy_X6_ofCloud, by decide, by decide, TX6, 8, rfl⟩
theorem mi_X7_ofCloud : Cond.instanceMethod yX7_ofCloud ∈ jw ∧ Cond.selects (yX7_ofCloud).cls yX7_ofCloud yX7_ofCloud ∈ jw ∧ Cond.initialized (yX7_ofCloud).cls ∈ jw := ⟨jw_at 1031 (by decide +kernel) rfl, jw_at 1032 (by decide +kernel) rfl, jw_at 76 (by decide +kernel) rfl⟩
theorem cs_SaltCloudsLaw_22 : VS "SaltCloudsLaw" 22 yX7_ofCloud cX7_ofCloud 3 (some .int) 2 7 := ⟨jw_at 1030 (by decide +kernel) rfl, mi_X7_ofCloud.1, mi_X7_ofCloud.2.1, mi_X7_ofCloud.2.2, mc_X7_ofCloud, oy_X7_ofCloud, by decide, by decide, TX7, 24, rfl⟩
theorem mi_X6_become : Cond.instanceMethod yX6_become ∈ jw ∧ Cond.selects (yX6_become).cls yX6_become yX6_become ∈ jw ∧ Cond.initialized (yX6_become).cls ∈ jw := ⟨jw_at 415 (by decide +kernel) rfl, jw_at 416 (by decide +kernel) rfl, jw_at 69 (by decide +kernel) rfl⟩
theorem cs_SaltCloudsLaw_23 : VS "SaltCloudsLaw" 23 yX6_become cX6_become 4 (some .int) 2 6 := ⟨jw_at 414 (by decide +kernel) rfl, mi_X6_become.1, mi_X6_become.2.1, mi_X6_become.2.2, mc_X6_become, oy_X6_become, by decide, by decide, TX6, 8, rfl⟩
theorem mi_X7_become : Cond.instanceMethod yX7_become ∈ jw ∧ Cond.selects (yX7_become).cls yX7_become yX7_become ∈ jw ∧ Cond.initialized (yX7_become).cls ∈ jw := ⟨jw_at 1124 (by decide +kernel) rfl, jw_at 1125 (by decide +kernel) rfl, jw_at 76 (by decide +kernel) rfl⟩
theorem cs_SaltCloudsLaw_26 : VS "SaltCloudsLaw" 26 yX7_become cX7_become 4 (some .int) 2 7 := ⟨jw_at 1123 (by decide +kernel) rfl, mi_X7_become.1, mi_X7_become.2.1, mi_X7_become.2.2, mc_X7_become, oy_X7_become, by decide, by decide, TX7, 24, rfl⟩
theorem mi_X6_as : Cond.instanceMethod yX6_as ∈ jw ∧ Cond.selects (yX6_as).cls yX6_as yX6_as ∈ jw ∧ Cond.initialized (yX6_as).cls ∈ jw := ⟨jw_at 420 (by decide +kernel) rfl, jw_at 421 (by decide +kernel) rfl, jw_at 69 (by decide +kernel) rfl⟩
theorem cs_SaltCloudsLaw_27 : VS "SaltCloudsLaw" 27 yX6_as cX6_as 3 (some .int) 2 6 := ⟨jw_at 419 (by decide +kernel) rfl, mi_X6_as.1, mi_X6_as.2.1, mi_X6_as.2.2, mc_X6_as, oy_X6_as, by decide, by decide, TX6, 8, rfl⟩
theorem mi_X7_as : Cond.instanceMethod yX7_as ∈ jw ∧ Cond.selects (yX7_as).cls yX7_as yX7_as ∈ jw ∧ Cond.initialized (yX7_as).cls ∈ jw := ⟨jw_at 1128 (by decide +kernel) rfl, jw_at 1129 (by decide +kernel) rfl, jw_at 76 (by decide +kernel) rfl⟩
theorem cs_SaltCloudsLaw_30 : VS "SaltCloudsLaw" 30 yX7_as cX7_as 4 (some .int) 2 7 := ⟨jw_at 1127 (by decide +kernel) rfl, mi_X7_as.1, mi_X7_as.2.1, mi_X7_as.2.2, mc_X7_as, oy_X7_as, by decide, by decide, TX7, 24, rfl⟩
theorem mi_X6_set : Cond.instanceMethod yX6_set ∈ jw ∧ Cond.selects (yX6_set).cls yX6_set yX6_set ∈ jw ∧ Cond.initialized (yX6_set).cls ∈ jw := ⟨jw_at 431 (by decide +kernel) rfl, jw_at 432 (by decide +kernel) rfl, jw_at 69 (by decide +kernel) rfl⟩
theorem cs_SaltCloudsLaw_31 : VS "SaltCloudsLaw" 31 yX6_set cX6_set 4 (some .int) 3 6 := ⟨jw_at 430 (by decide +kernel) rfl, mi_X6_set.1, mi_X6_set.2.1, mi_X6_set.2.2, mc_X6_set, oy_X6_set, by decide, by decide, TX6, 8, rfl⟩
theorem mi_X7_set : Cond.instanceMethod yX7_set ∈ jw ∧ Cond.selects (yX7_set).cls yX7_set yX7_set ∈ jw ∧ Cond.initialized (yX7_set).cls ∈ jw := ⟨jw_at 1136 (by decide +kernel) rfl, jw_at 1137 (by decide +kernel) rfl, jw_at 76 (by decide +kernel) rfl⟩
theorem cs_SaltCloudsLaw_34 : VS "SaltCloudsLaw" 34 yX7_set cX7_set 6 (some .int) 3 7 := ⟨jw_at 1135 (by decide +kernel) rfl, mi_X7_set.1, mi_X7_set.2.1, mi_X7_set.2.2, mc_X7_set, oy_X7_set, by decide, by decide, TX7, 24, rfl⟩
theorem mi_X6_hill : Cond.instanceMethod yX6_hill ∈ jw ∧ Cond.selects (yX6_hill).cls yX6_hill yX6_hill ∈ jw ∧ Cond.initialized (yX6_hill).cls ∈ jw := ⟨jw_at 443 (by decide +kernel) rfl, jw_at 444 (by decide +kernel) rfl, jw_at 69 (by decide +kernel) rfl⟩
theorem cs_SaltCloudsLaw_35 : VS "SaltCloudsLaw" 35 yX6_hill cX6_hill 4 (some .int) 2 6 := ⟨jw_at 442 (by decide +kernel) rfl, mi_X6_hill.1, mi_X6_hill.2.1, mi_X6_hill.2.2, mc_X6_hill, oy_X6_hill, by decide, by decide, TX6, 8, rfl⟩
theorem mi_X7_hill : Cond.instanceMethod yX7_hill ∈ jw ∧ Cond.selects (yX7_hill).cls yX7_hill yX7_hill ∈ jw ∧ Cond.initialized (yX7_hill).cls ∈ jw := ⟨jw_at 1145 (by decide +kernel) rfl, jw_at 1146 (by decide +kernel) rfl, jw_at 76 (by decide +kernel) rfl⟩
theorem cs_SaltCloudsLaw_38 : VS "SaltCloudsLaw" 38 yX7_hill cX7_hill 4 (some .int) 2 7 := ⟨jw_at 1144 (by decide +kernel) rfl, mi_X7_hill.1, mi_X7_hill.2.1, mi_X7_hill.2.2, mc_X7_hill, oy_X7_hill, by decide, by decide, TX7, 24, rfl⟩
theorem mi_X6_wind : Cond.instanceMethod yX6_wind ∈ jw ∧ Cond.selects (yX6_wind).cls yX6_wind yX6_wind ∈ jw ∧ Cond.initialized (yX6_wind).cls ∈ jw := ⟨jw_at 447 (by decide +kernel) rfl, jw_at 448 (by decide +kernel) rfl, jw_at 69 (by decide +kernel) rfl⟩
theorem cs_SaltCloudsLaw_39 : VS "SaltCloudsLaw" 39 yX6_wind cX6_wind 4 (some .int) 2 6 := ⟨jw_at 446 (by decide +kernel) rfl, mi_X6_wind.1, mi_X6_wind.2.1, mi_X6_wind.2.2, mc_X6_wind, oy_X6_wind, by decide, by decide, TX6, 8, rfl⟩
theorem mi_X7_wind : Cond.instanceMethod yX7_wind ∈ jw ∧ Cond.selects (yX7_wind).cls yX7_wind yX7_wind ∈ jw ∧ Cond.initialized (yX7_wind).cls ∈ jw := ⟨jw_at 1149 (by decide +kernel) rfl, jw_at 1150 (by decide +kernel) rfl, jw_at 76 (by decide +kernel) rfl⟩
theorem cs_SaltCloudsLaw_42 : VS "SaltCloudsLaw" 42 yX7_wind cX7_wind 4 (some .int) 2 7 := ⟨jw_at 1148 (by decide +kernel) rfl, mi_X7_wind.1, mi_X7_wind.2.1, mi_X7_wind.2.2, mc_X7_wind, oy_X7_wind, by decide, by decide, TX7, 24, rfl⟩
theorem mi_X6_join : Cond.instanceMethod yX6_join ∈ jw ∧ Cond.selects (yX6_join).cls yX6_join yX6_join ∈ jw ∧ Cond.initialized (yX6_join).cls ∈ jw := ⟨jw_at 451 (by decide +kernel) rfl, jw_at 452 (by decide +kernel) rfl, jw_at 69 (by decide +kernel) rfl⟩
theorem cs_SaltCloudsLaw_43 : VS "SaltCloudsLaw" 43 yX6_join cX6_join 3 (some .int) 2 6 := ⟨jw_at 450 (by decide +kernel) rfl, mi_X6_join.1, mi_X6_join.2.1, mi_X6_join.2.2, mc_X6_join, oy_X6_join, by decide, by decide, TX6, 8, rfl⟩
theorem mi_X7_join : Cond.instanceMethod yX7_join ∈ jw ∧ Cond.selects (yX7_join).cls yX7_join yX7_join ∈ jw ∧ Cond.initialized (yX7_join).cls ∈ jw := ⟨jw_at 1153 (by decide +kernel) rfl, jw_at 1154 (by decide +kernel) rfl, jw_at 76 (by decide +kernel) rfl⟩
theorem cs_SaltCloudsLaw_46 : VS "SaltCloudsLaw" 46 yX7_join cX7_join 4 (some .int) 2 7 := ⟨jw_at 1152 (by decide +kernel) rfl, mi_X7_join.1, mi_X7_join.2.1, mi_X7_join.2.2, mc_X7_join, oy_X7_join, by decide, by decide, TX7, 24, rfl⟩
theorem mi_X6_part : Cond.instanceMethod yX6_part ∈ jw ∧ Cond.selects (yX6_part).cls yX6_part yX6_part ∈ jw ∧ Cond.initialized (yX6_part).cls ∈ jw := ⟨jw_at 467 (by decide +kernel) rfl, jw_at 468 (by decide +kernel) rfl, jw_at 69 (by decide +kernel) rfl⟩
theorem cs_SaltCloudsLaw_47 : VS "SaltCloudsLaw" 47 yX6_part cX6_part 3 (some .int) 2 6 := ⟨jw_at 466 (by decide +kernel) rfl, mi_X6_part.1, mi_X6_part.2.1, mi_X6_part.2.2, mc_X6_part, oy_X6_part, by decide, by decide, TX6, 8, rfl⟩
theorem mi_X7_part : Cond.instanceMethod yX7_part ∈ jw ∧ Cond.selects (yX7_part).cls yX7_part yX7_part ∈ jw ∧ Cond.initialized (yX7_part).cls ∈ jw := ⟨jw_at 1157 (by decide +kernel) rfl, jw_at 1158 (by decide +kernel) rfl, jw_at 76 (by decide +kernel) rfl⟩
theorem cs_SaltCloudsLaw_50 : VS "SaltCloudsLaw" 50 yX7_part cX7_part 4 (some .int) 2 7 := ⟨jw_at 1156 (by decide +kernel) rfl, mi_X7_part.1, mi_X7_part.2.1, mi_X7_part.2.2, mc_X7_part, oy_X7_part, by decide, by decide, TX7, 24, rfl⟩
theorem kl_SaltCloudsLaw_51 : Cond.constantLong "SaltCloudsLaw" 51 (4294967295) ∈ jw := jw_at 1373 (by decide +kernel) rfl
theorem mi_X6_feed : Cond.instanceMethod yX6_feed ∈ jw ∧ Cond.selects (yX6_feed).cls yX6_feed yX6_feed ∈ jw ∧ Cond.initialized (yX6_feed).cls ∈ jw := ⟨jw_at 475 (by decide +kernel) rfl, jw_at 476 (by decide +kernel) rfl, jw_at 69 (by decide +kernel) rfl⟩
theorem cs_SaltCloudsLaw_53 : VS "SaltCloudsLaw" 53 yX6_feed cX6_feed 5 (some .int) 2 6 := ⟨jw_at 474 (by decide +kernel) rfl, mi_X6_feed.1, mi_X6_feed.2.1, mi_X6_feed.2.2, mc_X6_feed, oy_X6_feed, by decide, by decide, TX6, 8, rfl⟩
theorem mi_X7_feed : Cond.instanceMethod yX7_feed ∈ jw ∧ Cond.selects (yX7_feed).cls yX7_feed yX7_feed ∈ jw ∧ Cond.initialized (yX7_feed).cls ∈ jw := ⟨jw_at 1165 (by decide +kernel) rfl, jw_at 1166 (by decide +kernel) rfl, jw_at 76 (by decide +kernel) rfl⟩
theorem cs_SaltCloudsLaw_57 : VS "SaltCloudsLaw" 57 yX7_feed cX7_feed 5 (some .int) 2 7 := ⟨jw_at 1164 (by decide +kernel) rfl, mi_X7_feed.1, mi_X7_feed.2.1, mi_X7_feed.2.2, mc_X7_feed, oy_X7_feed, by decide, by decide, TX7, 24, rfl⟩
theorem mi_X6_text : Cond.instanceMethod yX6_text ∈ jw ∧ Cond.selects (yX6_text).cls yX6_text yX6_text ∈ jw ∧ Cond.initialized (yX6_text).cls ∈ jw := ⟨jw_at 479 (by decide +kernel) rfl, jw_at 480 (by decide +kernel) rfl, jw_at 69 (by decide +kernel) rfl⟩
theorem cs_SaltCloudsLaw_58 : VS "SaltCloudsLaw" 58 yX6_text cX6_text 3 (some .int) 1 6 := ⟨jw_at 478 (by decide +kernel) rfl, mi_X6_text.1, mi_X6_text.2.1, mi_X6_text.2.2, mc_X6_text, oy_X6_text, by decide, by decide, TX6, 8, rfl⟩
theorem mi_X7_text : Cond.instanceMethod yX7_text ∈ jw ∧ Cond.selects (yX7_text).cls yX7_text yX7_text ∈ jw ∧ Cond.initialized (yX7_text).cls ∈ jw := ⟨jw_at 1170 (by decide +kernel) rfl, jw_at 1171 (by decide +kernel) rfl, jw_at 76 (by decide +kernel) rfl⟩
theorem cs_SaltCloudsLaw_62 : VS "SaltCloudsLaw" 62 yX7_text cX7_text 5 (some .int) 1 7 := ⟨jw_at 1169 (by decide +kernel) rfl, mi_X7_text.1, mi_X7_text.2.1, mi_X7_text.2.2, mc_X7_text, oy_X7_text, by decide, by decide, TX7, 24, rfl⟩
theorem mi_X6_law : Cond.instanceMethod yX6_law ∈ jw ∧ Cond.selects (yX6_law).cls yX6_law yX6_law ∈ jw ∧ Cond.initialized (yX6_law).cls ∈ jw := ⟨jw_at 642 (by decide +kernel) rfl, jw_at 643 (by decide +kernel) rfl, jw_at 69 (by decide +kernel) rfl⟩
theorem cs_SaltCloudsLaw_63 : VS "SaltCloudsLaw" 63 yX6_law cX6_law 5 (some .int) 4 6 := ⟨jw_at 641 (by decide +kernel) rfl, mi_X6_law.1, mi_X6_law.2.1, mi_X6_law.2.2, mc_X6_law, oy_X6_law, by decide, by decide, TX6, 8, rfl⟩
theorem mi_X7_law : Cond.instanceMethod yX7_law ∈ jw ∧ Cond.selects (yX7_law).cls yX7_law yX7_law ∈ jw ∧ Cond.initialized (yX7_law).cls ∈ jw := ⟨jw_at 1161 (by decide +kernel) rfl, jw_at 1162 (by decide +kernel) rfl, jw_at 76 (by decide +kernel) rfl⟩
theorem cs_SaltCloudsLaw_67 : VS "SaltCloudsLaw" 67 yX7_law cX7_law 5 (some .int) 4 7 := ⟨jw_at 1160 (by decide +kernel) rfl, mi_X7_law.1, mi_X7_law.2.1, mi_X7_law.2.2, mc_X7_law, oy_X7_law, by decide, by decide, TX7, 24, rfl⟩
theorem mi_X6_hours : Cond.instanceMethod yX6_hours ∈ jw ∧ Cond.selects (yX6_hours).cls yX6_hours yX6_hours ∈ jw ∧ Cond.initialized (yX6_hours).cls ∈ jw := ⟨jw_at 653 (by decide +kernel) rfl, jw_at 654 (by decide +kernel) rfl, jw_at 69 (by decide +kernel) rfl⟩
theorem cs_SaltCloudsLaw_68 : VS "SaltCloudsLaw" 68 yX6_hours cX6_hours 3 (some .int) 1 6 := ⟨jw_at 652 (by decide +kernel) rfl, mi_X6_hours.1, mi_X6_hours.2.1, mi_X6_hours.2.2, mc_X6_hours, oy_X6_hours, by decide, by decide, TX6, 8, rfl⟩
theorem mi_X7_hours : Cond.instanceMethod yX7_hours ∈ jw ∧ Cond.selects (yX7_hours).cls yX7_hours yX7_hours ∈ jw ∧ Cond.initialized (yX7_hours).cls ∈ jw := ⟨jw_at 1178 (by decide +kernel) rfl, jw_at 1179 (by decide +kernel) rfl, jw_at 76 (by decide +kernel) rfl⟩
theorem cs_SaltCloudsLaw_71 : VS "SaltCloudsLaw" 71 yX7_hours cX7_hours 2 (some .int) 1 7 := ⟨jw_at 1177 (by decide +kernel) rfl, mi_X7_hours.1, mi_X7_hours.2.1, mi_X7_hours.2.2, mc_X7_hours, oy_X7_hours, by decide, by decide, TX7, 24, rfl⟩
theorem mi_X6_loose : Cond.instanceMethod yX6_loose ∈ jw ∧ Cond.selects (yX6_loose).cls yX6_loose yX6_loose ∈ jw ∧ Cond.initialized (yX6_loose).cls ∈ jw := ⟨jw_at 701 (by decide +kernel) rfl, jw_at 702 (by decide +kernel) rfl, jw_at 69 (by decide +kernel) rfl⟩
theorem cs_SaltCloudsLaw_72 : VS "SaltCloudsLaw" 72 yX6_loose cX6_loose 4 (some .int) 1 6 := ⟨jw_at 700 (by decide +kernel) rfl, mi_X6_loose.1, mi_X6_loose.2.1, mi_X6_loose.2.2, mc_X6_loose, oy_X6_loose, by decide, by decide, TX6, 8, rfl⟩
theorem mi_X7_loose : Cond.instanceMethod yX7_loose ∈ jw ∧ Cond.selects (yX7_loose).cls yX7_loose yX7_loose ∈ jw ∧ Cond.initialized (yX7_loose).cls ∈ jw := ⟨jw_at 1216 (by decide +kernel) rfl, jw_at 1217 (by decide +kernel) rfl, jw_at 76 (by decide +kernel) rfl⟩
theorem cs_SaltCloudsLaw_75 : VS "SaltCloudsLaw" 75 yX7_loose cX7_loose 2 (some .int) 1 7 := ⟨jw_at 1215 (by decide +kernel) rfl, mi_X7_loose.1, mi_X7_loose.2.1, mi_X7_loose.2.2, mc_X7_loose, oy_X7_loose, by decide, by decide, TX7, 24, rfl⟩
theorem mi_X6_then : Cond.instanceMethod yX6_then ∈ jw ∧ Cond.selects (yX6_then).cls yX6_then yX6_then ∈ jw ∧ Cond.initialized (yX6_then).cls ∈ jw := ⟨jw_at 711 (by decide +kernel) rfl, jw_at 712 (by decide +kernel) rfl, jw_at 69 (by decide +kernel) rfl⟩
theorem cs_SaltCloudsLaw_76 : VS "SaltCloudsLaw" 76 yX6_then cX6_then 5 (some .int) 3 6 := ⟨jw_at 710 (by decide +kernel) rfl, mi_X6_then.1, mi_X6_then.2.1, mi_X6_then.2.2, mc_X6_then, oy_X6_then, by decide, by decide, TX6, 8, rfl⟩
theorem mi_X7_then : Cond.instanceMethod yX7_then ∈ jw ∧ Cond.selects (yX7_then).cls yX7_then yX7_then ∈ jw ∧ Cond.initialized (yX7_then).cls ∈ jw := ⟨jw_at 1220 (by decide +kernel) rfl, jw_at 1221 (by decide +kernel) rfl, jw_at 76 (by decide +kernel) rfl⟩
theorem cs_SaltCloudsLaw_79 : VS "SaltCloudsLaw" 79 yX7_then cX7_then 5 (some .int) 3 7 := ⟨jw_at 1219 (by decide +kernel) rfl, mi_X7_then.1, mi_X7_then.2.1, mi_X7_then.2.2, mc_X7_then, oy_X7_then, by decide, by decide, TX7, 24, rfl⟩
theorem mi_X6_pay : Cond.instanceMethod yX6_pay ∈ jw ∧ Cond.selects (yX6_pay).cls yX6_pay yX6_pay ∈ jw ∧ Cond.initialized (yX6_pay).cls ∈ jw := ⟨jw_at 726 (by decide +kernel) rfl, jw_at 727 (by decide +kernel) rfl, jw_at 69 (by decide +kernel) rfl⟩
theorem cs_SaltCloudsLaw_80 : VS "SaltCloudsLaw" 80 yX6_pay cX6_pay 1 (some .int) 0 6 := ⟨jw_at 725 (by decide +kernel) rfl, mi_X6_pay.1, mi_X6_pay.2.1, mi_X6_pay.2.2, mc_X6_pay, oy_X6_pay, by decide, by decide, TX6, 8, rfl⟩
theorem mi_X7_pay : Cond.instanceMethod yX7_pay ∈ jw ∧ Cond.selects (yX7_pay).cls yX7_pay yX7_pay ∈ jw ∧ Cond.initialized (yX7_pay).cls ∈ jw := ⟨jw_at 1224 (by decide +kernel) rfl, jw_at 1225 (by decide +kernel) rfl, jw_at 76 (by decide +kernel) rfl⟩
theorem cs_SaltCloudsLaw_84 : VS "SaltCloudsLaw" 84 yX7_pay cX7_pay 1 (some .int) 0 7 := ⟨jw_at 1223 (by decide +kernel) rfl, mi_X7_pay.1, mi_X7_pay.2.1, mi_X7_pay.2.2, mc_X7_pay, oy_X7_pay, by decide, by decide, TX7, 24, rfl⟩
theorem mi_X6_nobodyBy : Cond.instanceMethod yX6_nobodyBy ∈ jw ∧ Cond.selects (yX6_nobodyBy).cls yX6_nobodyBy yX6_nobodyBy ∈ jw ∧ Cond.initialized (yX6_nobodyBy).cls ∈ jw := ⟨jw_at 740 (by decide +kernel) rfl, jw_at 741 (by decide +kernel) rfl, jw_at 69 (by decide +kernel) rfl⟩
theorem cs_SaltCloudsLaw_85 : VS "SaltCloudsLaw" 85 yX6_nobodyBy cX6_nobodyBy 3 (some .int) 1 6 := ⟨jw_at 739 (by decide +kernel) rfl, mi_X6_nobodyBy.1, mi_X6_nobodyBy.2.1, mi_X6_nobodyBy.2.2, mc_X6_nobodyBy, oy_X6_nobodyBy, by decide, by decide, TX6, 8, rfl⟩
theorem mi_X7_nobodyBy : Cond.instanceMethod yX7_nobodyBy ∈ jw ∧ Cond.selects (yX7_nobodyBy).cls yX7_nobodyBy yX7_nobodyBy ∈ jw ∧ Cond.initialized (yX7_nobodyBy).cls ∈ jw := ⟨jw_at 1236 (by decide +kernel) rfl, jw_at 1237 (by decide +kernel) rfl, jw_at 76 (by decide +kernel) rfl⟩
theorem cs_SaltCloudsLaw_88 : VS "SaltCloudsLaw" 88 yX7_nobodyBy cX7_nobodyBy 3 (some .int) 1 7 := ⟨jw_at 1235 (by decide +kernel) rfl, mi_X7_nobodyBy.1, mi_X7_nobodyBy.2.1, mi_X7_nobodyBy.2.2, mc_X7_nobodyBy, oy_X7_nobodyBy, by decide, by decide, TX7, 24, rfl⟩
theorem mi_X6_first : Cond.instanceMethod yX6_first ∈ jw ∧ Cond.selects (yX6_first).cls yX6_first yX6_first ∈ jw ∧ Cond.initialized (yX6_first).cls ∈ jw := ⟨jw_at 746 (by decide +kernel) rfl, jw_at 747 (by decide +kernel) rfl, jw_at 69 (by decide +kernel) rfl⟩
theorem cs_SaltCloudsLaw_89 : VS "SaltCloudsLaw" 89 yX6_first cX6_first 3 (some .int) 0 6 := ⟨jw_at 745 (by decide +kernel) rfl, mi_X6_first.1, mi_X6_first.2.1, mi_X6_first.2.2, mc_X6_first, oy_X6_first, by decide, by decide, TX6, 8, rfl⟩
theorem mi_X7_first : Cond.instanceMethod yX7_first ∈ jw ∧ Cond.selects (yX7_first).cls yX7_first yX7_first ∈ jw ∧ Cond.initialized (yX7_first).cls ∈ jw := ⟨jw_at 1245 (by decide +kernel) rfl, jw_at 1246 (by decide +kernel) rfl, jw_at 76 (by decide +kernel) rfl⟩
theorem cs_SaltCloudsLaw_92 : VS "SaltCloudsLaw" 92 yX7_first cX7_first 5 (some .int) 0 7 := ⟨jw_at 1244 (by decide +kernel) rfl, mi_X7_first.1, mi_X7_first.2.1, mi_X7_first.2.2, mc_X7_first, oy_X7_first, by decide, by decide, TX7, 24, rfl⟩
theorem mi_X6_comes : Cond.instanceMethod yX6_comes ∈ jw ∧ Cond.selects (yX6_comes).cls yX6_comes yX6_comes ∈ jw ∧ Cond.initialized (yX6_comes).cls ∈ jw := ⟨jw_at 754 (by decide +kernel) rfl, jw_at 755 (by decide +kernel) rfl, jw_at 69 (by decide +kernel) rfl⟩
theorem cs_SaltCloudsLaw_93 : VS "SaltCloudsLaw" 93 yX6_comes cX6_comes 4 (some .int) 2 6 := ⟨jw_at 753 (by decide +kernel) rfl, mi_X6_comes.1, mi_X6_comes.2.1, mi_X6_comes.2.2, mc_X6_comes, oy_X6_comes, by decide, by decide, TX6, 8, rfl⟩
theorem mi_X7_comes : Cond.instanceMethod yX7_comes ∈ jw ∧ Cond.selects (yX7_comes).cls yX7_comes yX7_comes ∈ jw ∧ Cond.initialized (yX7_comes).cls ∈ jw := ⟨jw_at 1249 (by decide +kernel) rfl, jw_at 1250 (by decide +kernel) rfl, jw_at 76 (by decide +kernel) rfl⟩
theorem cs_SaltCloudsLaw_96 : VS "SaltCloudsLaw" 96 yX7_comes cX7_comes 7 (some .int) 2 7 := ⟨jw_at 1248 (by decide +kernel) rfl, mi_X7_comes.1, mi_X7_comes.2.1, mi_X7_comes.2.2, mc_X7_comes, oy_X7_comes, by decide, by decide, TX7, 24, rfl⟩
theorem mi_X6_stays : Cond.instanceMethod yX6_stays ∈ jw ∧ Cond.selects (yX6_stays).cls yX6_stays yX6_stays ∈ jw ∧ Cond.initialized (yX6_stays).cls ∈ jw := ⟨jw_at 782 (by decide +kernel) rfl, jw_at 783 (by decide +kernel) rfl, jw_at 69 (by decide +kernel) rfl⟩
theorem cs_SaltCloudsLaw_97 : VS "SaltCloudsLaw" 97 yX6_stays cX6_stays 2 (some .int) 1 6 := ⟨jw_at 781 (by decide +kernel) rfl, mi_X6_stays.1, mi_X6_stays.2.1, mi_X6_stays.2.2, mc_X6_stays, oy_X6_stays, by decide, by decide, TX6, 8, rfl⟩
theorem mi_X7_stays : Cond.instanceMethod yX7_stays ∈ jw ∧ Cond.selects (yX7_stays).cls yX7_stays yX7_stays ∈ jw ∧ Cond.initialized (yX7_stays).cls ∈ jw := ⟨jw_at 1264 (by decide +kernel) rfl, jw_at 1265 (by decide +kernel) rfl, jw_at 76 (by decide +kernel) rfl⟩
theorem cs_SaltCloudsLaw_100 : VS "SaltCloudsLaw" 100 yX7_stays cX7_stays 2 (some .int) 1 7 := ⟨jw_at 1263 (by decide +kernel) rfl, mi_X7_stays.1, mi_X7_stays.2.1, mi_X7_stays.2.2, mc_X7_stays, oy_X7_stays, by decide, by decide, TX7, 24, rfl⟩
theorem mi_X6_meets : Cond.instanceMethod yX6_meets ∈ jw ∧ Cond.selects (yX6_meets).cls yX6_meets yX6_meets ∈ jw ∧ Cond.initialized (yX6_meets).cls ∈ jw := ⟨jw_at 788 (by decide +kernel) rfl, jw_at 789 (by decide +kernel) rfl, jw_at 69 (by decide +kernel) rfl⟩
theorem cs_SaltCloudsLaw_101 : VS "SaltCloudsLaw" 101 yX6_meets cX6_meets 4 (some .int) 2 6 := ⟨jw_at 787 (by decide +kernel) rfl, mi_X6_meets.1, mi_X6_meets.2.1, mi_X6_meets.2.2, mc_X6_meets, oy_X6_meets, by decide, by decide, TX6, 8, rfl⟩
theorem mi_X7_meets : Cond.instanceMethod yX7_meets ∈ jw ∧ Cond.selects (yX7_meets).cls yX7_meets yX7_meets ∈ jw ∧ Cond.initialized (yX7_meets).cls ∈ jw := ⟨jw_at 1268 (by decide +kernel) rfl, jw_at 1269 (by decide +kernel) rfl, jw_at 76 (by decide +kernel) rfl⟩
theorem cs_SaltCloudsLaw_104 : VS "SaltCloudsLaw" 104 yX7_meets cX7_meets 4 (some .int) 2 7 := ⟨jw_at 1267 (by decide +kernel) rfl, mi_X7_meets.1, mi_X7_meets.2.1, mi_X7_meets.2.2, mc_X7_meets, oy_X7_meets, by decide, by decide, TX7, 24, rfl⟩
theorem mi_X6_storm : Cond.instanceMethod yX6_storm ∈ jw ∧ Cond.selects (yX6_storm).cls yX6_storm yX6_storm ∈ jw ∧ Cond.initialized (yX6_storm).cls ∈ jw := ⟨jw_at 792 (by decide +kernel) rfl, jw_at 793 (by decide +kernel) rfl, jw_at 69 (by decide +kernel) rfl⟩
theorem cs_SaltCloudsLaw_105 : VS "SaltCloudsLaw" 105 yX6_storm cX6_storm 4 (some .int) 2 6 := ⟨jw_at 791 (by decide +kernel) rfl, mi_X6_storm.1, mi_X6_storm.2.1, mi_X6_storm.2.2, mc_X6_storm, oy_X6_storm, by decide, by decide, TX6, 8, rfl⟩
theorem mi_X7_storm : Cond.instanceMethod yX7_storm ∈ jw ∧ Cond.selects (yX7_storm).cls yX7_storm yX7_storm ∈ jw ∧ Cond.initialized (yX7_storm).cls ∈ jw := ⟨jw_at 1272 (by decide +kernel) rfl, jw_at 1273 (by decide +kernel) rfl, jw_at 76 (by decide +kernel) rfl⟩
theorem cs_SaltCloudsLaw_108 : VS "SaltCloudsLaw" 108 yX7_storm cX7_storm 9 (some .int) 2 7 := ⟨jw_at 1271 (by decide +kernel) rfl, mi_X7_storm.1, mi_X7_storm.2.1, mi_X7_storm.2.2, mc_X7_storm, oy_X7_storm, by decide, by decide, TX7, 24, rfl⟩
theorem mi_X6_paid : Cond.instanceMethod yX6_paid ∈ jw ∧ Cond.selects (yX6_paid).cls yX6_paid yX6_paid ∈ jw ∧ Cond.initialized (yX6_paid).cls ∈ jw := ⟨jw_at 811 (by decide +kernel) rfl, jw_at 812 (by decide +kernel) rfl, jw_at 69 (by decide +kernel) rfl⟩
theorem cs_SaltCloudsLaw_109 : VS "SaltCloudsLaw" 109 yX6_paid cX6_paid 1 (some .int) 0 6 := ⟨jw_at 810 (by decide +kernel) rfl, mi_X6_paid.1, mi_X6_paid.2.1, mi_X6_paid.2.2, mc_X6_paid, oy_X6_paid, by decide, by decide, TX6, 8, rfl⟩
theorem mi_X7_paid : Cond.instanceMethod yX7_paid ∈ jw ∧ Cond.selects (yX7_paid).cls yX7_paid yX7_paid ∈ jw ∧ Cond.initialized (yX7_paid).cls ∈ jw := ⟨jw_at 1279 (by decide +kernel) rfl, jw_at 1280 (by decide +kernel) rfl, jw_at 76 (by decide +kernel) rfl⟩
theorem cs_SaltCloudsLaw_112 : VS "SaltCloudsLaw" 112 yX7_paid cX7_paid 2 (some .int) 0 7 := ⟨jw_at 1278 (by decide +kernel) rfl, mi_X7_paid.1, mi_X7_paid.2.1, mi_X7_paid.2.2, mc_X7_paid, oy_X7_paid, by decide, by decide, TX7, 24, rfl⟩
theorem mi_X6_sun : Cond.instanceMethod yX6_sun ∈ jw ∧ Cond.selects (yX6_sun).cls yX6_sun yX6_sun ∈ jw ∧ Cond.initialized (yX6_sun).cls ∈ jw := ⟨jw_at 815 (by decide +kernel) rfl, jw_at 816 (by decide +kernel) rfl, jw_at 69 (by decide +kernel) rfl⟩
theorem cs_SaltCloudsLaw_113 : VS "SaltCloudsLaw" 113 yX6_sun cX6_sun 5 (some .int) 3 6 := ⟨jw_at 814 (by decide +kernel) rfl, mi_X6_sun.1, mi_X6_sun.2.1, mi_X6_sun.2.2, mc_X6_sun, oy_X6_sun, by decide, by decide, TX6, 8, rfl⟩
theorem mi_X7_sun : Cond.instanceMethod yX7_sun ∈ jw ∧ Cond.selects (yX7_sun).cls yX7_sun yX7_sun ∈ jw ∧ Cond.initialized (yX7_sun).cls ∈ jw := ⟨jw_at 1283 (by decide +kernel) rfl, jw_at 1284 (by decide +kernel) rfl, jw_at 76 (by decide +kernel) rfl⟩
theorem cs_SaltCloudsLaw_116 : VS "SaltCloudsLaw" 116 yX7_sun cX7_sun 8 (some .int) 3 7 := ⟨jw_at 1282 (by decide +kernel) rfl, mi_X7_sun.1, mi_X7_sun.2.1, mi_X7_sun.2.2, mc_X7_sun, oy_X7_sun, by decide, by decide, TX7, 24, rfl⟩
theorem mi_X6_winds : Cond.instanceMethod yX6_winds ∈ jw ∧ Cond.selects (yX6_winds).cls yX6_winds yX6_winds ∈ jw ∧ Cond.initialized (yX6_winds).cls ∈ jw := ⟨jw_at 829 (by decide +kernel) rfl, jw_at 830 (by decide +kernel) rfl, jw_at 69 (by decide +kernel) rfl⟩
theorem cs_SaltCloudsLaw_117 : VS "SaltCloudsLaw" 117 yX6_winds cX6_winds 11 (some .int) 3 6 := ⟨jw_at 828 (by decide +kernel) rfl, mi_X6_winds.1, mi_X6_winds.2.1, mi_X6_winds.2.2, mc_X6_winds, oy_X6_winds, by decide, by decide, TX6, 8, rfl⟩
theorem mi_X7_winds : Cond.instanceMethod yX7_winds ∈ jw ∧ Cond.selects (yX7_winds).cls yX7_winds yX7_winds ∈ jw ∧ Cond.initialized (yX7_winds).cls ∈ jw := ⟨jw_at 1287 (by decide +kernel) rfl, jw_at 1288 (by decide +kernel) rfl, jw_at 76 (by decide +kernel) rfl⟩
theorem cs_SaltCloudsLaw_120 : VS "SaltCloudsLaw" 120 yX7_winds cX7_winds 10 (some .int) 3 7 := ⟨jw_at 1286 (by decide +kernel) rfl, mi_X7_winds.1, mi_X7_winds.2.1, mi_X7_winds.2.2, mc_X7_winds, oy_X7_winds, by decide, by decide, TX7, 24, rfl⟩
theorem mi_X6_seed : Cond.instanceMethod yX6_seed ∈ jw ∧ Cond.selects (yX6_seed).cls yX6_seed yX6_seed ∈ jw ∧ Cond.initialized (yX6_seed).cls ∈ jw := ⟨jw_at 838 (by decide +kernel) rfl, jw_at 839 (by decide +kernel) rfl, jw_at 69 (by decide +kernel) rfl⟩
theorem cs_SaltCloudsLaw_121 : VS "SaltCloudsLaw" 121 yX6_seed cX6_seed 3 (some .int) 1 6 := ⟨jw_at 837 (by decide +kernel) rfl, mi_X6_seed.1, mi_X6_seed.2.1, mi_X6_seed.2.2, mc_X6_seed, oy_X6_seed, by decide, by decide, TX6, 8, rfl⟩
theorem mi_X7_seed : Cond.instanceMethod yX7_seed ∈ jw ∧ Cond.selects (yX7_seed).cls yX7_seed yX7_seed ∈ jw ∧ Cond.initialized (yX7_seed).cls ∈ jw := ⟨jw_at 1295 (by decide +kernel) rfl, jw_at 1296 (by decide +kernel) rfl, jw_at 76 (by decide +kernel) rfl⟩
theorem cs_SaltCloudsLaw_124 : VS "SaltCloudsLaw" 124 yX7_seed cX7_seed 3 (some .int) 1 7 := ⟨jw_at 1294 (by decide +kernel) rfl, mi_X7_seed.1, mi_X7_seed.2.1, mi_X7_seed.2.2, mc_X7_seed, oy_X7_seed, by decide, by decide, TX7, 24, rfl⟩
theorem mi_X6_voice : Cond.instanceMethod yX6_voice ∈ jw ∧ Cond.selects (yX6_voice).cls yX6_voice yX6_voice ∈ jw ∧ Cond.initialized (yX6_voice).cls ∈ jw := ⟨jw_at 842 (by decide +kernel) rfl, jw_at 843 (by decide +kernel) rfl, jw_at 69 (by decide +kernel) rfl⟩
theorem cs_SaltCloudsLaw_125 : VS "SaltCloudsLaw" 125 yX6_voice cX6_voice 4 (some .int) 3 6 := ⟨jw_at 841 (by decide +kernel) rfl, mi_X6_voice.1, mi_X6_voice.2.1, mi_X6_voice.2.2, mc_X6_voice, oy_X6_voice, by decide, by decide, TX6, 8, rfl⟩
theorem mi_X7_voice : Cond.instanceMethod yX7_voice ∈ jw ∧ Cond.selects (yX7_voice).cls yX7_voice yX7_voice ∈ jw ∧ Cond.initialized (yX7_voice).cls ∈ jw := ⟨jw_at 1299 (by decide +kernel) rfl, jw_at 1300 (by decide +kernel) rfl, jw_at 76 (by decide +kernel) rfl⟩
theorem cs_SaltCloudsLaw_128 : VS "SaltCloudsLaw" 128 yX7_voice cX7_voice 4 (some .int) 3 7 := ⟨jw_at 1298 (by decide +kernel) rfl, mi_X7_voice.1, mi_X7_voice.2.1, mi_X7_voice.2.2, mc_X7_voice, oy_X7_voice, by decide, by decide, TX7, 24, rfl⟩
theorem mi_X6_trace : Cond.instanceMethod yX6_trace ∈ jw ∧ Cond.selects (yX6_trace).cls yX6_trace yX6_trace ∈ jw ∧ Cond.initialized (yX6_trace).cls ∈ jw := ⟨jw_at 870 (by decide +kernel) rfl, jw_at 871 (by decide +kernel) rfl, jw_at 69 (by decide +kernel) rfl⟩
theorem cs_SaltCloudsLaw_129 : VS "SaltCloudsLaw" 129 yX6_trace cX6_trace 2 (some .int) 1 6 := ⟨jw_at 869 (by decide +kernel) rfl, mi_X6_trace.1, mi_X6_trace.2.1, mi_X6_trace.2.2, mc_X6_trace, oy_X6_trace, by decide, by decide, TX6, 8, rfl⟩
theorem mi_X7_trace : Cond.instanceMethod yX7_trace ∈ jw ∧ Cond.selects (yX7_trace).cls yX7_trace yX7_trace ∈ jw ∧ Cond.initialized (yX7_trace).cls ∈ jw := ⟨jw_at 1323 (by decide +kernel) rfl, jw_at 1324 (by decide +kernel) rfl, jw_at 76 (by decide +kernel) rfl⟩
theorem cs_SaltCloudsLaw_132 : VS "SaltCloudsLaw" 132 yX7_trace cX7_trace 2 (some .int) 1 7 := ⟨jw_at 1322 (by decide +kernel) rfl, mi_X7_trace.1, mi_X7_trace.2.1, mi_X7_trace.2.2, mc_X7_trace, oy_X7_trace, by decide, by decide, TX7, 24, rfl⟩
theorem mi_X6_sheet : Cond.instanceMethod yX6_sheet ∈ jw ∧ Cond.selects (yX6_sheet).cls yX6_sheet yX6_sheet ∈ jw ∧ Cond.initialized (yX6_sheet).cls ∈ jw := ⟨jw_at 874 (by decide +kernel) rfl, jw_at 875 (by decide +kernel) rfl, jw_at 69 (by decide +kernel) rfl⟩
theorem cs_SaltCloudsLaw_133 : VS "SaltCloudsLaw" 133 yX6_sheet cX6_sheet 5 (some .int) 3 6 := ⟨jw_at 873 (by decide +kernel) rfl, mi_X6_sheet.1, mi_X6_sheet.2.1, mi_X6_sheet.2.2, mc_X6_sheet, oy_X6_sheet, by decide, by decide, TX6, 8, rfl⟩
theorem mi_X7_sheet : Cond.instanceMethod yX7_sheet ∈ jw ∧ Cond.selects (yX7_sheet).cls yX7_sheet yX7_sheet ∈ jw ∧ Cond.initialized (yX7_sheet).cls ∈ jw := ⟨jw_at 1327 (by decide +kernel) rfl, jw_at 1328 (by decide +kernel) rfl, jw_at 76 (by decide +kernel) rfl⟩
theorem cs_SaltCloudsLaw_136 : VS "SaltCloudsLaw" 136 yX7_sheet cX7_sheet 5 (some .int) 3 7 := ⟨jw_at 1326 (by decide +kernel) rfl, mi_X7_sheet.1, mi_X7_sheet.2.1, mi_X7_sheet.2.2, mc_X7_sheet, oy_X7_sheet, by decide, by decide, TX7, 24, rfl⟩
theorem mi_X6_put : Cond.instanceMethod yX6_put ∈ jw ∧ Cond.selects (yX6_put).cls yX6_put yX6_put ∈ jw ∧ Cond.initialized (yX6_put).cls ∈ jw := ⟨jw_at 882 (by decide +kernel) rfl, jw_at 883 (by decide +kernel) rfl, jw_at 69 (by decide +kernel) rfl⟩
theorem cs_SaltCloudsLaw_137 : VS "SaltCloudsLaw" 137 yX6_put cX6_put 4 (some .int) 3 6 := ⟨jw_at 881 (by decide +kernel) rfl, mi_X6_put.1, mi_X6_put.2.1, mi_X6_put.2.2, mc_X6_put, oy_X6_put, by decide, by decide, TX6, 8, rfl⟩
theorem mi_X7_put : Cond.instanceMethod yX7_put ∈ jw ∧ Cond.selects (yX7_put).cls yX7_put yX7_put ∈ jw ∧ Cond.initialized (yX7_put).cls ∈ jw := ⟨jw_at 1331 (by decide +kernel) rfl, jw_at 1332 (by decide +kernel) rfl, jw_at 76 (by decide +kernel) rfl⟩
theorem cs_SaltCloudsLaw_140 : VS "SaltCloudsLaw" 140 yX7_put cX7_put 4 (some .int) 3 7 := ⟨jw_at 1330 (by decide +kernel) rfl, mi_X7_put.1, mi_X7_put.2.1, mi_X7_put.2.2, mc_X7_put, oy_X7_put, by decide, by decide, TX7, 24, rfl⟩
theorem mi_X6_move : Cond.instanceMethod yX6_move ∈ jw ∧ Cond.selects (yX6_move).cls yX6_move yX6_move ∈ jw ∧ Cond.initialized (yX6_move).cls ∈ jw := ⟨jw_at 890 (by decide +kernel) rfl, jw_at 891 (by decide +kernel) rfl, jw_at 69 (by decide +kernel) rfl⟩
theorem cs_SaltCloudsLaw_141 : VS "SaltCloudsLaw" 141 yX6_move cX6_move 8 (some .int) 5 6 := ⟨jw_at 889 (by decide +kernel) rfl, mi_X6_move.1, mi_X6_move.2.1, mi_X6_move.2.2, mc_X6_move, oy_X6_move, by decide, by decide, TX6, 8, rfl⟩
theorem mi_X7_move : Cond.instanceMethod yX7_move ∈ jw ∧ Cond.selects (yX7_move).cls yX7_move yX7_move ∈ jw ∧ Cond.initialized (yX7_move).cls ∈ jw := ⟨jw_at 1338 (by decide +kernel) rfl, jw_at 1339 (by decide +kernel) rfl, jw_at 76 (by decide +kernel) rfl⟩
theorem cs_SaltCloudsLaw_145 : VS "SaltCloudsLaw" 145 yX7_move cX7_move 7 (some .int) 5 7 := ⟨jw_at 1337 (by decide +kernel) rfl, mi_X7_move.1, mi_X7_move.2.1, mi_X7_move.2.2, mc_X7_move, oy_X7_move, by decide, by decide, TX7, 24, rfl⟩
theorem mi_X6_hills : Cond.instanceMethod yX6_hills ∈ jw ∧ Cond.selects (yX6_hills).cls yX6_hills yX6_hills ∈ jw ∧ Cond.initialized (yX6_hills).cls ∈ jw := ⟨jw_at 899 (by decide +kernel) rfl, jw_at 900 (by decide +kernel) rfl, jw_at 69 (by decide +kernel) rfl⟩
theorem cs_SaltCloudsLaw_146 : VS "SaltCloudsLaw" 146 yX6_hills cX6_hills 4 (some .int) 1 6 := ⟨jw_at 898 (by decide +kernel) rfl, mi_X6_hills.1, mi_X6_hills.2.1, mi_X6_hills.2.2, mc_X6_hills, oy_X6_hills, by decide, by decide, TX6, 8, rfl⟩
theorem mi_X7_hills : Cond.instanceMethod yX7_hills ∈ jw ∧ Cond.selects (yX7_hills).cls yX7_hills yX7_hills ∈ jw ∧ Cond.initialized (yX7_hills).cls ∈ jw := ⟨jw_at 1342 (by decide +kernel) rfl, jw_at 1343 (by decide +kernel) rfl, jw_at 76 (by decide +kernel) rfl⟩
theorem cs_SaltCloudsLaw_149 : VS "SaltCloudsLaw" 149 yX7_hills cX7_hills 3 (some .int) 1 7 := ⟨jw_at 1341 (by decide +kernel) rfl, mi_X7_hills.1, mi_X7_hills.2.1, mi_X7_hills.2.2, mc_X7_hills, oy_X7_hills, by decide, by decide, TX7, 24, rfl⟩
theorem mi_X6_judge : Cond.instanceMethod yX6_judge ∈ jw ∧ Cond.selects (yX6_judge).cls yX6_judge yX6_judge ∈ jw ∧ Cond.initialized (yX6_judge).cls ∈ jw := ⟨jw_at 903 (by decide +kernel) rfl, jw_at 904 (by decide +kernel) rfl, jw_at 69 (by decide +kernel) rfl⟩
theorem cs_SaltCloudsLaw_150 : VS "SaltCloudsLaw" 150 yX6_judge cX6_judge 4 (some .int) 1 6 := ⟨jw_at 902 (by decide +kernel) rfl, mi_X6_judge.1, mi_X6_judge.2.1, mi_X6_judge.2.2, mc_X6_judge, oy_X6_judge, by decide, by decide, TX6, 8, rfl⟩
theorem mi_X7_judge : Cond.instanceMethod yX7_judge ∈ jw ∧ Cond.selects (yX7_judge).cls yX7_judge yX7_judge ∈ jw ∧ Cond.initialized (yX7_judge).cls ∈ jw := ⟨jw_at 1346 (by decide +kernel) rfl, jw_at 1347 (by decide +kernel) rfl, jw_at 76 (by decide +kernel) rfl⟩
theorem cs_SaltCloudsLaw_153 : VS "SaltCloudsLaw" 153 yX7_judge cX7_judge 3 (some .int) 1 7 := ⟨jw_at 1345 (by decide +kernel) rfl, mi_X7_judge.1, mi_X7_judge.2.1, mi_X7_judge.2.2, mc_X7_judge, oy_X7_judge, by decide, by decide, TX7, 24, rfl⟩
theorem mi_X6_image : Cond.instanceMethod yX6_image ∈ jw ∧ Cond.selects (yX6_image).cls yX6_image yX6_image ∈ jw ∧ Cond.initialized (yX6_image).cls ∈ jw := ⟨jw_at 907 (by decide +kernel) rfl, jw_at 908 (by decide +kernel) rfl, jw_at 69 (by decide +kernel) rfl⟩
theorem cs_SaltCloudsLaw_154 : VS "SaltCloudsLaw" 154 yX6_image cX6_image 1 (some .int) 0 6 := ⟨jw_at 906 (by decide +kernel) rfl, mi_X6_image.1, mi_X6_image.2.1, mi_X6_image.2.2, mc_X6_image, oy_X6_image, by decide, by decide, TX6, 8, rfl⟩
theorem mi_X7_image : Cond.instanceMethod yX7_image ∈ jw ∧ Cond.selects (yX7_image).cls yX7_image yX7_image ∈ jw ∧ Cond.initialized (yX7_image).cls ∈ jw := ⟨jw_at 1350 (by decide +kernel) rfl, jw_at 1351 (by decide +kernel) rfl, jw_at 76 (by decide +kernel) rfl⟩
theorem cs_SaltCloudsLaw_157 : VS "SaltCloudsLaw" 157 yX7_image cX7_image 1 (some .int) 0 7 := ⟨jw_at 1349 (by decide +kernel) rfl, mi_X7_image.1, mi_X7_image.2.1, mi_X7_image.2.2, mc_X7_image, oy_X7_image, by decide, by decide, TX7, 24, rfl⟩
theorem mi_X6_restore : Cond.instanceMethod yX6_restore ∈ jw ∧ Cond.selects (yX6_restore).cls yX6_restore yX6_restore ∈ jw ∧ Cond.initialized (yX6_restore).cls ∈ jw := ⟨jw_at 911 (by decide +kernel) rfl, jw_at 912 (by decide +kernel) rfl, jw_at 69 (by decide +kernel) rfl⟩
theorem cs_SaltCloudsLaw_158 : VS "SaltCloudsLaw" 158 yX6_restore cX6_restore 1 (some .int) 0 6 := ⟨jw_at 910 (by decide +kernel) rfl, mi_X6_restore.1, mi_X6_restore.2.1, mi_X6_restore.2.2, mc_X6_restore, oy_X6_restore, by decide, by decide, TX6, 8, rfl⟩
theorem mi_X7_restore : Cond.instanceMethod yX7_restore ∈ jw ∧ Cond.selects (yX7_restore).cls yX7_restore yX7_restore ∈ jw ∧ Cond.initialized (yX7_restore).cls ∈ jw := ⟨jw_at 1354 (by decide +kernel) rfl, jw_at 1355 (by decide +kernel) rfl, jw_at 76 (by decide +kernel) rfl⟩
theorem cs_SaltCloudsLaw_161 : VS "SaltCloudsLaw" 161 yX7_restore cX7_restore 1 (some .int) 0 7 := ⟨jw_at 1353 (by decide +kernel) rfl, mi_X7_restore.1, mi_X7_restore.2.1, mi_X7_restore.2.2, mc_X7_restore, oy_X7_restore, by decide, by decide, TX7, 24, rfl⟩
theorem mi_X6_tell : Cond.instanceMethod yX6_tell ∈ jw ∧ Cond.selects (yX6_tell).cls yX6_tell yX6_tell ∈ jw ∧ Cond.initialized (yX6_tell).cls ∈ jw := ⟨jw_at 915 (by decide +kernel) rfl, jw_at 916 (by decide +kernel) rfl, jw_at 69 (by decide +kernel) rfl⟩
theorem cs_SaltCloudsLaw_162 : VS "SaltCloudsLaw" 162 yX6_tell cX6_tell 2 (some .int) 1 6 := ⟨jw_at 914 (by decide +kernel) rfl, mi_X6_tell.1, mi_X6_tell.2.1, mi_X6_tell.2.2, mc_X6_tell, oy_X6_tell, by decide, by decide, TX6, 8, rfl⟩
theorem mi_X7_tell : Cond.instanceMethod yX7_tell ∈ jw ∧ Cond.selects (yX7_tell).cls yX7_tell yX7_tell ∈ jw ∧ Cond.initialized (yX7_tell).cls ∈ jw := ⟨jw_at 1358 (by decide +kernel) rfl, jw_at 1359 (by decide +kernel) rfl, jw_at 76 (by decide +kernel) rfl⟩
theorem cs_SaltCloudsLaw_165 : VS "SaltCloudsLaw" 165 yX7_tell cX7_tell 2 (some .int) 1 7 := ⟨jw_at 1357 (by decide +kernel) rfl, mi_X7_tell.1, mi_X7_tell.2.1, mi_X7_tell.2.2, mc_X7_tell, oy_X7_tell, by decide, by decide, TX7, 24, rfl⟩
theorem mi_X6_check : Cond.instanceMethod yX6_check ∈ jw ∧ Cond.selects (yX6_check).cls yX6_check yX6_check ∈ jw ∧ Cond.initialized (yX6_check).cls ∈ jw := ⟨jw_at 919 (by decide +kernel) rfl, jw_at 920 (by decide +kernel) rfl, jw_at 69 (by decide +kernel) rfl⟩
theorem cs_SaltCloudsLaw_166 : VS "SaltCloudsLaw" 166 yX6_check cX6_check 3 (some .int) 0 6 := ⟨jw_at 918 (by decide +kernel) rfl, mi_X6_check.1, mi_X6_check.2.1, mi_X6_check.2.2, mc_X6_check, oy_X6_check, by decide, by decide, TX6, 8, rfl⟩
theorem mi_X7_check : Cond.instanceMethod yX7_check ∈ jw ∧ Cond.selects (yX7_check).cls yX7_check yX7_check ∈ jw ∧ Cond.initialized (yX7_check).cls ∈ jw := ⟨jw_at 1362 (by decide +kernel) rfl, jw_at 1363 (by decide +kernel) rfl, jw_at 76 (by decide +kernel) rfl⟩
theorem cs_SaltCloudsLaw_169 : VS "SaltCloudsLaw" 169 yX7_check cX7_check 4 (some .int) 0 7 := ⟨jw_at 1361 (by decide +kernel) rfl, mi_X7_check.1, mi_X7_check.2.1, mi_X7_check.2.2, mc_X7_check, oy_X7_check, by decide, by decide, TX7, 24, rfl⟩
theorem mi_X6_count : Cond.instanceMethod yX6_count ∈ jw ∧ Cond.selects (yX6_count).cls yX6_count yX6_count ∈ jw ∧ Cond.initialized (yX6_count).cls ∈ jw := ⟨jw_at 923 (by decide +kernel) rfl, jw_at 924 (by decide +kernel) rfl, jw_at 69 (by decide +kernel) rfl⟩
theorem cs_SaltCloudsLaw_170 : VS "SaltCloudsLaw" 170 yX6_count cX6_count 2 (some .int) 1 6 := ⟨jw_at 922 (by decide +kernel) rfl, mi_X6_count.1, mi_X6_count.2.1, mi_X6_count.2.2, mc_X6_count, oy_X6_count, by decide, by decide, TX6, 8, rfl⟩
theorem mi_X7_count : Cond.instanceMethod yX7_count ∈ jw ∧ Cond.selects (yX7_count).cls yX7_count yX7_count ∈ jw ∧ Cond.initialized (yX7_count).cls ∈ jw := ⟨jw_at 1366 (by decide +kernel) rfl, jw_at 1367 (by decide +kernel) rfl, jw_at 76 (by decide +kernel) rfl⟩
theorem cs_SaltCloudsLaw_173 : VS "SaltCloudsLaw" 173 yX7_count cX7_count 2 (some .int) 1 7 := ⟨jw_at 1365 (by decide +kernel) rfl, mi_X7_count.1, mi_X7_count.2.1, mi_X7_count.2.2, mc_X7_count, oy_X7_count, by decide, by decide, TX7, 24, rfl⟩
theorem mi_X6_told : Cond.instanceMethod yX6_told ∈ jw ∧ Cond.selects (yX6_told).cls yX6_told yX6_told ∈ jw ∧ Cond.initialized (yX6_told).cls ∈ jw := ⟨jw_at 927 (by decide +kernel) rfl, jw_at 928 (by decide +kernel) rfl, jw_at 69 (by decide +kernel) rfl⟩
theorem cs_SaltCloudsLaw_174 : VS "SaltCloudsLaw" 174 yX6_told cX6_told 2 (some .int) 1 6 := ⟨jw_at 926 (by decide +kernel) rfl, mi_X6_told.1, mi_X6_told.2.1, mi_X6_told.2.2, mc_X6_told, oy_X6_told, by decide, by decide, TX6, 8, rfl⟩
theorem mi_X7_told : Cond.instanceMethod yX7_told ∈ jw ∧ Cond.selects (yX7_told).cls yX7_told yX7_told ∈ jw ∧ Cond.initialized (yX7_told).cls ∈ jw := ⟨jw_at 1370 (by decide +kernel) rfl, jw_at 1371 (by decide +kernel) rfl, jw_at 76 (by decide +kernel) rfl⟩
theorem cs_SaltCloudsLaw_177 : VS "SaltCloudsLaw" 177 yX7_told cX7_told 2 (some .int) 1 7 := ⟨jw_at 1369 (by decide +kernel) rfl, mi_X7_told.1, mi_X7_told.2.1, mi_X7_told.2.2, mc_X7_told, oy_X7_told, by decide, by decide, TX7, 24, rfl⟩
def F_L_law (N L : Nat) (xs : Nat → Int32) (k1 k2 : Nat) : Nat → Int32 → Mem → Option (Unit × Mem)
  | 0, _, _ => none
  | n + 1, u3, h =>
    (if ((nI L) - (6 : Int32)) < u3 then
      (some ((), h))
    else
      (gin u3 L
      (seqi ((xs (ix u3)) &&& (63 : Int32)) (fun v1 =>
      (if v1 = (0 : Int32) then
        (seqi (u3 + (1 : Int32)) (fun v2 =>
        (gin v2 L
        (seqi (u3 + (2 : Int32)) (fun v3 =>
        (gin v3 L
        (seqi (u3 + (3 : Int32)) (fun v4 =>
        (gin v4 L
        (bnd (F_X6_cloud N k1 (xs (ix v2)) (xs (ix v3)) (xs (ix v4)) h) (fun r5 h6 =>
        (seqi (u3 + (1 : Int32)) (fun v7 =>
        (gin v7 L
        (seqi (u3 + (2 : Int32)) (fun v8 =>
        (gin v8 L
        (seqi (u3 + (3 : Int32)) (fun v9 =>
        (gin v9 L
        (bnd (F_X7_cloud N k2 (xs (ix v7)) (xs (ix v8)) (xs (ix v9)) h6) (fun r10 h11 =>
        (if r5 = r10 then
          (F_L_law N L xs k1 k2 n (u3 + 6) h11)
        else
          none)))))))))))))))))))))))
      else
        (if v1 = (1 : Int32) then
          (seqi (u3 + (1 : Int32)) (fun v12 =>
          (gin v12 L
          (seqi (u3 + (2 : Int32)) (fun v13 =>
          (gin v13 L
          (bnd (F_X6_ofCloud N k1 (xs (ix v12)) (xs (ix v13)) h) (fun r14 h15 =>
          (seqi (u3 + (1 : Int32)) (fun v16 =>
          (gin v16 L
          (seqi (u3 + (2 : Int32)) (fun v17 =>
          (gin v17 L
          (bnd (F_X7_ofCloud N k2 (xs (ix v16)) (xs (ix v17)) h15) (fun r18 h19 =>
          (if r14 = r18 then
            (F_L_law N L xs k1 k2 n (u3 + 6) h19)
          else
            none)))))))))))))))))
        else
          (if v1 = (2 : Int32) then
            (seqi (u3 + (1 : Int32)) (fun v20 =>
            (gin v20 L
            (seqi (u3 + (2 : Int32)) (fun v21 =>
            (gin v21 L
            (bnd (F_X6_become k1 (xs (ix v20)) (xs (ix v21)) h) (fun r22 h23 =>
            (seqi (u3 + (1 : Int32)) (fun v24 =>
            (gin v24 L
            (seqi (u3 + (2 : Int32)) (fun v25 =>
            (gin v25 L
            (bnd (F_X7_become k2 (xs (ix v24)) (xs (ix v25)) h23) (fun r26 h27 =>
            (if r22 = r26 then
              (F_L_law N L xs k1 k2 n (u3 + 6) h27)
            else
              none)))))))))))))))))
          else
            (if v1 = (3 : Int32) then
              (seqi (u3 + (1 : Int32)) (fun v28 =>
              (gin v28 L
              (seqi (u3 + (2 : Int32)) (fun v29 =>
              (gin v29 L
              (bnd (F_X6_as N k1 (xs (ix v28)) (xs (ix v29)) h) (fun r30 h31 =>
              (seqi (u3 + (1 : Int32)) (fun v32 =>
              (gin v32 L
              (seqi (u3 + (2 : Int32)) (fun v33 =>
              (gin v33 L
              (bnd (F_X7_as N k2 (xs (ix v32)) (xs (ix v33)) h31) (fun r34 h35 =>
              (if r30 = r34 then
                (F_L_law N L xs k1 k2 n (u3 + 6) h35)
              else
                none)))))))))))))))))
            else
              (if v1 = (4 : Int32) then
                (seqi (u3 + (1 : Int32)) (fun v36 =>
                (gin v36 L
                (seqi (u3 + (2 : Int32)) (fun v37 =>
                (gin v37 L
                (seqi (u3 + (3 : Int32)) (fun v38 =>
                (gin v38 L
                (bnd (F_X6_set k1 (xs (ix v36)) (xs (ix v37)) (xs (ix v38)) h) (fun r39 h40 =>
                (seqi (u3 + (1 : Int32)) (fun v41 =>
                (gin v41 L
                (seqi (u3 + (2 : Int32)) (fun v42 =>
                (gin v42 L
                (seqi (u3 + (3 : Int32)) (fun v43 =>
                (gin v43 L
                (bnd (F_X7_set k2 (xs (ix v41)) (xs (ix v42)) (xs (ix v43)) h40) (fun r44 h45 =>
                (if r39 = r44 then
                  (F_L_law N L xs k1 k2 n (u3 + 6) h45)
                else
                  none)))))))))))))))))))))))
              else
                (if v1 = (5 : Int32) then
                  (seqi (u3 + (1 : Int32)) (fun v46 =>
                  (gin v46 L
                  (seqi (u3 + (2 : Int32)) (fun v47 =>
                  (gin v47 L
                  (bnd (F_X6_hill k1 (xs (ix v46)) (xs (ix v47)) h) (fun r48 h49 =>
                  (seqi (u3 + (1 : Int32)) (fun v50 =>
                  (gin v50 L
                  (seqi (u3 + (2 : Int32)) (fun v51 =>
                  (gin v51 L
                  (bnd (F_X7_hill k2 (xs (ix v50)) (xs (ix v51)) h49) (fun r52 h53 =>
                  (if r48 = r52 then
                    (F_L_law N L xs k1 k2 n (u3 + 6) h53)
                  else
                    none)))))))))))))))))
                else
                  (if v1 = (6 : Int32) then
                    (seqi (u3 + (1 : Int32)) (fun v54 =>
                    (gin v54 L
                    (seqi (u3 + (2 : Int32)) (fun v55 =>
                    (gin v55 L
                    (bnd (F_X6_wind k1 (xs (ix v54)) (xs (ix v55)) h) (fun r56 h57 =>
                    (seqi (u3 + (1 : Int32)) (fun v58 =>
                    (gin v58 L
                    (seqi (u3 + (2 : Int32)) (fun v59 =>
                    (gin v59 L
                    (bnd (F_X7_wind k2 (xs (ix v58)) (xs (ix v59)) h57) (fun r60 h61 =>
                    (if r56 = r60 then
                      (F_L_law N L xs k1 k2 n (u3 + 6) h61)
                    else
                      none)))))))))))))))))
                  else
                    (if v1 = (7 : Int32) then
                      (seqi (u3 + (1 : Int32)) (fun v62 =>
                      (gin v62 L
                      (seqi (u3 + (2 : Int32)) (fun v63 =>
                      (gin v63 L
                      (bnd (F_X6_join N k1 (xs (ix v62)) (xs (ix v63)) h) (fun r64 h65 =>
                      (seqi (u3 + (1 : Int32)) (fun v66 =>
                      (gin v66 L
                      (seqi (u3 + (2 : Int32)) (fun v67 =>
                      (gin v67 L
                      (bnd (F_X7_join N k2 (xs (ix v66)) (xs (ix v67)) h65) (fun r68 h69 =>
                      (if r64 = r68 then
                        (F_L_law N L xs k1 k2 n (u3 + 6) h69)
                      else
                        none)))))))))))))))))
                    else
                      (if v1 = (8 : Int32) then
                        (seqi (u3 + (1 : Int32)) (fun v70 =>
                        (gin v70 L
                        (seqi (u3 + (2 : Int32)) (fun v71 =>
                        (gin v71 L
                        (bnd (F_X6_part N k1 (xs (ix v70)) (xs (ix v71)) h) (fun r72 h73 =>
                        (seqi (u3 + (1 : Int32)) (fun v74 =>
                        (gin v74 L
                        (seqi (u3 + (2 : Int32)) (fun v75 =>
                        (gin v75 L
                        (bnd (F_X7_part N k2 (xs (ix v74)) (xs (ix v75)) h73) (fun r76 h77 =>
                        (if r72 = r76 then
                          (F_L_law N L xs k1 k2 n (u3 + 6) h77)
                        else
                          none)))))))))))))))))
                      else
                        (if v1 = (9 : Int32) then
                          (seqi (u3 + (1 : Int32)) (fun v78 =>
                          (gin v78 L
                          (seqi (u3 + (2 : Int32)) (fun v79 =>
                          (gin v79 L
                          (seqi (u3 + (3 : Int32)) (fun v80 =>
                          (gin v80 L
                          (bnd (F_X6_feed N k1 ((lshl ((xs (ix v78)).toInt64) (32 : Int32)) ||| (((xs (ix v79)).toInt64) &&& (4294967295 : Int64))) (xs (ix v80)) h) (fun r81 h82 =>
                          (seqi (u3 + (1 : Int32)) (fun v83 =>
                          (gin v83 L
                          (seqi (u3 + (2 : Int32)) (fun v84 =>
                          (gin v84 L
                          (seqi (u3 + (3 : Int32)) (fun v85 =>
                          (gin v85 L
                          (bnd (F_X7_feed N k2 ((lshl ((xs (ix v83)).toInt64) (32 : Int32)) ||| (((xs (ix v84)).toInt64) &&& (4294967295 : Int64))) (xs (ix v85)) h82) (fun r86 h87 =>
                          (if r81 = r86 then
                            (F_L_law N L xs k1 k2 n (u3 + 6) h87)
                          else
                            none)))))))))))))))))))))))
                        else
                          (if v1 = (10 : Int32) then
                            (seqi (u3 + (1 : Int32)) (fun v88 =>
                            (gin v88 L
                            (bnd (F_X6_text N k1 (xs (ix v88)) h) (fun r89 h90 =>
                            (seqi (u3 + (1 : Int32)) (fun v91 =>
                            (gin v91 L
                            (bnd (F_X7_text N k2 (xs (ix v91)) h90) (fun r92 h93 =>
                            (if r89 = r92 then
                              (F_L_law N L xs k1 k2 n (u3 + 6) h93)
                            else
                              none)))))))))))
                          else
                            (if v1 = (11 : Int32) then
                              (seqi (u3 + (1 : Int32)) (fun v94 =>
                              (gin v94 L
                              (seqi (u3 + (2 : Int32)) (fun v95 =>
                              (gin v95 L
                              (seqi (u3 + (3 : Int32)) (fun v96 =>
                              (gin v96 L
                              (seqi (u3 + (4 : Int32)) (fun v97 =>
                              (gin v97 L
                              (bnd (F_X6_law N k1 (xs (ix v94)) (xs (ix v95)) (xs (ix v96)) (xs (ix v97)) h) (fun r98 h99 =>
                              (seqi (u3 + (1 : Int32)) (fun v100 =>
                              (gin v100 L
                              (seqi (u3 + (2 : Int32)) (fun v101 =>
                              (gin v101 L
                              (seqi (u3 + (3 : Int32)) (fun v102 =>
                              (gin v102 L
                              (seqi (u3 + (4 : Int32)) (fun v103 =>
                              (gin v103 L
                              (bnd (F_X7_law N k2 (xs (ix v100)) (xs (ix v101)) (xs (ix v102)) (xs (ix v103)) h99) (fun r104 h105 =>
                              (if r98 = r104 then
                                (F_L_law N L xs k1 k2 n (u3 + 6) h105)
                              else
                                none)))))))))))))))))))))))))))))
                            else
                              (if v1 = (12 : Int32) then
                                (seqi (u3 + (1 : Int32)) (fun v106 =>
                                (gin v106 L
                                (bnd (F_X6_hours N k1 (xs (ix v106)) h) (fun r107 h108 =>
                                (seqi (u3 + (1 : Int32)) (fun v109 =>
                                (gin v109 L
                                (bnd (F_X7_hours N k2 (xs (ix v109)) h108) (fun r110 h111 =>
                                (if r107 = r110 then
                                  (F_L_law N L xs k1 k2 n (u3 + 6) h111)
                                else
                                  none)))))))))))
                              else
                                (if v1 = (13 : Int32) then
                                  (seqi (u3 + (1 : Int32)) (fun v112 =>
                                  (gin v112 L
                                  (bnd (F_X6_loose N k1 (xs (ix v112)) h) (fun r113 h114 =>
                                  (seqi (u3 + (1 : Int32)) (fun v115 =>
                                  (gin v115 L
                                  (bnd (F_X7_loose N k2 (xs (ix v115)) h114) (fun r116 h117 =>
                                  (if r113 = r116 then
                                    (F_L_law N L xs k1 k2 n (u3 + 6) h117)
                                  else
                                    none)))))))))))
                                else
                                  (if v1 = (14 : Int32) then
                                    (seqi (u3 + (1 : Int32)) (fun v118 =>
                                    (gin v118 L
                                    (seqi (u3 + (2 : Int32)) (fun v119 =>
                                    (gin v119 L
                                    (seqi (u3 + (3 : Int32)) (fun v120 =>
                                    (gin v120 L
                                    (bnd (F_X6_then N k1 (xs (ix v118)) (xs (ix v119)) (xs (ix v120)) h) (fun r121 h122 =>
                                    (seqi (u3 + (1 : Int32)) (fun v123 =>
                                    (gin v123 L
                                    (seqi (u3 + (2 : Int32)) (fun v124 =>
                                    (gin v124 L
                                    (seqi (u3 + (3 : Int32)) (fun v125 =>
                                    (gin v125 L
                                    (bnd (F_X7_then N k2 (xs (ix v123)) (xs (ix v124)) (xs (ix v125)) h122) (fun r126 h127 =>
                                    (if r121 = r126 then
                                      (F_L_law N L xs k1 k2 n (u3 + 6) h127)
                                    else
                                      none)))))))))))))))))))))))
                                  else
                                    (if v1 = (15 : Int32) then
                                      (bnd (F_X6_pay N k1 h) (fun r128 h129 =>
                                      (bnd (F_X7_pay N k2 h129) (fun r130 h131 =>
                                      (if r128 = r130 then
                                        (F_L_law N L xs k1 k2 n (u3 + 6) h131)
                                      else
                                        none)))))
                                    else
                                      (if v1 = (16 : Int32) then
                                        (seqi (u3 + (1 : Int32)) (fun v132 =>
                                        (gin v132 L
                                        (bnd (F_X6_nobodyBy N k1 (xs (ix v132)) h) (fun r133 h134 =>
                                        (seqi (u3 + (1 : Int32)) (fun v135 =>
                                        (gin v135 L
                                        (bnd (F_X7_nobodyBy N k2 (xs (ix v135)) h134) (fun r136 h137 =>
                                        (if r133 = r136 then
                                          (F_L_law N L xs k1 k2 n (u3 + 6) h137)
                                        else
                                          none)))))))))))
                                      else
                                        (if v1 = (17 : Int32) then
                                          (bnd (F_X6_first N k1 h) (fun r138 h139 =>
                                          (bnd (F_X7_first N k2 h139) (fun r140 h141 =>
                                          (if r138 = r140 then
                                            (F_L_law N L xs k1 k2 n (u3 + 6) h141)
                                          else
                                            none)))))
                                        else
                                          (if v1 = (18 : Int32) then
                                            (seqi (u3 + (1 : Int32)) (fun v142 =>
                                            (gin v142 L
                                            (seqi (u3 + (2 : Int32)) (fun v143 =>
                                            (gin v143 L
                                            (bnd (F_X6_comes N k1 (xs (ix v142)) (xs (ix v143)) h) (fun r144 h145 =>
                                            (seqi (u3 + (1 : Int32)) (fun v146 =>
                                            (gin v146 L
                                            (seqi (u3 + (2 : Int32)) (fun v147 =>
                                            (gin v147 L
                                            (bnd (F_X7_comes N k2 (xs (ix v146)) (xs (ix v147)) h145) (fun r148 h149 =>
                                            (if r144 = r148 then
                                              (F_L_law N L xs k1 k2 n (u3 + 6) h149)
                                            else
                                              none)))))))))))))))))
                                          else
                                            (if v1 = (19 : Int32) then
                                              (seqi (u3 + (1 : Int32)) (fun v150 =>
                                              (gin v150 L
                                              (bnd (F_X6_stays N k1 (xs (ix v150)) h) (fun r151 h152 =>
                                              (seqi (u3 + (1 : Int32)) (fun v153 =>
                                              (gin v153 L
                                              (bnd (F_X7_stays N k2 (xs (ix v153)) h152) (fun r154 h155 =>
                                              (if r151 = r154 then
                                                (F_L_law N L xs k1 k2 n (u3 + 6) h155)
                                              else
                                                none)))))))))))
                                            else
                                              (if v1 = (20 : Int32) then
                                                (seqi (u3 + (1 : Int32)) (fun v156 =>
                                                (gin v156 L
                                                (seqi (u3 + (2 : Int32)) (fun v157 =>
                                                (gin v157 L
                                                (bnd (F_X6_meets N k1 (xs (ix v156)) (xs (ix v157)) h) (fun r158 h159 =>
                                                (seqi (u3 + (1 : Int32)) (fun v160 =>
                                                (gin v160 L
                                                (seqi (u3 + (2 : Int32)) (fun v161 =>
                                                (gin v161 L
                                                (bnd (F_X7_meets N k2 (xs (ix v160)) (xs (ix v161)) h159) (fun r162 h163 =>
                                                (if r158 = r162 then
                                                  (F_L_law N L xs k1 k2 n (u3 + 6) h163)
                                                else
                                                  none)))))))))))))))))
                                              else
                                                (if v1 = (21 : Int32) then
                                                  (seqi (u3 + (1 : Int32)) (fun v164 =>
                                                  (gin v164 L
                                                  (seqi (u3 + (2 : Int32)) (fun v165 =>
                                                  (gin v165 L
                                                  (bnd (F_X6_storm N k1 (xs (ix v164)) (xs (ix v165)) h) (fun r166 h167 =>
                                                  (seqi (u3 + (1 : Int32)) (fun v168 =>
                                                  (gin v168 L
                                                  (seqi (u3 + (2 : Int32)) (fun v169 =>
                                                  (gin v169 L
                                                  (bnd (F_X7_storm N k2 (xs (ix v168)) (xs (ix v169)) h167) (fun r170 h171 =>
                                                  (if r166 = r170 then
                                                    (F_L_law N L xs k1 k2 n (u3 + 6) h171)
                                                  else
                                                    none)))))))))))))))))
                                                else
                                                  (if v1 = (22 : Int32) then
                                                    (bnd (F_X6_paid N k1 h) (fun r172 h173 =>
                                                    (bnd (F_X7_paid N k2 h173) (fun r174 h175 =>
                                                    (if r172 = r174 then
                                                      (F_L_law N L xs k1 k2 n (u3 + 6) h175)
                                                    else
                                                      none)))))
                                                  else
                                                    (if v1 = (23 : Int32) then
                                                      (seqi (u3 + (1 : Int32)) (fun v176 =>
                                                      (gin v176 L
                                                      (seqi (u3 + (2 : Int32)) (fun v177 =>
                                                      (gin v177 L
                                                      (seqi (u3 + (3 : Int32)) (fun v178 =>
                                                      (gin v178 L
                                                      (bnd (F_X6_sun N k1 (xs (ix v176)) (xs (ix v177)) (xs (ix v178)) h) (fun r179 h180 =>
                                                      (seqi (u3 + (1 : Int32)) (fun v181 =>
                                                      (gin v181 L
                                                      (seqi (u3 + (2 : Int32)) (fun v182 =>
                                                      (gin v182 L
                                                      (seqi (u3 + (3 : Int32)) (fun v183 =>
                                                      (gin v183 L
                                                      (bnd (F_X7_sun N k2 (xs (ix v181)) (xs (ix v182)) (xs (ix v183)) h180) (fun r184 h185 =>
                                                      (if r179 = r184 then
                                                        (F_L_law N L xs k1 k2 n (u3 + 6) h185)
                                                      else
                                                        none)))))))))))))))))))))))
                                                    else
                                                      (if v1 = (24 : Int32) then
                                                        (seqi (u3 + (1 : Int32)) (fun v186 =>
                                                        (gin v186 L
                                                        (seqi (u3 + (2 : Int32)) (fun v187 =>
                                                        (gin v187 L
                                                        (seqi (u3 + (3 : Int32)) (fun v188 =>
                                                        (gin v188 L
                                                        (bnd (F_X6_winds N k1 (xs (ix v186)) (xs (ix v187)) (xs (ix v188)) h) (fun r189 h190 =>
                                                        (seqi (u3 + (1 : Int32)) (fun v191 =>
                                                        (gin v191 L
                                                        (seqi (u3 + (2 : Int32)) (fun v192 =>
                                                        (gin v192 L
                                                        (seqi (u3 + (3 : Int32)) (fun v193 =>
                                                        (gin v193 L
                                                        (bnd (F_X7_winds N k2 (xs (ix v191)) (xs (ix v192)) (xs (ix v193)) h190) (fun r194 h195 =>
                                                        (if r189 = r194 then
                                                          (F_L_law N L xs k1 k2 n (u3 + 6) h195)
                                                        else
                                                          none)))))))))))))))))))))))
                                                      else
                                                        (if v1 = (25 : Int32) then
                                                          (seqi (u3 + (1 : Int32)) (fun v196 =>
                                                          (gin v196 L
                                                          (bnd (F_X6_seed k1 (xs (ix v196)) h) (fun r197 h198 =>
                                                          (seqi (u3 + (1 : Int32)) (fun v199 =>
                                                          (gin v199 L
                                                          (bnd (F_X7_seed k2 (xs (ix v199)) h198) (fun r200 h201 =>
                                                          (if r197 = r200 then
                                                            (F_L_law N L xs k1 k2 n (u3 + 6) h201)
                                                          else
                                                            none)))))))))))
                                                        else
                                                          (if v1 = (26 : Int32) then
                                                            (seqi (u3 + (1 : Int32)) (fun v202 =>
                                                            (gin v202 L
                                                            (seqi (u3 + (2 : Int32)) (fun v203 =>
                                                            (gin v203 L
                                                            (seqi (u3 + (3 : Int32)) (fun v204 =>
                                                            (gin v204 L
                                                            (bnd (F_X6_voice N k1 (xs (ix v202)) (xs (ix v203)) (xs (ix v204)) h) (fun r205 h206 =>
                                                            (seqi (u3 + (1 : Int32)) (fun v207 =>
                                                            (gin v207 L
                                                            (seqi (u3 + (2 : Int32)) (fun v208 =>
                                                            (gin v208 L
                                                            (seqi (u3 + (3 : Int32)) (fun v209 =>
                                                            (gin v209 L
                                                            (bnd (F_X7_voice N k2 (xs (ix v207)) (xs (ix v208)) (xs (ix v209)) h206) (fun r210 h211 =>
                                                            (if r205 = r210 then
                                                              (F_L_law N L xs k1 k2 n (u3 + 6) h211)
                                                            else
                                                              none)))))))))))))))))))))))
                                                          else
                                                            (if v1 = (27 : Int32) then
                                                              (seqi (u3 + (1 : Int32)) (fun v212 =>
                                                              (gin v212 L
                                                              (bnd (F_X6_trace k1 (xs (ix v212)) h) (fun r213 h214 =>
                                                              (seqi (u3 + (1 : Int32)) (fun v215 =>
                                                              (gin v215 L
                                                              (bnd (F_X7_trace k2 (xs (ix v215)) h214) (fun r216 h217 =>
                                                              (if r213 = r216 then
                                                                (F_L_law N L xs k1 k2 n (u3 + 6) h217)
                                                              else
                                                                none)))))))))))
                                                            else
                                                              (if v1 = (28 : Int32) then
                                                                (seqi (u3 + (1 : Int32)) (fun v218 =>
                                                                (gin v218 L
                                                                (seqi (u3 + (2 : Int32)) (fun v219 =>
                                                                (gin v219 L
                                                                (seqi (u3 + (3 : Int32)) (fun v220 =>
                                                                (gin v220 L
                                                                (bnd (F_X6_sheet N k1 (xs (ix v218)) (xs (ix v219)) (xs (ix v220)) h) (fun r221 h222 =>
                                                                (seqi (u3 + (1 : Int32)) (fun v223 =>
                                                                (gin v223 L
                                                                (seqi (u3 + (2 : Int32)) (fun v224 =>
                                                                (gin v224 L
                                                                (seqi (u3 + (3 : Int32)) (fun v225 =>
                                                                (gin v225 L
                                                                (bnd (F_X7_sheet N k2 (xs (ix v223)) (xs (ix v224)) (xs (ix v225)) h222) (fun r226 h227 =>
                                                                (if r221 = r226 then
                                                                  (F_L_law N L xs k1 k2 n (u3 + 6) h227)
                                                                else
                                                                  none)))))))))))))))))))))))
                                                              else
                                                                (if v1 = (29 : Int32) then
                                                                  (seqi (u3 + (1 : Int32)) (fun v228 =>
                                                                  (gin v228 L
                                                                  (seqi (u3 + (2 : Int32)) (fun v229 =>
                                                                  (gin v229 L
                                                                  (seqi (u3 + (3 : Int32)) (fun v230 =>
                                                                  (gin v230 L
                                                                  (bnd (F_X6_put k1 (xs (ix v228)) (xs (ix v229)) (xs (ix v230)) h) (fun r231 h232 =>
                                                                  (seqi (u3 + (1 : Int32)) (fun v233 =>
                                                                  (gin v233 L
                                                                  (seqi (u3 + (2 : Int32)) (fun v234 =>
                                                                  (gin v234 L
                                                                  (seqi (u3 + (3 : Int32)) (fun v235 =>
                                                                  (gin v235 L
                                                                  (bnd (F_X7_put k2 (xs (ix v233)) (xs (ix v234)) (xs (ix v235)) h232) (fun r236 h237 =>
                                                                  (if r231 = r236 then
                                                                    (F_L_law N L xs k1 k2 n (u3 + 6) h237)
                                                                  else
                                                                    none)))))))))))))))))))))))
                                                                else
                                                                  (if v1 = (30 : Int32) then
                                                                    (seqi (u3 + (1 : Int32)) (fun v238 =>
                                                                    (gin v238 L
                                                                    (seqi (u3 + (2 : Int32)) (fun v239 =>
                                                                    (gin v239 L
                                                                    (seqi (u3 + (3 : Int32)) (fun v240 =>
                                                                    (gin v240 L
                                                                    (seqi (u3 + (4 : Int32)) (fun v241 =>
                                                                    (gin v241 L
                                                                    (seqi (u3 + (5 : Int32)) (fun v242 =>
                                                                    (gin v242 L
                                                                    (bnd (F_X6_move k1 (xs (ix v238)) (xs (ix v239)) (xs (ix v240)) (xs (ix v241)) (xs (ix v242)) h) (fun r243 h244 =>
                                                                    (seqi (u3 + (1 : Int32)) (fun v245 =>
                                                                    (gin v245 L
                                                                    (seqi (u3 + (2 : Int32)) (fun v246 =>
                                                                    (gin v246 L
                                                                    (seqi (u3 + (3 : Int32)) (fun v247 =>
                                                                    (gin v247 L
                                                                    (seqi (u3 + (4 : Int32)) (fun v248 =>
                                                                    (gin v248 L
                                                                    (seqi (u3 + (5 : Int32)) (fun v249 =>
                                                                    (gin v249 L
                                                                    (bnd (F_X7_move N k2 (xs (ix v245)) (xs (ix v246)) (xs (ix v247)) (xs (ix v248)) (xs (ix v249)) h244) (fun r250 h251 =>
                                                                    (if r243 = r250 then
                                                                      (F_L_law N L xs k1 k2 n (u3 + 6) h251)
                                                                    else
                                                                      none)))))))))))))))))))))))))))))))))))
                                                                  else
                                                                    (if v1 = (31 : Int32) then
                                                                      (seqi (u3 + (1 : Int32)) (fun v252 =>
                                                                      (gin v252 L
                                                                      (bnd (F_X6_hills N k1 (xs (ix v252)) h) (fun r253 h254 =>
                                                                      (seqi (u3 + (1 : Int32)) (fun v255 =>
                                                                      (gin v255 L
                                                                      (bnd (F_X7_hills N k2 (xs (ix v255)) h254) (fun r256 h257 =>
                                                                      (if r253 = r256 then
                                                                        (F_L_law N L xs k1 k2 n (u3 + 6) h257)
                                                                      else
                                                                        none)))))))))))
                                                                    else
                                                                      (if v1 = (32 : Int32) then
                                                                        (seqi (u3 + (1 : Int32)) (fun v258 =>
                                                                        (gin v258 L
                                                                        (bnd (F_X6_judge N k1 (xs (ix v258)) h) (fun r259 h260 =>
                                                                        (seqi (u3 + (1 : Int32)) (fun v261 =>
                                                                        (gin v261 L
                                                                        (bnd (F_X7_judge N k2 (xs (ix v261)) h260) (fun r262 h263 =>
                                                                        (if r259 = r262 then
                                                                          (F_L_law N L xs k1 k2 n (u3 + 6) h263)
                                                                        else
                                                                          none)))))))))))
                                                                      else
                                                                        (if v1 = (33 : Int32) then
                                                                          (bnd (F_X6_image N k1 h) (fun r264 h265 =>
                                                                          (bnd (F_X7_image N k2 h265) (fun r266 h267 =>
                                                                          (if r264 = r266 then
                                                                            (F_L_law N L xs k1 k2 n (u3 + 6) h267)
                                                                          else
                                                                            none)))))
                                                                        else
                                                                          (if v1 = (34 : Int32) then
                                                                            (bnd (F_X6_restore N k1 h) (fun r268 h269 =>
                                                                            (bnd (F_X7_restore N k2 h269) (fun r270 h271 =>
                                                                            (if r268 = r270 then
                                                                              (F_L_law N L xs k1 k2 n (u3 + 6) h271)
                                                                            else
                                                                              none)))))
                                                                          else
                                                                            (if v1 = (35 : Int32) then
                                                                              (seqi (u3 + (1 : Int32)) (fun v272 =>
                                                                              (gin v272 L
                                                                              (bnd (F_X6_tell k1 (xs (ix v272)) h) (fun r273 h274 =>
                                                                              (seqi (u3 + (1 : Int32)) (fun v275 =>
                                                                              (gin v275 L
                                                                              (bnd (F_X7_tell k2 (xs (ix v275)) h274) (fun r276 h277 =>
                                                                              (if r273 = r276 then
                                                                                (F_L_law N L xs k1 k2 n (u3 + 6) h277)
                                                                              else
                                                                                none)))))))))))
                                                                            else
                                                                              (if v1 = (36 : Int32) then
                                                                                (bnd (F_X6_check N k1 h) (fun r278 h279 =>
                                                                                (bnd (F_X7_check N k2 h279) (fun r280 h281 =>
                                                                                (if r278 = r280 then
                                                                                  (F_L_law N L xs k1 k2 n (u3 + 6) h281)
                                                                                else
                                                                                  none)))))
                                                                              else
                                                                                (if v1 = (37 : Int32) then
                                                                                  (seqi (u3 + (1 : Int32)) (fun v282 =>
                                                                                  (gin v282 L
                                                                                  (bnd (F_X6_count N k1 (xs (ix v282)) h) (fun r283 h284 =>
                                                                                  (seqi (u3 + (1 : Int32)) (fun v285 =>
                                                                                  (gin v285 L
                                                                                  (bnd (F_X7_count N k2 (xs (ix v285)) h284) (fun r286 h287 =>
                                                                                  (if r283 = r286 then
                                                                                    (F_L_law N L xs k1 k2 n (u3 + 6) h287)
                                                                                  else
                                                                                    none)))))))))))
                                                                                else
                                                                                  (if v1 = (38 : Int32) then
                                                                                    (seqi (u3 + (1 : Int32)) (fun v288 =>
                                                                                    (gin v288 L
                                                                                    (bnd (F_X6_told k1 (xs (ix v288)) h) (fun r289 h290 =>
                                                                                    (seqi (u3 + (1 : Int32)) (fun v291 =>
                                                                                    (gin v291 L
                                                                                    (bnd (F_X7_told k2 (xs (ix v291)) h290) (fun r292 h293 =>
                                                                                    (if r289 = r292 then
                                                                                      (F_L_law N L xs k1 k2 n (u3 + 6) h293)
                                                                                    else
                                                                                      none)))))))))))
                                                                                  else
                                                                                    (F_L_law N L xs k1 k2 n (u3 + 6) h))))))))))))))))))))))))))))))))))))))))))))
set_option maxRecDepth 100000 in
set_option maxHeartbeats 4000000 in
theorem okL_law {l : Launch} {ω : WX} {χ : KT} {d b L : Nat} {xs : Nat → Int32} (K : Kok ω χ "SaltCloudsLaw" cL_law 4 ret d) (hd : 135 ≤ d) (hχ : kR χ = room_1 ∧ kC χ = 600000 ∧ kN χ = 7302250 ∧ kA χ = #[Value.ref b] ∧ ω.1 = (kS χ).heap.size) (hX : XS ω χ b L xs) (N : Nat) {k1 k2 : Nat} (hk1 : lay k1 = 6) (hk2 : lay k2 = 7) : ∀ (n : Nat) (u3 : Int32) (h : Mem), J (ZL χ b) l ω χ 18 4 [(0, .ref b), (1, .ref (ω.1 + k1)), (2, .ref (ω.1 + k2)), (3, .int u3)] [] h (F_L_law N L xs k1 k2 n u3 h) := by
  intro n
  induction n with
  | zero =>
    intro u3 h
    exact J_none rfl
  | succ n ih =>
    intro u3 h
    rw [F_L_law]
    refine J_iload_n (pc := 18) K dL_law_18 3 rfl 3 rfl ?_
    refine J_aload_n (pc := 19) K dL_law_19 0 rfl 0 rfl ?_
    refine J_scl (pc := 20) K hX dL_law_20 ?_
    refine J_bipush (pc := 21) K (6) dL_law_21 (by decide) ?_
    refine J_isub (pc := 23) K dL_law_23 ?_
    refine J_icmp_gt (pc := 24) K 1417 dL_law_24 (by decide) ?_ ?_
    · refine J_iconst (pc := 1417) K (1) dL_law_1417 (by decide) ?_
      exact J_lret (pc := 1418) K hχ dL_law_1418
    · refine J_aload_n (pc := 27) K dL_law_27 0 rfl 0 rfl ?_
      refine J_iload_n (pc := 28) K dL_law_28 3 rfl 3 rfl ?_
      refine J_scr (pc := 29) K hX dL_law_29 ?_
      refine J_bipush (pc := 30) K (63) dL_law_30 (by decide) ?_
      refine J_iand (pc := 32) K dL_law_32 ?_
      refine J_topi (fun v1 => ?_)
      refine J_ite (fun e33_0 => ?_) (fun e33_0 => ?_)
      · refine J_tableIn (pc := 33) K (v := 0) 204 e33_0 dL_law_33 (by decide) (by decide) rfl (by decide) ?_
        refine J_aload_n (pc := 204) K dL_law_204 1 rfl 1 rfl ?_
        refine J_aload_n (pc := 205) K dL_law_205 0 rfl 0 rfl ?_
        refine J_iload_n (pc := 206) K dL_law_206 3 rfl 3 rfl ?_
        refine J_iconst (pc := 207) K (1) dL_law_207 (by decide) ?_
        refine J_iadd (pc := 208) K dL_law_208 ?_
        refine J_topi (fun v2 => ?_)
        refine J_scr (pc := 209) K hX dL_law_209 ?_
        refine J_aload_n (pc := 210) K dL_law_210 0 rfl 0 rfl ?_
        refine J_iload_n (pc := 211) K dL_law_211 3 rfl 3 rfl ?_
        refine J_iconst (pc := 212) K (2) dL_law_212 (by decide) ?_
        refine J_iadd (pc := 213) K dL_law_213 ?_
        refine J_topi (fun v3 => ?_)
        refine J_scr (pc := 214) K hX dL_law_214 ?_
        refine J_aload_n (pc := 215) K dL_law_215 0 rfl 0 rfl ?_
        refine J_iload_n (pc := 216) K dL_law_216 3 rfl 3 rfl ?_
        refine J_iconst (pc := 217) K (3) dL_law_217 (by decide) ?_
        refine J_iadd (pc := 218) K dL_law_218 ?_
        refine J_topi (fun v4 => ?_)
        refine J_scr (pc := 219) K hX dL_law_219 ?_
        refine J_callVI (As := [.int (xs (ix v2)), .int (xs (ix v3)), .int (xs (ix v4))]) (rest := []) (pc := 220) K cs_SaltCloudsLaw_13 (ok_X6_cloud l ω N hk1 (xs (ix v2)) (xs (ix v3)) (xs (ix v4)) h) hk1 (by omega) rfl rfl (Nat.le_of_ble_eq_true rfl) dL_law_220 (fun r5 h6 => ?_)
        refine J_aload_n (pc := 223) K dL_law_223 2 rfl 2 rfl ?_
        refine J_aload_n (pc := 224) K dL_law_224 0 rfl 0 rfl ?_
        refine J_iload_n (pc := 225) K dL_law_225 3 rfl 3 rfl ?_
        refine J_iconst (pc := 226) K (1) dL_law_226 (by decide) ?_
        refine J_iadd (pc := 227) K dL_law_227 ?_
        refine J_topi (fun v7 => ?_)
        refine J_scr (pc := 228) K hX dL_law_228 ?_
        refine J_aload_n (pc := 229) K dL_law_229 0 rfl 0 rfl ?_
        refine J_iload_n (pc := 230) K dL_law_230 3 rfl 3 rfl ?_
        refine J_iconst (pc := 231) K (2) dL_law_231 (by decide) ?_
        refine J_iadd (pc := 232) K dL_law_232 ?_
        refine J_topi (fun v8 => ?_)
        refine J_scr (pc := 233) K hX dL_law_233 ?_
        refine J_aload_n (pc := 234) K dL_law_234 0 rfl 0 rfl ?_
        refine J_iload_n (pc := 235) K dL_law_235 3 rfl 3 rfl ?_
        refine J_iconst (pc := 236) K (3) dL_law_236 (by decide) ?_
        refine J_iadd (pc := 237) K dL_law_237 ?_
        refine J_topi (fun v9 => ?_)
        refine J_scr (pc := 238) K hX dL_law_238 ?_
        refine J_callVI (As := [.int (xs (ix v7)), .int (xs (ix v8)), .int (xs (ix v9))]) (rest := [.int r5]) (pc := 239) K cs_SaltCloudsLaw_17 (ok_X7_cloud l ω N hk2 (xs (ix v7)) (xs (ix v8)) (xs (ix v9)) h6) hk2 (by omega) rfl rfl (Nat.le_of_ble_eq_true rfl) dL_law_239 (fun r10 h11 => ?_)
        refine J_icmp_eq (pc := 242) K 1411 dL_law_242 (by decide) ?_ ?_
        · refine J_iinc (pc := 1411) K (6) dL_law_1411 3 rfl (by decide) (by decide) [(3, .int (u3 + 6)), (0, .ref b), (1, .ref (ω.1 + k1)), (2, .ref (ω.1 + k2))] rfl ?_
          refine J_goto (pc := 1414) K 18 dL_law_1414 (by decide) ?_
          refine J_lv [1, 2, 3, 0] [(0, .ref b), (1, .ref (ω.1 + k1)), (2, .ref (ω.1 + k2)), (3, .int (u3 + 6))] rfl ?_
          exact ih (u3 + 6) h11
        · refine J_iconst (pc := 245) K (0) dL_law_245 (by decide) ?_
          exact J_none rfl
      · refine J_ite (fun e33_1 => ?_) (fun e33_1 => ?_)
        · refine J_tableIn (pc := 33) K (v := 1) 247 e33_1 dL_law_33 (by decide) (by decide) rfl (by decide) ?_
          refine J_aload_n (pc := 247) K dL_law_247 1 rfl 1 rfl ?_
          refine J_aload_n (pc := 248) K dL_law_248 0 rfl 0 rfl ?_
          refine J_iload_n (pc := 249) K dL_law_249 3 rfl 3 rfl ?_
          refine J_iconst (pc := 250) K (1) dL_law_250 (by decide) ?_
          refine J_iadd (pc := 251) K dL_law_251 ?_
          refine J_topi (fun v12 => ?_)
          refine J_scr (pc := 252) K hX dL_law_252 ?_
          refine J_aload_n (pc := 253) K dL_law_253 0 rfl 0 rfl ?_
          refine J_iload_n (pc := 254) K dL_law_254 3 rfl 3 rfl ?_
          refine J_iconst (pc := 255) K (2) dL_law_255 (by decide) ?_
          refine J_iadd (pc := 256) K dL_law_256 ?_
          refine J_topi (fun v13 => ?_)
          refine J_scr (pc := 257) K hX dL_law_257 ?_
          refine J_callVI (As := [.int (xs (ix v12)), .int (xs (ix v13))]) (rest := []) (pc := 258) K cs_SaltCloudsLaw_18 (ok_X6_ofCloud l ω N hk1 (xs (ix v12)) (xs (ix v13)) h) hk1 (by omega) rfl rfl (Nat.le_of_ble_eq_true rfl) dL_law_258 (fun r14 h15 => ?_)
          refine J_aload_n (pc := 261) K dL_law_261 2 rfl 2 rfl ?_
          refine J_aload_n (pc := 262) K dL_law_262 0 rfl 0 rfl ?_
          refine J_iload_n (pc := 263) K dL_law_263 3 rfl 3 rfl ?_
          refine J_iconst (pc := 264) K (1) dL_law_264 (by decide) ?_
          refine J_iadd (pc := 265) K dL_law_265 ?_
          refine J_topi (fun v16 => ?_)
          refine J_scr (pc := 266) K hX dL_law_266 ?_
          refine J_aload_n (pc := 267) K dL_law_267 0 rfl 0 rfl ?_
          refine J_iload_n (pc := 268) K dL_law_268 3 rfl 3 rfl ?_
          refine J_iconst (pc := 269) K (2) dL_law_269 (by decide) ?_
          refine J_iadd (pc := 270) K dL_law_270 ?_
          refine J_topi (fun v17 => ?_)
          refine J_scr (pc := 271) K hX dL_law_271 ?_
          refine J_callVI (As := [.int (xs (ix v16)), .int (xs (ix v17))]) (rest := [.int r14]) (pc := 272) K cs_SaltCloudsLaw_22 (ok_X7_ofCloud l ω N hk2 (xs (ix v16)) (xs (ix v17)) h15) hk2 (by omega) rfl rfl (Nat.le_of_ble_eq_true rfl) dL_law_272 (fun r18 h19 => ?_)
          refine J_icmp_eq (pc := 275) K 1411 dL_law_275 (by decide) ?_ ?_
          · refine J_iinc (pc := 1411) K (6) dL_law_1411 3 rfl (by decide) (by decide) [(3, .int (u3 + 6)), (0, .ref b), (1, .ref (ω.1 + k1)), (2, .ref (ω.1 + k2))] rfl ?_
            refine J_goto (pc := 1414) K 18 dL_law_1414 (by decide) ?_
            refine J_lv [1, 2, 3, 0] [(0, .ref b), (1, .ref (ω.1 + k1)), (2, .ref (ω.1 + k2)), (3, .int (u3 + 6))] rfl ?_
            exact ih (u3 + 6) h19
          · refine J_iconst (pc := 278) K (0) dL_law_278 (by decide) ?_
            exact J_none rfl
        · refine J_ite (fun e33_2 => ?_) (fun e33_2 => ?_)
          · refine J_tableIn (pc := 33) K (v := 2) 280 e33_2 dL_law_33 (by decide) (by decide) rfl (by decide) ?_
            refine J_aload_n (pc := 280) K dL_law_280 1 rfl 1 rfl ?_
            refine J_aload_n (pc := 281) K dL_law_281 0 rfl 0 rfl ?_
            refine J_iload_n (pc := 282) K dL_law_282 3 rfl 3 rfl ?_
            refine J_iconst (pc := 283) K (1) dL_law_283 (by decide) ?_
            refine J_iadd (pc := 284) K dL_law_284 ?_
            refine J_topi (fun v20 => ?_)
            refine J_scr (pc := 285) K hX dL_law_285 ?_
            refine J_aload_n (pc := 286) K dL_law_286 0 rfl 0 rfl ?_
            refine J_iload_n (pc := 287) K dL_law_287 3 rfl 3 rfl ?_
            refine J_iconst (pc := 288) K (2) dL_law_288 (by decide) ?_
            refine J_iadd (pc := 289) K dL_law_289 ?_
            refine J_topi (fun v21 => ?_)
            refine J_scr (pc := 290) K hX dL_law_290 ?_
            refine J_callVI (As := [.int (xs (ix v20)), .int (xs (ix v21))]) (rest := []) (pc := 291) K cs_SaltCloudsLaw_23 (ok_X6_become l ω hk1 (xs (ix v20)) (xs (ix v21)) h) hk1 (by omega) rfl rfl (Nat.le_of_ble_eq_true rfl) dL_law_291 (fun r22 h23 => ?_)
            refine J_aload_n (pc := 294) K dL_law_294 2 rfl 2 rfl ?_
            refine J_aload_n (pc := 295) K dL_law_295 0 rfl 0 rfl ?_
            refine J_iload_n (pc := 296) K dL_law_296 3 rfl 3 rfl ?_
            refine J_iconst (pc := 297) K (1) dL_law_297 (by decide) ?_
            refine J_iadd (pc := 298) K dL_law_298 ?_
            refine J_topi (fun v24 => ?_)
            refine J_scr (pc := 299) K hX dL_law_299 ?_
            refine J_aload_n (pc := 300) K dL_law_300 0 rfl 0 rfl ?_
            refine J_iload_n (pc := 301) K dL_law_301 3 rfl 3 rfl ?_
            refine J_iconst (pc := 302) K (2) dL_law_302 (by decide) ?_
            refine J_iadd (pc := 303) K dL_law_303 ?_
            refine J_topi (fun v25 => ?_)
            refine J_scr (pc := 304) K hX dL_law_304 ?_
            refine J_callVI (As := [.int (xs (ix v24)), .int (xs (ix v25))]) (rest := [.int r22]) (pc := 305) K cs_SaltCloudsLaw_26 (ok_X7_become l ω hk2 (xs (ix v24)) (xs (ix v25)) h23) hk2 (by omega) rfl rfl (Nat.le_of_ble_eq_true rfl) dL_law_305 (fun r26 h27 => ?_)
            refine J_icmp_eq (pc := 308) K 1411 dL_law_308 (by decide) ?_ ?_
            · refine J_iinc (pc := 1411) K (6) dL_law_1411 3 rfl (by decide) (by decide) [(3, .int (u3 + 6)), (0, .ref b), (1, .ref (ω.1 + k1)), (2, .ref (ω.1 + k2))] rfl ?_
              refine J_goto (pc := 1414) K 18 dL_law_1414 (by decide) ?_
              refine J_lv [1, 2, 3, 0] [(0, .ref b), (1, .ref (ω.1 + k1)), (2, .ref (ω.1 + k2)), (3, .int (u3 + 6))] rfl ?_
              exact ih (u3 + 6) h27
            · refine J_iconst (pc := 311) K (0) dL_law_311 (by decide) ?_
              exact J_none rfl
          · refine J_ite (fun e33_3 => ?_) (fun e33_3 => ?_)
            · refine J_tableIn (pc := 33) K (v := 3) 313 e33_3 dL_law_33 (by decide) (by decide) rfl (by decide) ?_
              refine J_aload_n (pc := 313) K dL_law_313 1 rfl 1 rfl ?_
              refine J_aload_n (pc := 314) K dL_law_314 0 rfl 0 rfl ?_
              refine J_iload_n (pc := 315) K dL_law_315 3 rfl 3 rfl ?_
              refine J_iconst (pc := 316) K (1) dL_law_316 (by decide) ?_
              refine J_iadd (pc := 317) K dL_law_317 ?_
              refine J_topi (fun v28 => ?_)
              refine J_scr (pc := 318) K hX dL_law_318 ?_
              refine J_aload_n (pc := 319) K dL_law_319 0 rfl 0 rfl ?_
              refine J_iload_n (pc := 320) K dL_law_320 3 rfl 3 rfl ?_
              refine J_iconst (pc := 321) K (2) dL_law_321 (by decide) ?_
              refine J_iadd (pc := 322) K dL_law_322 ?_
              refine J_topi (fun v29 => ?_)
              refine J_scr (pc := 323) K hX dL_law_323 ?_
              refine J_callVI (As := [.int (xs (ix v28)), .int (xs (ix v29))]) (rest := []) (pc := 324) K cs_SaltCloudsLaw_27 (ok_X6_as l ω N hk1 (xs (ix v28)) (xs (ix v29)) h) hk1 (by omega) rfl rfl (Nat.le_of_ble_eq_true rfl) dL_law_324 (fun r30 h31 => ?_)
              refine J_aload_n (pc := 327) K dL_law_327 2 rfl 2 rfl ?_
              refine J_aload_n (pc := 328) K dL_law_328 0 rfl 0 rfl ?_
              refine J_iload_n (pc := 329) K dL_law_329 3 rfl 3 rfl ?_
              refine J_iconst (pc := 330) K (1) dL_law_330 (by decide) ?_
              refine J_iadd (pc := 331) K dL_law_331 ?_
              refine J_topi (fun v32 => ?_)
              refine J_scr (pc := 332) K hX dL_law_332 ?_
              refine J_aload_n (pc := 333) K dL_law_333 0 rfl 0 rfl ?_
              refine J_iload_n (pc := 334) K dL_law_334 3 rfl 3 rfl ?_
              refine J_iconst (pc := 335) K (2) dL_law_335 (by decide) ?_
              refine J_iadd (pc := 336) K dL_law_336 ?_
              refine J_topi (fun v33 => ?_)
              refine J_scr (pc := 337) K hX dL_law_337 ?_
              refine J_callVI (As := [.int (xs (ix v32)), .int (xs (ix v33))]) (rest := [.int r30]) (pc := 338) K cs_SaltCloudsLaw_30 (ok_X7_as l ω N hk2 (xs (ix v32)) (xs (ix v33)) h31) hk2 (by omega) rfl rfl (Nat.le_of_ble_eq_true rfl) dL_law_338 (fun r34 h35 => ?_)
              refine J_icmp_eq (pc := 341) K 1411 dL_law_341 (by decide) ?_ ?_
              · refine J_iinc (pc := 1411) K (6) dL_law_1411 3 rfl (by decide) (by decide) [(3, .int (u3 + 6)), (0, .ref b), (1, .ref (ω.1 + k1)), (2, .ref (ω.1 + k2))] rfl ?_
                refine J_goto (pc := 1414) K 18 dL_law_1414 (by decide) ?_
                refine J_lv [1, 2, 3, 0] [(0, .ref b), (1, .ref (ω.1 + k1)), (2, .ref (ω.1 + k2)), (3, .int (u3 + 6))] rfl ?_
                exact ih (u3 + 6) h35
              · refine J_iconst (pc := 344) K (0) dL_law_344 (by decide) ?_
                exact J_none rfl
            · refine J_ite (fun e33_4 => ?_) (fun e33_4 => ?_)
              · refine J_tableIn (pc := 33) K (v := 4) 346 e33_4 dL_law_33 (by decide) (by decide) rfl (by decide) ?_
                refine J_aload_n (pc := 346) K dL_law_346 1 rfl 1 rfl ?_
                refine J_aload_n (pc := 347) K dL_law_347 0 rfl 0 rfl ?_
                refine J_iload_n (pc := 348) K dL_law_348 3 rfl 3 rfl ?_
                refine J_iconst (pc := 349) K (1) dL_law_349 (by decide) ?_
                refine J_iadd (pc := 350) K dL_law_350 ?_
                refine J_topi (fun v36 => ?_)
                refine J_scr (pc := 351) K hX dL_law_351 ?_
                refine J_aload_n (pc := 352) K dL_law_352 0 rfl 0 rfl ?_
                refine J_iload_n (pc := 353) K dL_law_353 3 rfl 3 rfl ?_
                refine J_iconst (pc := 354) K (2) dL_law_354 (by decide) ?_
                refine J_iadd (pc := 355) K dL_law_355 ?_
                refine J_topi (fun v37 => ?_)
                refine J_scr (pc := 356) K hX dL_law_356 ?_
                refine J_aload_n (pc := 357) K dL_law_357 0 rfl 0 rfl ?_
                refine J_iload_n (pc := 358) K dL_law_358 3 rfl 3 rfl ?_
                refine J_iconst (pc := 359) K (3) dL_law_359 (by decide) ?_
                refine J_iadd (pc := 360) K dL_law_360 ?_
                refine J_topi (fun v38 => ?_)
                refine J_scr (pc := 361) K hX dL_law_361 ?_
                refine J_callVI (As := [.int (xs (ix v36)), .int (xs (ix v37)), .int (xs (ix v38))]) (rest := []) (pc := 362) K cs_SaltCloudsLaw_31 (ok_X6_set l ω hk1 (xs (ix v36)) (xs (ix v37)) (xs (ix v38)) h) hk1 (by omega) rfl rfl (Nat.le_of_ble_eq_true rfl) dL_law_362 (fun r39 h40 => ?_)
                refine J_aload_n (pc := 365) K dL_law_365 2 rfl 2 rfl ?_
                refine J_aload_n (pc := 366) K dL_law_366 0 rfl 0 rfl ?_
                refine J_iload_n (pc := 367) K dL_law_367 3 rfl 3 rfl ?_
                refine J_iconst (pc := 368) K (1) dL_law_368 (by decide) ?_
                refine J_iadd (pc := 369) K dL_law_369 ?_
                refine J_topi (fun v41 => ?_)
                refine J_scr (pc := 370) K hX dL_law_370 ?_
                refine J_aload_n (pc := 371) K dL_law_371 0 rfl 0 rfl ?_
                refine J_iload_n (pc := 372) K dL_law_372 3 rfl 3 rfl ?_
                refine J_iconst (pc := 373) K (2) dL_law_373 (by decide) ?_
                refine J_iadd (pc := 374) K dL_law_374 ?_
                refine J_topi (fun v42 => ?_)
                refine J_scr (pc := 375) K hX dL_law_375 ?_
                refine J_aload_n (pc := 376) K dL_law_376 0 rfl 0 rfl ?_
                refine J_iload_n (pc := 377) K dL_law_377 3 rfl 3 rfl ?_
                refine J_iconst (pc := 378) K (3) dL_law_378 (by decide) ?_
                refine J_iadd (pc := 379) K dL_law_379 ?_
                refine J_topi (fun v43 => ?_)
                refine J_scr (pc := 380) K hX dL_law_380 ?_
                refine J_callVI (As := [.int (xs (ix v41)), .int (xs (ix v42)), .int (xs (ix v43))]) (rest := [.int r39]) (pc := 381) K cs_SaltCloudsLaw_34 (ok_X7_set l ω hk2 (xs (ix v41)) (xs (ix v42)) (xs (ix v43)) h40) hk2 (by omega) rfl rfl (Nat.le_of_ble_eq_true rfl) dL_law_381 (fun r44 h45 => ?_)
                refine J_icmp_eq (pc := 384) K 1411 dL_law_384 (by decide) ?_ ?_
                · refine J_iinc (pc := 1411) K (6) dL_law_1411 3 rfl (by decide) (by decide) [(3, .int (u3 + 6)), (0, .ref b), (1, .ref (ω.1 + k1)), (2, .ref (ω.1 + k2))] rfl ?_
                  refine J_goto (pc := 1414) K 18 dL_law_1414 (by decide) ?_
                  refine J_lv [1, 2, 3, 0] [(0, .ref b), (1, .ref (ω.1 + k1)), (2, .ref (ω.1 + k2)), (3, .int (u3 + 6))] rfl ?_
                  exact ih (u3 + 6) h45
                · refine J_iconst (pc := 387) K (0) dL_law_387 (by decide) ?_
                  exact J_none rfl
              · refine J_ite (fun e33_5 => ?_) (fun e33_5 => ?_)
                · refine J_tableIn (pc := 33) K (v := 5) 389 e33_5 dL_law_33 (by decide) (by decide) rfl (by decide) ?_
                  refine J_aload_n (pc := 389) K dL_law_389 1 rfl 1 rfl ?_
                  refine J_aload_n (pc := 390) K dL_law_390 0 rfl 0 rfl ?_
                  refine J_iload_n (pc := 391) K dL_law_391 3 rfl 3 rfl ?_
                  refine J_iconst (pc := 392) K (1) dL_law_392 (by decide) ?_
                  refine J_iadd (pc := 393) K dL_law_393 ?_
                  refine J_topi (fun v46 => ?_)
                  refine J_scr (pc := 394) K hX dL_law_394 ?_
                  refine J_aload_n (pc := 395) K dL_law_395 0 rfl 0 rfl ?_
                  refine J_iload_n (pc := 396) K dL_law_396 3 rfl 3 rfl ?_
                  refine J_iconst (pc := 397) K (2) dL_law_397 (by decide) ?_
                  refine J_iadd (pc := 398) K dL_law_398 ?_
                  refine J_topi (fun v47 => ?_)
                  refine J_scr (pc := 399) K hX dL_law_399 ?_
                  refine J_callVI (As := [.int (xs (ix v46)), .int (xs (ix v47))]) (rest := []) (pc := 400) K cs_SaltCloudsLaw_35 (ok_X6_hill l ω hk1 (xs (ix v46)) (xs (ix v47)) h) hk1 (by omega) rfl rfl (Nat.le_of_ble_eq_true rfl) dL_law_400 (fun r48 h49 => ?_)
                  refine J_aload_n (pc := 403) K dL_law_403 2 rfl 2 rfl ?_
                  refine J_aload_n (pc := 404) K dL_law_404 0 rfl 0 rfl ?_
                  refine J_iload_n (pc := 405) K dL_law_405 3 rfl 3 rfl ?_
                  refine J_iconst (pc := 406) K (1) dL_law_406 (by decide) ?_
                  refine J_iadd (pc := 407) K dL_law_407 ?_
                  refine J_topi (fun v50 => ?_)
                  refine J_scr (pc := 408) K hX dL_law_408 ?_
                  refine J_aload_n (pc := 409) K dL_law_409 0 rfl 0 rfl ?_
                  refine J_iload_n (pc := 410) K dL_law_410 3 rfl 3 rfl ?_
                  refine J_iconst (pc := 411) K (2) dL_law_411 (by decide) ?_
                  refine J_iadd (pc := 412) K dL_law_412 ?_
                  refine J_topi (fun v51 => ?_)
                  refine J_scr (pc := 413) K hX dL_law_413 ?_
                  refine J_callVI (As := [.int (xs (ix v50)), .int (xs (ix v51))]) (rest := [.int r48]) (pc := 414) K cs_SaltCloudsLaw_38 (ok_X7_hill l ω hk2 (xs (ix v50)) (xs (ix v51)) h49) hk2 (by omega) rfl rfl (Nat.le_of_ble_eq_true rfl) dL_law_414 (fun r52 h53 => ?_)
                  refine J_icmp_eq (pc := 417) K 1411 dL_law_417 (by decide) ?_ ?_
                  · refine J_iinc (pc := 1411) K (6) dL_law_1411 3 rfl (by decide) (by decide) [(3, .int (u3 + 6)), (0, .ref b), (1, .ref (ω.1 + k1)), (2, .ref (ω.1 + k2))] rfl ?_
                    refine J_goto (pc := 1414) K 18 dL_law_1414 (by decide) ?_
                    refine J_lv [1, 2, 3, 0] [(0, .ref b), (1, .ref (ω.1 + k1)), (2, .ref (ω.1 + k2)), (3, .int (u3 + 6))] rfl ?_
                    exact ih (u3 + 6) h53
                  · refine J_iconst (pc := 420) K (0) dL_law_420 (by decide) ?_
                    exact J_none rfl
                · refine J_ite (fun e33_6 => ?_) (fun e33_6 => ?_)
                  · refine J_tableIn (pc := 33) K (v := 6) 422 e33_6 dL_law_33 (by decide) (by decide) rfl (by decide) ?_
                    refine J_aload_n (pc := 422) K dL_law_422 1 rfl 1 rfl ?_
                    refine J_aload_n (pc := 423) K dL_law_423 0 rfl 0 rfl ?_
                    refine J_iload_n (pc := 424) K dL_law_424 3 rfl 3 rfl ?_
                    refine J_iconst (pc := 425) K (1) dL_law_425 (by decide) ?_
                    refine J_iadd (pc := 426) K dL_law_426 ?_
                    refine J_topi (fun v54 => ?_)
                    refine J_scr (pc := 427) K hX dL_law_427 ?_
                    refine J_aload_n (pc := 428) K dL_law_428 0 rfl 0 rfl ?_
                    refine J_iload_n (pc := 429) K dL_law_429 3 rfl 3 rfl ?_
                    refine J_iconst (pc := 430) K (2) dL_law_430 (by decide) ?_
                    refine J_iadd (pc := 431) K dL_law_431 ?_
                    refine J_topi (fun v55 => ?_)
                    refine J_scr (pc := 432) K hX dL_law_432 ?_
                    refine J_callVI (As := [.int (xs (ix v54)), .int (xs (ix v55))]) (rest := []) (pc := 433) K cs_SaltCloudsLaw_39 (ok_X6_wind l ω hk1 (xs (ix v54)) (xs (ix v55)) h) hk1 (by omega) rfl rfl (Nat.le_of_ble_eq_true rfl) dL_law_433 (fun r56 h57 => ?_)
                    refine J_aload_n (pc := 436) K dL_law_436 2 rfl 2 rfl ?_
                    refine J_aload_n (pc := 437) K dL_law_437 0 rfl 0 rfl ?_
                    refine J_iload_n (pc := 438) K dL_law_438 3 rfl 3 rfl ?_
                    refine J_iconst (pc := 439) K (1) dL_law_439 (by decide) ?_
                    refine J_iadd (pc := 440) K dL_law_440 ?_
                    refine J_topi (fun v58 => ?_)
                    refine J_scr (pc := 441) K hX dL_law_441 ?_
                    refine J_aload_n (pc := 442) K dL_law_442 0 rfl 0 rfl ?_
                    refine J_iload_n (pc := 443) K dL_law_443 3 rfl 3 rfl ?_
                    refine J_iconst (pc := 444) K (2) dL_law_444 (by decide) ?_
                    refine J_iadd (pc := 445) K dL_law_445 ?_
                    refine J_topi (fun v59 => ?_)
                    refine J_scr (pc := 446) K hX dL_law_446 ?_
                    refine J_callVI (As := [.int (xs (ix v58)), .int (xs (ix v59))]) (rest := [.int r56]) (pc := 447) K cs_SaltCloudsLaw_42 (ok_X7_wind l ω hk2 (xs (ix v58)) (xs (ix v59)) h57) hk2 (by omega) rfl rfl (Nat.le_of_ble_eq_true rfl) dL_law_447 (fun r60 h61 => ?_)
                    refine J_icmp_eq (pc := 450) K 1411 dL_law_450 (by decide) ?_ ?_
                    · refine J_iinc (pc := 1411) K (6) dL_law_1411 3 rfl (by decide) (by decide) [(3, .int (u3 + 6)), (0, .ref b), (1, .ref (ω.1 + k1)), (2, .ref (ω.1 + k2))] rfl ?_
                      refine J_goto (pc := 1414) K 18 dL_law_1414 (by decide) ?_
                      refine J_lv [1, 2, 3, 0] [(0, .ref b), (1, .ref (ω.1 + k1)), (2, .ref (ω.1 + k2)), (3, .int (u3 + 6))] rfl ?_
                      exact ih (u3 + 6) h61
                    · refine J_iconst (pc := 453) K (0) dL_law_453 (by decide) ?_
                      exact J_none rfl
                  · refine J_ite (fun e33_7 => ?_) (fun e33_7 => ?_)
                    · refine J_tableIn (pc := 33) K (v := 7) 455 e33_7 dL_law_33 (by decide) (by decide) rfl (by decide) ?_
                      refine J_aload_n (pc := 455) K dL_law_455 1 rfl 1 rfl ?_
                      refine J_aload_n (pc := 456) K dL_law_456 0 rfl 0 rfl ?_
                      refine J_iload_n (pc := 457) K dL_law_457 3 rfl 3 rfl ?_
                      refine J_iconst (pc := 458) K (1) dL_law_458 (by decide) ?_
                      refine J_iadd (pc := 459) K dL_law_459 ?_
                      refine J_topi (fun v62 => ?_)
                      refine J_scr (pc := 460) K hX dL_law_460 ?_
                      refine J_aload_n (pc := 461) K dL_law_461 0 rfl 0 rfl ?_
                      refine J_iload_n (pc := 462) K dL_law_462 3 rfl 3 rfl ?_
                      refine J_iconst (pc := 463) K (2) dL_law_463 (by decide) ?_
                      refine J_iadd (pc := 464) K dL_law_464 ?_
                      refine J_topi (fun v63 => ?_)
                      refine J_scr (pc := 465) K hX dL_law_465 ?_
                      refine J_callVI (As := [.int (xs (ix v62)), .int (xs (ix v63))]) (rest := []) (pc := 466) K cs_SaltCloudsLaw_43 (ok_X6_join l ω N hk1 (xs (ix v62)) (xs (ix v63)) h) hk1 (by omega) rfl rfl (Nat.le_of_ble_eq_true rfl) dL_law_466 (fun r64 h65 => ?_)
                      refine J_aload_n (pc := 469) K dL_law_469 2 rfl 2 rfl ?_
                      refine J_aload_n (pc := 470) K dL_law_470 0 rfl 0 rfl ?_
                      refine J_iload_n (pc := 471) K dL_law_471 3 rfl 3 rfl ?_
                      refine J_iconst (pc := 472) K (1) dL_law_472 (by decide) ?_
                      refine J_iadd (pc := 473) K dL_law_473 ?_
                      refine J_topi (fun v66 => ?_)
                      refine J_scr (pc := 474) K hX dL_law_474 ?_
                      refine J_aload_n (pc := 475) K dL_law_475 0 rfl 0 rfl ?_
                      refine J_iload_n (pc := 476) K dL_law_476 3 rfl 3 rfl ?_
                      refine J_iconst (pc := 477) K (2) dL_law_477 (by decide) ?_
                      refine J_iadd (pc := 478) K dL_law_478 ?_
                      refine J_topi (fun v67 => ?_)
                      refine J_scr (pc := 479) K hX dL_law_479 ?_
                      refine J_callVI (As := [.int (xs (ix v66)), .int (xs (ix v67))]) (rest := [.int r64]) (pc := 480) K cs_SaltCloudsLaw_46 (ok_X7_join l ω N hk2 (xs (ix v66)) (xs (ix v67)) h65) hk2 (by omega) rfl rfl (Nat.le_of_ble_eq_true rfl) dL_law_480 (fun r68 h69 => ?_)
                      refine J_icmp_eq (pc := 483) K 1411 dL_law_483 (by decide) ?_ ?_
                      · refine J_iinc (pc := 1411) K (6) dL_law_1411 3 rfl (by decide) (by decide) [(3, .int (u3 + 6)), (0, .ref b), (1, .ref (ω.1 + k1)), (2, .ref (ω.1 + k2))] rfl ?_
                        refine J_goto (pc := 1414) K 18 dL_law_1414 (by decide) ?_
                        refine J_lv [1, 2, 3, 0] [(0, .ref b), (1, .ref (ω.1 + k1)), (2, .ref (ω.1 + k2)), (3, .int (u3 + 6))] rfl ?_
                        exact ih (u3 + 6) h69
                      · refine J_iconst (pc := 486) K (0) dL_law_486 (by decide) ?_
                        exact J_none rfl
                    · refine J_ite (fun e33_8 => ?_) (fun e33_8 => ?_)
                      · refine J_tableIn (pc := 33) K (v := 8) 488 e33_8 dL_law_33 (by decide) (by decide) rfl (by decide) ?_
                        refine J_aload_n (pc := 488) K dL_law_488 1 rfl 1 rfl ?_
                        refine J_aload_n (pc := 489) K dL_law_489 0 rfl 0 rfl ?_
                        refine J_iload_n (pc := 490) K dL_law_490 3 rfl 3 rfl ?_
                        refine J_iconst (pc := 491) K (1) dL_law_491 (by decide) ?_
                        refine J_iadd (pc := 492) K dL_law_492 ?_
                        refine J_topi (fun v70 => ?_)
                        refine J_scr (pc := 493) K hX dL_law_493 ?_
                        refine J_aload_n (pc := 494) K dL_law_494 0 rfl 0 rfl ?_
                        refine J_iload_n (pc := 495) K dL_law_495 3 rfl 3 rfl ?_
                        refine J_iconst (pc := 496) K (2) dL_law_496 (by decide) ?_
                        refine J_iadd (pc := 497) K dL_law_497 ?_
                        refine J_topi (fun v71 => ?_)
                        refine J_scr (pc := 498) K hX dL_law_498 ?_
                        refine J_callVI (As := [.int (xs (ix v70)), .int (xs (ix v71))]) (rest := []) (pc := 499) K cs_SaltCloudsLaw_47 (ok_X6_part l ω N hk1 (xs (ix v70)) (xs (ix v71)) h) hk1 (by omega) rfl rfl (Nat.le_of_ble_eq_true rfl) dL_law_499 (fun r72 h73 => ?_)
                        refine J_aload_n (pc := 502) K dL_law_502 2 rfl 2 rfl ?_
                        refine J_aload_n (pc := 503) K dL_law_503 0 rfl 0 rfl ?_
                        refine J_iload_n (pc := 504) K dL_law_504 3 rfl 3 rfl ?_
                        refine J_iconst (pc := 505) K (1) dL_law_505 (by decide) ?_
                        refine J_iadd (pc := 506) K dL_law_506 ?_
                        refine J_topi (fun v74 => ?_)
                        refine J_scr (pc := 507) K hX dL_law_507 ?_
                        refine J_aload_n (pc := 508) K dL_law_508 0 rfl 0 rfl ?_
                        refine J_iload_n (pc := 509) K dL_law_509 3 rfl 3 rfl ?_
                        refine J_iconst (pc := 510) K (2) dL_law_510 (by decide) ?_
                        refine J_iadd (pc := 511) K dL_law_511 ?_
                        refine J_topi (fun v75 => ?_)
                        refine J_scr (pc := 512) K hX dL_law_512 ?_
                        refine J_callVI (As := [.int (xs (ix v74)), .int (xs (ix v75))]) (rest := [.int r72]) (pc := 513) K cs_SaltCloudsLaw_50 (ok_X7_part l ω N hk2 (xs (ix v74)) (xs (ix v75)) h73) hk2 (by omega) rfl rfl (Nat.le_of_ble_eq_true rfl) dL_law_513 (fun r76 h77 => ?_)
                        refine J_icmp_eq (pc := 516) K 1411 dL_law_516 (by decide) ?_ ?_
                        · refine J_iinc (pc := 1411) K (6) dL_law_1411 3 rfl (by decide) (by decide) [(3, .int (u3 + 6)), (0, .ref b), (1, .ref (ω.1 + k1)), (2, .ref (ω.1 + k2))] rfl ?_
                          refine J_goto (pc := 1414) K 18 dL_law_1414 (by decide) ?_
                          refine J_lv [1, 2, 3, 0] [(0, .ref b), (1, .ref (ω.1 + k1)), (2, .ref (ω.1 + k2)), (3, .int (u3 + 6))] rfl ?_
                          exact ih (u3 + 6) h77
                        · refine J_iconst (pc := 519) K (0) dL_law_519 (by decide) ?_
                          exact J_none rfl
                      · refine J_ite (fun e33_9 => ?_) (fun e33_9 => ?_)
                        · refine J_tableIn (pc := 33) K (v := 9) 521 e33_9 dL_law_33 (by decide) (by decide) rfl (by decide) ?_
                          refine J_aload_n (pc := 521) K dL_law_521 1 rfl 1 rfl ?_
                          refine J_aload_n (pc := 522) K dL_law_522 0 rfl 0 rfl ?_
                          refine J_iload_n (pc := 523) K dL_law_523 3 rfl 3 rfl ?_
                          refine J_iconst (pc := 524) K (1) dL_law_524 (by decide) ?_
                          refine J_iadd (pc := 525) K dL_law_525 ?_
                          refine J_topi (fun v78 => ?_)
                          refine J_scr (pc := 526) K hX dL_law_526 ?_
                          refine J_i2l (pc := 527) K dL_law_527 ?_
                          refine J_bipush (pc := 528) K (32) dL_law_528 (by decide) ?_
                          refine J_lshl (pc := 530) K dL_law_530 ?_
                          refine J_aload_n (pc := 531) K dL_law_531 0 rfl 0 rfl ?_
                          refine J_iload_n (pc := 532) K dL_law_532 3 rfl 3 rfl ?_
                          refine J_iconst (pc := 533) K (2) dL_law_533 (by decide) ?_
                          refine J_iadd (pc := 534) K dL_law_534 ?_
                          refine J_topi (fun v79 => ?_)
                          refine J_scr (pc := 535) K hX dL_law_535 ?_
                          refine J_i2l (pc := 536) K dL_law_536 ?_
                          refine J_ldc2 (pc := 537) K kl_SaltCloudsLaw_51 dL_law_537 ?_
                          refine J_land (pc := 540) K dL_law_540 ?_
                          refine J_lor (pc := 541) K dL_law_541 ?_
                          refine J_aload_n (pc := 542) K dL_law_542 0 rfl 0 rfl ?_
                          refine J_iload_n (pc := 543) K dL_law_543 3 rfl 3 rfl ?_
                          refine J_iconst (pc := 544) K (3) dL_law_544 (by decide) ?_
                          refine J_iadd (pc := 545) K dL_law_545 ?_
                          refine J_topi (fun v80 => ?_)
                          refine J_scr (pc := 546) K hX dL_law_546 ?_
                          refine J_callVI (As := [.long ((lshl ((xs (ix v78)).toInt64) (32 : Int32)) ||| (((xs (ix v79)).toInt64) &&& (4294967295 : Int64))), .int (xs (ix v80))]) (rest := []) (pc := 547) K cs_SaltCloudsLaw_53 (ok_X6_feed l ω N hk1 ((lshl ((xs (ix v78)).toInt64) (32 : Int32)) ||| (((xs (ix v79)).toInt64) &&& (4294967295 : Int64))) (xs (ix v80)) h) hk1 (by omega) rfl rfl (Nat.le_of_ble_eq_true rfl) dL_law_547 (fun r81 h82 => ?_)
                          refine J_aload_n (pc := 550) K dL_law_550 2 rfl 2 rfl ?_
                          refine J_aload_n (pc := 551) K dL_law_551 0 rfl 0 rfl ?_
                          refine J_iload_n (pc := 552) K dL_law_552 3 rfl 3 rfl ?_
                          refine J_iconst (pc := 553) K (1) dL_law_553 (by decide) ?_
                          refine J_iadd (pc := 554) K dL_law_554 ?_
                          refine J_topi (fun v83 => ?_)
                          refine J_scr (pc := 555) K hX dL_law_555 ?_
                          refine J_i2l (pc := 556) K dL_law_556 ?_
                          refine J_bipush (pc := 557) K (32) dL_law_557 (by decide) ?_
                          refine J_lshl (pc := 559) K dL_law_559 ?_
                          refine J_aload_n (pc := 560) K dL_law_560 0 rfl 0 rfl ?_
                          refine J_iload_n (pc := 561) K dL_law_561 3 rfl 3 rfl ?_
                          refine J_iconst (pc := 562) K (2) dL_law_562 (by decide) ?_
                          refine J_iadd (pc := 563) K dL_law_563 ?_
                          refine J_topi (fun v84 => ?_)
                          refine J_scr (pc := 564) K hX dL_law_564 ?_
                          refine J_i2l (pc := 565) K dL_law_565 ?_
                          refine J_ldc2 (pc := 566) K kl_SaltCloudsLaw_51 dL_law_566 ?_
                          refine J_land (pc := 569) K dL_law_569 ?_
                          refine J_lor (pc := 570) K dL_law_570 ?_
                          refine J_aload_n (pc := 571) K dL_law_571 0 rfl 0 rfl ?_
                          refine J_iload_n (pc := 572) K dL_law_572 3 rfl 3 rfl ?_
                          refine J_iconst (pc := 573) K (3) dL_law_573 (by decide) ?_
                          refine J_iadd (pc := 574) K dL_law_574 ?_
                          refine J_topi (fun v85 => ?_)
                          refine J_scr (pc := 575) K hX dL_law_575 ?_
                          refine J_callVI (As := [.long ((lshl ((xs (ix v83)).toInt64) (32 : Int32)) ||| (((xs (ix v84)).toInt64) &&& (4294967295 : Int64))), .int (xs (ix v85))]) (rest := [.int r81]) (pc := 576) K cs_SaltCloudsLaw_57 (ok_X7_feed l ω N hk2 ((lshl ((xs (ix v83)).toInt64) (32 : Int32)) ||| (((xs (ix v84)).toInt64) &&& (4294967295 : Int64))) (xs (ix v85)) h82) hk2 (by omega) rfl rfl (Nat.le_of_ble_eq_true rfl) dL_law_576 (fun r86 h87 => ?_)
                          refine J_icmp_eq (pc := 579) K 1411 dL_law_579 (by decide) ?_ ?_
                          · refine J_iinc (pc := 1411) K (6) dL_law_1411 3 rfl (by decide) (by decide) [(3, .int (u3 + 6)), (0, .ref b), (1, .ref (ω.1 + k1)), (2, .ref (ω.1 + k2))] rfl ?_
                            refine J_goto (pc := 1414) K 18 dL_law_1414 (by decide) ?_
                            refine J_lv [1, 2, 3, 0] [(0, .ref b), (1, .ref (ω.1 + k1)), (2, .ref (ω.1 + k2)), (3, .int (u3 + 6))] rfl ?_
                            exact ih (u3 + 6) h87
                          · refine J_iconst (pc := 582) K (0) dL_law_582 (by decide) ?_
                            exact J_none rfl
                        · refine J_ite (fun e33_10 => ?_) (fun e33_10 => ?_)
                          · refine J_tableIn (pc := 33) K (v := 10) 584 e33_10 dL_law_33 (by decide) (by decide) rfl (by decide) ?_
                            refine J_aload_n (pc := 584) K dL_law_584 1 rfl 1 rfl ?_
                            refine J_aload_n (pc := 585) K dL_law_585 0 rfl 0 rfl ?_
                            refine J_iload_n (pc := 586) K dL_law_586 3 rfl 3 rfl ?_
                            refine J_iconst (pc := 587) K (1) dL_law_587 (by decide) ?_
                            refine J_iadd (pc := 588) K dL_law_588 ?_
                            refine J_topi (fun v88 => ?_)
                            refine J_scr (pc := 589) K hX dL_law_589 ?_
                            refine J_callVI (As := [.int (xs (ix v88))]) (rest := []) (pc := 590) K cs_SaltCloudsLaw_58 (ok_X6_text l ω N hk1 (xs (ix v88)) h) hk1 (by omega) rfl rfl (Nat.le_of_ble_eq_true rfl) dL_law_590 (fun r89 h90 => ?_)
                            refine J_aload_n (pc := 593) K dL_law_593 2 rfl 2 rfl ?_
                            refine J_aload_n (pc := 594) K dL_law_594 0 rfl 0 rfl ?_
                            refine J_iload_n (pc := 595) K dL_law_595 3 rfl 3 rfl ?_
                            refine J_iconst (pc := 596) K (1) dL_law_596 (by decide) ?_
                            refine J_iadd (pc := 597) K dL_law_597 ?_
                            refine J_topi (fun v91 => ?_)
                            refine J_scr (pc := 598) K hX dL_law_598 ?_
                            refine J_callVI (As := [.int (xs (ix v91))]) (rest := [.int r89]) (pc := 599) K cs_SaltCloudsLaw_62 (ok_X7_text l ω N hk2 (xs (ix v91)) h90) hk2 (by omega) rfl rfl (Nat.le_of_ble_eq_true rfl) dL_law_599 (fun r92 h93 => ?_)
                            refine J_icmp_eq (pc := 602) K 1411 dL_law_602 (by decide) ?_ ?_
                            · refine J_iinc (pc := 1411) K (6) dL_law_1411 3 rfl (by decide) (by decide) [(3, .int (u3 + 6)), (0, .ref b), (1, .ref (ω.1 + k1)), (2, .ref (ω.1 + k2))] rfl ?_
                              refine J_goto (pc := 1414) K 18 dL_law_1414 (by decide) ?_
                              refine J_lv [1, 2, 3, 0] [(0, .ref b), (1, .ref (ω.1 + k1)), (2, .ref (ω.1 + k2)), (3, .int (u3 + 6))] rfl ?_
                              exact ih (u3 + 6) h93
                            · refine J_iconst (pc := 605) K (0) dL_law_605 (by decide) ?_
                              exact J_none rfl
                          · refine J_ite (fun e33_11 => ?_) (fun e33_11 => ?_)
                            · refine J_tableIn (pc := 33) K (v := 11) 607 e33_11 dL_law_33 (by decide) (by decide) rfl (by decide) ?_
                              refine J_aload_n (pc := 607) K dL_law_607 1 rfl 1 rfl ?_
                              refine J_aload_n (pc := 608) K dL_law_608 0 rfl 0 rfl ?_
                              refine J_iload_n (pc := 609) K dL_law_609 3 rfl 3 rfl ?_
                              refine J_iconst (pc := 610) K (1) dL_law_610 (by decide) ?_
                              refine J_iadd (pc := 611) K dL_law_611 ?_
                              refine J_topi (fun v94 => ?_)
                              refine J_scr (pc := 612) K hX dL_law_612 ?_
                              refine J_aload_n (pc := 613) K dL_law_613 0 rfl 0 rfl ?_
                              refine J_iload_n (pc := 614) K dL_law_614 3 rfl 3 rfl ?_
                              refine J_iconst (pc := 615) K (2) dL_law_615 (by decide) ?_
                              refine J_iadd (pc := 616) K dL_law_616 ?_
                              refine J_topi (fun v95 => ?_)
                              refine J_scr (pc := 617) K hX dL_law_617 ?_
                              refine J_aload_n (pc := 618) K dL_law_618 0 rfl 0 rfl ?_
                              refine J_iload_n (pc := 619) K dL_law_619 3 rfl 3 rfl ?_
                              refine J_iconst (pc := 620) K (3) dL_law_620 (by decide) ?_
                              refine J_iadd (pc := 621) K dL_law_621 ?_
                              refine J_topi (fun v96 => ?_)
                              refine J_scr (pc := 622) K hX dL_law_622 ?_
                              refine J_aload_n (pc := 623) K dL_law_623 0 rfl 0 rfl ?_
                              refine J_iload_n (pc := 624) K dL_law_624 3 rfl 3 rfl ?_
                              refine J_iconst (pc := 625) K (4) dL_law_625 (by decide) ?_
                              refine J_iadd (pc := 626) K dL_law_626 ?_
                              refine J_topi (fun v97 => ?_)
                              refine J_scr (pc := 627) K hX dL_law_627 ?_
                              refine J_callVI (As := [.int (xs (ix v94)), .int (xs (ix v95)), .int (xs (ix v96)), .int (xs (ix v97))]) (rest := []) (pc := 628) K cs_SaltCloudsLaw_63 (ok_X6_law l ω N hk1 (xs (ix v94)) (xs (ix v95)) (xs (ix v96)) (xs (ix v97)) h) hk1 (by omega) rfl rfl (Nat.le_of_ble_eq_true rfl) dL_law_628 (fun r98 h99 => ?_)
                              refine J_aload_n (pc := 631) K dL_law_631 2 rfl 2 rfl ?_
                              refine J_aload_n (pc := 632) K dL_law_632 0 rfl 0 rfl ?_
                              refine J_iload_n (pc := 633) K dL_law_633 3 rfl 3 rfl ?_
                              refine J_iconst (pc := 634) K (1) dL_law_634 (by decide) ?_
                              refine J_iadd (pc := 635) K dL_law_635 ?_
                              refine J_topi (fun v100 => ?_)
                              refine J_scr (pc := 636) K hX dL_law_636 ?_
                              refine J_aload_n (pc := 637) K dL_law_637 0 rfl 0 rfl ?_
                              refine J_iload_n (pc := 638) K dL_law_638 3 rfl 3 rfl ?_
                              refine J_iconst (pc := 639) K (2) dL_law_639 (by decide) ?_
                              refine J_iadd (pc := 640) K dL_law_640 ?_
                              refine J_topi (fun v101 => ?_)
                              refine J_scr (pc := 641) K hX dL_law_641 ?_
                              refine J_aload_n (pc := 642) K dL_law_642 0 rfl 0 rfl ?_
                              refine J_iload_n (pc := 643) K dL_law_643 3 rfl 3 rfl ?_
                              refine J_iconst (pc := 644) K (3) dL_law_644 (by decide) ?_
                              refine J_iadd (pc := 645) K dL_law_645 ?_
                              refine J_topi (fun v102 => ?_)
                              refine J_scr (pc := 646) K hX dL_law_646 ?_
                              refine J_aload_n (pc := 647) K dL_law_647 0 rfl 0 rfl ?_
                              refine J_iload_n (pc := 648) K dL_law_648 3 rfl 3 rfl ?_
                              refine J_iconst (pc := 649) K (4) dL_law_649 (by decide) ?_
                              refine J_iadd (pc := 650) K dL_law_650 ?_
                              refine J_topi (fun v103 => ?_)
                              refine J_scr (pc := 651) K hX dL_law_651 ?_
                              refine J_callVI (As := [.int (xs (ix v100)), .int (xs (ix v101)), .int (xs (ix v102)), .int (xs (ix v103))]) (rest := [.int r98]) (pc := 652) K cs_SaltCloudsLaw_67 (ok_X7_law l ω N hk2 (xs (ix v100)) (xs (ix v101)) (xs (ix v102)) (xs (ix v103)) h99) hk2 (by omega) rfl rfl (Nat.le_of_ble_eq_true rfl) dL_law_652 (fun r104 h105 => ?_)
                              refine J_icmp_eq (pc := 655) K 1411 dL_law_655 (by decide) ?_ ?_
                              · refine J_iinc (pc := 1411) K (6) dL_law_1411 3 rfl (by decide) (by decide) [(3, .int (u3 + 6)), (0, .ref b), (1, .ref (ω.1 + k1)), (2, .ref (ω.1 + k2))] rfl ?_
                                refine J_goto (pc := 1414) K 18 dL_law_1414 (by decide) ?_
                                refine J_lv [1, 2, 3, 0] [(0, .ref b), (1, .ref (ω.1 + k1)), (2, .ref (ω.1 + k2)), (3, .int (u3 + 6))] rfl ?_
                                exact ih (u3 + 6) h105
                              · refine J_iconst (pc := 658) K (0) dL_law_658 (by decide) ?_
                                exact J_none rfl
                            · refine J_ite (fun e33_12 => ?_) (fun e33_12 => ?_)
                              · refine J_tableIn (pc := 33) K (v := 12) 660 e33_12 dL_law_33 (by decide) (by decide) rfl (by decide) ?_
                                refine J_aload_n (pc := 660) K dL_law_660 1 rfl 1 rfl ?_
                                refine J_aload_n (pc := 661) K dL_law_661 0 rfl 0 rfl ?_
                                refine J_iload_n (pc := 662) K dL_law_662 3 rfl 3 rfl ?_
                                refine J_iconst (pc := 663) K (1) dL_law_663 (by decide) ?_
                                refine J_iadd (pc := 664) K dL_law_664 ?_
                                refine J_topi (fun v106 => ?_)
                                refine J_scr (pc := 665) K hX dL_law_665 ?_
                                refine J_callVI (As := [.int (xs (ix v106))]) (rest := []) (pc := 666) K cs_SaltCloudsLaw_68 (ok_X6_hours l ω N hk1 (xs (ix v106)) h) hk1 (by omega) rfl rfl (Nat.le_of_ble_eq_true rfl) dL_law_666 (fun r107 h108 => ?_)
                                refine J_aload_n (pc := 669) K dL_law_669 2 rfl 2 rfl ?_
                                refine J_aload_n (pc := 670) K dL_law_670 0 rfl 0 rfl ?_
                                refine J_iload_n (pc := 671) K dL_law_671 3 rfl 3 rfl ?_
                                refine J_iconst (pc := 672) K (1) dL_law_672 (by decide) ?_
                                refine J_iadd (pc := 673) K dL_law_673 ?_
                                refine J_topi (fun v109 => ?_)
                                refine J_scr (pc := 674) K hX dL_law_674 ?_
                                refine J_callVI (As := [.int (xs (ix v109))]) (rest := [.int r107]) (pc := 675) K cs_SaltCloudsLaw_71 (ok_X7_hours l ω N hk2 (xs (ix v109)) h108) hk2 (by omega) rfl rfl (Nat.le_of_ble_eq_true rfl) dL_law_675 (fun r110 h111 => ?_)
                                refine J_icmp_eq (pc := 678) K 1411 dL_law_678 (by decide) ?_ ?_
                                · refine J_iinc (pc := 1411) K (6) dL_law_1411 3 rfl (by decide) (by decide) [(3, .int (u3 + 6)), (0, .ref b), (1, .ref (ω.1 + k1)), (2, .ref (ω.1 + k2))] rfl ?_
                                  refine J_goto (pc := 1414) K 18 dL_law_1414 (by decide) ?_
                                  refine J_lv [1, 2, 3, 0] [(0, .ref b), (1, .ref (ω.1 + k1)), (2, .ref (ω.1 + k2)), (3, .int (u3 + 6))] rfl ?_
                                  exact ih (u3 + 6) h111
                                · refine J_iconst (pc := 681) K (0) dL_law_681 (by decide) ?_
                                  exact J_none rfl
                              · refine J_ite (fun e33_13 => ?_) (fun e33_13 => ?_)
                                · refine J_tableIn (pc := 33) K (v := 13) 683 e33_13 dL_law_33 (by decide) (by decide) rfl (by decide) ?_
                                  refine J_aload_n (pc := 683) K dL_law_683 1 rfl 1 rfl ?_
                                  refine J_aload_n (pc := 684) K dL_law_684 0 rfl 0 rfl ?_
                                  refine J_iload_n (pc := 685) K dL_law_685 3 rfl 3 rfl ?_
                                  refine J_iconst (pc := 686) K (1) dL_law_686 (by decide) ?_
                                  refine J_iadd (pc := 687) K dL_law_687 ?_
                                  refine J_topi (fun v112 => ?_)
                                  refine J_scr (pc := 688) K hX dL_law_688 ?_
                                  refine J_callVI (As := [.int (xs (ix v112))]) (rest := []) (pc := 689) K cs_SaltCloudsLaw_72 (ok_X6_loose l ω N hk1 (xs (ix v112)) h) hk1 (by omega) rfl rfl (Nat.le_of_ble_eq_true rfl) dL_law_689 (fun r113 h114 => ?_)
                                  refine J_aload_n (pc := 692) K dL_law_692 2 rfl 2 rfl ?_
                                  refine J_aload_n (pc := 693) K dL_law_693 0 rfl 0 rfl ?_
                                  refine J_iload_n (pc := 694) K dL_law_694 3 rfl 3 rfl ?_
                                  refine J_iconst (pc := 695) K (1) dL_law_695 (by decide) ?_
                                  refine J_iadd (pc := 696) K dL_law_696 ?_
                                  refine J_topi (fun v115 => ?_)
                                  refine J_scr (pc := 697) K hX dL_law_697 ?_
                                  refine J_callVI (As := [.int (xs (ix v115))]) (rest := [.int r113]) (pc := 698) K cs_SaltCloudsLaw_75 (ok_X7_loose l ω N hk2 (xs (ix v115)) h114) hk2 (by omega) rfl rfl (Nat.le_of_ble_eq_true rfl) dL_law_698 (fun r116 h117 => ?_)
                                  refine J_icmp_eq (pc := 701) K 1411 dL_law_701 (by decide) ?_ ?_
                                  · refine J_iinc (pc := 1411) K (6) dL_law_1411 3 rfl (by decide) (by decide) [(3, .int (u3 + 6)), (0, .ref b), (1, .ref (ω.1 + k1)), (2, .ref (ω.1 + k2))] rfl ?_
                                    refine J_goto (pc := 1414) K 18 dL_law_1414 (by decide) ?_
                                    refine J_lv [1, 2, 3, 0] [(0, .ref b), (1, .ref (ω.1 + k1)), (2, .ref (ω.1 + k2)), (3, .int (u3 + 6))] rfl ?_
                                    exact ih (u3 + 6) h117
                                  · refine J_iconst (pc := 704) K (0) dL_law_704 (by decide) ?_
                                    exact J_none rfl
                                · refine J_ite (fun e33_14 => ?_) (fun e33_14 => ?_)
                                  · refine J_tableIn (pc := 33) K (v := 14) 706 e33_14 dL_law_33 (by decide) (by decide) rfl (by decide) ?_
                                    refine J_aload_n (pc := 706) K dL_law_706 1 rfl 1 rfl ?_
                                    refine J_aload_n (pc := 707) K dL_law_707 0 rfl 0 rfl ?_
                                    refine J_iload_n (pc := 708) K dL_law_708 3 rfl 3 rfl ?_
                                    refine J_iconst (pc := 709) K (1) dL_law_709 (by decide) ?_
                                    refine J_iadd (pc := 710) K dL_law_710 ?_
                                    refine J_topi (fun v118 => ?_)
                                    refine J_scr (pc := 711) K hX dL_law_711 ?_
                                    refine J_aload_n (pc := 712) K dL_law_712 0 rfl 0 rfl ?_
                                    refine J_iload_n (pc := 713) K dL_law_713 3 rfl 3 rfl ?_
                                    refine J_iconst (pc := 714) K (2) dL_law_714 (by decide) ?_
                                    refine J_iadd (pc := 715) K dL_law_715 ?_
                                    refine J_topi (fun v119 => ?_)
                                    refine J_scr (pc := 716) K hX dL_law_716 ?_
                                    refine J_aload_n (pc := 717) K dL_law_717 0 rfl 0 rfl ?_
                                    refine J_iload_n (pc := 718) K dL_law_718 3 rfl 3 rfl ?_
                                    refine J_iconst (pc := 719) K (3) dL_law_719 (by decide) ?_
                                    refine J_iadd (pc := 720) K dL_law_720 ?_
                                    refine J_topi (fun v120 => ?_)
                                    refine J_scr (pc := 721) K hX dL_law_721 ?_
                                    refine J_callVI (As := [.int (xs (ix v118)), .int (xs (ix v119)), .int (xs (ix v120))]) (rest := []) (pc := 722) K cs_SaltCloudsLaw_76 (ok_X6_then l ω N hk1 (xs (ix v118)) (xs (ix v119)) (xs (ix v120)) h) hk1 (by omega) rfl rfl (Nat.le_of_ble_eq_true rfl) dL_law_722 (fun r121 h122 => ?_)
                                    refine J_aload_n (pc := 725) K dL_law_725 2 rfl 2 rfl ?_
                                    refine J_aload_n (pc := 726) K dL_law_726 0 rfl 0 rfl ?_
                                    refine J_iload_n (pc := 727) K dL_law_727 3 rfl 3 rfl ?_
                                    refine J_iconst (pc := 728) K (1) dL_law_728 (by decide) ?_
                                    refine J_iadd (pc := 729) K dL_law_729 ?_
                                    refine J_topi (fun v123 => ?_)
                                    refine J_scr (pc := 730) K hX dL_law_730 ?_
                                    refine J_aload_n (pc := 731) K dL_law_731 0 rfl 0 rfl ?_
                                    refine J_iload_n (pc := 732) K dL_law_732 3 rfl 3 rfl ?_
                                    refine J_iconst (pc := 733) K (2) dL_law_733 (by decide) ?_
                                    refine J_iadd (pc := 734) K dL_law_734 ?_
                                    refine J_topi (fun v124 => ?_)
                                    refine J_scr (pc := 735) K hX dL_law_735 ?_
                                    refine J_aload_n (pc := 736) K dL_law_736 0 rfl 0 rfl ?_
                                    refine J_iload_n (pc := 737) K dL_law_737 3 rfl 3 rfl ?_
                                    refine J_iconst (pc := 738) K (3) dL_law_738 (by decide) ?_
                                    refine J_iadd (pc := 739) K dL_law_739 ?_
                                    refine J_topi (fun v125 => ?_)
                                    refine J_scr (pc := 740) K hX dL_law_740 ?_
                                    refine J_callVI (As := [.int (xs (ix v123)), .int (xs (ix v124)), .int (xs (ix v125))]) (rest := [.int r121]) (pc := 741) K cs_SaltCloudsLaw_79 (ok_X7_then l ω N hk2 (xs (ix v123)) (xs (ix v124)) (xs (ix v125)) h122) hk2 (by omega) rfl rfl (Nat.le_of_ble_eq_true rfl) dL_law_741 (fun r126 h127 => ?_)
                                    refine J_icmp_eq (pc := 744) K 1411 dL_law_744 (by decide) ?_ ?_
                                    · refine J_iinc (pc := 1411) K (6) dL_law_1411 3 rfl (by decide) (by decide) [(3, .int (u3 + 6)), (0, .ref b), (1, .ref (ω.1 + k1)), (2, .ref (ω.1 + k2))] rfl ?_
                                      refine J_goto (pc := 1414) K 18 dL_law_1414 (by decide) ?_
                                      refine J_lv [1, 2, 3, 0] [(0, .ref b), (1, .ref (ω.1 + k1)), (2, .ref (ω.1 + k2)), (3, .int (u3 + 6))] rfl ?_
                                      exact ih (u3 + 6) h127
                                    · refine J_iconst (pc := 747) K (0) dL_law_747 (by decide) ?_
                                      exact J_none rfl
                                  · refine J_ite (fun e33_15 => ?_) (fun e33_15 => ?_)
                                    · refine J_tableIn (pc := 33) K (v := 15) 749 e33_15 dL_law_33 (by decide) (by decide) rfl (by decide) ?_
                                      refine J_aload_n (pc := 749) K dL_law_749 1 rfl 1 rfl ?_
                                      refine J_callVI (As := []) (rest := []) (pc := 750) K cs_SaltCloudsLaw_80 (ok_X6_pay l ω N hk1 h) hk1 (by omega) rfl rfl (Nat.le_of_ble_eq_true rfl) dL_law_750 (fun r128 h129 => ?_)
                                      refine J_aload_n (pc := 753) K dL_law_753 2 rfl 2 rfl ?_
                                      refine J_callVI (As := []) (rest := [.int r128]) (pc := 754) K cs_SaltCloudsLaw_84 (ok_X7_pay l ω N hk2 h129) hk2 (by omega) rfl rfl (Nat.le_of_ble_eq_true rfl) dL_law_754 (fun r130 h131 => ?_)
                                      refine J_icmp_eq (pc := 757) K 1411 dL_law_757 (by decide) ?_ ?_
                                      · refine J_iinc (pc := 1411) K (6) dL_law_1411 3 rfl (by decide) (by decide) [(3, .int (u3 + 6)), (0, .ref b), (1, .ref (ω.1 + k1)), (2, .ref (ω.1 + k2))] rfl ?_
                                        refine J_goto (pc := 1414) K 18 dL_law_1414 (by decide) ?_
                                        refine J_lv [1, 2, 3, 0] [(0, .ref b), (1, .ref (ω.1 + k1)), (2, .ref (ω.1 + k2)), (3, .int (u3 + 6))] rfl ?_
                                        exact ih (u3 + 6) h131
                                      · refine J_iconst (pc := 760) K (0) dL_law_760 (by decide) ?_
                                        exact J_none rfl
                                    · refine J_ite (fun e33_16 => ?_) (fun e33_16 => ?_)
                                      · refine J_tableIn (pc := 33) K (v := 16) 762 e33_16 dL_law_33 (by decide) (by decide) rfl (by decide) ?_
                                        refine J_aload_n (pc := 762) K dL_law_762 1 rfl 1 rfl ?_
                                        refine J_aload_n (pc := 763) K dL_law_763 0 rfl 0 rfl ?_
                                        refine J_iload_n (pc := 764) K dL_law_764 3 rfl 3 rfl ?_
                                        refine J_iconst (pc := 765) K (1) dL_law_765 (by decide) ?_
                                        refine J_iadd (pc := 766) K dL_law_766 ?_
                                        refine J_topi (fun v132 => ?_)
                                        refine J_scr (pc := 767) K hX dL_law_767 ?_
                                        refine J_callVI (As := [.int (xs (ix v132))]) (rest := []) (pc := 768) K cs_SaltCloudsLaw_85 (ok_X6_nobodyBy l ω N hk1 (xs (ix v132)) h) hk1 (by omega) rfl rfl (Nat.le_of_ble_eq_true rfl) dL_law_768 (fun r133 h134 => ?_)
                                        refine J_aload_n (pc := 771) K dL_law_771 2 rfl 2 rfl ?_
                                        refine J_aload_n (pc := 772) K dL_law_772 0 rfl 0 rfl ?_
                                        refine J_iload_n (pc := 773) K dL_law_773 3 rfl 3 rfl ?_
                                        refine J_iconst (pc := 774) K (1) dL_law_774 (by decide) ?_
                                        refine J_iadd (pc := 775) K dL_law_775 ?_
                                        refine J_topi (fun v135 => ?_)
                                        refine J_scr (pc := 776) K hX dL_law_776 ?_
                                        refine J_callVI (As := [.int (xs (ix v135))]) (rest := [.int r133]) (pc := 777) K cs_SaltCloudsLaw_88 (ok_X7_nobodyBy l ω N hk2 (xs (ix v135)) h134) hk2 (by omega) rfl rfl (Nat.le_of_ble_eq_true rfl) dL_law_777 (fun r136 h137 => ?_)
                                        refine J_icmp_eq (pc := 780) K 1411 dL_law_780 (by decide) ?_ ?_
                                        · refine J_iinc (pc := 1411) K (6) dL_law_1411 3 rfl (by decide) (by decide) [(3, .int (u3 + 6)), (0, .ref b), (1, .ref (ω.1 + k1)), (2, .ref (ω.1 + k2))] rfl ?_
                                          refine J_goto (pc := 1414) K 18 dL_law_1414 (by decide) ?_
                                          refine J_lv [1, 2, 3, 0] [(0, .ref b), (1, .ref (ω.1 + k1)), (2, .ref (ω.1 + k2)), (3, .int (u3 + 6))] rfl ?_
                                          exact ih (u3 + 6) h137
                                        · refine J_iconst (pc := 783) K (0) dL_law_783 (by decide) ?_
                                          exact J_none rfl
                                      · refine J_ite (fun e33_17 => ?_) (fun e33_17 => ?_)
                                        · refine J_tableIn (pc := 33) K (v := 17) 785 e33_17 dL_law_33 (by decide) (by decide) rfl (by decide) ?_
                                          refine J_aload_n (pc := 785) K dL_law_785 1 rfl 1 rfl ?_
                                          refine J_callVI (As := []) (rest := []) (pc := 786) K cs_SaltCloudsLaw_89 (ok_X6_first l ω N hk1 h) hk1 (by omega) rfl rfl (Nat.le_of_ble_eq_true rfl) dL_law_786 (fun r138 h139 => ?_)
                                          refine J_aload_n (pc := 789) K dL_law_789 2 rfl 2 rfl ?_
                                          refine J_callVI (As := []) (rest := [.int r138]) (pc := 790) K cs_SaltCloudsLaw_92 (ok_X7_first l ω N hk2 h139) hk2 (by omega) rfl rfl (Nat.le_of_ble_eq_true rfl) dL_law_790 (fun r140 h141 => ?_)
                                          refine J_icmp_eq (pc := 793) K 1411 dL_law_793 (by decide) ?_ ?_
                                          · refine J_iinc (pc := 1411) K (6) dL_law_1411 3 rfl (by decide) (by decide) [(3, .int (u3 + 6)), (0, .ref b), (1, .ref (ω.1 + k1)), (2, .ref (ω.1 + k2))] rfl ?_
                                            refine J_goto (pc := 1414) K 18 dL_law_1414 (by decide) ?_
                                            refine J_lv [1, 2, 3, 0] [(0, .ref b), (1, .ref (ω.1 + k1)), (2, .ref (ω.1 + k2)), (3, .int (u3 + 6))] rfl ?_
                                            exact ih (u3 + 6) h141
                                          · refine J_iconst (pc := 796) K (0) dL_law_796 (by decide) ?_
                                            exact J_none rfl
                                        · refine J_ite (fun e33_18 => ?_) (fun e33_18 => ?_)
                                          · refine J_tableIn (pc := 33) K (v := 18) 798 e33_18 dL_law_33 (by decide) (by decide) rfl (by decide) ?_
                                            refine J_aload_n (pc := 798) K dL_law_798 1 rfl 1 rfl ?_
                                            refine J_aload_n (pc := 799) K dL_law_799 0 rfl 0 rfl ?_
                                            refine J_iload_n (pc := 800) K dL_law_800 3 rfl 3 rfl ?_
                                            refine J_iconst (pc := 801) K (1) dL_law_801 (by decide) ?_
                                            refine J_iadd (pc := 802) K dL_law_802 ?_
                                            refine J_topi (fun v142 => ?_)
                                            refine J_scr (pc := 803) K hX dL_law_803 ?_
                                            refine J_aload_n (pc := 804) K dL_law_804 0 rfl 0 rfl ?_
                                            refine J_iload_n (pc := 805) K dL_law_805 3 rfl 3 rfl ?_
                                            refine J_iconst (pc := 806) K (2) dL_law_806 (by decide) ?_
                                            refine J_iadd (pc := 807) K dL_law_807 ?_
                                            refine J_topi (fun v143 => ?_)
                                            refine J_scr (pc := 808) K hX dL_law_808 ?_
                                            refine J_callVI (As := [.int (xs (ix v142)), .int (xs (ix v143))]) (rest := []) (pc := 809) K cs_SaltCloudsLaw_93 (ok_X6_comes l ω N hk1 (xs (ix v142)) (xs (ix v143)) h) hk1 (by omega) rfl rfl (Nat.le_of_ble_eq_true rfl) dL_law_809 (fun r144 h145 => ?_)
                                            refine J_aload_n (pc := 812) K dL_law_812 2 rfl 2 rfl ?_
                                            refine J_aload_n (pc := 813) K dL_law_813 0 rfl 0 rfl ?_
                                            refine J_iload_n (pc := 814) K dL_law_814 3 rfl 3 rfl ?_
                                            refine J_iconst (pc := 815) K (1) dL_law_815 (by decide) ?_
                                            refine J_iadd (pc := 816) K dL_law_816 ?_
                                            refine J_topi (fun v146 => ?_)
                                            refine J_scr (pc := 817) K hX dL_law_817 ?_
                                            refine J_aload_n (pc := 818) K dL_law_818 0 rfl 0 rfl ?_
                                            refine J_iload_n (pc := 819) K dL_law_819 3 rfl 3 rfl ?_
                                            refine J_iconst (pc := 820) K (2) dL_law_820 (by decide) ?_
                                            refine J_iadd (pc := 821) K dL_law_821 ?_
                                            refine J_topi (fun v147 => ?_)
                                            refine J_scr (pc := 822) K hX dL_law_822 ?_
                                            refine J_callVI (As := [.int (xs (ix v146)), .int (xs (ix v147))]) (rest := [.int r144]) (pc := 823) K cs_SaltCloudsLaw_96 (ok_X7_comes l ω N hk2 (xs (ix v146)) (xs (ix v147)) h145) hk2 (by omega) rfl rfl (Nat.le_of_ble_eq_true rfl) dL_law_823 (fun r148 h149 => ?_)
                                            refine J_icmp_eq (pc := 826) K 1411 dL_law_826 (by decide) ?_ ?_
                                            · refine J_iinc (pc := 1411) K (6) dL_law_1411 3 rfl (by decide) (by decide) [(3, .int (u3 + 6)), (0, .ref b), (1, .ref (ω.1 + k1)), (2, .ref (ω.1 + k2))] rfl ?_
                                              refine J_goto (pc := 1414) K 18 dL_law_1414 (by decide) ?_
                                              refine J_lv [1, 2, 3, 0] [(0, .ref b), (1, .ref (ω.1 + k1)), (2, .ref (ω.1 + k2)), (3, .int (u3 + 6))] rfl ?_
                                              exact ih (u3 + 6) h149
                                            · refine J_iconst (pc := 829) K (0) dL_law_829 (by decide) ?_
                                              exact J_none rfl
                                          · refine J_ite (fun e33_19 => ?_) (fun e33_19 => ?_)
                                            · refine J_tableIn (pc := 33) K (v := 19) 831 e33_19 dL_law_33 (by decide) (by decide) rfl (by decide) ?_
                                              refine J_aload_n (pc := 831) K dL_law_831 1 rfl 1 rfl ?_
                                              refine J_aload_n (pc := 832) K dL_law_832 0 rfl 0 rfl ?_
                                              refine J_iload_n (pc := 833) K dL_law_833 3 rfl 3 rfl ?_
                                              refine J_iconst (pc := 834) K (1) dL_law_834 (by decide) ?_
                                              refine J_iadd (pc := 835) K dL_law_835 ?_
                                              refine J_topi (fun v150 => ?_)
                                              refine J_scr (pc := 836) K hX dL_law_836 ?_
                                              refine J_callVI (As := [.int (xs (ix v150))]) (rest := []) (pc := 837) K cs_SaltCloudsLaw_97 (ok_X6_stays l ω N hk1 (xs (ix v150)) h) hk1 (by omega) rfl rfl (Nat.le_of_ble_eq_true rfl) dL_law_837 (fun r151 h152 => ?_)
                                              refine J_aload_n (pc := 840) K dL_law_840 2 rfl 2 rfl ?_
                                              refine J_aload_n (pc := 841) K dL_law_841 0 rfl 0 rfl ?_
                                              refine J_iload_n (pc := 842) K dL_law_842 3 rfl 3 rfl ?_
                                              refine J_iconst (pc := 843) K (1) dL_law_843 (by decide) ?_
                                              refine J_iadd (pc := 844) K dL_law_844 ?_
                                              refine J_topi (fun v153 => ?_)
                                              refine J_scr (pc := 845) K hX dL_law_845 ?_
                                              refine J_callVI (As := [.int (xs (ix v153))]) (rest := [.int r151]) (pc := 846) K cs_SaltCloudsLaw_100 (ok_X7_stays l ω N hk2 (xs (ix v153)) h152) hk2 (by omega) rfl rfl (Nat.le_of_ble_eq_true rfl) dL_law_846 (fun r154 h155 => ?_)
                                              refine J_icmp_eq (pc := 849) K 1411 dL_law_849 (by decide) ?_ ?_
                                              · refine J_iinc (pc := 1411) K (6) dL_law_1411 3 rfl (by decide) (by decide) [(3, .int (u3 + 6)), (0, .ref b), (1, .ref (ω.1 + k1)), (2, .ref (ω.1 + k2))] rfl ?_
                                                refine J_goto (pc := 1414) K 18 dL_law_1414 (by decide) ?_
                                                refine J_lv [1, 2, 3, 0] [(0, .ref b), (1, .ref (ω.1 + k1)), (2, .ref (ω.1 + k2)), (3, .int (u3 + 6))] rfl ?_
                                                exact ih (u3 + 6) h155
                                              · refine J_iconst (pc := 852) K (0) dL_law_852 (by decide) ?_
                                                exact J_none rfl
                                            · refine J_ite (fun e33_20 => ?_) (fun e33_20 => ?_)
                                              · refine J_tableIn (pc := 33) K (v := 20) 854 e33_20 dL_law_33 (by decide) (by decide) rfl (by decide) ?_
                                                refine J_aload_n (pc := 854) K dL_law_854 1 rfl 1 rfl ?_
                                                refine J_aload_n (pc := 855) K dL_law_855 0 rfl 0 rfl ?_
                                                refine J_iload_n (pc := 856) K dL_law_856 3 rfl 3 rfl ?_
                                                refine J_iconst (pc := 857) K (1) dL_law_857 (by decide) ?_
                                                refine J_iadd (pc := 858) K dL_law_858 ?_
                                                refine J_topi (fun v156 => ?_)
                                                refine J_scr (pc := 859) K hX dL_law_859 ?_
                                                refine J_aload_n (pc := 860) K dL_law_860 0 rfl 0 rfl ?_
                                                refine J_iload_n (pc := 861) K dL_law_861 3 rfl 3 rfl ?_
                                                refine J_iconst (pc := 862) K (2) dL_law_862 (by decide) ?_
                                                refine J_iadd (pc := 863) K dL_law_863 ?_
                                                refine J_topi (fun v157 => ?_)
                                                refine J_scr (pc := 864) K hX dL_law_864 ?_
                                                refine J_callVI (As := [.int (xs (ix v156)), .int (xs (ix v157))]) (rest := []) (pc := 865) K cs_SaltCloudsLaw_101 (ok_X6_meets l ω N hk1 (xs (ix v156)) (xs (ix v157)) h) hk1 (by omega) rfl rfl (Nat.le_of_ble_eq_true rfl) dL_law_865 (fun r158 h159 => ?_)
                                                refine J_aload_n (pc := 868) K dL_law_868 2 rfl 2 rfl ?_
                                                refine J_aload_n (pc := 869) K dL_law_869 0 rfl 0 rfl ?_
                                                refine J_iload_n (pc := 870) K dL_law_870 3 rfl 3 rfl ?_
                                                refine J_iconst (pc := 871) K (1) dL_law_871 (by decide) ?_
                                                refine J_iadd (pc := 872) K dL_law_872 ?_
                                                refine J_topi (fun v160 => ?_)
                                                refine J_scr (pc := 873) K hX dL_law_873 ?_
                                                refine J_aload_n (pc := 874) K dL_law_874 0 rfl 0 rfl ?_
                                                refine J_iload_n (pc := 875) K dL_law_875 3 rfl 3 rfl ?_
                                                refine J_iconst (pc := 876) K (2) dL_law_876 (by decide) ?_
                                                refine J_iadd (pc := 877) K dL_law_877 ?_
                                                refine J_topi (fun v161 => ?_)
                                                refine J_scr (pc := 878) K hX dL_law_878 ?_
                                                refine J_callVI (As := [.int (xs (ix v160)), .int (xs (ix v161))]) (rest := [.int r158]) (pc := 879) K cs_SaltCloudsLaw_104 (ok_X7_meets l ω N hk2 (xs (ix v160)) (xs (ix v161)) h159) hk2 (by omega) rfl rfl (Nat.le_of_ble_eq_true rfl) dL_law_879 (fun r162 h163 => ?_)
                                                refine J_icmp_eq (pc := 882) K 1411 dL_law_882 (by decide) ?_ ?_
                                                · refine J_iinc (pc := 1411) K (6) dL_law_1411 3 rfl (by decide) (by decide) [(3, .int (u3 + 6)), (0, .ref b), (1, .ref (ω.1 + k1)), (2, .ref (ω.1 + k2))] rfl ?_
                                                  refine J_goto (pc := 1414) K 18 dL_law_1414 (by decide) ?_
                                                  refine J_lv [1, 2, 3, 0] [(0, .ref b), (1, .ref (ω.1 + k1)), (2, .ref (ω.1 + k2)), (3, .int (u3 + 6))] rfl ?_
                                                  exact ih (u3 + 6) h163
                                                · refine J_iconst (pc := 885) K (0) dL_law_885 (by decide) ?_
                                                  exact J_none rfl
                                              · refine J_ite (fun e33_21 => ?_) (fun e33_21 => ?_)
                                                · refine J_tableIn (pc := 33) K (v := 21) 887 e33_21 dL_law_33 (by decide) (by decide) rfl (by decide) ?_
                                                  refine J_aload_n (pc := 887) K dL_law_887 1 rfl 1 rfl ?_
                                                  refine J_aload_n (pc := 888) K dL_law_888 0 rfl 0 rfl ?_
                                                  refine J_iload_n (pc := 889) K dL_law_889 3 rfl 3 rfl ?_
                                                  refine J_iconst (pc := 890) K (1) dL_law_890 (by decide) ?_
                                                  refine J_iadd (pc := 891) K dL_law_891 ?_
                                                  refine J_topi (fun v164 => ?_)
                                                  refine J_scr (pc := 892) K hX dL_law_892 ?_
                                                  refine J_aload_n (pc := 893) K dL_law_893 0 rfl 0 rfl ?_
                                                  refine J_iload_n (pc := 894) K dL_law_894 3 rfl 3 rfl ?_
                                                  refine J_iconst (pc := 895) K (2) dL_law_895 (by decide) ?_
                                                  refine J_iadd (pc := 896) K dL_law_896 ?_
                                                  refine J_topi (fun v165 => ?_)
                                                  refine J_scr (pc := 897) K hX dL_law_897 ?_
                                                  refine J_callVI (As := [.int (xs (ix v164)), .int (xs (ix v165))]) (rest := []) (pc := 898) K cs_SaltCloudsLaw_105 (ok_X6_storm l ω N hk1 (xs (ix v164)) (xs (ix v165)) h) hk1 (by omega) rfl rfl (Nat.le_of_ble_eq_true rfl) dL_law_898 (fun r166 h167 => ?_)
                                                  refine J_aload_n (pc := 901) K dL_law_901 2 rfl 2 rfl ?_
                                                  refine J_aload_n (pc := 902) K dL_law_902 0 rfl 0 rfl ?_
                                                  refine J_iload_n (pc := 903) K dL_law_903 3 rfl 3 rfl ?_
                                                  refine J_iconst (pc := 904) K (1) dL_law_904 (by decide) ?_
                                                  refine J_iadd (pc := 905) K dL_law_905 ?_
                                                  refine J_topi (fun v168 => ?_)
                                                  refine J_scr (pc := 906) K hX dL_law_906 ?_
                                                  refine J_aload_n (pc := 907) K dL_law_907 0 rfl 0 rfl ?_
                                                  refine J_iload_n (pc := 908) K dL_law_908 3 rfl 3 rfl ?_
                                                  refine J_iconst (pc := 909) K (2) dL_law_909 (by decide) ?_
                                                  refine J_iadd (pc := 910) K dL_law_910 ?_
                                                  refine J_topi (fun v169 => ?_)
                                                  refine J_scr (pc := 911) K hX dL_law_911 ?_
                                                  refine J_callVI (As := [.int (xs (ix v168)), .int (xs (ix v169))]) (rest := [.int r166]) (pc := 912) K cs_SaltCloudsLaw_108 (ok_X7_storm l ω N hk2 (xs (ix v168)) (xs (ix v169)) h167) hk2 (by omega) rfl rfl (Nat.le_of_ble_eq_true rfl) dL_law_912 (fun r170 h171 => ?_)
                                                  refine J_icmp_eq (pc := 915) K 1411 dL_law_915 (by decide) ?_ ?_
                                                  · refine J_iinc (pc := 1411) K (6) dL_law_1411 3 rfl (by decide) (by decide) [(3, .int (u3 + 6)), (0, .ref b), (1, .ref (ω.1 + k1)), (2, .ref (ω.1 + k2))] rfl ?_
                                                    refine J_goto (pc := 1414) K 18 dL_law_1414 (by decide) ?_
                                                    refine J_lv [1, 2, 3, 0] [(0, .ref b), (1, .ref (ω.1 + k1)), (2, .ref (ω.1 + k2)), (3, .int (u3 + 6))] rfl ?_
                                                    exact ih (u3 + 6) h171
                                                  · refine J_iconst (pc := 918) K (0) dL_law_918 (by decide) ?_
                                                    exact J_none rfl
                                                · refine J_ite (fun e33_22 => ?_) (fun e33_22 => ?_)
                                                  · refine J_tableIn (pc := 33) K (v := 22) 920 e33_22 dL_law_33 (by decide) (by decide) rfl (by decide) ?_
                                                    refine J_aload_n (pc := 920) K dL_law_920 1 rfl 1 rfl ?_
                                                    refine J_callVI (As := []) (rest := []) (pc := 921) K cs_SaltCloudsLaw_109 (ok_X6_paid l ω N hk1 h) hk1 (by omega) rfl rfl (Nat.le_of_ble_eq_true rfl) dL_law_921 (fun r172 h173 => ?_)
                                                    refine J_aload_n (pc := 924) K dL_law_924 2 rfl 2 rfl ?_
                                                    refine J_callVI (As := []) (rest := [.int r172]) (pc := 925) K cs_SaltCloudsLaw_112 (ok_X7_paid l ω N hk2 h173) hk2 (by omega) rfl rfl (Nat.le_of_ble_eq_true rfl) dL_law_925 (fun r174 h175 => ?_)
                                                    refine J_icmp_eq (pc := 928) K 1411 dL_law_928 (by decide) ?_ ?_
                                                    · refine J_iinc (pc := 1411) K (6) dL_law_1411 3 rfl (by decide) (by decide) [(3, .int (u3 + 6)), (0, .ref b), (1, .ref (ω.1 + k1)), (2, .ref (ω.1 + k2))] rfl ?_
                                                      refine J_goto (pc := 1414) K 18 dL_law_1414 (by decide) ?_
                                                      refine J_lv [1, 2, 3, 0] [(0, .ref b), (1, .ref (ω.1 + k1)), (2, .ref (ω.1 + k2)), (3, .int (u3 + 6))] rfl ?_
                                                      exact ih (u3 + 6) h175
                                                    · refine J_iconst (pc := 931) K (0) dL_law_931 (by decide) ?_
                                                      exact J_none rfl
                                                  · refine J_ite (fun e33_23 => ?_) (fun e33_23 => ?_)
                                                    · refine J_tableIn (pc := 33) K (v := 23) 933 e33_23 dL_law_33 (by decide) (by decide) rfl (by decide) ?_
                                                      refine J_aload_n (pc := 933) K dL_law_933 1 rfl 1 rfl ?_
                                                      refine J_aload_n (pc := 934) K dL_law_934 0 rfl 0 rfl ?_
                                                      refine J_iload_n (pc := 935) K dL_law_935 3 rfl 3 rfl ?_
                                                      refine J_iconst (pc := 936) K (1) dL_law_936 (by decide) ?_
                                                      refine J_iadd (pc := 937) K dL_law_937 ?_
                                                      refine J_topi (fun v176 => ?_)
                                                      refine J_scr (pc := 938) K hX dL_law_938 ?_
                                                      refine J_aload_n (pc := 939) K dL_law_939 0 rfl 0 rfl ?_
                                                      refine J_iload_n (pc := 940) K dL_law_940 3 rfl 3 rfl ?_
                                                      refine J_iconst (pc := 941) K (2) dL_law_941 (by decide) ?_
                                                      refine J_iadd (pc := 942) K dL_law_942 ?_
                                                      refine J_topi (fun v177 => ?_)
                                                      refine J_scr (pc := 943) K hX dL_law_943 ?_
                                                      refine J_aload_n (pc := 944) K dL_law_944 0 rfl 0 rfl ?_
                                                      refine J_iload_n (pc := 945) K dL_law_945 3 rfl 3 rfl ?_
                                                      refine J_iconst (pc := 946) K (3) dL_law_946 (by decide) ?_
                                                      refine J_iadd (pc := 947) K dL_law_947 ?_
                                                      refine J_topi (fun v178 => ?_)
                                                      refine J_scr (pc := 948) K hX dL_law_948 ?_
                                                      refine J_callVI (As := [.int (xs (ix v176)), .int (xs (ix v177)), .int (xs (ix v178))]) (rest := []) (pc := 949) K cs_SaltCloudsLaw_113 (ok_X6_sun l ω N hk1 (xs (ix v176)) (xs (ix v177)) (xs (ix v178)) h) hk1 (by omega) rfl rfl (Nat.le_of_ble_eq_true rfl) dL_law_949 (fun r179 h180 => ?_)
                                                      refine J_aload_n (pc := 952) K dL_law_952 2 rfl 2 rfl ?_
                                                      refine J_aload_n (pc := 953) K dL_law_953 0 rfl 0 rfl ?_
                                                      refine J_iload_n (pc := 954) K dL_law_954 3 rfl 3 rfl ?_
                                                      refine J_iconst (pc := 955) K (1) dL_law_955 (by decide) ?_
                                                      refine J_iadd (pc := 956) K dL_law_956 ?_
                                                      refine J_topi (fun v181 => ?_)
                                                      refine J_scr (pc := 957) K hX dL_law_957 ?_
                                                      refine J_aload_n (pc := 958) K dL_law_958 0 rfl 0 rfl ?_
                                                      refine J_iload_n (pc := 959) K dL_law_959 3 rfl 3 rfl ?_
                                                      refine J_iconst (pc := 960) K (2) dL_law_960 (by decide) ?_
                                                      refine J_iadd (pc := 961) K dL_law_961 ?_
                                                      refine J_topi (fun v182 => ?_)
                                                      refine J_scr (pc := 962) K hX dL_law_962 ?_
                                                      refine J_aload_n (pc := 963) K dL_law_963 0 rfl 0 rfl ?_
                                                      refine J_iload_n (pc := 964) K dL_law_964 3 rfl 3 rfl ?_
                                                      refine J_iconst (pc := 965) K (3) dL_law_965 (by decide) ?_
                                                      refine J_iadd (pc := 966) K dL_law_966 ?_
                                                      refine J_topi (fun v183 => ?_)
                                                      refine J_scr (pc := 967) K hX dL_law_967 ?_
                                                      refine J_callVI (As := [.int (xs (ix v181)), .int (xs (ix v182)), .int (xs (ix v183))]) (rest := [.int r179]) (pc := 968) K cs_SaltCloudsLaw_116 (ok_X7_sun l ω N hk2 (xs (ix v181)) (xs (ix v182)) (xs (ix v183)) h180) hk2 (by omega) rfl rfl (Nat.le_of_ble_eq_true rfl) dL_law_968 (fun r184 h185 => ?_)
                                                      refine J_icmp_eq (pc := 971) K 1411 dL_law_971 (by decide) ?_ ?_
                                                      · refine J_iinc (pc := 1411) K (6) dL_law_1411 3 rfl (by decide) (by decide) [(3, .int (u3 + 6)), (0, .ref b), (1, .ref (ω.1 + k1)), (2, .ref (ω.1 + k2))] rfl ?_
                                                        refine J_goto (pc := 1414) K 18 dL_law_1414 (by decide) ?_
                                                        refine J_lv [1, 2, 3, 0] [(0, .ref b), (1, .ref (ω.1 + k1)), (2, .ref (ω.1 + k2)), (3, .int (u3 + 6))] rfl ?_
                                                        exact ih (u3 + 6) h185
                                                      · refine J_iconst (pc := 974) K (0) dL_law_974 (by decide) ?_
                                                        exact J_none rfl
                                                    · refine J_ite (fun e33_24 => ?_) (fun e33_24 => ?_)
                                                      · refine J_tableIn (pc := 33) K (v := 24) 976 e33_24 dL_law_33 (by decide) (by decide) rfl (by decide) ?_
                                                        refine J_aload_n (pc := 976) K dL_law_976 1 rfl 1 rfl ?_
                                                        refine J_aload_n (pc := 977) K dL_law_977 0 rfl 0 rfl ?_
                                                        refine J_iload_n (pc := 978) K dL_law_978 3 rfl 3 rfl ?_
                                                        refine J_iconst (pc := 979) K (1) dL_law_979 (by decide) ?_
                                                        refine J_iadd (pc := 980) K dL_law_980 ?_
                                                        refine J_topi (fun v186 => ?_)
                                                        refine J_scr (pc := 981) K hX dL_law_981 ?_
                                                        refine J_aload_n (pc := 982) K dL_law_982 0 rfl 0 rfl ?_
                                                        refine J_iload_n (pc := 983) K dL_law_983 3 rfl 3 rfl ?_
                                                        refine J_iconst (pc := 984) K (2) dL_law_984 (by decide) ?_
                                                        refine J_iadd (pc := 985) K dL_law_985 ?_
                                                        refine J_topi (fun v187 => ?_)
                                                        refine J_scr (pc := 986) K hX dL_law_986 ?_
                                                        refine J_aload_n (pc := 987) K dL_law_987 0 rfl 0 rfl ?_
                                                        refine J_iload_n (pc := 988) K dL_law_988 3 rfl 3 rfl ?_
                                                        refine J_iconst (pc := 989) K (3) dL_law_989 (by decide) ?_
                                                        refine J_iadd (pc := 990) K dL_law_990 ?_
                                                        refine J_topi (fun v188 => ?_)
                                                        refine J_scr (pc := 991) K hX dL_law_991 ?_
                                                        refine J_callVI (As := [.int (xs (ix v186)), .int (xs (ix v187)), .int (xs (ix v188))]) (rest := []) (pc := 992) K cs_SaltCloudsLaw_117 (ok_X6_winds l ω N hk1 (xs (ix v186)) (xs (ix v187)) (xs (ix v188)) h) hk1 (by omega) rfl rfl (Nat.le_of_ble_eq_true rfl) dL_law_992 (fun r189 h190 => ?_)
                                                        refine J_aload_n (pc := 995) K dL_law_995 2 rfl 2 rfl ?_
                                                        refine J_aload_n (pc := 996) K dL_law_996 0 rfl 0 rfl ?_
                                                        refine J_iload_n (pc := 997) K dL_law_997 3 rfl 3 rfl ?_
                                                        refine J_iconst (pc := 998) K (1) dL_law_998 (by decide) ?_
                                                        refine J_iadd (pc := 999) K dL_law_999 ?_
                                                        refine J_topi (fun v191 => ?_)
                                                        refine J_scr (pc := 1000) K hX dL_law_1000 ?_
                                                        refine J_aload_n (pc := 1001) K dL_law_1001 0 rfl 0 rfl ?_
                                                        refine J_iload_n (pc := 1002) K dL_law_1002 3 rfl 3 rfl ?_
                                                        refine J_iconst (pc := 1003) K (2) dL_law_1003 (by decide) ?_
                                                        refine J_iadd (pc := 1004) K dL_law_1004 ?_
                                                        refine J_topi (fun v192 => ?_)
                                                        refine J_scr (pc := 1005) K hX dL_law_1005 ?_
                                                        refine J_aload_n (pc := 1006) K dL_law_1006 0 rfl 0 rfl ?_
                                                        refine J_iload_n (pc := 1007) K dL_law_1007 3 rfl 3 rfl ?_
                                                        refine J_iconst (pc := 1008) K (3) dL_law_1008 (by decide) ?_
                                                        refine J_iadd (pc := 1009) K dL_law_1009 ?_
                                                        refine J_topi (fun v193 => ?_)
                                                        refine J_scr (pc := 1010) K hX dL_law_1010 ?_
                                                        refine J_callVI (As := [.int (xs (ix v191)), .int (xs (ix v192)), .int (xs (ix v193))]) (rest := [.int r189]) (pc := 1011) K cs_SaltCloudsLaw_120 (ok_X7_winds l ω N hk2 (xs (ix v191)) (xs (ix v192)) (xs (ix v193)) h190) hk2 (by omega) rfl rfl (Nat.le_of_ble_eq_true rfl) dL_law_1011 (fun r194 h195 => ?_)
                                                        refine J_icmp_eq (pc := 1014) K 1411 dL_law_1014 (by decide) ?_ ?_
                                                        · refine J_iinc (pc := 1411) K (6) dL_law_1411 3 rfl (by decide) (by decide) [(3, .int (u3 + 6)), (0, .ref b), (1, .ref (ω.1 + k1)), (2, .ref (ω.1 + k2))] rfl ?_
                                                          refine J_goto (pc := 1414) K 18 dL_law_1414 (by decide) ?_
                                                          refine J_lv [1, 2, 3, 0] [(0, .ref b), (1, .ref (ω.1 + k1)), (2, .ref (ω.1 + k2)), (3, .int (u3 + 6))] rfl ?_
                                                          exact ih (u3 + 6) h195
                                                        · refine J_iconst (pc := 1017) K (0) dL_law_1017 (by decide) ?_
                                                          exact J_none rfl
                                                      · refine J_ite (fun e33_25 => ?_) (fun e33_25 => ?_)
                                                        · refine J_tableIn (pc := 33) K (v := 25) 1019 e33_25 dL_law_33 (by decide) (by decide) rfl (by decide) ?_
                                                          refine J_aload_n (pc := 1019) K dL_law_1019 1 rfl 1 rfl ?_
                                                          refine J_aload_n (pc := 1020) K dL_law_1020 0 rfl 0 rfl ?_
                                                          refine J_iload_n (pc := 1021) K dL_law_1021 3 rfl 3 rfl ?_
                                                          refine J_iconst (pc := 1022) K (1) dL_law_1022 (by decide) ?_
                                                          refine J_iadd (pc := 1023) K dL_law_1023 ?_
                                                          refine J_topi (fun v196 => ?_)
                                                          refine J_scr (pc := 1024) K hX dL_law_1024 ?_
                                                          refine J_callVI (As := [.int (xs (ix v196))]) (rest := []) (pc := 1025) K cs_SaltCloudsLaw_121 (ok_X6_seed l ω hk1 (xs (ix v196)) h) hk1 (by omega) rfl rfl (Nat.le_of_ble_eq_true rfl) dL_law_1025 (fun r197 h198 => ?_)
                                                          refine J_aload_n (pc := 1028) K dL_law_1028 2 rfl 2 rfl ?_
                                                          refine J_aload_n (pc := 1029) K dL_law_1029 0 rfl 0 rfl ?_
                                                          refine J_iload_n (pc := 1030) K dL_law_1030 3 rfl 3 rfl ?_
                                                          refine J_iconst (pc := 1031) K (1) dL_law_1031 (by decide) ?_
                                                          refine J_iadd (pc := 1032) K dL_law_1032 ?_
                                                          refine J_topi (fun v199 => ?_)
                                                          refine J_scr (pc := 1033) K hX dL_law_1033 ?_
                                                          refine J_callVI (As := [.int (xs (ix v199))]) (rest := [.int r197]) (pc := 1034) K cs_SaltCloudsLaw_124 (ok_X7_seed l ω hk2 (xs (ix v199)) h198) hk2 (by omega) rfl rfl (Nat.le_of_ble_eq_true rfl) dL_law_1034 (fun r200 h201 => ?_)
                                                          refine J_icmp_eq (pc := 1037) K 1411 dL_law_1037 (by decide) ?_ ?_
                                                          · refine J_iinc (pc := 1411) K (6) dL_law_1411 3 rfl (by decide) (by decide) [(3, .int (u3 + 6)), (0, .ref b), (1, .ref (ω.1 + k1)), (2, .ref (ω.1 + k2))] rfl ?_
                                                            refine J_goto (pc := 1414) K 18 dL_law_1414 (by decide) ?_
                                                            refine J_lv [1, 2, 3, 0] [(0, .ref b), (1, .ref (ω.1 + k1)), (2, .ref (ω.1 + k2)), (3, .int (u3 + 6))] rfl ?_
                                                            exact ih (u3 + 6) h201
                                                          · refine J_iconst (pc := 1040) K (0) dL_law_1040 (by decide) ?_
                                                            exact J_none rfl
                                                        · refine J_ite (fun e33_26 => ?_) (fun e33_26 => ?_)
                                                          · refine J_tableIn (pc := 33) K (v := 26) 1042 e33_26 dL_law_33 (by decide) (by decide) rfl (by decide) ?_
                                                            refine J_aload_n (pc := 1042) K dL_law_1042 1 rfl 1 rfl ?_
                                                            refine J_aload_n (pc := 1043) K dL_law_1043 0 rfl 0 rfl ?_
                                                            refine J_iload_n (pc := 1044) K dL_law_1044 3 rfl 3 rfl ?_
                                                            refine J_iconst (pc := 1045) K (1) dL_law_1045 (by decide) ?_
                                                            refine J_iadd (pc := 1046) K dL_law_1046 ?_
                                                            refine J_topi (fun v202 => ?_)
                                                            refine J_scr (pc := 1047) K hX dL_law_1047 ?_
                                                            refine J_aload_n (pc := 1048) K dL_law_1048 0 rfl 0 rfl ?_
                                                            refine J_iload_n (pc := 1049) K dL_law_1049 3 rfl 3 rfl ?_
                                                            refine J_iconst (pc := 1050) K (2) dL_law_1050 (by decide) ?_
                                                            refine J_iadd (pc := 1051) K dL_law_1051 ?_
                                                            refine J_topi (fun v203 => ?_)
                                                            refine J_scr (pc := 1052) K hX dL_law_1052 ?_
                                                            refine J_aload_n (pc := 1053) K dL_law_1053 0 rfl 0 rfl ?_
                                                            refine J_iload_n (pc := 1054) K dL_law_1054 3 rfl 3 rfl ?_
                                                            refine J_iconst (pc := 1055) K (3) dL_law_1055 (by decide) ?_
                                                            refine J_iadd (pc := 1056) K dL_law_1056 ?_
                                                            refine J_topi (fun v204 => ?_)
                                                            refine J_scr (pc := 1057) K hX dL_law_1057 ?_
                                                            refine J_callVI (As := [.int (xs (ix v202)), .int (xs (ix v203)), .int (xs (ix v204))]) (rest := []) (pc := 1058) K cs_SaltCloudsLaw_125 (ok_X6_voice l ω N hk1 (xs (ix v202)) (xs (ix v203)) (xs (ix v204)) h) hk1 (by omega) rfl rfl (Nat.le_of_ble_eq_true rfl) dL_law_1058 (fun r205 h206 => ?_)
                                                            refine J_aload_n (pc := 1061) K dL_law_1061 2 rfl 2 rfl ?_
                                                            refine J_aload_n (pc := 1062) K dL_law_1062 0 rfl 0 rfl ?_
                                                            refine J_iload_n (pc := 1063) K dL_law_1063 3 rfl 3 rfl ?_
                                                            refine J_iconst (pc := 1064) K (1) dL_law_1064 (by decide) ?_
                                                            refine J_iadd (pc := 1065) K dL_law_1065 ?_
                                                            refine J_topi (fun v207 => ?_)
                                                            refine J_scr (pc := 1066) K hX dL_law_1066 ?_
                                                            refine J_aload_n (pc := 1067) K dL_law_1067 0 rfl 0 rfl ?_
                                                            refine J_iload_n (pc := 1068) K dL_law_1068 3 rfl 3 rfl ?_
                                                            refine J_iconst (pc := 1069) K (2) dL_law_1069 (by decide) ?_
                                                            refine J_iadd (pc := 1070) K dL_law_1070 ?_
                                                            refine J_topi (fun v208 => ?_)
                                                            refine J_scr (pc := 1071) K hX dL_law_1071 ?_
                                                            refine J_aload_n (pc := 1072) K dL_law_1072 0 rfl 0 rfl ?_
                                                            refine J_iload_n (pc := 1073) K dL_law_1073 3 rfl 3 rfl ?_
                                                            refine J_iconst (pc := 1074) K (3) dL_law_1074 (by decide) ?_
                                                            refine J_iadd (pc := 1075) K dL_law_1075 ?_
                                                            refine J_topi (fun v209 => ?_)
                                                            refine J_scr (pc := 1076) K hX dL_law_1076 ?_
                                                            refine J_callVI (As := [.int (xs (ix v207)), .int (xs (ix v208)), .int (xs (ix v209))]) (rest := [.int r205]) (pc := 1077) K cs_SaltCloudsLaw_128 (ok_X7_voice l ω N hk2 (xs (ix v207)) (xs (ix v208)) (xs (ix v209)) h206) hk2 (by omega) rfl rfl (Nat.le_of_ble_eq_true rfl) dL_law_1077 (fun r210 h211 => ?_)
                                                            refine J_icmp_eq (pc := 1080) K 1411 dL_law_1080 (by decide) ?_ ?_
                                                            · refine J_iinc (pc := 1411) K (6) dL_law_1411 3 rfl (by decide) (by decide) [(3, .int (u3 + 6)), (0, .ref b), (1, .ref (ω.1 + k1)), (2, .ref (ω.1 + k2))] rfl ?_
                                                              refine J_goto (pc := 1414) K 18 dL_law_1414 (by decide) ?_
                                                              refine J_lv [1, 2, 3, 0] [(0, .ref b), (1, .ref (ω.1 + k1)), (2, .ref (ω.1 + k2)), (3, .int (u3 + 6))] rfl ?_
                                                              exact ih (u3 + 6) h211
                                                            · refine J_iconst (pc := 1083) K (0) dL_law_1083 (by decide) ?_
                                                              exact J_none rfl
                                                          · refine J_ite (fun e33_27 => ?_) (fun e33_27 => ?_)
                                                            · refine J_tableIn (pc := 33) K (v := 27) 1085 e33_27 dL_law_33 (by decide) (by decide) rfl (by decide) ?_
                                                              refine J_aload_n (pc := 1085) K dL_law_1085 1 rfl 1 rfl ?_
                                                              refine J_aload_n (pc := 1086) K dL_law_1086 0 rfl 0 rfl ?_
                                                              refine J_iload_n (pc := 1087) K dL_law_1087 3 rfl 3 rfl ?_
                                                              refine J_iconst (pc := 1088) K (1) dL_law_1088 (by decide) ?_
                                                              refine J_iadd (pc := 1089) K dL_law_1089 ?_
                                                              refine J_topi (fun v212 => ?_)
                                                              refine J_scr (pc := 1090) K hX dL_law_1090 ?_
                                                              refine J_callVI (As := [.int (xs (ix v212))]) (rest := []) (pc := 1091) K cs_SaltCloudsLaw_129 (ok_X6_trace l ω hk1 (xs (ix v212)) h) hk1 (by omega) rfl rfl (Nat.le_of_ble_eq_true rfl) dL_law_1091 (fun r213 h214 => ?_)
                                                              refine J_aload_n (pc := 1094) K dL_law_1094 2 rfl 2 rfl ?_
                                                              refine J_aload_n (pc := 1095) K dL_law_1095 0 rfl 0 rfl ?_
                                                              refine J_iload_n (pc := 1096) K dL_law_1096 3 rfl 3 rfl ?_
                                                              refine J_iconst (pc := 1097) K (1) dL_law_1097 (by decide) ?_
                                                              refine J_iadd (pc := 1098) K dL_law_1098 ?_
                                                              refine J_topi (fun v215 => ?_)
                                                              refine J_scr (pc := 1099) K hX dL_law_1099 ?_
                                                              refine J_callVI (As := [.int (xs (ix v215))]) (rest := [.int r213]) (pc := 1100) K cs_SaltCloudsLaw_132 (ok_X7_trace l ω hk2 (xs (ix v215)) h214) hk2 (by omega) rfl rfl (Nat.le_of_ble_eq_true rfl) dL_law_1100 (fun r216 h217 => ?_)
                                                              refine J_icmp_eq (pc := 1103) K 1411 dL_law_1103 (by decide) ?_ ?_
                                                              · refine J_iinc (pc := 1411) K (6) dL_law_1411 3 rfl (by decide) (by decide) [(3, .int (u3 + 6)), (0, .ref b), (1, .ref (ω.1 + k1)), (2, .ref (ω.1 + k2))] rfl ?_
                                                                refine J_goto (pc := 1414) K 18 dL_law_1414 (by decide) ?_
                                                                refine J_lv [1, 2, 3, 0] [(0, .ref b), (1, .ref (ω.1 + k1)), (2, .ref (ω.1 + k2)), (3, .int (u3 + 6))] rfl ?_
                                                                exact ih (u3 + 6) h217
                                                              · refine J_iconst (pc := 1106) K (0) dL_law_1106 (by decide) ?_
                                                                exact J_none rfl
                                                            · refine J_ite (fun e33_28 => ?_) (fun e33_28 => ?_)
                                                              · refine J_tableIn (pc := 33) K (v := 28) 1108 e33_28 dL_law_33 (by decide) (by decide) rfl (by decide) ?_
                                                                refine J_aload_n (pc := 1108) K dL_law_1108 1 rfl 1 rfl ?_
                                                                refine J_aload_n (pc := 1109) K dL_law_1109 0 rfl 0 rfl ?_
                                                                refine J_iload_n (pc := 1110) K dL_law_1110 3 rfl 3 rfl ?_
                                                                refine J_iconst (pc := 1111) K (1) dL_law_1111 (by decide) ?_
                                                                refine J_iadd (pc := 1112) K dL_law_1112 ?_
                                                                refine J_topi (fun v218 => ?_)
                                                                refine J_scr (pc := 1113) K hX dL_law_1113 ?_
                                                                refine J_aload_n (pc := 1114) K dL_law_1114 0 rfl 0 rfl ?_
                                                                refine J_iload_n (pc := 1115) K dL_law_1115 3 rfl 3 rfl ?_
                                                                refine J_iconst (pc := 1116) K (2) dL_law_1116 (by decide) ?_
                                                                refine J_iadd (pc := 1117) K dL_law_1117 ?_
                                                                refine J_topi (fun v219 => ?_)
                                                                refine J_scr (pc := 1118) K hX dL_law_1118 ?_
                                                                refine J_aload_n (pc := 1119) K dL_law_1119 0 rfl 0 rfl ?_
                                                                refine J_iload_n (pc := 1120) K dL_law_1120 3 rfl 3 rfl ?_
                                                                refine J_iconst (pc := 1121) K (3) dL_law_1121 (by decide) ?_
                                                                refine J_iadd (pc := 1122) K dL_law_1122 ?_
                                                                refine J_topi (fun v220 => ?_)
                                                                refine J_scr (pc := 1123) K hX dL_law_1123 ?_
                                                                refine J_callVI (As := [.int (xs (ix v218)), .int (xs (ix v219)), .int (xs (ix v220))]) (rest := []) (pc := 1124) K cs_SaltCloudsLaw_133 (ok_X6_sheet l ω N hk1 (xs (ix v218)) (xs (ix v219)) (xs (ix v220)) h) hk1 (by omega) rfl rfl (Nat.le_of_ble_eq_true rfl) dL_law_1124 (fun r221 h222 => ?_)
                                                                refine J_aload_n (pc := 1127) K dL_law_1127 2 rfl 2 rfl ?_
                                                                refine J_aload_n (pc := 1128) K dL_law_1128 0 rfl 0 rfl ?_
                                                                refine J_iload_n (pc := 1129) K dL_law_1129 3 rfl 3 rfl ?_
                                                                refine J_iconst (pc := 1130) K (1) dL_law_1130 (by decide) ?_
                                                                refine J_iadd (pc := 1131) K dL_law_1131 ?_
                                                                refine J_topi (fun v223 => ?_)
                                                                refine J_scr (pc := 1132) K hX dL_law_1132 ?_
                                                                refine J_aload_n (pc := 1133) K dL_law_1133 0 rfl 0 rfl ?_
                                                                refine J_iload_n (pc := 1134) K dL_law_1134 3 rfl 3 rfl ?_
                                                                refine J_iconst (pc := 1135) K (2) dL_law_1135 (by decide) ?_
                                                                refine J_iadd (pc := 1136) K dL_law_1136 ?_
                                                                refine J_topi (fun v224 => ?_)
                                                                refine J_scr (pc := 1137) K hX dL_law_1137 ?_
                                                                refine J_aload_n (pc := 1138) K dL_law_1138 0 rfl 0 rfl ?_
                                                                refine J_iload_n (pc := 1139) K dL_law_1139 3 rfl 3 rfl ?_
                                                                refine J_iconst (pc := 1140) K (3) dL_law_1140 (by decide) ?_
                                                                refine J_iadd (pc := 1141) K dL_law_1141 ?_
                                                                refine J_topi (fun v225 => ?_)
                                                                refine J_scr (pc := 1142) K hX dL_law_1142 ?_
                                                                refine J_callVI (As := [.int (xs (ix v223)), .int (xs (ix v224)), .int (xs (ix v225))]) (rest := [.int r221]) (pc := 1143) K cs_SaltCloudsLaw_136 (ok_X7_sheet l ω N hk2 (xs (ix v223)) (xs (ix v224)) (xs (ix v225)) h222) hk2 (by omega) rfl rfl (Nat.le_of_ble_eq_true rfl) dL_law_1143 (fun r226 h227 => ?_)
                                                                refine J_icmp_eq (pc := 1146) K 1411 dL_law_1146 (by decide) ?_ ?_
                                                                · refine J_iinc (pc := 1411) K (6) dL_law_1411 3 rfl (by decide) (by decide) [(3, .int (u3 + 6)), (0, .ref b), (1, .ref (ω.1 + k1)), (2, .ref (ω.1 + k2))] rfl ?_
                                                                  refine J_goto (pc := 1414) K 18 dL_law_1414 (by decide) ?_
                                                                  refine J_lv [1, 2, 3, 0] [(0, .ref b), (1, .ref (ω.1 + k1)), (2, .ref (ω.1 + k2)), (3, .int (u3 + 6))] rfl ?_
                                                                  exact ih (u3 + 6) h227
                                                                · refine J_iconst (pc := 1149) K (0) dL_law_1149 (by decide) ?_
                                                                  exact J_none rfl
                                                              · refine J_ite (fun e33_29 => ?_) (fun e33_29 => ?_)
                                                                · refine J_tableIn (pc := 33) K (v := 29) 1151 e33_29 dL_law_33 (by decide) (by decide) rfl (by decide) ?_
                                                                  refine J_aload_n (pc := 1151) K dL_law_1151 1 rfl 1 rfl ?_
                                                                  refine J_aload_n (pc := 1152) K dL_law_1152 0 rfl 0 rfl ?_
                                                                  refine J_iload_n (pc := 1153) K dL_law_1153 3 rfl 3 rfl ?_
                                                                  refine J_iconst (pc := 1154) K (1) dL_law_1154 (by decide) ?_
                                                                  refine J_iadd (pc := 1155) K dL_law_1155 ?_
                                                                  refine J_topi (fun v228 => ?_)
                                                                  refine J_scr (pc := 1156) K hX dL_law_1156 ?_
                                                                  refine J_aload_n (pc := 1157) K dL_law_1157 0 rfl 0 rfl ?_
                                                                  refine J_iload_n (pc := 1158) K dL_law_1158 3 rfl 3 rfl ?_
                                                                  refine J_iconst (pc := 1159) K (2) dL_law_1159 (by decide) ?_
                                                                  refine J_iadd (pc := 1160) K dL_law_1160 ?_
                                                                  refine J_topi (fun v229 => ?_)
                                                                  refine J_scr (pc := 1161) K hX dL_law_1161 ?_
                                                                  refine J_aload_n (pc := 1162) K dL_law_1162 0 rfl 0 rfl ?_
                                                                  refine J_iload_n (pc := 1163) K dL_law_1163 3 rfl 3 rfl ?_
                                                                  refine J_iconst (pc := 1164) K (3) dL_law_1164 (by decide) ?_
                                                                  refine J_iadd (pc := 1165) K dL_law_1165 ?_
                                                                  refine J_topi (fun v230 => ?_)
                                                                  refine J_scr (pc := 1166) K hX dL_law_1166 ?_
                                                                  refine J_callVI (As := [.int (xs (ix v228)), .int (xs (ix v229)), .int (xs (ix v230))]) (rest := []) (pc := 1167) K cs_SaltCloudsLaw_137 (ok_X6_put l ω hk1 (xs (ix v228)) (xs (ix v229)) (xs (ix v230)) h) hk1 (by omega) rfl rfl (Nat.le_of_ble_eq_true rfl) dL_law_1167 (fun r231 h232 => ?_)
                                                                  refine J_aload_n (pc := 1170) K dL_law_1170 2 rfl 2 rfl ?_
                                                                  refine J_aload_n (pc := 1171) K dL_law_1171 0 rfl 0 rfl ?_
                                                                  refine J_iload_n (pc := 1172) K dL_law_1172 3 rfl 3 rfl ?_
                                                                  refine J_iconst (pc := 1173) K (1) dL_law_1173 (by decide) ?_
                                                                  refine J_iadd (pc := 1174) K dL_law_1174 ?_
                                                                  refine J_topi (fun v233 => ?_)
                                                                  refine J_scr (pc := 1175) K hX dL_law_1175 ?_
                                                                  refine J_aload_n (pc := 1176) K dL_law_1176 0 rfl 0 rfl ?_
                                                                  refine J_iload_n (pc := 1177) K dL_law_1177 3 rfl 3 rfl ?_
                                                                  refine J_iconst (pc := 1178) K (2) dL_law_1178 (by decide) ?_
                                                                  refine J_iadd (pc := 1179) K dL_law_1179 ?_
                                                                  refine J_topi (fun v234 => ?_)
                                                                  refine J_scr (pc := 1180) K hX dL_law_1180 ?_
                                                                  refine J_aload_n (pc := 1181) K dL_law_1181 0 rfl 0 rfl ?_
                                                                  refine J_iload_n (pc := 1182) K dL_law_1182 3 rfl 3 rfl ?_
                                                                  refine J_iconst (pc := 1183) K (3) dL_law_1183 (by decide) ?_
                                                                  refine J_iadd (pc := 1184) K dL_law_1184 ?_
                                                                  refine J_topi (fun v235 => ?_)
                                                                  refine J_scr (pc := 1185) K hX dL_law_1185 ?_
                                                                  refine J_callVI (As := [.int (xs (ix v233)), .int (xs (ix v234)), .int (xs (ix v235))]) (rest := [.int r231]) (pc := 1186) K cs_SaltCloudsLaw_140 (ok_X7_put l ω hk2 (xs (ix v233)) (xs (ix v234)) (xs (ix v235)) h232) hk2 (by omega) rfl rfl (Nat.le_of_ble_eq_true rfl) dL_law_1186 (fun r236 h237 => ?_)
                                                                  refine J_icmp_eq (pc := 1189) K 1411 dL_law_1189 (by decide) ?_ ?_
                                                                  · refine J_iinc (pc := 1411) K (6) dL_law_1411 3 rfl (by decide) (by decide) [(3, .int (u3 + 6)), (0, .ref b), (1, .ref (ω.1 + k1)), (2, .ref (ω.1 + k2))] rfl ?_
                                                                    refine J_goto (pc := 1414) K 18 dL_law_1414 (by decide) ?_
                                                                    refine J_lv [1, 2, 3, 0] [(0, .ref b), (1, .ref (ω.1 + k1)), (2, .ref (ω.1 + k2)), (3, .int (u3 + 6))] rfl ?_
                                                                    exact ih (u3 + 6) h237
                                                                  · refine J_iconst (pc := 1192) K (0) dL_law_1192 (by decide) ?_
                                                                    exact J_none rfl
                                                                · refine J_ite (fun e33_30 => ?_) (fun e33_30 => ?_)
                                                                  · refine J_tableIn (pc := 33) K (v := 30) 1194 e33_30 dL_law_33 (by decide) (by decide) rfl (by decide) ?_
                                                                    refine J_aload_n (pc := 1194) K dL_law_1194 1 rfl 1 rfl ?_
                                                                    refine J_aload_n (pc := 1195) K dL_law_1195 0 rfl 0 rfl ?_
                                                                    refine J_iload_n (pc := 1196) K dL_law_1196 3 rfl 3 rfl ?_
                                                                    refine J_iconst (pc := 1197) K (1) dL_law_1197 (by decide) ?_
                                                                    refine J_iadd (pc := 1198) K dL_law_1198 ?_
                                                                    refine J_topi (fun v238 => ?_)
                                                                    refine J_scr (pc := 1199) K hX dL_law_1199 ?_
                                                                    refine J_aload_n (pc := 1200) K dL_law_1200 0 rfl 0 rfl ?_
                                                                    refine J_iload_n (pc := 1201) K dL_law_1201 3 rfl 3 rfl ?_
                                                                    refine J_iconst (pc := 1202) K (2) dL_law_1202 (by decide) ?_
                                                                    refine J_iadd (pc := 1203) K dL_law_1203 ?_
                                                                    refine J_topi (fun v239 => ?_)
                                                                    refine J_scr (pc := 1204) K hX dL_law_1204 ?_
                                                                    refine J_aload_n (pc := 1205) K dL_law_1205 0 rfl 0 rfl ?_
                                                                    refine J_iload_n (pc := 1206) K dL_law_1206 3 rfl 3 rfl ?_
                                                                    refine J_iconst (pc := 1207) K (3) dL_law_1207 (by decide) ?_
                                                                    refine J_iadd (pc := 1208) K dL_law_1208 ?_
                                                                    refine J_topi (fun v240 => ?_)
                                                                    refine J_scr (pc := 1209) K hX dL_law_1209 ?_
                                                                    refine J_aload_n (pc := 1210) K dL_law_1210 0 rfl 0 rfl ?_
                                                                    refine J_iload_n (pc := 1211) K dL_law_1211 3 rfl 3 rfl ?_
                                                                    refine J_iconst (pc := 1212) K (4) dL_law_1212 (by decide) ?_
                                                                    refine J_iadd (pc := 1213) K dL_law_1213 ?_
                                                                    refine J_topi (fun v241 => ?_)
                                                                    refine J_scr (pc := 1214) K hX dL_law_1214 ?_
                                                                    refine J_aload_n (pc := 1215) K dL_law_1215 0 rfl 0 rfl ?_
                                                                    refine J_iload_n (pc := 1216) K dL_law_1216 3 rfl 3 rfl ?_
                                                                    refine J_iconst (pc := 1217) K (5) dL_law_1217 (by decide) ?_
                                                                    refine J_iadd (pc := 1218) K dL_law_1218 ?_
                                                                    refine J_topi (fun v242 => ?_)
                                                                    refine J_scr (pc := 1219) K hX dL_law_1219 ?_
                                                                    refine J_callVI (As := [.int (xs (ix v238)), .int (xs (ix v239)), .int (xs (ix v240)), .int (xs (ix v241)), .int (xs (ix v242))]) (rest := []) (pc := 1220) K cs_SaltCloudsLaw_141 (ok_X6_move l ω hk1 (xs (ix v238)) (xs (ix v239)) (xs (ix v240)) (xs (ix v241)) (xs (ix v242)) h) hk1 (by omega) rfl rfl (Nat.le_of_ble_eq_true rfl) dL_law_1220 (fun r243 h244 => ?_)
                                                                    refine J_aload_n (pc := 1223) K dL_law_1223 2 rfl 2 rfl ?_
                                                                    refine J_aload_n (pc := 1224) K dL_law_1224 0 rfl 0 rfl ?_
                                                                    refine J_iload_n (pc := 1225) K dL_law_1225 3 rfl 3 rfl ?_
                                                                    refine J_iconst (pc := 1226) K (1) dL_law_1226 (by decide) ?_
                                                                    refine J_iadd (pc := 1227) K dL_law_1227 ?_
                                                                    refine J_topi (fun v245 => ?_)
                                                                    refine J_scr (pc := 1228) K hX dL_law_1228 ?_
                                                                    refine J_aload_n (pc := 1229) K dL_law_1229 0 rfl 0 rfl ?_
                                                                    refine J_iload_n (pc := 1230) K dL_law_1230 3 rfl 3 rfl ?_
                                                                    refine J_iconst (pc := 1231) K (2) dL_law_1231 (by decide) ?_
                                                                    refine J_iadd (pc := 1232) K dL_law_1232 ?_
                                                                    refine J_topi (fun v246 => ?_)
                                                                    refine J_scr (pc := 1233) K hX dL_law_1233 ?_
                                                                    refine J_aload_n (pc := 1234) K dL_law_1234 0 rfl 0 rfl ?_
                                                                    refine J_iload_n (pc := 1235) K dL_law_1235 3 rfl 3 rfl ?_
                                                                    refine J_iconst (pc := 1236) K (3) dL_law_1236 (by decide) ?_
                                                                    refine J_iadd (pc := 1237) K dL_law_1237 ?_
                                                                    refine J_topi (fun v247 => ?_)
                                                                    refine J_scr (pc := 1238) K hX dL_law_1238 ?_
                                                                    refine J_aload_n (pc := 1239) K dL_law_1239 0 rfl 0 rfl ?_
                                                                    refine J_iload_n (pc := 1240) K dL_law_1240 3 rfl 3 rfl ?_
                                                                    refine J_iconst (pc := 1241) K (4) dL_law_1241 (by decide) ?_
                                                                    refine J_iadd (pc := 1242) K dL_law_1242 ?_
                                                                    refine J_topi (fun v248 => ?_)
                                                                    refine J_scr (pc := 1243) K hX dL_law_1243 ?_
                                                                    refine J_aload_n (pc := 1244) K dL_law_1244 0 rfl 0 rfl ?_
                                                                    refine J_iload_n (pc := 1245) K dL_law_1245 3 rfl 3 rfl ?_
                                                                    refine J_iconst (pc := 1246) K (5) dL_law_1246 (by decide) ?_
                                                                    refine J_iadd (pc := 1247) K dL_law_1247 ?_
                                                                    refine J_topi (fun v249 => ?_)
                                                                    refine J_scr (pc := 1248) K hX dL_law_1248 ?_
                                                                    refine J_callVI (As := [.int (xs (ix v245)), .int (xs (ix v246)), .int (xs (ix v247)), .int (xs (ix v248)), .int (xs (ix v249))]) (rest := [.int r243]) (pc := 1249) K cs_SaltCloudsLaw_145 (ok_X7_move l ω N hk2 (xs (ix v245)) (xs (ix v246)) (xs (ix v247)) (xs (ix v248)) (xs (ix v249)) h244) hk2 (by omega) rfl rfl (Nat.le_of_ble_eq_true rfl) dL_law_1249 (fun r250 h251 => ?_)
                                                                    refine J_icmp_eq (pc := 1252) K 1411 dL_law_1252 (by decide) ?_ ?_
                                                                    · refine J_iinc (pc := 1411) K (6) dL_law_1411 3 rfl (by decide) (by decide) [(3, .int (u3 + 6)), (0, .ref b), (1, .ref (ω.1 + k1)), (2, .ref (ω.1 + k2))] rfl ?_
                                                                      refine J_goto (pc := 1414) K 18 dL_law_1414 (by decide) ?_
                                                                      refine J_lv [1, 2, 3, 0] [(0, .ref b), (1, .ref (ω.1 + k1)), (2, .ref (ω.1 + k2)), (3, .int (u3 + 6))] rfl ?_
                                                                      exact ih (u3 + 6) h251
                                                                    · refine J_iconst (pc := 1255) K (0) dL_law_1255 (by decide) ?_
                                                                      exact J_none rfl
                                                                  · refine J_ite (fun e33_31 => ?_) (fun e33_31 => ?_)
                                                                    · refine J_tableIn (pc := 33) K (v := 31) 1257 e33_31 dL_law_33 (by decide) (by decide) rfl (by decide) ?_
                                                                      refine J_aload_n (pc := 1257) K dL_law_1257 1 rfl 1 rfl ?_
                                                                      refine J_aload_n (pc := 1258) K dL_law_1258 0 rfl 0 rfl ?_
                                                                      refine J_iload_n (pc := 1259) K dL_law_1259 3 rfl 3 rfl ?_
                                                                      refine J_iconst (pc := 1260) K (1) dL_law_1260 (by decide) ?_
                                                                      refine J_iadd (pc := 1261) K dL_law_1261 ?_
                                                                      refine J_topi (fun v252 => ?_)
                                                                      refine J_scr (pc := 1262) K hX dL_law_1262 ?_
                                                                      refine J_callVI (As := [.int (xs (ix v252))]) (rest := []) (pc := 1263) K cs_SaltCloudsLaw_146 (ok_X6_hills l ω N hk1 (xs (ix v252)) h) hk1 (by omega) rfl rfl (Nat.le_of_ble_eq_true rfl) dL_law_1263 (fun r253 h254 => ?_)
                                                                      refine J_aload_n (pc := 1266) K dL_law_1266 2 rfl 2 rfl ?_
                                                                      refine J_aload_n (pc := 1267) K dL_law_1267 0 rfl 0 rfl ?_
                                                                      refine J_iload_n (pc := 1268) K dL_law_1268 3 rfl 3 rfl ?_
                                                                      refine J_iconst (pc := 1269) K (1) dL_law_1269 (by decide) ?_
                                                                      refine J_iadd (pc := 1270) K dL_law_1270 ?_
                                                                      refine J_topi (fun v255 => ?_)
                                                                      refine J_scr (pc := 1271) K hX dL_law_1271 ?_
                                                                      refine J_callVI (As := [.int (xs (ix v255))]) (rest := [.int r253]) (pc := 1272) K cs_SaltCloudsLaw_149 (ok_X7_hills l ω N hk2 (xs (ix v255)) h254) hk2 (by omega) rfl rfl (Nat.le_of_ble_eq_true rfl) dL_law_1272 (fun r256 h257 => ?_)
                                                                      refine J_icmp_eq (pc := 1275) K 1411 dL_law_1275 (by decide) ?_ ?_
                                                                      · refine J_iinc (pc := 1411) K (6) dL_law_1411 3 rfl (by decide) (by decide) [(3, .int (u3 + 6)), (0, .ref b), (1, .ref (ω.1 + k1)), (2, .ref (ω.1 + k2))] rfl ?_
                                                                        refine J_goto (pc := 1414) K 18 dL_law_1414 (by decide) ?_
                                                                        refine J_lv [1, 2, 3, 0] [(0, .ref b), (1, .ref (ω.1 + k1)), (2, .ref (ω.1 + k2)), (3, .int (u3 + 6))] rfl ?_
                                                                        exact ih (u3 + 6) h257
                                                                      · refine J_iconst (pc := 1278) K (0) dL_law_1278 (by decide) ?_
                                                                        exact J_none rfl
                                                                    · refine J_ite (fun e33_32 => ?_) (fun e33_32 => ?_)
                                                                      · refine J_tableIn (pc := 33) K (v := 32) 1280 e33_32 dL_law_33 (by decide) (by decide) rfl (by decide) ?_
                                                                        refine J_aload_n (pc := 1280) K dL_law_1280 1 rfl 1 rfl ?_
                                                                        refine J_aload_n (pc := 1281) K dL_law_1281 0 rfl 0 rfl ?_
                                                                        refine J_iload_n (pc := 1282) K dL_law_1282 3 rfl 3 rfl ?_
                                                                        refine J_iconst (pc := 1283) K (1) dL_law_1283 (by decide) ?_
                                                                        refine J_iadd (pc := 1284) K dL_law_1284 ?_
                                                                        refine J_topi (fun v258 => ?_)
                                                                        refine J_scr (pc := 1285) K hX dL_law_1285 ?_
                                                                        refine J_callVI (As := [.int (xs (ix v258))]) (rest := []) (pc := 1286) K cs_SaltCloudsLaw_150 (ok_X6_judge l ω N hk1 (xs (ix v258)) h) hk1 (by omega) rfl rfl (Nat.le_of_ble_eq_true rfl) dL_law_1286 (fun r259 h260 => ?_)
                                                                        refine J_aload_n (pc := 1289) K dL_law_1289 2 rfl 2 rfl ?_
                                                                        refine J_aload_n (pc := 1290) K dL_law_1290 0 rfl 0 rfl ?_
                                                                        refine J_iload_n (pc := 1291) K dL_law_1291 3 rfl 3 rfl ?_
                                                                        refine J_iconst (pc := 1292) K (1) dL_law_1292 (by decide) ?_
                                                                        refine J_iadd (pc := 1293) K dL_law_1293 ?_
                                                                        refine J_topi (fun v261 => ?_)
                                                                        refine J_scr (pc := 1294) K hX dL_law_1294 ?_
                                                                        refine J_callVI (As := [.int (xs (ix v261))]) (rest := [.int r259]) (pc := 1295) K cs_SaltCloudsLaw_153 (ok_X7_judge l ω N hk2 (xs (ix v261)) h260) hk2 (by omega) rfl rfl (Nat.le_of_ble_eq_true rfl) dL_law_1295 (fun r262 h263 => ?_)
                                                                        refine J_icmp_eq (pc := 1298) K 1411 dL_law_1298 (by decide) ?_ ?_
                                                                        · refine J_iinc (pc := 1411) K (6) dL_law_1411 3 rfl (by decide) (by decide) [(3, .int (u3 + 6)), (0, .ref b), (1, .ref (ω.1 + k1)), (2, .ref (ω.1 + k2))] rfl ?_
                                                                          refine J_goto (pc := 1414) K 18 dL_law_1414 (by decide) ?_
                                                                          refine J_lv [1, 2, 3, 0] [(0, .ref b), (1, .ref (ω.1 + k1)), (2, .ref (ω.1 + k2)), (3, .int (u3 + 6))] rfl ?_
                                                                          exact ih (u3 + 6) h263
                                                                        · refine J_iconst (pc := 1301) K (0) dL_law_1301 (by decide) ?_
                                                                          exact J_none rfl
                                                                      · refine J_ite (fun e33_33 => ?_) (fun e33_33 => ?_)
                                                                        · refine J_tableIn (pc := 33) K (v := 33) 1303 e33_33 dL_law_33 (by decide) (by decide) rfl (by decide) ?_
                                                                          refine J_aload_n (pc := 1303) K dL_law_1303 1 rfl 1 rfl ?_
                                                                          refine J_callVI (As := []) (rest := []) (pc := 1304) K cs_SaltCloudsLaw_154 (ok_X6_image l ω N hk1 h) hk1 (by omega) rfl rfl (Nat.le_of_ble_eq_true rfl) dL_law_1304 (fun r264 h265 => ?_)
                                                                          refine J_aload_n (pc := 1307) K dL_law_1307 2 rfl 2 rfl ?_
                                                                          refine J_callVI (As := []) (rest := [.int r264]) (pc := 1308) K cs_SaltCloudsLaw_157 (ok_X7_image l ω N hk2 h265) hk2 (by omega) rfl rfl (Nat.le_of_ble_eq_true rfl) dL_law_1308 (fun r266 h267 => ?_)
                                                                          refine J_icmp_eq (pc := 1311) K 1411 dL_law_1311 (by decide) ?_ ?_
                                                                          · refine J_iinc (pc := 1411) K (6) dL_law_1411 3 rfl (by decide) (by decide) [(3, .int (u3 + 6)), (0, .ref b), (1, .ref (ω.1 + k1)), (2, .ref (ω.1 + k2))] rfl ?_
                                                                            refine J_goto (pc := 1414) K 18 dL_law_1414 (by decide) ?_
                                                                            refine J_lv [1, 2, 3, 0] [(0, .ref b), (1, .ref (ω.1 + k1)), (2, .ref (ω.1 + k2)), (3, .int (u3 + 6))] rfl ?_
                                                                            exact ih (u3 + 6) h267
                                                                          · refine J_iconst (pc := 1314) K (0) dL_law_1314 (by decide) ?_
                                                                            exact J_none rfl
                                                                        · refine J_ite (fun e33_34 => ?_) (fun e33_34 => ?_)
                                                                          · refine J_tableIn (pc := 33) K (v := 34) 1316 e33_34 dL_law_33 (by decide) (by decide) rfl (by decide) ?_
                                                                            refine J_aload_n (pc := 1316) K dL_law_1316 1 rfl 1 rfl ?_
                                                                            refine J_callVI (As := []) (rest := []) (pc := 1317) K cs_SaltCloudsLaw_158 (ok_X6_restore l ω N hk1 h) hk1 (by omega) rfl rfl (Nat.le_of_ble_eq_true rfl) dL_law_1317 (fun r268 h269 => ?_)
                                                                            refine J_aload_n (pc := 1320) K dL_law_1320 2 rfl 2 rfl ?_
                                                                            refine J_callVI (As := []) (rest := [.int r268]) (pc := 1321) K cs_SaltCloudsLaw_161 (ok_X7_restore l ω N hk2 h269) hk2 (by omega) rfl rfl (Nat.le_of_ble_eq_true rfl) dL_law_1321 (fun r270 h271 => ?_)
                                                                            refine J_icmp_eq (pc := 1324) K 1411 dL_law_1324 (by decide) ?_ ?_
                                                                            · refine J_iinc (pc := 1411) K (6) dL_law_1411 3 rfl (by decide) (by decide) [(3, .int (u3 + 6)), (0, .ref b), (1, .ref (ω.1 + k1)), (2, .ref (ω.1 + k2))] rfl ?_
                                                                              refine J_goto (pc := 1414) K 18 dL_law_1414 (by decide) ?_
                                                                              refine J_lv [1, 2, 3, 0] [(0, .ref b), (1, .ref (ω.1 + k1)), (2, .ref (ω.1 + k2)), (3, .int (u3 + 6))] rfl ?_
                                                                              exact ih (u3 + 6) h271
                                                                            · refine J_iconst (pc := 1327) K (0) dL_law_1327 (by decide) ?_
                                                                              exact J_none rfl
                                                                          · refine J_ite (fun e33_35 => ?_) (fun e33_35 => ?_)
                                                                            · refine J_tableIn (pc := 33) K (v := 35) 1329 e33_35 dL_law_33 (by decide) (by decide) rfl (by decide) ?_
                                                                              refine J_aload_n (pc := 1329) K dL_law_1329 1 rfl 1 rfl ?_
                                                                              refine J_aload_n (pc := 1330) K dL_law_1330 0 rfl 0 rfl ?_
                                                                              refine J_iload_n (pc := 1331) K dL_law_1331 3 rfl 3 rfl ?_
                                                                              refine J_iconst (pc := 1332) K (1) dL_law_1332 (by decide) ?_
                                                                              refine J_iadd (pc := 1333) K dL_law_1333 ?_
                                                                              refine J_topi (fun v272 => ?_)
                                                                              refine J_scr (pc := 1334) K hX dL_law_1334 ?_
                                                                              refine J_callVI (As := [.int (xs (ix v272))]) (rest := []) (pc := 1335) K cs_SaltCloudsLaw_162 (ok_X6_tell l ω hk1 (xs (ix v272)) h) hk1 (by omega) rfl rfl (Nat.le_of_ble_eq_true rfl) dL_law_1335 (fun r273 h274 => ?_)
                                                                              refine J_aload_n (pc := 1338) K dL_law_1338 2 rfl 2 rfl ?_
                                                                              refine J_aload_n (pc := 1339) K dL_law_1339 0 rfl 0 rfl ?_
                                                                              refine J_iload_n (pc := 1340) K dL_law_1340 3 rfl 3 rfl ?_
                                                                              refine J_iconst (pc := 1341) K (1) dL_law_1341 (by decide) ?_
                                                                              refine J_iadd (pc := 1342) K dL_law_1342 ?_
                                                                              refine J_topi (fun v275 => ?_)
                                                                              refine J_scr (pc := 1343) K hX dL_law_1343 ?_
                                                                              refine J_callVI (As := [.int (xs (ix v275))]) (rest := [.int r273]) (pc := 1344) K cs_SaltCloudsLaw_165 (ok_X7_tell l ω hk2 (xs (ix v275)) h274) hk2 (by omega) rfl rfl (Nat.le_of_ble_eq_true rfl) dL_law_1344 (fun r276 h277 => ?_)
                                                                              refine J_icmp_eq (pc := 1347) K 1411 dL_law_1347 (by decide) ?_ ?_
                                                                              · refine J_iinc (pc := 1411) K (6) dL_law_1411 3 rfl (by decide) (by decide) [(3, .int (u3 + 6)), (0, .ref b), (1, .ref (ω.1 + k1)), (2, .ref (ω.1 + k2))] rfl ?_
                                                                                refine J_goto (pc := 1414) K 18 dL_law_1414 (by decide) ?_
                                                                                refine J_lv [1, 2, 3, 0] [(0, .ref b), (1, .ref (ω.1 + k1)), (2, .ref (ω.1 + k2)), (3, .int (u3 + 6))] rfl ?_
                                                                                exact ih (u3 + 6) h277
                                                                              · refine J_iconst (pc := 1350) K (0) dL_law_1350 (by decide) ?_
                                                                                exact J_none rfl
                                                                            · refine J_ite (fun e33_36 => ?_) (fun e33_36 => ?_)
                                                                              · refine J_tableIn (pc := 33) K (v := 36) 1352 e33_36 dL_law_33 (by decide) (by decide) rfl (by decide) ?_
                                                                                refine J_aload_n (pc := 1352) K dL_law_1352 1 rfl 1 rfl ?_
                                                                                refine J_callVI (As := []) (rest := []) (pc := 1353) K cs_SaltCloudsLaw_166 (ok_X6_check l ω N hk1 h) hk1 (by omega) rfl rfl (Nat.le_of_ble_eq_true rfl) dL_law_1353 (fun r278 h279 => ?_)
                                                                                refine J_aload_n (pc := 1356) K dL_law_1356 2 rfl 2 rfl ?_
                                                                                refine J_callVI (As := []) (rest := [.int r278]) (pc := 1357) K cs_SaltCloudsLaw_169 (ok_X7_check l ω N hk2 h279) hk2 (by omega) rfl rfl (Nat.le_of_ble_eq_true rfl) dL_law_1357 (fun r280 h281 => ?_)
                                                                                refine J_icmp_eq (pc := 1360) K 1411 dL_law_1360 (by decide) ?_ ?_
                                                                                · refine J_iinc (pc := 1411) K (6) dL_law_1411 3 rfl (by decide) (by decide) [(3, .int (u3 + 6)), (0, .ref b), (1, .ref (ω.1 + k1)), (2, .ref (ω.1 + k2))] rfl ?_
                                                                                  refine J_goto (pc := 1414) K 18 dL_law_1414 (by decide) ?_
                                                                                  refine J_lv [1, 2, 3, 0] [(0, .ref b), (1, .ref (ω.1 + k1)), (2, .ref (ω.1 + k2)), (3, .int (u3 + 6))] rfl ?_
                                                                                  exact ih (u3 + 6) h281
                                                                                · refine J_iconst (pc := 1363) K (0) dL_law_1363 (by decide) ?_
                                                                                  exact J_none rfl
                                                                              · refine J_ite (fun e33_37 => ?_) (fun e33_37 => ?_)
                                                                                · refine J_tableIn (pc := 33) K (v := 37) 1365 e33_37 dL_law_33 (by decide) (by decide) rfl (by decide) ?_
                                                                                  refine J_aload_n (pc := 1365) K dL_law_1365 1 rfl 1 rfl ?_
                                                                                  refine J_aload_n (pc := 1366) K dL_law_1366 0 rfl 0 rfl ?_
                                                                                  refine J_iload_n (pc := 1367) K dL_law_1367 3 rfl 3 rfl ?_
                                                                                  refine J_iconst (pc := 1368) K (1) dL_law_1368 (by decide) ?_
                                                                                  refine J_iadd (pc := 1369) K dL_law_1369 ?_
                                                                                  refine J_topi (fun v282 => ?_)
                                                                                  refine J_scr (pc := 1370) K hX dL_law_1370 ?_
                                                                                  refine J_callVI (As := [.int (xs (ix v282))]) (rest := []) (pc := 1371) K cs_SaltCloudsLaw_170 (ok_X6_count l ω N hk1 (xs (ix v282)) h) hk1 (by omega) rfl rfl (Nat.le_of_ble_eq_true rfl) dL_law_1371 (fun r283 h284 => ?_)
                                                                                  refine J_aload_n (pc := 1374) K dL_law_1374 2 rfl 2 rfl ?_
                                                                                  refine J_aload_n (pc := 1375) K dL_law_1375 0 rfl 0 rfl ?_
                                                                                  refine J_iload_n (pc := 1376) K dL_law_1376 3 rfl 3 rfl ?_
                                                                                  refine J_iconst (pc := 1377) K (1) dL_law_1377 (by decide) ?_
                                                                                  refine J_iadd (pc := 1378) K dL_law_1378 ?_
                                                                                  refine J_topi (fun v285 => ?_)
                                                                                  refine J_scr (pc := 1379) K hX dL_law_1379 ?_
                                                                                  refine J_callVI (As := [.int (xs (ix v285))]) (rest := [.int r283]) (pc := 1380) K cs_SaltCloudsLaw_173 (ok_X7_count l ω N hk2 (xs (ix v285)) h284) hk2 (by omega) rfl rfl (Nat.le_of_ble_eq_true rfl) dL_law_1380 (fun r286 h287 => ?_)
                                                                                  refine J_icmp_eq (pc := 1383) K 1411 dL_law_1383 (by decide) ?_ ?_
                                                                                  · refine J_iinc (pc := 1411) K (6) dL_law_1411 3 rfl (by decide) (by decide) [(3, .int (u3 + 6)), (0, .ref b), (1, .ref (ω.1 + k1)), (2, .ref (ω.1 + k2))] rfl ?_
                                                                                    refine J_goto (pc := 1414) K 18 dL_law_1414 (by decide) ?_
                                                                                    refine J_lv [1, 2, 3, 0] [(0, .ref b), (1, .ref (ω.1 + k1)), (2, .ref (ω.1 + k2)), (3, .int (u3 + 6))] rfl ?_
                                                                                    exact ih (u3 + 6) h287
                                                                                  · refine J_iconst (pc := 1386) K (0) dL_law_1386 (by decide) ?_
                                                                                    exact J_none rfl
                                                                                · refine J_ite (fun e33_38 => ?_) (fun e33_38 => ?_)
                                                                                  · refine J_tableIn (pc := 33) K (v := 38) 1388 e33_38 dL_law_33 (by decide) (by decide) rfl (by decide) ?_
                                                                                    refine J_aload_n (pc := 1388) K dL_law_1388 1 rfl 1 rfl ?_
                                                                                    refine J_aload_n (pc := 1389) K dL_law_1389 0 rfl 0 rfl ?_
                                                                                    refine J_iload_n (pc := 1390) K dL_law_1390 3 rfl 3 rfl ?_
                                                                                    refine J_iconst (pc := 1391) K (1) dL_law_1391 (by decide) ?_
                                                                                    refine J_iadd (pc := 1392) K dL_law_1392 ?_
                                                                                    refine J_topi (fun v288 => ?_)
                                                                                    refine J_scr (pc := 1393) K hX dL_law_1393 ?_
                                                                                    refine J_callVI (As := [.int (xs (ix v288))]) (rest := []) (pc := 1394) K cs_SaltCloudsLaw_174 (ok_X6_told l ω hk1 (xs (ix v288)) h) hk1 (by omega) rfl rfl (Nat.le_of_ble_eq_true rfl) dL_law_1394 (fun r289 h290 => ?_)
                                                                                    refine J_aload_n (pc := 1397) K dL_law_1397 2 rfl 2 rfl ?_
                                                                                    refine J_aload_n (pc := 1398) K dL_law_1398 0 rfl 0 rfl ?_
                                                                                    refine J_iload_n (pc := 1399) K dL_law_1399 3 rfl 3 rfl ?_
                                                                                    refine J_iconst (pc := 1400) K (1) dL_law_1400 (by decide) ?_
                                                                                    refine J_iadd (pc := 1401) K dL_law_1401 ?_
                                                                                    refine J_topi (fun v291 => ?_)
                                                                                    refine J_scr (pc := 1402) K hX dL_law_1402 ?_
                                                                                    refine J_callVI (As := [.int (xs (ix v291))]) (rest := [.int r289]) (pc := 1403) K cs_SaltCloudsLaw_177 (ok_X7_told l ω hk2 (xs (ix v291)) h290) hk2 (by omega) rfl rfl (Nat.le_of_ble_eq_true rfl) dL_law_1403 (fun r292 h293 => ?_)
                                                                                    refine J_icmp_eq (pc := 1406) K 1411 dL_law_1406 (by decide) ?_ ?_
                                                                                    · refine J_iinc (pc := 1411) K (6) dL_law_1411 3 rfl (by decide) (by decide) [(3, .int (u3 + 6)), (0, .ref b), (1, .ref (ω.1 + k1)), (2, .ref (ω.1 + k2))] rfl ?_
                                                                                      refine J_goto (pc := 1414) K 18 dL_law_1414 (by decide) ?_
                                                                                      refine J_lv [1, 2, 3, 0] [(0, .ref b), (1, .ref (ω.1 + k1)), (2, .ref (ω.1 + k2)), (3, .int (u3 + 6))] rfl ?_
                                                                                      exact ih (u3 + 6) h293
                                                                                    · refine J_iconst (pc := 1409) K (0) dL_law_1409 (by decide) ?_
                                                                                      exact J_none rfl
                                                                                  · refine J_tableOut (pc := 33) K 1411 dL_law_33 (by have q0 := lv_neT e33_0 (a := 0) (by decide); have q1 := lv_neT e33_1 (a := 1) (by decide); have q2 := lv_neT e33_2 (a := 2) (by decide); have q3 := lv_neT e33_3 (a := 3) (by decide); have q4 := lv_neT e33_4 (a := 4) (by decide); have q5 := lv_neT e33_5 (a := 5) (by decide); have q6 := lv_neT e33_6 (a := 6) (by decide); have q7 := lv_neT e33_7 (a := 7) (by decide); have q8 := lv_neT e33_8 (a := 8) (by decide); have q9 := lv_neT e33_9 (a := 9) (by decide); have q10 := lv_neT e33_10 (a := 10) (by decide); have q11 := lv_neT e33_11 (a := 11) (by decide); have q12 := lv_neT e33_12 (a := 12) (by decide); have q13 := lv_neT e33_13 (a := 13) (by decide); have q14 := lv_neT e33_14 (a := 14) (by decide); have q15 := lv_neT e33_15 (a := 15) (by decide); have q16 := lv_neT e33_16 (a := 16) (by decide); have q17 := lv_neT e33_17 (a := 17) (by decide); have q18 := lv_neT e33_18 (a := 18) (by decide); have q19 := lv_neT e33_19 (a := 19) (by decide); have q20 := lv_neT e33_20 (a := 20) (by decide); have q21 := lv_neT e33_21 (a := 21) (by decide); have q22 := lv_neT e33_22 (a := 22) (by decide); have q23 := lv_neT e33_23 (a := 23) (by decide); have q24 := lv_neT e33_24 (a := 24) (by decide); have q25 := lv_neT e33_25 (a := 25) (by decide); have q26 := lv_neT e33_26 (a := 26) (by decide); have q27 := lv_neT e33_27 (a := 27) (by decide); have q28 := lv_neT e33_28 (a := 28) (by decide); have q29 := lv_neT e33_29 (a := 29) (by decide); have q30 := lv_neT e33_30 (a := 30) (by decide); have q31 := lv_neT e33_31 (a := 31) (by decide); have q32 := lv_neT e33_32 (a := 32) (by decide); have q33 := lv_neT e33_33 (a := 33) (by decide); have q34 := lv_neT e33_34 (a := 34) (by decide); have q35 := lv_neT e33_35 (a := 35) (by decide); have q36 := lv_neT e33_36 (a := 36) (by decide); have q37 := lv_neT e33_37 (a := 37) (by decide); have q38 := lv_neT e33_38 (a := 38) (by decide); omega) (by decide) ?_
                                                                                    refine J_iinc (pc := 1411) K (6) dL_law_1411 3 rfl (by decide) (by decide) [(3, .int (u3 + 6)), (0, .ref b), (1, .ref (ω.1 + k1)), (2, .ref (ω.1 + k2))] rfl ?_
                                                                                    refine J_goto (pc := 1414) K 18 dL_law_1414 (by decide) ?_
                                                                                    refine J_lv [1, 2, 3, 0] [(0, .ref b), (1, .ref (ω.1 + k1)), (2, .ref (ω.1 + k2)), (3, .int (u3 + 6))] rfl ?_
                                                                                    exact ih (u3 + 6) h
