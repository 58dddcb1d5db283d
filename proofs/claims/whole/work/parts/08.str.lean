/-! String constants: the six words of the text's reader; the JDK's methods that are asked of them -/
theorem flJ0_9 : Cond.fieldLink RJ0 9 "java/lang/String" "value" "[B" ∈ Tw := tw_t 1015 (by decide +kernel) rfl
theorem flJ0_15 : Cond.fieldLink RJ0 15 "java/lang/String" "coder" "B" ∈ Tw := tw_t 1016 (by decide +kernel) rfl
theorem flJ0_38 : Cond.fieldLink RJ0 38 "java/lang/String" "COMPACT_STRINGS" "Z" ∈ Tw := tw_t 291 (by decide +kernel) rfl
theorem flJ0_1053 : Cond.fieldLink RJ0 1053 "jdk/internal/util/Preconditions" "SIOOBE_FORMATTER" "Ljava/util/function/BiFunction;" ∈ Tw := tw_t 307 (by decide +kernel) rfl
theorem mc_yJ3_checkIndex_8e157 : MC yJ3_checkIndex_8e157 cJ3_checkIndex_8e157 3 (some .int) 3 := ⟨cd_yJ3_checkIndex_8e157, in_J3, by decide +kernel, by decide +kernel, by decide +kernel⟩
def lenJ : List Nat := [4, 4, 4, 4, 6, 3]
def bytJ : List (List Int32) := [[104, 97, 108, 108], [119, 97, 108, 108], [100, 111, 111, 114], [108, 97, 109, 112], [112, 101, 114, 115, 111, 110], [108, 97, 119]]
def chJ (i k : Nat) : Int32 := (bytJ.getD i []).getD k 0
def STR (adK adV : Nat → Nat) (A : Nat → Prop) (U : State) : Prop := vk_S 6 lenJ bytJ adK adV A U U.heap ∧ (vk_R RX3 126 "hall" (adK 0) U ∧ vk_R RX3 132 "wall" (adK 1) U ∧ vk_R RX3 134 "door" (adK 2) U ∧ vk_R RX3 136 "lamp" (adK 3) U ∧ vk_R RX3 138 "person" (adK 4) U ∧ vk_R RX3 140 "law" (adK 5) U) ∧ va_Z "java/lang/String" "COMPACT_STRINGS" "Z" (.int 1) A U U.heap ∧ va_Zq "jdk/internal/util/Preconditions" "SIOOBE_FORMATTER" "Ljava/util/function/BiFunction;" A U U.heap
def Stab (X : (Nat → Prop) → State → Prop) : Prop := (∀ (A : Nat → Prop) (U : State) (g : JFrame) (mk : MethodId) (a : Array Value), X A U → X A (U.calling g mk a)) ∧ ∀ (A B : Nat → Prop) (s U : State) (locs : List Loc), X A s → va_S A s.heap U.heap locs → (∀ q, B q → A q) → s.WarmedH U.vm → X B U
theorem STR_stab (adK adV : Nat → Nat) : Stab (STR adK adV) := by
  refine ⟨?_, ?_⟩
  · intro A U g mk a h
    obtain ⟨h1, ⟨r0, r1, r2, r3, r4, r5⟩, h3, h4⟩ := h
    exact ⟨vk_S.moved (Vm.Alike.refl U.vm) h1, ⟨vk_R.same rfl r0, vk_R.same rfl r1, vk_R.same rfl r2, vk_R.same rfl r3, vk_R.same rfl r4, vk_R.same rfl r5⟩, va_Z.moved (Vm.Alike.refl U.vm) h3, va_Zq.moved (Vm.Alike.refl U.vm) h4⟩
  · intro A B s U locs h hS hB hW
    obtain ⟨h1, ⟨r0, r1, r2, r3, r4, r5⟩, h3, h4⟩ := h
    exact ⟨vk_S.moved hW.alike ((h1.kept hS.2.1).narrow hB), ⟨r0.warm hW, r1.warm hW, r2.warm hW, r3.warm hW, r4.warm hW, r5.warm hW⟩, va_Z.moved hW.alike ((h3.kept hS.2.1).narrow hB), va_Zq.moved hW.alike ((h4.kept hS.2.1).narrow hB)⟩
abbrev gPX (D : va_G) (cI cZ : ClassId) (cs : va_W) (X : (Nat → Prop) → State → Prop) (sz : Nat) : State → Prop := fun U => gP D cI cZ cs sz U ∧ X (va_A cs sz) U
def XE (X : (Nat → Prop) → State → Prop) : MEnv → Prop
  | (_, _, _, _, s, _, _, _, _, _, _, _, _, A, _, _, _) => X A s
theorem gPX_pre {D : va_G} {cI cZ : ClassId} {ws wc : va_W} {s : State} {H : Heap} {A : Nat → Prop} {As : List Value} {locs : List Loc} {X : (Nat → Prop) → State → Prop} (st : Stab X) (hP : va_P D vwCl ws H) (hD : va_D A ws) (hS : va_S A s.heap H locs) (hA : ∀ q, s.heap.size ≤ q → A q) (hK : KB D cI cZ s) (hX : X A s) (isC : List Nat) (h1 : isC.map (fun i => ws[i]?) = wc.map some) (h2 : va_nd isC = true) : PreS s H (va_Pc As (gPX D cI cZ wc X H.size)) As := by
  have hp := gP_pre (As := As) hP hD hK isC h1 h2
  refine ⟨?_, fun U hU hW => ⟨rfl, (hp.2 U hU hW).2, st.2 A _ s U locs hX (by rw [hU]; exact hS) (va_free hD hS hA isC h1) hW⟩⟩
  intro a U g mk h
  exact ⟨h.1, (gP_blind a U g mk ⟨h.1, h.2.1⟩).2, st.1 _ U g mk a h.2.2⟩
section QX
variable {E : MEnv} {cc : ByteArray} {nL : Nat} {own : String} {rm : Room} {D : va_G} {cI cZ : ClassId} {cs : va_W} {kc ks pc : Nat} {lv : List (Nat × Value)} {st0 rest st : List Value}
variable {y : MethodName} {bytes : ByteArray} {maxL n index mc ms : Nat} {ret : Option FieldType} {rmC : Room} {wc : va_W} {Qc : Nat → Array Value → State → Outcome → State → Prop} {free : Nat → Addr → Prop} {As : List Value} {X : (Nat → Prop) → State → Prop} {adK adV : Nat → Nat}
theorem q_startRX {l : Launch} {av : List Value} {sz : Nat} {Qc : Array Value → State → Outcome → State → Prop}
    (hy : plainName y.cls = true) (hown : y.cls = own) (hl : (lg_sl av).length ≤ nL)
    (body : ∀ E : MEnv, Fx E cc nL own rm D cI cZ → RetR E ret Qc → XE X E → Wg E cs 0 0 0 (lv_args 0 av) []) :
    Met l y (wsM y cc nL ret) rm (va_Pc av (gPX D cI cZ cs X sz)) Qc 0 0 (fun _ => False) := by
  refine Met.ofW (cc := cc) (maxL := nL) (ret := ret) hy rfl ?_
  intro p e s m args below meth c s₁ B hml hv
  obtain ⟨rfl, ⟨hsz, hP, hD0, hK⟩, hX⟩ := hv
  subst hsz
  have hts := atoms_spec (ws := wsM y cc nL ret) B.pre
  have hT : ∀ w ∈ Tw, w.before av.toArray s = true := fun w h => hts w (List.mem_cons_of_mem _ h)
  have ho : s.vm.findClass y.cls = some m.cls := findClass_of_methodNamed B.named
  rw [hown] at ho
  have hl0 := lv_entry av (n := nL) hl
  rw [lg_entry_eq]
  exact body (p, l, e, rm, s, m, av.toArray, below, meth, c, MQ below Qc av.toArray s 0 0 (fun _ => False), (fun H locs => H = s.heap ∧ locs = []), D, va_A cs s.heap.size, nL, cI, cZ)
    ⟨⟨B.exec, B.bytes, hml, ho, hT⟩, rfl, rfl, rfl, rfl, rfl, hK, fun q h => Or.inr h⟩ ⟨rfl, fun _ _ h => h, B.returns, B.notSynchronized⟩ hX s.heap [] _ hP hD0.self va_S.rf ⟨rfl, rfl⟩ hl0
theorem q_startMX {l : Launch} {av : List Value} {sz mc ms : Nat} {Qc : Nat → Array Value → State → Outcome → State → Prop}
    (hy : plainName y.cls = true) (hown : y.cls = own) (hl : (lg_sl av).length ≤ nL)
    (body : ∀ E : MEnv, Fx E cc nL own rm D cI cZ → RetM E ret mc ms cs Qc → Mut E → XE X E → Wg E cs 0 0 0 (lv_args 0 av) []) :
    Met l y (wsM y cc nL ret) rm (va_Pc av (gPX D cI cZ cs X sz)) (Qc sz) mc ms (va_A cs sz) := by
  refine Met.ofW (cc := cc) (maxL := nL) (ret := ret) hy rfl ?_
  intro p e s m args below meth c s₁ B hml hv
  obtain ⟨rfl, ⟨hsz, hP, hD0, hK⟩, hX⟩ := hv
  subst hsz
  have hts := atoms_spec (ws := wsM y cc nL ret) B.pre
  have hT : ∀ w ∈ Tw, w.before av.toArray s = true := fun w h => hts w (List.mem_cons_of_mem _ h)
  have ho : s.vm.findClass y.cls = some m.cls := findClass_of_methodNamed B.named
  rw [hown] at ho
  have hl0 := lv_entry av (n := nL) hl
  rw [lg_entry_eq]
  exact body (p, l, e, rm, s, m, av.toArray, below, meth, c, MQ below (Qc s.heap.size) av.toArray s mc ms (va_A cs s.heap.size), (fun _ _ => True), D, va_A cs s.heap.size, nL, cI, cZ)
    ⟨⟨B.exec, B.bytes, hml, ho, hT⟩, rfl, rfl, rfl, rfl, rfl, hK, fun q h => Or.inr h⟩ ⟨rfl, rfl, B.returns, B.notSynchronized⟩ (fun _ _ => trivial) hX s.heap [] _ hP hD0.self va_S.rf trivial hl0
theorem q_runSX (F : Fx E cc nL own rm D cI cZ) (hX : XE X E) (sb : Stab X) (hM : ∀ (l : Launch) (sz : Nat), Met l y (wsM y bytes maxL ret) rmC (va_Pc As (gPX D cI cZ wc X sz)) (Qc sz) mc ms (free sz)) (mc9 : MC y bytes maxL ret n) (hst : Cond.static y ∈ Tw) (hlk : Cond.methodLink own index y ∈ Tw) (hR : rmC.frames + 1 ≤ rm.frames ∧ 8 + (maxL + 11) + rmC.locals ≤ rm.locals) (hk : kc + mc ≤ rm.cells ∧ ks + ms ≤ rm.slots) (hrm : rmC.cells = mc ∧ rmC.slots = ms) (isC : List Nat) (h1 : isC.map (fun i => cs[i]?) = wc.map some) (h2 : va_nd isC = true) (hn : As.length = n) (hs : st0 = As.reverse ++ rest) (hw : (rest.map fun v => v.category).sum ≤ 8) (d : decode cc pc = .ok (.invokestatic index, 3)) : RunE E cs kc ks mc ms pc lv st0 rest (fun sz => Qc sz As.toArray) free := by
  obtain ⟨p, l, e, R, s, m, args, below, meth, c, Q, HP, D0, A, nL0, cI0, cZ0⟩ := E
  obtain ⟨⟨hx, hb, hml, hown, hT⟩, rfl, rfl, rfl, rfl, rfl, hK, hA⟩ := F
  intro H locs ls hP hD hS hH hl
  exact va_runS ⟨hx, hb, hml, hown, hT⟩ (hM l H.size) ⟨(callB_of (ws' := Tw) n hT (good_T mc9.1) rfl hrm.1 hrm.2 (hT _ mc9.2.1) (hT _ hlk) mc9.2.2 hR), hT _ hst⟩ (gPX_pre sb hP hD hS hA hK hX isC h1 h2) rfl hn hl.1 hs (lv_room hw) d hk
theorem q_runVX {b ci : Nat} {C : String} {T9 : u_T} {N9 : Nat} {fs : List Value} (F : Fx E cc nL own rm D cI cZ) (hX : XE X E) (sb : Stab X) (hM : ∀ (l : Launch) (sz : Nat), Met l y (wsM y bytes maxL ret) rmC (va_Pc (.ref b :: As) (gPX D cI cZ wc X sz)) (Qc sz) mc ms (free sz)) (mc9 : MC y bytes maxL ret n) (hin : Cond.instanceMethod y ∈ Tw) (hse : Cond.selects C y y ∈ Tw) (hlk : Cond.methodLink own index y ∈ Tw) (hR : rmC.frames + 1 ≤ rm.frames ∧ 8 + (maxL + 11) + rmC.locals ≤ rm.locals) (hk : kc + mc ≤ rm.cells ∧ ks + ms ≤ rm.slots) (hrm : rmC.cells = mc ∧ rmC.slots = ms) (isC : List Nat) (h1 : isC.map (fun i => cs[i]?) = wc.map some) (h2 : va_nd isC = true) (hn : As.length = n) (z : Nat) (he : cs[z]? = some (b, .inr (ci, fs))) (hci : vwCl[ci]? = some (C, T9, N9)) (hs : st0 = As.reverse ++ .ref b :: rest) (hw : (rest.map fun v => v.category).sum ≤ 8) (d : decode cc pc = .ok (.invokevirtual index, 3)) : RunE E cs kc ks mc ms pc lv st0 rest (fun sz => Qc sz (Value.ref b :: As).toArray) free := by
  obtain ⟨p, l, e, R, s, m, args, below, meth, c, Q, HP, D0, A, nL0, cI0, cZ0⟩ := E
  obtain ⟨⟨hx, hb, hml, hown, hT⟩, rfl, rfl, rfl, rfl, rfl, hK, hA⟩ := F
  intro H locs ls hP hD hS hH hl
  have hpre := gPX_pre (As := Value.ref b :: As) sb hP hD hS hA hK hX isC h1 h2
  exact va_runV ⟨hx, hb, hml, hown, hT⟩ (hM l H.size) ⟨(callB_of (ws' := Tw) n hT (good_T mc9.1) rfl hrm.1 hrm.2 (hT _ mc9.2.1) (hT _ hlk) mc9.2.2 hR), hT _ hin, hT _ hse⟩ ⟨hpre.1, va_recv hK.1 hP hci he, hpre.2⟩ rfl hn hl.1 hs (lv_room hw) d hk
/-- a call on a String constant -/
theorem q_runVO {i : Nat} (hi : i < 6) (F : Fx E cc nL own rm D cI cZ) (hX : XE (STR adK adV) E) (hM : ∀ (l : Launch) (sz : Nat), Met l y (wsM y bytes maxL ret) rmC (va_Pc (.ref (adK i) :: As) (gPX D cI cZ [] (STR adK adV) sz)) (Qc sz) 0 0 (free sz)) (mc9 : MC y bytes maxL ret n) (hin : Cond.instanceMethod y ∈ Tw) (hse : Cond.selects "java/lang/String" y y ∈ Tw) (hlk : Cond.methodLink own index y ∈ Tw) (hR : rmC.frames + 1 ≤ rm.frames ∧ 8 + (maxL + 11) + rmC.locals ≤ rm.locals) (hk : kc + 0 ≤ rm.cells ∧ ks + 0 ≤ rm.slots) (hrm : rmC.cells = 0 ∧ rmC.slots = 0) (hn : As.length = n) (hs : st0 = As.reverse ++ .ref (adK i) :: rest) (hw : (rest.map fun v => v.category).sum ≤ 8) (d : decode cc pc = .ok (.invokevirtual index, 3)) : RunE E cs kc ks 0 0 pc lv st0 rest (fun sz => Qc sz (Value.ref (adK i) :: As).toArray) free := by
  obtain ⟨p, l, e, R, s, m, args, below, meth, c, Q, HP, D0, A, nL0, cI0, cZ0⟩ := E
  obtain ⟨⟨hx, hb, hml, hown, hT⟩, rfl, rfl, rfl, rfl, rfl, hK, hA⟩ := F
  intro H locs ls hP hD hS hH hl
  have hpre := gPX_pre (wc := []) (As := Value.ref (adK i) :: As) (STR_stab adK adV) hP hD hS hA hK hX [] rfl rfl
  exact va_runV ⟨hx, hb, hml, hown, hT⟩ (hM l H.size) ⟨(callB_of (ws' := Tw) n hT (good_T mc9.1) rfl hrm.1 hrm.2 (hT _ mc9.2.1) (hT _ hlk) mc9.2.2 hR), hT _ hin, hT _ hse⟩ ⟨hpre.1, vk_recv hX.1 hi hS, hpre.2⟩ rfl hn hl.1 hs (lv_room hw) d hk
theorem q_sval {i : Nat} (hi : i < 6) (F : Fx E cc nL RJ0 rm D cI cZ) (hX : XE (STR adK adV) E) (d : decode cc pc = .ok (.getfield 9, 3)) (k : Wg E cs kc ks (pc + 3) lv (.ref (adV i) :: st)) : Wg E cs kc ks pc lv (.ref (adK i) :: st) := by
  obtain ⟨p, l, e, R, s, m, args, below, meth, c, Q, HP, D0, A, nL0, cI0, cZ0⟩ := E
  obtain ⟨⟨hx, hb, hml, hown, hT⟩, rfl, rfl, rfl, rfl, rfl, hK, hA⟩ := F
  exact fun H locs ls hP hD hS hH hl => vk_getf hx hb ((hX.1).1 i hi).2.2.1 hS hown (hT _ flJ0_9) (fun _ h => h) d (k H locs ls hP hD hS hH hl)
theorem q_scod {i : Nat} (hi : i < 6) (F : Fx E cc nL RJ0 rm D cI cZ) (hX : XE (STR adK adV) E) (d : decode cc pc = .ok (.getfield 15, 3)) (k : Wg E cs kc ks (pc + 3) lv (.int 0 :: st)) : Wg E cs kc ks pc lv (.ref (adK i) :: st) := by
  obtain ⟨p, l, e, R, s, m, args, below, meth, c, Q, HP, D0, A, nL0, cI0, cZ0⟩ := E
  obtain ⟨⟨hx, hb, hml, hown, hT⟩, rfl, rfl, rfl, rfl, rfl, hK, hA⟩ := F
  exact fun H locs ls hP hD hS hH hl => vk_getf hx hb ((hX.1).1 i hi).2.1 hS hown (hT _ flJ0_15) (fun _ h => h) d (k H locs ls hP hD hS hH hl)
theorem q_slen {i : Nat} (hi : i < 6) (F : Fx E cc nL own rm D cI cZ) (hX : XE (STR adK adV) E) (d : decode cc pc = .ok (.arraylength, 1)) (k : Wg E cs kc ks (pc + 1) lv (.int (nI (lenJ.getD i 0)) :: st)) : Wg E cs kc ks pc lv (.ref (adV i) :: st) := by
  obtain ⟨p, l, e, R, s, m, args, below, meth, c, Q, HP, D0, A, nL0, cI0, cZ0⟩ := E
  obtain ⟨⟨hx, hb, hml, hown, hT⟩, rfl, rfl, rfl, rfl, rfl, hK, hA⟩ := F
  exact fun H locs ls hP hD hS hH hl => va_tlen hx hb ((hX.1).1 i hi).2.2.2 hS rfl d (k H locs ls hP hD hS hH hl)
theorem q_sbald {i : Nat} {x : Int32} (hi : i < 6) (F : Fx E cc nL own rm D cI cZ) (hX : XE (STR adK adV) E) (hin : vp_in x (lenJ.getD i 0)) (d : decode cc pc = .ok (.baload, 1)) (k : Wg E cs kc ks (pc + 1) lv (.int (chJ i (ix x)) :: st)) : Wg E cs kc ks pc lv (.int x :: .ref (adV i) :: st) := by
  obtain ⟨p, l, e, R, s, m, args, below, meth, c, Q, HP, D0, A, nL0, cI0, cZ0⟩ := E
  obtain ⟨⟨hx, hb, hml, hown, hT⟩, rfl, rfl, rfl, rfl, rfl, hK, hA⟩ := F
  exact fun H locs ls hP hD hS hH hl => va_tb hx hb ((hX.1).1 i hi).2.2.2 hS hin rfl d (k H locs ls hP hD hS hH hl)
theorem q_sgetC (F : Fx E cc nL RJ0 rm D cI cZ) (hX : XE (STR adK adV) E) (d : decode cc pc = .ok (.getstatic 38, 3)) (k : Wg E cs kc ks (pc + 3) lv (.int 1 :: st)) : Wg E cs kc ks pc lv st := by
  obtain ⟨p, l, e, R, s, m, args, below, meth, c, Q, HP, D0, A, nL0, cI0, cZ0⟩ := E
  obtain ⟨⟨hx, hb, hml, hown, hT⟩, rfl, rfl, rfl, rfl, rfl, hK, hA⟩ := F
  exact fun H locs ls hP hD hS hH hl => va_gets hx hb hX.2.2.1 hS hown (hT _ flJ0_38) (fun _ h => h) d (k H locs ls hP hD hS hH hl)
theorem q_sgetF (F : Fx E cc nL RJ0 rm D cI cZ) (hX : XE (STR adK adV) E) (d : decode cc pc = .ok (.getstatic 1053, 3)) (k0 : Wg E cs kc ks (pc + 3) lv (.null :: st)) (k1 : ∀ a, Wg E cs kc ks (pc + 3) lv (.ref a :: st)) : Wg E cs kc ks pc lv st := by
  obtain ⟨p, l, e, R, s, m, args, below, meth, c, Q, HP, D0, A, nL0, cI0, cZ0⟩ := E
  obtain ⟨⟨hx, hb, hml, hown, hT⟩, rfl, rfl, rfl, rfl, rfl, hK, hA⟩ := F
  intro H locs ls hP hD hS hH hl
  rcases hX.2.2.2 with h | ⟨a, h⟩
  · exact va_gets hx hb h hS hown (hT _ flJ0_1053) (fun _ h => h) d (k0 H locs ls hP hD hS hH hl)
  · exact va_gets hx hb h hS hown (hT _ flJ0_1053) (fun _ h => h) d (k1 a H locs ls hP hD hS hH hl)
theorem q_ldcS {i : Nat} {tx : String} (F : Fx E cc nL RX3 rm D cI cZ) (hX : XE (STR adK adV) E) (hr : ∀ (A : Nat → Prop) (U : State), STR adK adV A U → vk_R RX3 index tx (adK i) U) (d : decode cc pc = .ok (.ldc index, 2)) (k : Wg E cs kc ks (pc + 2) lv (.ref (adK i) :: st)) : Wg E cs kc ks pc lv st := by
  obtain ⟨p, l, e, R, s, m, args, below, meth, c, Q, HP, D0, A, nL0, cI0, cZ0⟩ := E
  obtain ⟨⟨hx, hb, hml, hown, hT⟩, rfl, rfl, rfl, rfl, rfl, hK, hA⟩ := F
  exact fun H locs ls hP hD hS hH hl => va_ldcS hx hb hown (hr A s hX) d (k H locs ls hP hD hS hH hl)
theorem q_pop {v : Value} (hv : v.category = 1) (F : Fx E cc nL own rm D cI cZ) (d : decode cc pc = .ok (.pop, 1)) (k : Wg E cs kc ks (pc + 1) lv st) : Wg E cs kc ks pc lv (v :: st) := by
  obtain ⟨p, l, e, R, s, m, args, below, meth, c, Q, HP, D0, A, nL0, cI0, cZ0⟩ := E
  obtain ⟨⟨hx, hb, hml, hown, hT⟩, rfl, rfl, rfl, rfl, rfl, hK, hA⟩ := F
  exact fun H locs ls hP hD hS hH hl => lv_pop hx hb d hv (k H locs ls hP hD hS hH hl)
theorem q_i2c {x v : Int32} (F : Fx E cc nL own rm D cI cZ) (d : decode cc pc = .ok (.i2c, 1)) (hv : (x.toUInt32 % 65536).toInt32 = v) (k : Wg E cs kc ks (pc + 1) lv (.int v :: st)) : Wg E cs kc ks pc lv (.int x :: st) := by
  obtain ⟨p, l, e, R, s, m, args, below, meth, c, Q, HP, D0, A, nL0, cI0, cZ0⟩ := E
  obtain ⟨⟨hx, hb, hml, hown, hT⟩, rfl, rfl, rfl, rfl, rfl, hK, hA⟩ := F
  exact fun H locs ls hP hD hS hH hl => lv_i2c hx hb d hv (k H locs ls hP hD hS hH hl)
theorem q_nretR {v : Int32} {ty : FieldType} {post : Int32 → Prop} (F : Fx E cc nL own rm D cI cZ) (Z : RetR E (some ty) (gR post)) (hn : narrow ty (.int v) = .int v) (d : decode cc pc = .ok (.ireturn, 1)) (h : post v) : Wg E cs 0 0 pc lv [.int v] := by
  obtain ⟨p, l, e, R, s, m, args, below, meth, c, Q, HP, D0, A, nL0, cI0, cZ0⟩ := E
  obtain ⟨⟨hx, hb, hml, hown, hT⟩, rfl, rfl, rfl, rfl, rfl, hK, hA⟩ := F
  obtain ⟨rfl, hHP, hr, hlk⟩ := Z
  intro H locs ls hP hD hS hH hl
  obtain ⟨rfl, rfl⟩ := hHP H locs hH
  exact W.zret hx hb hr hn (fun t ht hW => ⟨v, rfl, h, ht⟩) (fun q hq => by cases hq) d hlk
/-- void, nothing changed -/
theorem q_vretR {post : Prop} (F : Fx E cc nL own rm D cI cZ) (Z : RetR E none (fun _ st o t => o = .returned none ∧ post ∧ t.heap = st.heap)) (d : decode cc pc = .ok (.return_, 1)) (h : post) : Wg E cs 0 0 pc lv [] := by
  obtain ⟨p, l, e, R, s, m, args, below, meth, c, Q, HP, D0, A, nL0, cI0, cZ0⟩ := E
  obtain ⟨⟨hx, hb, hml, hown, hT⟩, rfl, rfl, rfl, rfl, rfl, hK, hA⟩ := F
  obtain ⟨rfl, hHP, hr, hlk⟩ := Z
  intro H locs ls hP hD hS hH hl
  obtain ⟨rfl, rfl⟩ := hHP H locs hH
  exact W.vret hx hb hr (fun t ht hW => ⟨rfl, h, ht⟩) (fun q hq => by cases hq) d hlk
theorem q_cRv {av : Array Value} {post : Prop} (hr : RunE E cs kc ks 0 0 pc lv st0 rest (fun _ => (fun (_ : Array Value) (st : State) (o : Outcome) (t : State) => o = .returned none ∧ post ∧ t.heap = st.heap) av) (fun _ _ => False)) (kk : post → Wg E cs kc ks (pc + 3) lv rest) : Wg E cs kc ks pc lv st0 := by
  obtain ⟨p, l, e, R, s, m, args, below, meth, c, Q, HP, D0, A, nL0, cI0, cZ0⟩ := E
  intro H locs ls hP hD hS hH hl T hT X
  obtain ⟨v, st₀, t, T', L, h0, X', hL, e1, -, ⟨hv, hp, hh⟩, stp⟩ := hr H locs ls hP hD hS hH hl T hT X
  cases hv
  obtain ⟨t2, a1, b1⟩ := kk hp H locs ls hP hD hS hH hl T' (by rw [e1, hh, h0]) (Stand.forget X' (fun q h => (hL q h).elim))
  exact ⟨t2, stp t2 a1, b1⟩
end QX
abbrev gV (post : Prop) : Array Value → State → Outcome → State → Prop := fun _ st o t => o = .returned none ∧ post ∧ t.heap = st.heap
/-- Preconditions.checkIndex(i, n, f) where i is in range, f anything -/
theorem ct_J3_checkIndex (D : va_G) (cI cZ : ClassId) (f : Value) (hf : f = .null ∨ ∃ a, f = .ref a) (p0 p1 : Int32) (h0 : ¬ p0 < 0) (h1 : p0 < p1) {post : Int32 → Prop} (h : post p0) (l : Launch) (sz : Nat) : Met l yJ3_checkIndex_8e157 (wsM yJ3_checkIndex_8e157 cJ3_checkIndex_8e157 3 (some .int)) { frames := 0, cells := 0, slots := 0, locals := 0 } (va_Pc [.int p0, .int p1, f] (gP D cI cZ [] sz)) (gR post) 0 0 (fun _ => False) := by
  refine q_startR (own := RJ3) (by decide +kernel) rfl (by rcases hf with rfl | ⟨a, rfl⟩ <;> exact Nat.le_of_ble_eq_true rfl) (fun E F Z => ?_)
  show Wg E [] 0 0 0 [(0, .int p0), (1, .int p1), (2, f)] []
  refine q_iload_n (pc := 0) F 0 dJ3_checkIndex_8e157_0 rfl ?_
  refine q_if_lt (pc := 1) (tgt := 9) F dJ3_checkIndex_8e157_1 (by decide) (fun c => absurd c h0) (fun c => ?_)
  refine q_iload_n (pc := 4) F 0 dJ3_checkIndex_8e157_4 rfl ?_
  refine q_iload_n (pc := 5) F 1 dJ3_checkIndex_8e157_5 rfl ?_
  refine q_icmp_lt (pc := 6) (tgt := 16) F dJ3_checkIndex_8e157_6 (by decide) (fun c => ?_) (fun c => absurd h1 c)
  refine q_iload_n (pc := 16) F 0 dJ3_checkIndex_8e157_16 rfl ?_
  exact q_iretR (pc := 17) F Z dJ3_checkIndex_8e157_17 h
theorem ct_J0_checkIndex (D : va_G) (cI cZ : ClassId) (adK adV : Nat → Nat) (p0 p1 : Int32) (h0 : ¬ p0 < 0) (h1 : p0 < p1) {post : Prop} (h : post) (l : Launch) (sz : Nat) : Met l yJ0_checkIndex_df160 (wsM yJ0_checkIndex_df160 cJ0_checkIndex_df160 2 none) { frames := 1, cells := 0, slots := 0, locals := 22 } (va_Pc [.int p0, .int p1] (gPX D cI cZ [] (STR adK adV) sz)) (gV post) 0 0 (fun _ => False) := by
  refine q_startRX (own := RJ0) (by decide +kernel) rfl (Nat.le_of_ble_eq_true rfl) (fun E F Z X => ?_)
  show Wg E [] 0 0 0 [(0, .int p0), (1, .int p1)] []
  refine q_iload_n (pc := 0) F 0 dJ0_checkIndex_df160_0 rfl ?_
  refine q_iload_n (pc := 1) F 1 dJ0_checkIndex_df160_1 rfl ?_
  refine q_sgetF (pc := 2) F X dJ0_checkIndex_df160_2 ?_ (fun a => ?_)
  · refine q_cR (q_runS (As := [.int p0, .int p1, .null]) (rest := []) (pc := 5) F (fun l sz => ct_J3_checkIndex D cI cZ .null (Or.inl rfl) p0 p1 h0 h1 (post := fun _ => True) trivial l sz) mc_yJ3_checkIndex_8e157 sm_yJ3_checkIndex_8e157 mlJ0_1059 ⟨by decide, by decide⟩ ⟨by decide, by decide⟩ ⟨rfl, rfl⟩ [] rfl rfl rfl rfl (Nat.le_of_ble_eq_true rfl) dJ0_checkIndex_df160_5) (fun r _ => ?_)
    refine q_pop (pc := 8) rfl F dJ0_checkIndex_df160_8 ?_
    exact q_vretR (pc := 9) F Z dJ0_checkIndex_df160_9 h
  · refine q_cR (q_runS (As := [.int p0, .int p1, .ref a]) (rest := []) (pc := 5) F (fun l sz => ct_J3_checkIndex D cI cZ (.ref a) (Or.inr ⟨a, rfl⟩) p0 p1 h0 h1 (post := fun _ => True) trivial l sz) mc_yJ3_checkIndex_8e157 sm_yJ3_checkIndex_8e157 mlJ0_1059 ⟨by decide, by decide⟩ ⟨by decide, by decide⟩ ⟨rfl, rfl⟩ [] rfl rfl rfl rfl (Nat.le_of_ble_eq_true rfl) dJ0_checkIndex_df160_5) (fun r _ => ?_)
    refine q_pop (pc := 8) rfl F dJ0_checkIndex_df160_8 ?_
    exact q_vretR (pc := 9) F Z dJ0_checkIndex_df160_9 h
theorem lenJ_small : ∀ i, i < 6 → lenJ.getD i 0 < 2 ^ 31 := by decide +kernel
theorem chJ_c : ∀ i, i < 6 → ∀ k, k < lenJ.getD i 0 → ((chJ i k &&& 255).toUInt32 % 65536).toInt32 = chJ i k ∧ narrow .char (.int (chJ i k)) = .int (chJ i k) := by decide +kernel
theorem ct_J1_charAt (D : va_G) (cI cZ : ClassId) (adK adV : Nat → Nat) (i : Nat) (hi : i < 6) (p1 : Int32) (hin : vp_in p1 (lenJ.getD i 0)) {post : Int32 → Prop} (h : post (chJ i (ix p1))) (l : Launch) (sz : Nat) : Met l yJ1_charAt_3b067 (wsM yJ1_charAt_3b067 cJ1_charAt_3b067 2 (some .char)) { frames := 2, cells := 0, slots := 0, locals := 43 } (va_Pc [.ref (adV i), .int p1] (gPX D cI cZ [] (STR adK adV) sz)) (gR (fun r => narrow .char (.int r) = .int r ∧ post r)) 0 0 (fun _ => False) := by
  have hk := Nat.not_le.mp (fun q => hin (Or.inr q))
  have h0 : ¬ p1 < 0 := fun q => hin (Or.inl q)
  have h1 : p1 < nI (lenJ.getD i 0) := by
    obtain ⟨j, hj, rfl⟩ := vp_in_of hin (lenJ_small i hi)
    exact nI_lt hj (lenJ_small i hi)
  have hc := chJ_c i hi _ hk
  refine q_startRX (own := RJ1) (by decide +kernel) rfl (Nat.le_of_ble_eq_true rfl) (fun E F Z X => ?_)
  show Wg E [] 0 0 0 [(0, .ref (adV i)), (1, .int p1)] []
  refine q_iload_n (pc := 0) F 1 dJ1_charAt_3b067_0 rfl ?_
  refine q_aload_n (pc := 1) F 0 dJ1_charAt_3b067_1 rfl ?_
  refine q_slen (pc := 2) hi F X dJ1_charAt_3b067_2 ?_
  refine q_cRv (av := #[]) (post := True) (q_runSX (As := [.int p1, .int (nI (lenJ.getD i 0))]) (rest := []) (pc := 3) F X (STR_stab adK adV) (fun l sz => ct_J0_checkIndex D cI cZ adK adV p1 (nI (lenJ.getD i 0)) h0 h1 trivial l sz) mc_yJ0_checkIndex_df160 sm_yJ0_checkIndex_df160 mlJ1_9 ⟨by decide, by decide⟩ ⟨by decide, by decide⟩ ⟨rfl, rfl⟩ [] rfl rfl rfl rfl (Nat.le_of_ble_eq_true rfl) dJ1_charAt_3b067_3) (fun _ => ?_)
  refine q_aload_n (pc := 6) F 0 dJ1_charAt_3b067_6 rfl ?_
  refine q_iload_n (pc := 7) F 1 dJ1_charAt_3b067_7 rfl ?_
  refine q_sbald (pc := 8) hi F X hin dJ1_charAt_3b067_8 ?_
  refine q_sipush (pc := 9) F (v := 255) dJ1_charAt_3b067_9 (by decide) ?_
  refine q_iand (pc := 12) F dJ1_charAt_3b067_12 ?_
  refine q_i2c (pc := 13) F dJ1_charAt_3b067_13 hc.1 ?_
  exact q_nretR (pc := 14) F Z hc.2 dJ1_charAt_3b067_14 ⟨hc.2, h⟩
theorem ct_J0_isLatin1 (D : va_G) (cI cZ : ClassId) (adK adV : Nat → Nat) (i : Nat) (hi : i < 6) {post : Int32 → Prop} (h : post 1) (l : Launch) (sz : Nat) : Met l yJ0_isLatin1_aae02 (wsM yJ0_isLatin1_aae02 cJ0_isLatin1_aae02 1 (some .boolean)) { frames := 0, cells := 0, slots := 0, locals := 0 } (va_Pc [.ref (adK i)] (gPX D cI cZ [] (STR adK adV) sz)) (gR post) 0 0 (fun _ => False) := by
  refine q_startRX (own := RJ0) (by decide +kernel) rfl (Nat.le_of_ble_eq_true rfl) (fun E F Z X => ?_)
  show Wg E [] 0 0 0 [(0, .ref (adK i))] []
  refine q_sgetC (pc := 0) F X dJ0_isLatin1_aae02_0 ?_
  refine q_if_eq (pc := 3) (tgt := 17) F dJ0_isLatin1_aae02_3 (by decide) (fun c => absurd c (by decide)) (fun c => ?_)
  refine q_aload_n (pc := 6) F 0 dJ0_isLatin1_aae02_6 rfl ?_
  refine q_scod (pc := 7) hi F X dJ0_isLatin1_aae02_7 ?_
  refine q_if_ne (pc := 10) (tgt := 17) F dJ0_isLatin1_aae02_10 (by decide) (fun c => absurd rfl c) (fun c => ?_)
  refine q_iconst (pc := 13) F (v := 1) dJ0_isLatin1_aae02_13 (by decide) ?_
  refine q_goto (pc := 14) (tgt := 18) F dJ0_isLatin1_aae02_14 (by decide) ?_
  exact q_nretR (pc := 18) F Z rfl dJ0_isLatin1_aae02_18 h
theorem ct_J0_coder (D : va_G) (cI cZ : ClassId) (adK adV : Nat → Nat) (i : Nat) (hi : i < 6) {post : Int32 → Prop} (h : post 0) (l : Launch) (sz : Nat) : Met l yJ0_coder_7d493 (wsM yJ0_coder_7d493 cJ0_coder_7d493 1 (some .byte)) { frames := 0, cells := 0, slots := 0, locals := 0 } (va_Pc [.ref (adK i)] (gPX D cI cZ [] (STR adK adV) sz)) (gR post) 0 0 (fun _ => False) := by
  refine q_startRX (own := RJ0) (by decide +kernel) rfl (Nat.le_of_ble_eq_true rfl) (fun E F Z X => ?_)
  show Wg E [] 0 0 0 [(0, .ref (adK i))] []
  refine q_sgetC (pc := 0) F X dJ0_coder_7d493_0 ?_
  refine q_if_eq (pc := 3) (tgt := 13) F dJ0_coder_7d493_3 (by decide) (fun c => absurd c (by decide)) (fun c => ?_)
  refine q_aload_n (pc := 6) F 0 dJ0_coder_7d493_6 rfl ?_
  refine q_scod (pc := 7) hi F X dJ0_coder_7d493_7 ?_
  refine q_goto (pc := 10) (tgt := 14) F dJ0_coder_7d493_10 (by decide) ?_
  exact q_nretR (pc := 14) F Z rfl dJ0_coder_7d493_14 h
def wp_J0_length (i : Nat) (post : Int32 → Prop) : Prop := i < 6 ∧ post (nI (lenJ.getD i 0))
def wp_J0_charAt (i : Nat) (x : Int32) (post : Int32 → Prop) : Prop := i < 6 ∧ vp_in x (lenJ.getD i 0) ∧ post (chJ i (ix x))
theorem ct_J0_length (D : va_G) (cI cZ : ClassId) (adK adV : Nat → Nat) (i : Nat) {post : Int32 → Prop} (h : wp_J0_length i post) (l : Launch) (sz : Nat) : Met l yJ0_length_8abf5 (wsM yJ0_length_8abf5 cJ0_length_8abf5 1 (some .int)) { frames := 1, cells := 0, slots := 0, locals := 20 } (va_Pc [.ref (adK i)] (gPX D cI cZ [] (STR adK adV) sz)) (gR post) 0 0 (fun _ => False) := by
  obtain ⟨hi, h⟩ := h
  refine q_startRX (own := RJ0) (by decide +kernel) rfl (Nat.le_of_ble_eq_true rfl) (fun E F Z X => ?_)
  show Wg E [] 0 0 0 [(0, .ref (adK i))] []
  refine q_aload_n (pc := 0) F 0 dJ0_length_8abf5_0 rfl ?_
  refine q_sval (pc := 1) hi F X dJ0_length_8abf5_1 ?_
  refine q_slen (pc := 4) hi F X dJ0_length_8abf5_4 ?_
  refine q_aload_n (pc := 5) F 0 dJ0_length_8abf5_5 rfl ?_
  refine q_cR (q_runVO (As := []) (rest := [.int (nI (lenJ.getD i 0))]) (pc := 6) hi F X (fun l sz => ct_J0_coder D cI cZ adK adV i hi (post := fun r => r = 0) rfl l sz) mc_yJ0_coder_7d493 im_yJ0_coder_7d493 se_yJ0_coder_7d493 mlJ0_335 ⟨by decide, by decide⟩ ⟨by decide, by decide⟩ ⟨rfl, rfl⟩ rfl rfl (Nat.le_of_ble_eq_true rfl) dJ0_length_8abf5_6) (fun r hr => ?_)
  subst hr
  refine q_ishr (pc := 9) F dJ0_length_8abf5_9 ?_
  have e9 : jshr (nI (lenJ.getD i 0)) 0 = nI (lenJ.getD i 0) := sb_shr0 _
  rw [e9]
  exact q_iretR (pc := 10) F Z dJ0_length_8abf5_10 h
theorem ct_J0_charAt (D : va_G) (cI cZ : ClassId) (adK adV : Nat → Nat) (i : Nat) (p0 : Int32) {post : Int32 → Prop} (h : wp_J0_charAt i p0 post) (l : Launch) (sz : Nat) : Met l yJ0_charAt_5068e (wsM yJ0_charAt_5068e cJ0_charAt_5068e 2 (some .char)) { frames := 3, cells := 0, slots := 0, locals := 64 } (va_Pc [.ref (adK i), .int p0] (gPX D cI cZ [] (STR adK adV) sz)) (gR post) 0 0 (fun _ => False) := by
  obtain ⟨hi, hin, h⟩ := h
  refine q_startRX (own := RJ0) (by decide +kernel) rfl (Nat.le_of_ble_eq_true rfl) (fun E F Z X => ?_)
  show Wg E [] 0 0 0 [(0, .ref (adK i)), (1, .int p0)] []
  refine q_aload_n (pc := 0) F 0 dJ0_charAt_5068e_0 rfl ?_
  refine q_cR (q_runVO (As := []) (rest := []) (pc := 1) hi F X (fun l sz => ct_J0_isLatin1 D cI cZ adK adV i hi (post := fun r => r = 1) rfl l sz) mc_yJ0_isLatin1_aae02 im_yJ0_isLatin1_aae02 se_yJ0_isLatin1_aae02 mlJ0_492 ⟨by decide, by decide⟩ ⟨by decide, by decide⟩ ⟨rfl, rfl⟩ rfl rfl (Nat.le_of_ble_eq_true rfl) dJ0_charAt_5068e_1) (fun r hr => ?_)
  subst hr
  refine q_if_eq (pc := 4) (tgt := 16) F dJ0_charAt_5068e_4 (by decide) (fun c => absurd c (by decide)) (fun c => ?_)
  refine q_aload_n (pc := 7) F 0 dJ0_charAt_5068e_7 rfl ?_
  refine q_sval (pc := 8) hi F X dJ0_charAt_5068e_8 ?_
  refine q_iload_n (pc := 11) F 1 dJ0_charAt_5068e_11 rfl ?_
  refine q_cR (q_runSX (As := [.ref (adV i), .int p0]) (rest := []) (pc := 12) F X (STR_stab adK adV) (fun l sz => ct_J1_charAt D cI cZ adK adV i hi p0 hin h l sz) mc_yJ1_charAt_3b067 sm_yJ1_charAt_3b067 mlJ0_495 ⟨by decide, by decide⟩ ⟨by decide, by decide⟩ ⟨rfl, rfl⟩ [] rfl rfl rfl rfl (Nat.le_of_ble_eq_true rfl) dJ0_charAt_5068e_12) (fun r hr => ?_)
  exact q_nretR (pc := 15) F Z hr.1 dJ0_charAt_5068e_15 hr.2
