/-! The tables' words that hold in every method (Tw), the bundle of a method's standing facts (MEnv, Fx), the judgement Wg (the machine at a frame, over a list of cells), one row an instruction. -/
def Tw : List Cond := lw_tbl.filter goodWord
theorem tw_of {w : Cond} (h : w ∈ lw_tbl) (g : goodWord w = true) : w ∈ Tw := List.mem_filter.mpr ⟨h, g⟩
theorem tw_t {w : Cond} (i : Nat) (h : tables_1[i]? = some w) (g : goodWord w = true) : w ∈ Tw := tw_of (List.mem_append_right _ (List.mem_of_getElem? h)) g
theorem tw_s {w : Cond} (i : Nat) (h : (k2_sels lw_privs)[i]? = some w) (g : goodWord w = true) : w ∈ Tw := tw_of (List.mem_append_left _ (List.mem_of_getElem? h)) g
abbrev wsM (y : MethodName) (cc : ByteArray) (n : Nat) (r : Option FieldType) : List Cond := Cond.code y cc n r :: Tw
theorem good_T {y : MethodName} {cc : ByteArray} {n : Nat} {r : Option FieldType} (h : Cond.code y cc n r ∈ Tw) : GoodIn Tw (wsM y cc n r) := by
  intro w hw
  have h1 : w ∈ Tw := by
    rcases List.mem_cons.mp hw with e | e
    · rw [e]; exact h
    · exact e
  exact ⟨h1, good_of_word (List.mem_filter.mp h1).2⟩
def nestOk (U : State) : Prop := va_Nw (.methodLinkNest RX4 11 yX3_init RX4) U ∧ va_Nw (.methodLinkNest RX4 18 yX1_init RX4) U ∧ va_Nw (.methodLinkNest RX4 35 yX0_init RX4) U ∧ va_Nw (.methodLinkNest RX0 73 yX4_bitOf RX4) U ∧ va_Nw (.methodLinkNest RX1 46 yX4_bitOf RX4) U ∧ va_Nw (.methodLinkNest RX2 42 yX4_bitOf RX4) U ∧ va_Nw (.methodLinkNest RX3 92 yX4_bitOf RX4) U
theorem nestOk.warm {s U : State} (hW : s.WarmedH U.vm) (h : nestOk s) : nestOk U := ⟨va_Nw.warmM hW h.1, va_Nw.warmM hW h.2.1, va_Nw.warmM hW h.2.2.1, va_Nw.warmM hW h.2.2.2.1, va_Nw.warmM hW h.2.2.2.2.1, va_Nw.warmM hW h.2.2.2.2.2.1, va_Nw.warmM hW h.2.2.2.2.2.2⟩
theorem nestOk.same {s U : State} (hv : s.vm = U.vm) (h : nestOk s) : nestOk U := ⟨va_Nw.same rfl hv h.1, va_Nw.same rfl hv h.2.1, va_Nw.same rfl hv h.2.2.1, va_Nw.same rfl hv h.2.2.2.1, va_Nw.same rfl hv h.2.2.2.2.1, va_Nw.same rfl hv h.2.2.2.2.2.1, va_Nw.same rfl hv h.2.2.2.2.2.2⟩
abbrev tysK (cI cZ : ClassId) : List (ClassId × FieldType) := [(cI, .int), (cZ, .boolean)]
def KB (D : va_G) (cI cZ : ClassId) (U : State) : Prop := va_K D vwCl (tysK cI cZ) U ∧ nestOk U
theorem KB.warm {D : va_G} {cI cZ : ClassId} {s U : State} (hW : s.WarmedH U.vm) (h : KB D cI cZ s) : KB D cI cZ U := ⟨va_K.moved hW.alike h.1, h.2.warm hW⟩
theorem KB.same {D : va_G} {cI cZ : ClassId} {s U : State} (hv : s.vm = U.vm) (h : KB D cI cZ s) : KB D cI cZ U := ⟨va_K.moved (hv ▸ Vm.Alike.refl s.vm) h.1, h.2.same hv⟩
/-- a method's start: the cells cs, the heap's size, the tables -/
def gP (D : va_G) (cI cZ : ClassId) (cs : va_W) (sz : Nat) (U : State) : Prop := U.heap.size = sz ∧ va_P D vwCl cs U.heap ∧ va_D (fun _ => True) cs ∧ KB D cI cZ U
theorem gP_blind {D : va_G} {cI cZ : ClassId} {cs : va_W} {sz : Nat} {av : List Value} : FrameBlind (va_Pc av (gP D cI cZ cs sz)) := by
  intro a U g mk h
  obtain ⟨h0, h1, h2, h3, h4⟩ := h
  exact ⟨h0, h1, h2, h3, h4.same rfl⟩
theorem map_fm {α β : Type} {f : α → Option β} : ∀ {l : List α} {w : List β}, l.map f = w.map some → l.filterMap f = w
  | [], [], _ => rfl
  | [], _ :: _, h => by cases h
  | _ :: _, [], h => by cases h
  | a :: l, b :: w, h => by
    rw [List.map_cons, List.map_cons] at h
    injection h with h1 h2
    rw [List.filterMap_cons, h1]
    exact congrArg (b :: ·) (map_fm h2)
theorem gP_pre {D : va_G} {cI cZ : ClassId} {ws wc : va_W} {s : State} {H : Heap} {A : Nat → Prop} {As : List Value} (hP : va_P D vwCl ws H) (hD : va_D A ws) (hK : KB D cI cZ s) (isC : List Nat) (h1 : isC.map (fun i => ws[i]?) = wc.map some) (h2 : va_nd isC = true) : PreS s H (va_Pc As (gP D cI cZ wc H.size)) As :=
  ⟨gP_blind, fun U hU hW => ⟨rfl, by rw [hU], by rw [hU]; exact hP.sub isC (map_fm h1), (hD.sub isC h2 h1).weaken (fun _ _ _ _ => trivial), hK.warm hW⟩⟩
/-- ends: an int, the heap unchanged; an int and new cells; nothing and new cells; a long, a reference, the heap unchanged -/
def gR (post : Int32 → Prop) : Array Value → State → Outcome → State → Prop := fun _ st o t => ∃ r : Int32, o = .returned (some (.int r)) ∧ post r ∧ t.heap = st.heap
def gRl (post : Int64 → Prop) : Array Value → State → Outcome → State → Prop := fun _ st o t => ∃ r : Int64, o = .returned (some (.long r)) ∧ post r ∧ t.heap = st.heap
def gRr (a : Nat) (post : Prop) : Array Value → State → Outcome → State → Prop := fun _ st o t => o = .returned (some (.ref a)) ∧ post ∧ t.heap = st.heap
def gQi {S : Type} (D : va_G) (post : Int32 → S → Prop) (CE : S → va_W) (cs : va_W) (sz : Nat) : Array Value → State → Outcome → State → Prop := va_Qi post (fun u t => va_P D vwCl (CE u) t.heap ∧ va_D (va_A cs sz) (CE u)) (va_A cs sz)
def gQv {S : Type} (D : va_G) (post : S → Prop) (CE : S → va_W) (cs : va_W) (sz : Nat) : Array Value → State → Outcome → State → Prop := va_Qv post (fun u t => va_P D vwCl (CE u) t.heap ∧ va_D (va_A cs sz) (CE u)) (va_A cs sz)
def isB (r : Int32) : Prop := r = 0 ∨ r = 1
theorem isB_nar {v : Int32} (h : isB v) : narrow .boolean (.int v) = .int v := by
  rcases h with rfl | rfl <;> rfl
abbrev MEnv : Type := Program × Launch × Env × Room × State × MethodId × Array Value × List Frame × Method × Code × (State → Prop) × (Heap → List Loc → Prop) × va_G × (Nat → Prop) × Nat × ClassId × ClassId
def Wg : MEnv → va_W → Nat → Nat → Nat → List (Nat × Value) → List Value → Prop
  | (p, l, e, R, s, m, args, below, meth, c, Q, HP, D, A, nL, _, _), cs, kc, ks, pc, lv, st => ∀ (H : Heap) (locs : List Loc) (ls : Array Slot), va_P D vwCl cs H → va_D A cs → va_S A s.heap H locs → HP H locs → lv_has ls nL lv → W p l e R s m args below meth c H locs kc ks Q (F0 m pc ls st)
def Fx : MEnv → ByteArray → Nat → String → Room → va_G → ClassId → ClassId → Prop
  | (p, _, _, R, s, m, args, _, _, c, _, _, D, A, nL, cI, cZ), cc, nL', own, rm, D', cI', cZ' => CallFix p m c cc nL s args Tw own ∧ nL' = nL ∧ rm = R ∧ D' = D ∧ cI' = cI ∧ cZ' = cZ ∧ KB D cI cZ s ∧ (∀ q, s.heap.size ≤ q → A q)
def Mut : MEnv → Prop
  | (_, _, _, _, _, _, _, _, _, _, _, HP, _, _, _, _, _) => ∀ H locs, HP H locs
/-- read-only ends -/
def RetR : MEnv → Option FieldType → (Array Value → State → Outcome → State → Prop) → Prop
  | (_, _, _, _, s, _, args, below, meth, _, Q, HP, _, _, _, _, _), ret, Qc => Q = MQ below Qc args s 0 0 (fun _ => False) ∧ (∀ H locs, HP H locs → H = s.heap ∧ locs = []) ∧ meth.sig.returnType = ret ∧ meth.locks = false
def RetM : MEnv → Option FieldType → Nat → Nat → va_W → (Nat → Array Value → State → Outcome → State → Prop) → Prop
  | (_, _, _, _, s, _, args, below, meth, _, Q, _, _, A, _, _, _), ret, mc, ms, cs0, Qc => Q = MQ below (Qc s.heap.size) args s mc ms (va_A cs0 s.heap.size) ∧ A = va_A cs0 s.heap.size ∧ meth.sig.returnType = ret ∧ meth.locks = false
theorem q_startR {l : Launch} {y : MethodName} {cc : ByteArray} {nL : Nat} {ret : Option FieldType} {rm : Room} {av : List Value} {D : va_G} {cI cZ : ClassId} {cs : va_W} {sz : Nat} {Qc : Array Value → State → Outcome → State → Prop} {own : String}
    (hy : plainName y.cls = true) (hown : y.cls = own) (hl : (lg_sl av).length ≤ nL)
    (body : ∀ E : MEnv, Fx E cc nL own rm D cI cZ → RetR E ret Qc → Wg E cs 0 0 0 (lv_args 0 av) []) :
    Met l y (wsM y cc nL ret) rm (va_Pc av (gP D cI cZ cs sz)) Qc 0 0 (fun _ => False) := by
  refine Met.ofW (cc := cc) (maxL := nL) (ret := ret) hy rfl ?_
  intro p e s m args below meth c s₁ B hml hv
  obtain ⟨rfl, hsz, hP, hD0, hK⟩ := hv
  have hts := atoms_spec (ws := wsM y cc nL ret) B.pre
  have hT : ∀ w ∈ Tw, w.before av.toArray s = true := fun w h => hts w (List.mem_cons_of_mem _ h)
  have ho : s.vm.findClass y.cls = some m.cls := findClass_of_methodNamed B.named
  rw [hown] at ho
  have hl0 := lv_entry av (n := nL) hl
  rw [lg_entry_eq]
  exact body (p, l, e, rm, s, m, av.toArray, below, meth, c, MQ below Qc av.toArray s 0 0 (fun _ => False), (fun H locs => H = s.heap ∧ locs = []), D, va_A cs s.heap.size, nL, cI, cZ)
    ⟨⟨B.exec, B.bytes, hml, ho, hT⟩, rfl, rfl, rfl, rfl, rfl, hK, fun q h => Or.inr h⟩ ⟨rfl, fun _ _ h => h, B.returns, B.notSynchronized⟩ s.heap [] _ hP hD0.self va_S.rf ⟨rfl, rfl⟩ hl0
theorem q_startM {l : Launch} {y : MethodName} {cc : ByteArray} {nL : Nat} {ret : Option FieldType} {rm : Room} {av : List Value} {D : va_G} {cI cZ : ClassId} {cs : va_W} {sz mc ms : Nat} {Qc : Nat → Array Value → State → Outcome → State → Prop} {own : String}
    (hy : plainName y.cls = true) (hown : y.cls = own) (hl : (lg_sl av).length ≤ nL)
    (body : ∀ E : MEnv, Fx E cc nL own rm D cI cZ → RetM E ret mc ms cs Qc → Mut E → Wg E cs 0 0 0 (lv_args 0 av) []) :
    Met l y (wsM y cc nL ret) rm (va_Pc av (gP D cI cZ cs sz)) (Qc sz) mc ms (va_A cs sz) := by
  refine Met.ofW (cc := cc) (maxL := nL) (ret := ret) hy rfl ?_
  intro p e s m args below meth c s₁ B hml hv
  obtain ⟨rfl, hsz, hP, hD0, hK⟩ := hv
  subst hsz
  have hts := atoms_spec (ws := wsM y cc nL ret) B.pre
  have hT : ∀ w ∈ Tw, w.before av.toArray s = true := fun w h => hts w (List.mem_cons_of_mem _ h)
  have ho : s.vm.findClass y.cls = some m.cls := findClass_of_methodNamed B.named
  rw [hown] at ho
  have hl0 := lv_entry av (n := nL) hl
  rw [lg_entry_eq]
  exact body (p, l, e, rm, s, m, av.toArray, below, meth, c, MQ below (Qc s.heap.size) av.toArray s mc ms (va_A cs s.heap.size), (fun _ _ => True), D, va_A cs s.heap.size, nL, cI, cZ)
    ⟨⟨B.exec, B.bytes, hml, ho, hT⟩, rfl, rfl, rfl, rfl, rfl, hK, fun q h => Or.inr h⟩ ⟨rfl, rfl, B.returns, B.notSynchronized⟩ (fun _ _ => trivial) s.heap [] _ hP hD0.self va_S.rf trivial hl0
/-- a join: where several roads meet -/
def jn {τ : Type} (F : τ → Prop) (K : τ) : Prop := F K
theorem jnW {τ : Type} {F : τ → Prop} {K : τ} {G : Prop} (h : jn F K) (P : τ → Prop) (hJ : P K) (hB : ∀ K, P K → F K → G) : G := hB K hJ h
/-- the machine's own arithmetic, by short names -/
def jshl (x y : Int32) : Int32 := x <<< (y &&& 31)
def jshr (x y : Int32) : Int32 := x >>> (y &&& 31)
def jushr (x y : Int32) : Int32 := (x.toUInt32 >>> (y.toUInt32 &&& Int32.toUInt32 31)).toInt32
def jrem (x y : Int32) : Int32 := x - x / y * y
def jlshl (x : Int64) (y : Int32) : Int64 := x <<< (y.toInt64 &&& 63)
def jlshr (x : Int64) (y : Int32) : Int64 := x >>> (y.toInt64 &&& 63)
def jlushr (x : Int64) (y : Int32) : Int64 := (x.toUInt64 >>> (y.toInt64.toUInt64 &&& Int64.toUInt64 63)).toInt64
def jmax (x y : Int32) : Int32 := if x < y then y else x
def jmin (x y : Int32) : Int32 := if y < x then y else x
def jabs (x : Int32) : Int32 := if 0 ≤ x then x else 0 - x
section QR
variable {E : MEnv} {cc : ByteArray} {nL : Nat} {own : String} {rm : Room} {D : va_G} {cI cZ : ClassId} {cs : va_W} {kc ks pc : Nat} {lv : List (Nat × Value)} {st : List Value}
theorem q_iconst {n : Int} {v : Int32} (F : Fx E cc nL own rm D cI cZ) (d : decode cc pc = .ok (.iconst n, 1)) (hv : Int32.ofInt n = v) (k : Wg E cs kc ks (pc + 1) lv (.int v :: st)) : Wg E cs kc ks pc lv (st) := by
  obtain ⟨p, l, e, R, s, m, args, below, meth, c, Q, HP, D0, A, nL0, cI0, cZ0⟩ := E
  obtain ⟨⟨hx, hb, hml, hown, hT⟩, rfl, rfl, rfl, rfl, rfl, hK, hA⟩ := F
  exact fun H locs ls hP hD hS hH hl => lv_iconst hx hb d hv (k H locs ls hP hD hS hH hl)
theorem q_bipush {n : Int} {v : Int32} (F : Fx E cc nL own rm D cI cZ) (d : decode cc pc = .ok (.bipush n, 2)) (hv : (Int8.ofInt n).toInt32 = v) (k : Wg E cs kc ks (pc + 2) lv (.int v :: st)) : Wg E cs kc ks pc lv (st) := by
  obtain ⟨p, l, e, R, s, m, args, below, meth, c, Q, HP, D0, A, nL0, cI0, cZ0⟩ := E
  obtain ⟨⟨hx, hb, hml, hown, hT⟩, rfl, rfl, rfl, rfl, rfl, hK, hA⟩ := F
  exact fun H locs ls hP hD hS hH hl => lv_bipush hx hb d hv (k H locs ls hP hD hS hH hl)
theorem q_sipush {n : Int} {v : Int32} (F : Fx E cc nL own rm D cI cZ) (d : decode cc pc = .ok (.sipush n, 3)) (hv : (Int16.ofInt n).toInt32 = v) (k : Wg E cs kc ks (pc + 3) lv (.int v :: st)) : Wg E cs kc ks pc lv (st) := by
  obtain ⟨p, l, e, R, s, m, args, below, meth, c, Q, HP, D0, A, nL0, cI0, cZ0⟩ := E
  obtain ⟨⟨hx, hb, hml, hown, hT⟩, rfl, rfl, rfl, rfl, rfl, hK, hA⟩ := F
  exact fun H locs ls hP hD hS hH hl => lv_sipush hx hb d hv (k H locs ls hP hD hS hH hl)
theorem q_lconst {n : Fin 2} {v : Int64} (F : Fx E cc nL own rm D cI cZ) (d : decode cc pc = .ok (.lconst n, 1)) (hv : Int64.ofNat (n : Nat) = v) (k : Wg E cs kc ks (pc + 1) lv (.long v :: st)) : Wg E cs kc ks pc lv (st) := by
  obtain ⟨p, l, e, R, s, m, args, below, meth, c, Q, HP, D0, A, nL0, cI0, cZ0⟩ := E
  obtain ⟨⟨hx, hb, hml, hown, hT⟩, rfl, rfl, rfl, rfl, rfl, hK, hA⟩ := F
  exact fun H locs ls hP hD hS hH hl => lv_lconst hx hb d hv (k H locs ls hP hD hS hH hl)
theorem q_null  (F : Fx E cc nL own rm D cI cZ) (d : decode cc pc = .ok (.aconst_null, 1)) (k : Wg E cs kc ks (pc + 1) lv (.null :: st)) : Wg E cs kc ks pc lv (st) := by
  obtain ⟨p, l, e, R, s, m, args, below, meth, c, Q, HP, D0, A, nL0, cI0, cZ0⟩ := E
  obtain ⟨⟨hx, hb, hml, hown, hT⟩, rfl, rfl, rfl, rfl, rfl, hK, hA⟩ := F
  exact fun H locs ls hP hD hS hH hl => lv_null hx hb d (k H locs ls hP hD hS hH hl)
theorem q_ldc {index : Nat} {v : Int32} (F : Fx E cc nL own rm D cI cZ) (hc : Cond.constant own index v ∈ Tw) (d : decode cc pc = .ok (.ldc index, 2)) (k : Wg E cs kc ks (pc + 2) lv (.int v :: st)) : Wg E cs kc ks pc lv (st) := by
  obtain ⟨p, l, e, R, s, m, args, below, meth, c, Q, HP, D0, A, nL0, cI0, cZ0⟩ := E
  obtain ⟨⟨hx, hb, hml, hown, hT⟩, rfl, rfl, rfl, rfl, rfl, hK, hA⟩ := F
  exact fun H locs ls hP hD hS hH hl => lv_ldc hx hb hown (hT _ hc) d (k H locs ls hP hD hS hH hl)
theorem q_ldcw {index : Nat} {v : Int32} (F : Fx E cc nL own rm D cI cZ) (hc : Cond.constant own index v ∈ Tw) (d : decode cc pc = .ok (.ldc_w index, 3)) (k : Wg E cs kc ks (pc + 3) lv (.int v :: st)) : Wg E cs kc ks pc lv (st) := by
  obtain ⟨p, l, e, R, s, m, args, below, meth, c, Q, HP, D0, A, nL0, cI0, cZ0⟩ := E
  obtain ⟨⟨hx, hb, hml, hown, hT⟩, rfl, rfl, rfl, rfl, rfl, hK, hA⟩ := F
  exact fun H locs ls hP hD hS hH hl => lv_ldcw hx hb hown (hT _ hc) d (k H locs ls hP hD hS hH hl)
theorem q_ldc2 {index : Nat} {v : Int64} (F : Fx E cc nL own rm D cI cZ) (hc : Cond.constantLong own index v ∈ Tw) (d : decode cc pc = .ok (.ldc2_w index, 3)) (k : Wg E cs kc ks (pc + 3) lv (.long v :: st)) : Wg E cs kc ks pc lv (st) := by
  obtain ⟨p, l, e, R, s, m, args, below, meth, c, Q, HP, D0, A, nL0, cI0, cZ0⟩ := E
  obtain ⟨⟨hx, hb, hml, hown, hT⟩, rfl, rfl, rfl, rfl, rfl, hK, hA⟩ := F
  exact fun H locs ls hP hD hS hH hl => lv_ldc2 hx hb hown (hT _ hc) d (k H locs ls hP hD hS hH hl)
theorem q_iload_n {j : Fin 4} {x : Int32} (F : Fx E cc nL own rm D cI cZ) (z : Nat) (d : decode cc pc = .ok (.iload_n j, 1)) (hz : lv[z]? = some ((j : Nat), Value.int x)) (k : Wg E cs kc ks (pc + 1) lv (.int x :: st)) : Wg E cs kc ks pc lv (st) := by
  obtain ⟨p, l, e, R, s, m, args, below, meth, c, Q, HP, D0, A, nL0, cI0, cZ0⟩ := E
  obtain ⟨⟨hx, hb, hml, hown, hT⟩, rfl, rfl, rfl, rfl, rfl, hK, hA⟩ := F
  exact fun H locs ls hP hD hS hH hl => lv_iload_n hx hb d rfl (lv_at hl z hz) (k H locs ls hP hD hS hH hl)
theorem q_iload {i : Nat} {x : Int32} (F : Fx E cc nL own rm D cI cZ) (z : Nat) (d : decode cc pc = .ok (.iload i, 2)) (hz : lv[z]? = some (i, Value.int x)) (k : Wg E cs kc ks (pc + 2) lv (.int x :: st)) : Wg E cs kc ks pc lv (st) := by
  obtain ⟨p, l, e, R, s, m, args, below, meth, c, Q, HP, D0, A, nL0, cI0, cZ0⟩ := E
  obtain ⟨⟨hx, hb, hml, hown, hT⟩, rfl, rfl, rfl, rfl, rfl, hK, hA⟩ := F
  exact fun H locs ls hP hD hS hH hl => lv_iload hx hb d (lv_at hl z hz) (k H locs ls hP hD hS hH hl)
theorem q_lload_n {j : Fin 4} {x : Int64} (F : Fx E cc nL own rm D cI cZ) (z : Nat) (d : decode cc pc = .ok (.lload_n j, 1)) (hz : lv[z]? = some ((j : Nat), Value.long x)) (k : Wg E cs kc ks (pc + 1) lv (.long x :: st)) : Wg E cs kc ks pc lv (st) := by
  obtain ⟨p, l, e, R, s, m, args, below, meth, c, Q, HP, D0, A, nL0, cI0, cZ0⟩ := E
  obtain ⟨⟨hx, hb, hml, hown, hT⟩, rfl, rfl, rfl, rfl, rfl, hK, hA⟩ := F
  exact fun H locs ls hP hD hS hH hl => lv_lload_n hx hb d rfl (lv_at hl z hz) (k H locs ls hP hD hS hH hl)
theorem q_aload_n {j : Fin 4} {x : Nat} (F : Fx E cc nL own rm D cI cZ) (z : Nat) (d : decode cc pc = .ok (.aload_n j, 1)) (hz : lv[z]? = some ((j : Nat), Value.ref x)) (k : Wg E cs kc ks (pc + 1) lv (.ref x :: st)) : Wg E cs kc ks pc lv (st) := by
  obtain ⟨p, l, e, R, s, m, args, below, meth, c, Q, HP, D0, A, nL0, cI0, cZ0⟩ := E
  obtain ⟨⟨hx, hb, hml, hown, hT⟩, rfl, rfl, rfl, rfl, rfl, hK, hA⟩ := F
  exact fun H locs ls hP hD hS hH hl => lv_aload_n hx hb d rfl (lv_at hl z hz) (k H locs ls hP hD hS hH hl)
theorem q_aload {i : Nat} {x : Nat} (F : Fx E cc nL own rm D cI cZ) (z : Nat) (d : decode cc pc = .ok (.aload i, 2)) (hz : lv[z]? = some (i, Value.ref x)) (k : Wg E cs kc ks (pc + 2) lv (.ref x :: st)) : Wg E cs kc ks pc lv (st) := by
  obtain ⟨p, l, e, R, s, m, args, below, meth, c, Q, HP, D0, A, nL0, cI0, cZ0⟩ := E
  obtain ⟨⟨hx, hb, hml, hown, hT⟩, rfl, rfl, rfl, rfl, rfl, hK, hA⟩ := F
  exact fun H locs ls hP hD hS hH hl => lv_aload hx hb d (lv_at hl z hz) (k H locs ls hP hD hS hH hl)
theorem q_aloadN {i : Nat} (F : Fx E cc nL own rm D cI cZ) (z : Nat) (d : decode cc pc = .ok (.aload i, 2)) (hz : lv[z]? = some (i, Value.null)) (k : Wg E cs kc ks (pc + 2) lv (.null :: st)) : Wg E cs kc ks pc lv (st) := by
  obtain ⟨p, l, e, R, s, m, args, below, meth, c, Q, HP, D0, A, nL0, cI0, cZ0⟩ := E
  obtain ⟨⟨hx, hb, hml, hown, hT⟩, rfl, rfl, rfl, rfl, rfl, hK, hA⟩ := F
  exact fun H locs ls hP hD hS hH hl => lv_aloadN hx hb d (lv_at hl z hz) (k H locs ls hP hD hS hH hl)
theorem q_istore_n {j : Fin 4} {x : Int32} {lv' : List (Nat × Value)} (F : Fx E cc nL own rm D cI cZ) (d : decode cc pc = .ok (.istore_n j, 1)) (hn : (j : Nat) < nL) (hl9 : ((j : Nat), Value.int x) :: lv.filter (fun q => !(q.1 == (j : Nat)) && !(q.1 + 1 == (j : Nat) && q.2.category == 2)) = lv') (k : Wg E cs kc ks (pc + 1) lv' (st)) : Wg E cs kc ks pc lv (.int x :: st) := by
  obtain ⟨p, l, e, R, s, m, args, below, meth, c, Q, HP, D0, A, nL0, cI0, cZ0⟩ := E
  obtain ⟨⟨hx, hb, hml, hown, hT⟩, rfl, rfl, rfl, rfl, rfl, hK, hA⟩ := F
  exact fun H locs ls hP hD hS hH hl => lv_istore_n hx hb d rfl hl hn hl9 (fun ls hl => k H locs ls hP hD hS hH hl)
theorem q_astore_n {j : Fin 4} {x : Nat} {lv' : List (Nat × Value)} (F : Fx E cc nL own rm D cI cZ) (d : decode cc pc = .ok (.astore_n j, 1)) (hn : (j : Nat) < nL) (hl9 : ((j : Nat), Value.ref x) :: lv.filter (fun q => !(q.1 == (j : Nat)) && !(q.1 + 1 == (j : Nat) && q.2.category == 2)) = lv') (k : Wg E cs kc ks (pc + 1) lv' (st)) : Wg E cs kc ks pc lv (.ref x :: st) := by
  obtain ⟨p, l, e, R, s, m, args, below, meth, c, Q, HP, D0, A, nL0, cI0, cZ0⟩ := E
  obtain ⟨⟨hx, hb, hml, hown, hT⟩, rfl, rfl, rfl, rfl, rfl, hK, hA⟩ := F
  exact fun H locs ls hP hD hS hH hl => lv_astore_n hx hb d rfl hl hn hl9 (fun ls hl => k H locs ls hP hD hS hH hl)
theorem q_istore {i : Nat} {x : Int32} {lv' : List (Nat × Value)} (F : Fx E cc nL own rm D cI cZ) (d : decode cc pc = .ok (.istore i, 2)) (hn : i < nL) (hl9 : (i, Value.int x) :: lv.filter (fun q => !(q.1 == i) && !(q.1 + 1 == i && q.2.category == 2)) = lv') (k : Wg E cs kc ks (pc + 2) lv' (st)) : Wg E cs kc ks pc lv (.int x :: st) := by
  obtain ⟨p, l, e, R, s, m, args, below, meth, c, Q, HP, D0, A, nL0, cI0, cZ0⟩ := E
  obtain ⟨⟨hx, hb, hml, hown, hT⟩, rfl, rfl, rfl, rfl, rfl, hK, hA⟩ := F
  exact fun H locs ls hP hD hS hH hl => lv_istore hx hb d hl hn hl9 (fun ls hl => k H locs ls hP hD hS hH hl)
theorem q_lstore_n {j : Fin 4} {x : Int64} {lv' : List (Nat × Value)} (F : Fx E cc nL own rm D cI cZ) (d : decode cc pc = .ok (.lstore_n j, 1)) (hn : (j : Nat) + 1 < nL) (hl9 : ((j : Nat), Value.long x) :: lv.filter (fun q => !(q.1 == (j : Nat)) && (!(q.1 == (j : Nat) + 1) && !(q.1 + 1 == (j : Nat) && q.2.category == 2))) = lv') (k : Wg E cs kc ks (pc + 1) lv' (st)) : Wg E cs kc ks pc lv (.long x :: st) := by
  obtain ⟨p, l, e, R, s, m, args, below, meth, c, Q, HP, D0, A, nL0, cI0, cZ0⟩ := E
  obtain ⟨⟨hx, hb, hml, hown, hT⟩, rfl, rfl, rfl, rfl, rfl, hK, hA⟩ := F
  exact fun H locs ls hP hD hS hH hl => lv_lstore_n hx hb d rfl hl hn hl9 (fun ls hl => k H locs ls hP hD hS hH hl)
theorem q_iinc {i : Nat} {n : Int} {x v : Int32} {lv' : List (Nat × Value)} (F : Fx E cc nL own rm D cI cZ) (z : Nat) (d : decode cc pc = .ok (.iinc i n, 3)) (hz : lv[z]? = some (i, .int x)) (hv : x + Int32.ofInt n = v) (hn : i < nL) (hl9 : (i, Value.int v) :: lv.filter (fun q => !(q.1 == i) && !(q.1 + 1 == i && q.2.category == 2)) = lv') (k : Wg E cs kc ks (pc + 3) lv' (st)) : Wg E cs kc ks pc lv (st) := by
  obtain ⟨p, l, e, R, s, m, args, below, meth, c, Q, HP, D0, A, nL0, cI0, cZ0⟩ := E
  obtain ⟨⟨hx, hb, hml, hown, hT⟩, rfl, rfl, rfl, rfl, rfl, hK, hA⟩ := F
  exact fun H locs ls hP hD hS hH hl => lv_iinc hx hb d hl hz hv hn hl9 (fun ls hl => k H locs ls hP hD hS hH hl)
theorem q_dup {va : Value} (F : Fx E cc nL own rm D cI cZ) (d : decode cc pc = .ok (.dup, 1)) (h1 : va.category = 1) (k : Wg E cs kc ks (pc + 1) lv (va :: va :: st)) : Wg E cs kc ks pc lv (va :: st) := by
  obtain ⟨p, l, e, R, s, m, args, below, meth, c, Q, HP, D0, A, nL0, cI0, cZ0⟩ := E
  obtain ⟨⟨hx, hb, hml, hown, hT⟩, rfl, rfl, rfl, rfl, rfl, hK, hA⟩ := F
  exact fun H locs ls hP hD hS hH hl => lv_dup hx hb d h1 (k H locs ls hP hD hS hH hl)
theorem q_dup2 {va vb : Value} (F : Fx E cc nL own rm D cI cZ) (d : decode cc pc = .ok (.dup2, 1)) (h1 : va.category = 1) (h2 : vb.category = 1) (k : Wg E cs kc ks (pc + 1) lv (va :: vb :: va :: vb :: st)) : Wg E cs kc ks pc lv (va :: vb :: st) := by
  obtain ⟨p, l, e, R, s, m, args, below, meth, c, Q, HP, D0, A, nL0, cI0, cZ0⟩ := E
  obtain ⟨⟨hx, hb, hml, hown, hT⟩, rfl, rfl, rfl, rfl, rfl, hK, hA⟩ := F
  exact fun H locs ls hP hD hS hH hl => lv_dup2_11 hx hb d h1 h2 (k H locs ls hP hD hS hH hl)
theorem q_iadd {x y : Int32} (F : Fx E cc nL own rm D cI cZ) (d : decode cc pc = .ok (.iadd, 1)) (k : Wg E cs kc ks (pc + 1) lv (.int (x + y) :: st)) : Wg E cs kc ks pc lv (.int y :: .int x :: st) := by
  obtain ⟨p, l, e, R, s, m, args, below, meth, c, Q, HP, D0, A, nL0, cI0, cZ0⟩ := E
  obtain ⟨⟨hx, hb, hml, hown, hT⟩, rfl, rfl, rfl, rfl, rfl, hK, hA⟩ := F
  exact fun H locs ls hP hD hS hH hl => lv_iadd hx hb d (k H locs ls hP hD hS hH hl)
theorem q_isub {x y : Int32} (F : Fx E cc nL own rm D cI cZ) (d : decode cc pc = .ok (.isub, 1)) (k : Wg E cs kc ks (pc + 1) lv (.int (x - y) :: st)) : Wg E cs kc ks pc lv (.int y :: .int x :: st) := by
  obtain ⟨p, l, e, R, s, m, args, below, meth, c, Q, HP, D0, A, nL0, cI0, cZ0⟩ := E
  obtain ⟨⟨hx, hb, hml, hown, hT⟩, rfl, rfl, rfl, rfl, rfl, hK, hA⟩ := F
  exact fun H locs ls hP hD hS hH hl => lv_isub hx hb d (k H locs ls hP hD hS hH hl)
theorem q_imul {x y : Int32} (F : Fx E cc nL own rm D cI cZ) (d : decode cc pc = .ok (.imul, 1)) (k : Wg E cs kc ks (pc + 1) lv (.int (x * y) :: st)) : Wg E cs kc ks pc lv (.int y :: .int x :: st) := by
  obtain ⟨p, l, e, R, s, m, args, below, meth, c, Q, HP, D0, A, nL0, cI0, cZ0⟩ := E
  obtain ⟨⟨hx, hb, hml, hown, hT⟩, rfl, rfl, rfl, rfl, rfl, hK, hA⟩ := F
  exact fun H locs ls hP hD hS hH hl => lv_imul hx hb d (k H locs ls hP hD hS hH hl)
theorem q_iand {x y : Int32} (F : Fx E cc nL own rm D cI cZ) (d : decode cc pc = .ok (.iand, 1)) (k : Wg E cs kc ks (pc + 1) lv (.int (x &&& y) :: st)) : Wg E cs kc ks pc lv (.int y :: .int x :: st) := by
  obtain ⟨p, l, e, R, s, m, args, below, meth, c, Q, HP, D0, A, nL0, cI0, cZ0⟩ := E
  obtain ⟨⟨hx, hb, hml, hown, hT⟩, rfl, rfl, rfl, rfl, rfl, hK, hA⟩ := F
  exact fun H locs ls hP hD hS hH hl => lv_iand hx hb d (k H locs ls hP hD hS hH hl)
theorem q_ior {x y : Int32} (F : Fx E cc nL own rm D cI cZ) (d : decode cc pc = .ok (.ior, 1)) (k : Wg E cs kc ks (pc + 1) lv (.int (x ||| y) :: st)) : Wg E cs kc ks pc lv (.int y :: .int x :: st) := by
  obtain ⟨p, l, e, R, s, m, args, below, meth, c, Q, HP, D0, A, nL0, cI0, cZ0⟩ := E
  obtain ⟨⟨hx, hb, hml, hown, hT⟩, rfl, rfl, rfl, rfl, rfl, hK, hA⟩ := F
  exact fun H locs ls hP hD hS hH hl => lv_ior hx hb d (k H locs ls hP hD hS hH hl)
theorem q_ixor {x y : Int32} (F : Fx E cc nL own rm D cI cZ) (d : decode cc pc = .ok (.ixor, 1)) (k : Wg E cs kc ks (pc + 1) lv (.int (x ^^^ y) :: st)) : Wg E cs kc ks pc lv (.int y :: .int x :: st) := by
  obtain ⟨p, l, e, R, s, m, args, below, meth, c, Q, HP, D0, A, nL0, cI0, cZ0⟩ := E
  obtain ⟨⟨hx, hb, hml, hown, hT⟩, rfl, rfl, rfl, rfl, rfl, hK, hA⟩ := F
  exact fun H locs ls hP hD hS hH hl => lv_ixor hx hb d (k H locs ls hP hD hS hH hl)
theorem q_ishl {x y : Int32} (F : Fx E cc nL own rm D cI cZ) (d : decode cc pc = .ok (.ishl, 1)) (k : Wg E cs kc ks (pc + 1) lv (.int (jshl x y) :: st)) : Wg E cs kc ks pc lv (.int y :: .int x :: st) := by
  obtain ⟨p, l, e, R, s, m, args, below, meth, c, Q, HP, D0, A, nL0, cI0, cZ0⟩ := E
  obtain ⟨⟨hx, hb, hml, hown, hT⟩, rfl, rfl, rfl, rfl, rfl, hK, hA⟩ := F
  exact fun H locs ls hP hD hS hH hl => lv_ishl hx hb d (k H locs ls hP hD hS hH hl)
theorem q_ishr {x y : Int32} (F : Fx E cc nL own rm D cI cZ) (d : decode cc pc = .ok (.ishr, 1)) (k : Wg E cs kc ks (pc + 1) lv (.int (jshr x y) :: st)) : Wg E cs kc ks pc lv (.int y :: .int x :: st) := by
  obtain ⟨p, l, e, R, s, m, args, below, meth, c, Q, HP, D0, A, nL0, cI0, cZ0⟩ := E
  obtain ⟨⟨hx, hb, hml, hown, hT⟩, rfl, rfl, rfl, rfl, rfl, hK, hA⟩ := F
  exact fun H locs ls hP hD hS hH hl => lv_ishr hx hb d (k H locs ls hP hD hS hH hl)
theorem q_iushr {x y : Int32} (F : Fx E cc nL own rm D cI cZ) (d : decode cc pc = .ok (.iushr, 1)) (k : Wg E cs kc ks (pc + 1) lv (.int (jushr x y) :: st)) : Wg E cs kc ks pc lv (.int y :: .int x :: st) := by
  obtain ⟨p, l, e, R, s, m, args, below, meth, c, Q, HP, D0, A, nL0, cI0, cZ0⟩ := E
  obtain ⟨⟨hx, hb, hml, hown, hT⟩, rfl, rfl, rfl, rfl, rfl, hK, hA⟩ := F
  exact fun H locs ls hP hD hS hH hl => lv_iushr hx hb d rfl (k H locs ls hP hD hS hH hl)
theorem q_idiv {x y : Int32} (F : Fx E cc nL own rm D cI cZ) (d : decode cc pc = .ok (.idiv, 1)) (hne : ¬ y = 0) (k : Wg E cs kc ks (pc + 1) lv (.int (x / y) :: st)) : Wg E cs kc ks pc lv (.int y :: .int x :: st) := by
  obtain ⟨p, l, e, R, s, m, args, below, meth, c, Q, HP, D0, A, nL0, cI0, cZ0⟩ := E
  obtain ⟨⟨hx, hb, hml, hown, hT⟩, rfl, rfl, rfl, rfl, rfl, hK, hA⟩ := F
  exact fun H locs ls hP hD hS hH hl => lv_idiv hx hb d hne (k H locs ls hP hD hS hH hl)
theorem q_irem {x y : Int32} (F : Fx E cc nL own rm D cI cZ) (d : decode cc pc = .ok (.irem, 1)) (hne : ¬ y = 0) (k : Wg E cs kc ks (pc + 1) lv (.int (jrem x y) :: st)) : Wg E cs kc ks pc lv (.int y :: .int x :: st) := by
  obtain ⟨p, l, e, R, s, m, args, below, meth, c, Q, HP, D0, A, nL0, cI0, cZ0⟩ := E
  obtain ⟨⟨hx, hb, hml, hown, hT⟩, rfl, rfl, rfl, rfl, rfl, hK, hA⟩ := F
  exact fun H locs ls hP hD hS hH hl => lv_irem hx hb d hne (k H locs ls hP hD hS hH hl)
theorem q_ineg {x : Int32} (F : Fx E cc nL own rm D cI cZ) (d : decode cc pc = .ok (.ineg, 1)) (k : Wg E cs kc ks (pc + 1) lv (.int (0 - x) :: st)) : Wg E cs kc ks pc lv (.int x :: st) := by
  obtain ⟨p, l, e, R, s, m, args, below, meth, c, Q, HP, D0, A, nL0, cI0, cZ0⟩ := E
  obtain ⟨⟨hx, hb, hml, hown, hT⟩, rfl, rfl, rfl, rfl, rfl, hK, hA⟩ := F
  exact fun H locs ls hP hD hS hH hl => lv_ineg hx hb d (k H locs ls hP hD hS hH hl)
theorem q_ladd {x y : Int64} (F : Fx E cc nL own rm D cI cZ) (d : decode cc pc = .ok (.ladd, 1)) (k : Wg E cs kc ks (pc + 1) lv (.long (x + y) :: st)) : Wg E cs kc ks pc lv (.long y :: .long x :: st) := by
  obtain ⟨p, l, e, R, s, m, args, below, meth, c, Q, HP, D0, A, nL0, cI0, cZ0⟩ := E
  obtain ⟨⟨hx, hb, hml, hown, hT⟩, rfl, rfl, rfl, rfl, rfl, hK, hA⟩ := F
  exact fun H locs ls hP hD hS hH hl => lv_ladd hx hb d (k H locs ls hP hD hS hH hl)
theorem q_lmul {x y : Int64} (F : Fx E cc nL own rm D cI cZ) (d : decode cc pc = .ok (.lmul, 1)) (k : Wg E cs kc ks (pc + 1) lv (.long (x * y) :: st)) : Wg E cs kc ks pc lv (.long y :: .long x :: st) := by
  obtain ⟨p, l, e, R, s, m, args, below, meth, c, Q, HP, D0, A, nL0, cI0, cZ0⟩ := E
  obtain ⟨⟨hx, hb, hml, hown, hT⟩, rfl, rfl, rfl, rfl, rfl, hK, hA⟩ := F
  exact fun H locs ls hP hD hS hH hl => lv_lmul hx hb d (k H locs ls hP hD hS hH hl)
theorem q_land {x y : Int64} (F : Fx E cc nL own rm D cI cZ) (d : decode cc pc = .ok (.land, 1)) (k : Wg E cs kc ks (pc + 1) lv (.long (x &&& y) :: st)) : Wg E cs kc ks pc lv (.long y :: .long x :: st) := by
  obtain ⟨p, l, e, R, s, m, args, below, meth, c, Q, HP, D0, A, nL0, cI0, cZ0⟩ := E
  obtain ⟨⟨hx, hb, hml, hown, hT⟩, rfl, rfl, rfl, rfl, rfl, hK, hA⟩ := F
  exact fun H locs ls hP hD hS hH hl => lv_land hx hb d (k H locs ls hP hD hS hH hl)
theorem q_lor {x y : Int64} (F : Fx E cc nL own rm D cI cZ) (d : decode cc pc = .ok (.lor, 1)) (k : Wg E cs kc ks (pc + 1) lv (.long (x ||| y) :: st)) : Wg E cs kc ks pc lv (.long y :: .long x :: st) := by
  obtain ⟨p, l, e, R, s, m, args, below, meth, c, Q, HP, D0, A, nL0, cI0, cZ0⟩ := E
  obtain ⟨⟨hx, hb, hml, hown, hT⟩, rfl, rfl, rfl, rfl, rfl, hK, hA⟩ := F
  exact fun H locs ls hP hD hS hH hl => lv_lor hx hb d (k H locs ls hP hD hS hH hl)
theorem q_lshl {x : Int64} {y : Int32} (F : Fx E cc nL own rm D cI cZ) (d : decode cc pc = .ok (.lshl, 1)) (k : Wg E cs kc ks (pc + 1) lv (.long (jlshl x y) :: st)) : Wg E cs kc ks pc lv (.int y :: .long x :: st) := by
  obtain ⟨p, l, e, R, s, m, args, below, meth, c, Q, HP, D0, A, nL0, cI0, cZ0⟩ := E
  obtain ⟨⟨hx, hb, hml, hown, hT⟩, rfl, rfl, rfl, rfl, rfl, hK, hA⟩ := F
  exact fun H locs ls hP hD hS hH hl => lv_lshl hx hb d rfl (k H locs ls hP hD hS hH hl)
theorem q_lshr {x : Int64} {y : Int32} (F : Fx E cc nL own rm D cI cZ) (d : decode cc pc = .ok (.lshr, 1)) (k : Wg E cs kc ks (pc + 1) lv (.long (jlshr x y) :: st)) : Wg E cs kc ks pc lv (.int y :: .long x :: st) := by
  obtain ⟨p, l, e, R, s, m, args, below, meth, c, Q, HP, D0, A, nL0, cI0, cZ0⟩ := E
  obtain ⟨⟨hx, hb, hml, hown, hT⟩, rfl, rfl, rfl, rfl, rfl, hK, hA⟩ := F
  exact fun H locs ls hP hD hS hH hl => lv_lshr hx hb d rfl (k H locs ls hP hD hS hH hl)
theorem q_lushr {x : Int64} {y : Int32} (F : Fx E cc nL own rm D cI cZ) (d : decode cc pc = .ok (.lushr, 1)) (k : Wg E cs kc ks (pc + 1) lv (.long (jlushr x y) :: st)) : Wg E cs kc ks pc lv (.int y :: .long x :: st) := by
  obtain ⟨p, l, e, R, s, m, args, below, meth, c, Q, HP, D0, A, nL0, cI0, cZ0⟩ := E
  obtain ⟨⟨hx, hb, hml, hown, hT⟩, rfl, rfl, rfl, rfl, rfl, hK, hA⟩ := F
  exact fun H locs ls hP hD hS hH hl => lv_lushr hx hb d rfl (k H locs ls hP hD hS hH hl)
theorem q_i2l {x : Int32} (F : Fx E cc nL own rm D cI cZ) (d : decode cc pc = .ok (.i2l, 1)) (k : Wg E cs kc ks (pc + 1) lv (.long (x.toInt64) :: st)) : Wg E cs kc ks pc lv (.int x :: st) := by
  obtain ⟨p, l, e, R, s, m, args, below, meth, c, Q, HP, D0, A, nL0, cI0, cZ0⟩ := E
  obtain ⟨⟨hx, hb, hml, hown, hT⟩, rfl, rfl, rfl, rfl, rfl, hK, hA⟩ := F
  exact fun H locs ls hP hD hS hH hl => lv_i2l hx hb d rfl (k H locs ls hP hD hS hH hl)
theorem q_l2i {x : Int64} (F : Fx E cc nL own rm D cI cZ) (d : decode cc pc = .ok (.l2i, 1)) (k : Wg E cs kc ks (pc + 1) lv (.int (x.toInt32) :: st)) : Wg E cs kc ks pc lv (.long x :: st) := by
  obtain ⟨p, l, e, R, s, m, args, below, meth, c, Q, HP, D0, A, nL0, cI0, cZ0⟩ := E
  obtain ⟨⟨hx, hb, hml, hown, hT⟩, rfl, rfl, rfl, rfl, rfl, hK, hA⟩ := F
  exact fun H locs ls hP hD hS hH hl => lv_l2i hx hb d rfl (k H locs ls hP hD hS hH hl)
theorem q_lcmp {x y : Int64} (F : Fx E cc nL own rm D cI cZ) (d : decode cc pc = .ok (.lcmp, 1)) (k : Wg E cs kc ks (pc + 1) lv (.int (lg_cmp x y) :: st)) : Wg E cs kc ks pc lv (.long y :: .long x :: st) := by
  obtain ⟨p, l, e, R, s, m, args, below, meth, c, Q, HP, D0, A, nL0, cI0, cZ0⟩ := E
  obtain ⟨⟨hx, hb, hml, hown, hT⟩, rfl, rfl, rfl, rfl, rfl, hK, hA⟩ := F
  exact fun H locs ls hP hD hS hH hl => W.lcmp hx hb d (k H locs ls hP hD hS hH hl)
theorem q_icmp_eq {x y : Int32} {off : Int} {tgt : Nat} (F : Fx E cc nL own rm D cI cZ) (d : decode cc pc = .ok (.if_icmp .eq off, 3)) (ht : (pc : Int) + off = (tgt : Int)) (kt : x = y → Wg E cs kc ks tgt lv (st)) (kf : ¬ x = y → Wg E cs kc ks (pc + 3) lv (st)) : Wg E cs kc ks pc lv (.int y :: .int x :: st) := by
  obtain ⟨p, l, e, R, s, m, args, below, meth, c, Q, HP, D0, A, nL0, cI0, cZ0⟩ := E
  obtain ⟨⟨hx, hb, hml, hown, hT⟩, rfl, rfl, rfl, rfl, rfl, hK, hA⟩ := F
  exact fun H locs ls hP hD hS hH hl => lv_icmp_eq hx hb d ht (fun h => kt h H locs ls hP hD hS hH hl) (fun h => kf h H locs ls hP hD hS hH hl)
theorem q_if_eq {x : Int32} {off : Int} {tgt : Nat} (F : Fx E cc nL own rm D cI cZ) (d : decode cc pc = .ok (.ifCond .eq off, 3)) (ht : (pc : Int) + off = (tgt : Int)) (kt : x = 0 → Wg E cs kc ks tgt lv (st)) (kf : ¬ x = 0 → Wg E cs kc ks (pc + 3) lv (st)) : Wg E cs kc ks pc lv (.int x :: st) := by
  obtain ⟨p, l, e, R, s, m, args, below, meth, c, Q, HP, D0, A, nL0, cI0, cZ0⟩ := E
  obtain ⟨⟨hx, hb, hml, hown, hT⟩, rfl, rfl, rfl, rfl, rfl, hK, hA⟩ := F
  exact fun H locs ls hP hD hS hH hl => lv_if_eq hx hb d ht (fun h => kt h H locs ls hP hD hS hH hl) (fun h => kf h H locs ls hP hD hS hH hl)
theorem q_icmp_ne {x y : Int32} {off : Int} {tgt : Nat} (F : Fx E cc nL own rm D cI cZ) (d : decode cc pc = .ok (.if_icmp .ne off, 3)) (ht : (pc : Int) + off = (tgt : Int)) (kt : ¬ x = y → Wg E cs kc ks tgt lv (st)) (kf : x = y → Wg E cs kc ks (pc + 3) lv (st)) : Wg E cs kc ks pc lv (.int y :: .int x :: st) := by
  obtain ⟨p, l, e, R, s, m, args, below, meth, c, Q, HP, D0, A, nL0, cI0, cZ0⟩ := E
  obtain ⟨⟨hx, hb, hml, hown, hT⟩, rfl, rfl, rfl, rfl, rfl, hK, hA⟩ := F
  exact fun H locs ls hP hD hS hH hl => lv_icmp_ne hx hb d ht (fun h => kt h H locs ls hP hD hS hH hl) (fun h => kf h H locs ls hP hD hS hH hl)
theorem q_if_ne {x : Int32} {off : Int} {tgt : Nat} (F : Fx E cc nL own rm D cI cZ) (d : decode cc pc = .ok (.ifCond .ne off, 3)) (ht : (pc : Int) + off = (tgt : Int)) (kt : ¬ x = 0 → Wg E cs kc ks tgt lv (st)) (kf : x = 0 → Wg E cs kc ks (pc + 3) lv (st)) : Wg E cs kc ks pc lv (.int x :: st) := by
  obtain ⟨p, l, e, R, s, m, args, below, meth, c, Q, HP, D0, A, nL0, cI0, cZ0⟩ := E
  obtain ⟨⟨hx, hb, hml, hown, hT⟩, rfl, rfl, rfl, rfl, rfl, hK, hA⟩ := F
  exact fun H locs ls hP hD hS hH hl => lv_if_ne hx hb d ht (fun h => kt h H locs ls hP hD hS hH hl) (fun h => kf h H locs ls hP hD hS hH hl)
theorem q_icmp_lt {x y : Int32} {off : Int} {tgt : Nat} (F : Fx E cc nL own rm D cI cZ) (d : decode cc pc = .ok (.if_icmp .lt off, 3)) (ht : (pc : Int) + off = (tgt : Int)) (kt : x < y → Wg E cs kc ks tgt lv (st)) (kf : ¬ x < y → Wg E cs kc ks (pc + 3) lv (st)) : Wg E cs kc ks pc lv (.int y :: .int x :: st) := by
  obtain ⟨p, l, e, R, s, m, args, below, meth, c, Q, HP, D0, A, nL0, cI0, cZ0⟩ := E
  obtain ⟨⟨hx, hb, hml, hown, hT⟩, rfl, rfl, rfl, rfl, rfl, hK, hA⟩ := F
  exact fun H locs ls hP hD hS hH hl => lv_icmp_lt hx hb d ht (fun h => kt h H locs ls hP hD hS hH hl) (fun h => kf h H locs ls hP hD hS hH hl)
theorem q_if_lt {x : Int32} {off : Int} {tgt : Nat} (F : Fx E cc nL own rm D cI cZ) (d : decode cc pc = .ok (.ifCond .lt off, 3)) (ht : (pc : Int) + off = (tgt : Int)) (kt : x < 0 → Wg E cs kc ks tgt lv (st)) (kf : ¬ x < 0 → Wg E cs kc ks (pc + 3) lv (st)) : Wg E cs kc ks pc lv (.int x :: st) := by
  obtain ⟨p, l, e, R, s, m, args, below, meth, c, Q, HP, D0, A, nL0, cI0, cZ0⟩ := E
  obtain ⟨⟨hx, hb, hml, hown, hT⟩, rfl, rfl, rfl, rfl, rfl, hK, hA⟩ := F
  exact fun H locs ls hP hD hS hH hl => lv_if_lt hx hb d ht (fun h => kt h H locs ls hP hD hS hH hl) (fun h => kf h H locs ls hP hD hS hH hl)
theorem q_icmp_ge {x y : Int32} {off : Int} {tgt : Nat} (F : Fx E cc nL own rm D cI cZ) (d : decode cc pc = .ok (.if_icmp .ge off, 3)) (ht : (pc : Int) + off = (tgt : Int)) (kt : y ≤ x → Wg E cs kc ks tgt lv (st)) (kf : ¬ y ≤ x → Wg E cs kc ks (pc + 3) lv (st)) : Wg E cs kc ks pc lv (.int y :: .int x :: st) := by
  obtain ⟨p, l, e, R, s, m, args, below, meth, c, Q, HP, D0, A, nL0, cI0, cZ0⟩ := E
  obtain ⟨⟨hx, hb, hml, hown, hT⟩, rfl, rfl, rfl, rfl, rfl, hK, hA⟩ := F
  exact fun H locs ls hP hD hS hH hl => lv_icmp_ge hx hb d ht (fun h => kt h H locs ls hP hD hS hH hl) (fun h => kf h H locs ls hP hD hS hH hl)
theorem q_if_ge {x : Int32} {off : Int} {tgt : Nat} (F : Fx E cc nL own rm D cI cZ) (d : decode cc pc = .ok (.ifCond .ge off, 3)) (ht : (pc : Int) + off = (tgt : Int)) (kt : 0 ≤ x → Wg E cs kc ks tgt lv (st)) (kf : ¬ 0 ≤ x → Wg E cs kc ks (pc + 3) lv (st)) : Wg E cs kc ks pc lv (.int x :: st) := by
  obtain ⟨p, l, e, R, s, m, args, below, meth, c, Q, HP, D0, A, nL0, cI0, cZ0⟩ := E
  obtain ⟨⟨hx, hb, hml, hown, hT⟩, rfl, rfl, rfl, rfl, rfl, hK, hA⟩ := F
  exact fun H locs ls hP hD hS hH hl => lv_if_ge hx hb d ht (fun h => kt h H locs ls hP hD hS hH hl) (fun h => kf h H locs ls hP hD hS hH hl)
theorem q_icmp_gt {x y : Int32} {off : Int} {tgt : Nat} (F : Fx E cc nL own rm D cI cZ) (d : decode cc pc = .ok (.if_icmp .gt off, 3)) (ht : (pc : Int) + off = (tgt : Int)) (kt : y < x → Wg E cs kc ks tgt lv (st)) (kf : ¬ y < x → Wg E cs kc ks (pc + 3) lv (st)) : Wg E cs kc ks pc lv (.int y :: .int x :: st) := by
  obtain ⟨p, l, e, R, s, m, args, below, meth, c, Q, HP, D0, A, nL0, cI0, cZ0⟩ := E
  obtain ⟨⟨hx, hb, hml, hown, hT⟩, rfl, rfl, rfl, rfl, rfl, hK, hA⟩ := F
  exact fun H locs ls hP hD hS hH hl => lv_icmp_gt hx hb d ht (fun h => kt h H locs ls hP hD hS hH hl) (fun h => kf h H locs ls hP hD hS hH hl)
theorem q_if_gt {x : Int32} {off : Int} {tgt : Nat} (F : Fx E cc nL own rm D cI cZ) (d : decode cc pc = .ok (.ifCond .gt off, 3)) (ht : (pc : Int) + off = (tgt : Int)) (kt : 0 < x → Wg E cs kc ks tgt lv (st)) (kf : ¬ 0 < x → Wg E cs kc ks (pc + 3) lv (st)) : Wg E cs kc ks pc lv (.int x :: st) := by
  obtain ⟨p, l, e, R, s, m, args, below, meth, c, Q, HP, D0, A, nL0, cI0, cZ0⟩ := E
  obtain ⟨⟨hx, hb, hml, hown, hT⟩, rfl, rfl, rfl, rfl, rfl, hK, hA⟩ := F
  exact fun H locs ls hP hD hS hH hl => lv_if_gt hx hb d ht (fun h => kt h H locs ls hP hD hS hH hl) (fun h => kf h H locs ls hP hD hS hH hl)
theorem q_icmp_le {x y : Int32} {off : Int} {tgt : Nat} (F : Fx E cc nL own rm D cI cZ) (d : decode cc pc = .ok (.if_icmp .le off, 3)) (ht : (pc : Int) + off = (tgt : Int)) (kt : x ≤ y → Wg E cs kc ks tgt lv (st)) (kf : ¬ x ≤ y → Wg E cs kc ks (pc + 3) lv (st)) : Wg E cs kc ks pc lv (.int y :: .int x :: st) := by
  obtain ⟨p, l, e, R, s, m, args, below, meth, c, Q, HP, D0, A, nL0, cI0, cZ0⟩ := E
  obtain ⟨⟨hx, hb, hml, hown, hT⟩, rfl, rfl, rfl, rfl, rfl, hK, hA⟩ := F
  exact fun H locs ls hP hD hS hH hl => lv_icmp_le hx hb d ht (fun h => kt h H locs ls hP hD hS hH hl) (fun h => kf h H locs ls hP hD hS hH hl)
theorem q_if_le {x : Int32} {off : Int} {tgt : Nat} (F : Fx E cc nL own rm D cI cZ) (d : decode cc pc = .ok (.ifCond .le off, 3)) (ht : (pc : Int) + off = (tgt : Int)) (kt : x ≤ 0 → Wg E cs kc ks tgt lv (st)) (kf : ¬ x ≤ 0 → Wg E cs kc ks (pc + 3) lv (st)) : Wg E cs kc ks pc lv (.int x :: st) := by
  obtain ⟨p, l, e, R, s, m, args, below, meth, c, Q, HP, D0, A, nL0, cI0, cZ0⟩ := E
  obtain ⟨⟨hx, hb, hml, hown, hT⟩, rfl, rfl, rfl, rfl, rfl, hK, hA⟩ := F
  exact fun H locs ls hP hD hS hH hl => lv_if_le hx hb d ht (fun h => kt h H locs ls hP hD hS hH hl) (fun h => kf h H locs ls hP hD hS hH hl)
theorem q_goto {off : Int} {tgt : Nat} (F : Fx E cc nL own rm D cI cZ) (d : decode cc pc = .ok (.goto off, 3)) (ht : (pc : Int) + off = (tgt : Int)) (k : Wg E cs kc ks tgt lv (st)) : Wg E cs kc ks pc lv (st) := by
  obtain ⟨p, l, e, R, s, m, args, below, meth, c, Q, HP, D0, A, nL0, cI0, cZ0⟩ := E
  obtain ⟨⟨hx, hb, hml, hown, hT⟩, rfl, rfl, rfl, rfl, rfl, hK, hA⟩ := F
  exact fun H locs ls hP hD hS hH hl => lv_goto hx hb d ht (k H locs ls hP hD hS hH hl)
theorem q_ifnullR {x : Nat} {off : Int} (F : Fx E cc nL own rm D cI cZ) (d : decode cc pc = .ok (.ifnull off, 3)) (k : Wg E cs kc ks (pc + 3) lv (st)) : Wg E cs kc ks pc lv (.ref x :: st) := by
  obtain ⟨p, l, e, R, s, m, args, below, meth, c, Q, HP, D0, A, nL0, cI0, cZ0⟩ := E
  obtain ⟨⟨hx, hb, hml, hown, hT⟩, rfl, rfl, rfl, rfl, rfl, hK, hA⟩ := F
  exact fun H locs ls hP hD hS hH hl => lv_ifnull hx hb d (k H locs ls hP hD hS hH hl)
theorem q_ifnullN {off : Int} {tgt : Nat} (F : Fx E cc nL own rm D cI cZ) (d : decode cc pc = .ok (.ifnull off, 3)) (ht : (pc : Int) + off = (tgt : Int)) (k : Wg E cs kc ks tgt lv (st)) : Wg E cs kc ks pc lv (.null :: st) := by
  obtain ⟨p, l, e, R, s, m, args, below, meth, c, Q, HP, D0, A, nL0, cI0, cZ0⟩ := E
  obtain ⟨⟨hx, hb, hml, hown, hT⟩, rfl, rfl, rfl, rfl, rfl, hK, hA⟩ := F
  exact fun H locs ls hP hD hS hH hl => lv_ifnullN hx hb d ht (k H locs ls hP hD hS hH hl)
theorem q_tabIn {dflt lo hi : Int} {offs : Array Int} {len : Nat} {x v : Int32} {off : Int} {tgt : Nat} (F : Fx E cc nL own rm D cI cZ) (d : decode cc pc = .ok (.tableswitch dflt lo hi offs, len)) (ev : x = v) (h1 : ¬ v.toInt < lo) (h2 : ¬ hi < v.toInt) (ho : offs[(v.toInt - lo).toNat]? = some off) (ht : (pc : Int) + off = (tgt : Int)) (k : Wg E cs kc ks tgt lv (st)) : Wg E cs kc ks pc lv (.int x :: st) := by
  obtain ⟨p, l, e, R, s, m, args, below, meth, c, Q, HP, D0, A, nL0, cI0, cZ0⟩ := E
  obtain ⟨⟨hx, hb, hml, hown, hT⟩, rfl, rfl, rfl, rfl, rfl, hK, hA⟩ := F
  exact fun H locs ls hP hD hS hH hl => lv_tableIn hx hb d (ev ▸ h1) (ev ▸ h2) (ev ▸ ho) ht (k H locs ls hP hD hS hH hl)
theorem q_tabOut {dflt lo hi : Int} {offs : Array Int} {len : Nat} {x : Int32} {tgt : Nat} (F : Fx E cc nL own rm D cI cZ) (d : decode cc pc = .ok (.tableswitch dflt lo hi offs, len)) (h : x.toInt < lo ∨ hi < x.toInt) (ht : (pc : Int) + dflt = (tgt : Int)) (k : Wg E cs kc ks tgt lv (st)) : Wg E cs kc ks pc lv (.int x :: st) := by
  obtain ⟨p, l, e, R, s, m, args, below, meth, c, Q, HP, D0, A, nL0, cI0, cZ0⟩ := E
  obtain ⟨⟨hx, hb, hml, hown, hT⟩, rfl, rfl, rfl, rfl, rfl, hK, hA⟩ := F
  exact fun H locs ls hP hD hS hH hl => lv_tableOut hx hb d h ht (k H locs ls hP hD hS hH hl)
theorem q_topi {x : Int32} (k : ∀ y : Int32, y = x → Wg E cs kc ks pc lv (.int y :: st)) : Wg E cs kc ks pc lv (.int x :: st) := k x rfl
theorem q_topl {x : Int64} (k : ∀ y : Int64, y = x → Wg E cs kc ks pc lv (.long y :: st)) : Wg E cs kc ks pc lv (.long x :: st) := k x rfl
theorem q_lv {lv' : List (Nat × Value)} (zs : List Nat) (h : lv_pick lv zs = lv') (k : Wg E cs kc ks pc lv' (st)) : Wg E cs kc ks pc lv (st) := by
  obtain ⟨p, l, e, R, s, m, args, below, meth, c, Q, HP, D0, A, nL0, cI0, cZ0⟩ := E
  exact fun H locs ls hP hD hS hH hl => k H locs ls hP hD hS hH (lv_sub hl zs h)
theorem q_cs {cs' : va_W} (zs : List Nat) (h1 : zs.map (fun i => cs[i]?) = cs'.map some) (h2 : va_nd zs = true) (k : Wg E cs' kc ks pc lv (st)) : Wg E cs kc ks pc lv (st) := by
  obtain ⟨p, l, e, R, s, m, args, below, meth, c, Q, HP, D0, A, nL0, cI0, cZ0⟩ := E
  exact fun H locs ls hP hD hS hH hl => k H locs ls (hP.sub zs (map_fm h1)) (hD.sub zs h2 h1) hS hH hl
theorem q_mmax {index : Nat} {x y : Int32} (F : Fx E cc nL own rm D cI cZ) (h1 : Cond.methodLink own index Lib.Math.max.name ∈ Tw) (h2 : Cond.static Lib.Math.max.name ∈ Tw) (h3 : Cond.initialized "java/lang/Math" ∈ Tw) (h4 : Cond.code Lib.Math.max.name Lib.Math.max.code 2 (some .int) ∈ Tw) (hf : 1 ≤ rm.frames) (hw : (st.map fun v => v.category).sum + 13 ≤ rm.locals) (hc : kc ≤ rm.cells) (hs : ks ≤ rm.slots) (d : decode cc pc = .ok (.invokestatic index, 3)) (k : Wg E cs kc ks (pc + 3) lv (.int (jmax x y) :: st)) : Wg E cs kc ks pc lv (.int y :: .int x :: st) := by
  obtain ⟨p, l, e, R, s, m, args, below, meth, c, Q, HP, D0, A, nL0, cI0, cZ0⟩ := E
  obtain ⟨⟨hx, hb, hml, hown, hT⟩, rfl, rfl, rfl, rfl, rfl, hK, hA⟩ := F
  exact fun H locs ls hP hD hS hH hl => va_mmax hx hb (hml.trans hl.1.symm) hown (hT _ h1) (hT _ h2) (hT _ h3) (hT _ h4) hf hw hc hs d (k H locs ls hP hD hS hH hl)
theorem q_mmin {index : Nat} {x y : Int32} (F : Fx E cc nL own rm D cI cZ) (h1 : Cond.methodLink own index Lib.Math.min.name ∈ Tw) (h2 : Cond.static Lib.Math.min.name ∈ Tw) (h3 : Cond.initialized "java/lang/Math" ∈ Tw) (h4 : Cond.code Lib.Math.min.name Lib.Math.min.code 2 (some .int) ∈ Tw) (hf : 1 ≤ rm.frames) (hw : (st.map fun v => v.category).sum + 13 ≤ rm.locals) (hc : kc ≤ rm.cells) (hs : ks ≤ rm.slots) (d : decode cc pc = .ok (.invokestatic index, 3)) (k : Wg E cs kc ks (pc + 3) lv (.int (jmin x y) :: st)) : Wg E cs kc ks pc lv (.int y :: .int x :: st) := by
  obtain ⟨p, l, e, R, s, m, args, below, meth, c, Q, HP, D0, A, nL0, cI0, cZ0⟩ := E
  obtain ⟨⟨hx, hb, hml, hown, hT⟩, rfl, rfl, rfl, rfl, rfl, hK, hA⟩ := F
  exact fun H locs ls hP hD hS hH hl => va_mmin hx hb (hml.trans hl.1.symm) hown (hT _ h1) (hT _ h2) (hT _ h3) (hT _ h4) hf hw hc hs d (k H locs ls hP hD hS hH hl)
theorem q_mabs {index : Nat} {x : Int32} (F : Fx E cc nL own rm D cI cZ) (h1 : Cond.methodLink own index Lib.Math.abs.name ∈ Tw) (h2 : Cond.static Lib.Math.abs.name ∈ Tw) (h3 : Cond.initialized "java/lang/Math" ∈ Tw) (h4 : Cond.code Lib.Math.abs.name Lib.Math.abs.code 1 (some .int) ∈ Tw) (hf : 1 ≤ rm.frames) (hw : (st.map fun v => v.category).sum + 13 ≤ rm.locals) (hc : kc ≤ rm.cells) (hs : ks ≤ rm.slots) (d : decode cc pc = .ok (.invokestatic index, 3)) (k : Wg E cs kc ks (pc + 3) lv (.int (jabs x) :: st)) : Wg E cs kc ks pc lv (.int x :: st) := by
  obtain ⟨p, l, e, R, s, m, args, below, meth, c, Q, HP, D0, A, nL0, cI0, cZ0⟩ := E
  obtain ⟨⟨hx, hb, hml, hown, hT⟩, rfl, rfl, rfl, rfl, rfl, hK, hA⟩ := F
  exact fun H locs ls hP hD hS hH hl => va_mabs hx hb (hml.trans hl.1.symm) hown (hT _ h1) (hT _ h2) (hT _ h3) (hT _ h4) hf hw hc hs d (k H locs ls hP hD hS hH hl)
/-- field k of class ci, as the class own links it at index -/
def FG (own : String) (index ci k : Nat) : Prop := ∃ (C : String) (T : u_T) (N : Nat), vwCl[ci]? = some (C, T, N) ∧ (∀ w ∈ u_ws C T N, w ∈ Tw) ∧ k < N ∧ Cond.fieldLink own index (T k).1 (T k).2.1 (T k).2.2.1 ∈ Tw
def FP (own : String) (index ci k : Nat) (ty : FieldType) (fin : Bool) : Prop := ∃ (C : String) (T : u_T) (N : Nat) (ty0 : Nat → FieldType), vwCl[ci]? = some (C, T, N) ∧ (∀ w ∈ u_ws C T N, w ∈ Tw) ∧ (∀ k, k < N → parseFieldDescriptor (T k).2.2.1 = some (ty0 k)) ∧ (∀ a, a < N → ∀ b, b < N → a ≠ b → (T a).2.1 ≠ (T b).2.1) ∧ k < N ∧ Cond.fieldLink own index (T k).1 (T k).2.1 (T k).2.2.1 ∈ Tw ∧ parseFieldDescriptor (T k).2.2.1 = some ty ∧ (T k).2.2.2 = fin ∧ (T k).1 = C
theorem q_get {index ci f a : Nat} {fs : List Value} {v : Value} (F : Fx E cc nL own rm D cI cZ) (g : FG own index ci f) (z : Nat) (he : cs[z]? = some (a, .inr (ci, fs))) (hv : fs[f]? = some v) (d : decode cc pc = .ok (.getfield index, 3)) (k : Wg E cs kc ks (pc + 3) lv (v :: st)) : Wg E cs kc ks pc lv (.ref a :: st) := by
  obtain ⟨p, l, e, R, s, m, args, below, meth, c, Q, HP, D0, A, nL0, cI0, cZ0⟩ := E
  obtain ⟨⟨hx, hb, hml, hown, hT⟩, rfl, rfl, rfl, rfl, rfl, hK, hA⟩ := F
  exact fun H locs ls hP hD hS hH hl => (by
    obtain ⟨C, T, N, hc, hin, hk, hlk⟩ := g
    exact va_get hx hb hT hin hown hK.1 hP z he hc f hk (hT _ hlk) (fun _ h9 => h9) hv d (k H locs ls hP hD hS hH hl))
theorem q_put {index ci f a : Nat} {fs : List Value} {v : Value} {ty : FieldType} {cs' : va_W} (F : Fx E cc nL own rm D cI cZ) (M : Mut E) (g : FP own index ci f ty false) (z : Nat) (he : cs[z]? = some (a, .inr (ci, fs))) (hn : narrow ty v = v) (hfit : fits ty v = true) (hlen : f < fs.length) (hcs : cs.set z (a, .inr (ci, fs.set f v)) = cs') (d : decode cc pc = .ok (.putfield index, 3)) (k : Wg E cs' kc ks (pc + 3) lv (st)) : Wg E cs kc ks pc lv (v :: .ref a :: st) := by
  obtain ⟨p, l, e, R, s, m, args, below, meth, c, Q, HP, D0, A, nL0, cI0, cZ0⟩ := E
  obtain ⟨⟨hx, hb, hml, hown, hT⟩, rfl, rfl, rfl, rfl, rfl, hK, hA⟩ := F
  exact fun H locs ls hP hD hS hH hl => (by
    obtain ⟨C, T, N, ty0, hc, hin, hty, hnm, hk, hlk, hd, hf, hC⟩ := g
    exact va_put hx hb hT hin ty0 hty hnm hown hK.1 hP hD hS z he hc f hk (hT _ hlk) (fun _ h9 => h9) hf hd hn hfit hlen d (fun H locs hP hD hS => k H locs ls (hcs ▸ hP) (hcs ▸ hD) hS (M _ _) hl))
def IsIni : MEnv → Prop
  | (_, _, _, _, _, _, _, _, meth, _, _, _, _, _, _, _, _) => meth.name = "<init>"
theorem q_putF {index ci f a : Nat} {fs : List Value} {v : Value} {ty : FieldType} {cs' : va_W} (F : Fx E cc nL own rm D cI cZ) (M : Mut E) (J : IsIni E) (g : FP own index ci f ty true) (hC9 : ∀ C T N, vwCl[ci]? = some (C, T, N) → C = own) (z : Nat) (he : cs[z]? = some (a, .inr (ci, fs))) (hn : narrow ty v = v) (hfit : fits ty v = true) (hlen : f < fs.length) (hcs : cs.set z (a, .inr (ci, fs.set f v)) = cs') (d : decode cc pc = .ok (.putfield index, 3)) (k : Wg E cs' kc ks (pc + 3) lv (st)) : Wg E cs kc ks pc lv (v :: .ref a :: st) := by
  obtain ⟨p, l, e, R, s, m, args, below, meth, c, Q, HP, D0, A, nL0, cI0, cZ0⟩ := E
  obtain ⟨⟨hx, hb, hml, hown, hT⟩, rfl, rfl, rfl, rfl, rfl, hK, hA⟩ := F
  exact fun H locs ls hP hD hS hH hl => (by
    obtain ⟨C, T, N, ty0, hc, hin, hty, hnm, hk, hlk, hd, hf, hC⟩ := g
    exact va_putF hx hb hT hin ty0 hty hnm hown hK.1 hP hD hS z he hc f hk (hT _ hlk) (fun _ h9 => h9) hf J (hC.trans (hC9 _ _ _ hc)) hd hn hfit hlen d (fun H locs hP hD hS => k H locs ls (hcs ▸ hP) (hcs ▸ hD) hS (M _ _) hl))
theorem q_iald {a n : Nat} {f : Nat → Int32} {i : Int32} (F : Fx E cc nL own rm D cI cZ) (z : Nat) (he : cs[z]? = some (a, .inl (cI, n, .inl f))) (hin : vp_in i n) (d : decode cc pc = .ok (.iaload, 1)) (k : Wg E cs kc ks (pc + 1) lv (.int (f i.toNatClampNeg) :: st)) : Wg E cs kc ks pc lv (.int i :: .ref a :: st) := by
  obtain ⟨p, l, e, R, s, m, args, below, meth, c, Q, HP, D0, A, nL0, cI0, cZ0⟩ := E
  obtain ⟨⟨hx, hb, hml, hown, hT⟩, rfl, rfl, rfl, rfl, rfl, hK, hA⟩ := F
  exact fun H locs ls hP hD hS hH hl => va_iald hx hb hK.1 hP z 0 he rfl hin d (k H locs ls hP hD hS hH hl)
theorem q_zald {a n : Nat} {f : Nat → Int32} {i : Int32} (F : Fx E cc nL own rm D cI cZ) (z : Nat) (he : cs[z]? = some (a, .inl (cZ, n, .inl f))) (hin : vp_in i n) (d : decode cc pc = .ok (.baload, 1)) (k : Wg E cs kc ks (pc + 1) lv (.int (f i.toNatClampNeg) :: st)) : Wg E cs kc ks pc lv (.int i :: .ref a :: st) := by
  obtain ⟨p, l, e, R, s, m, args, below, meth, c, Q, HP, D0, A, nL0, cI0, cZ0⟩ := E
  obtain ⟨⟨hx, hb, hml, hown, hT⟩, rfl, rfl, rfl, rfl, rfl, hK, hA⟩ := F
  exact fun H locs ls hP hD hS hH hl => va_zald hx hb hK.1 hP z 1 he rfl hin d (k H locs ls hP hD hS hH hl)
theorem q_iast {a n : Nat} {f : Nat → Int32} {i x : Int32} {cs' : va_W} (F : Fx E cc nL own rm D cI cZ) (M : Mut E) (z : Nat) (he : cs[z]? = some (a, .inl (cI, n, .inl f))) (hin : vp_in i n) (hcs : cs.set z (a, .inl (cI, n, .inl (upd f i.toNatClampNeg x))) = cs') (d : decode cc pc = .ok (.iastore, 1)) (k : Wg E cs' kc ks (pc + 1) lv (st)) : Wg E cs kc ks pc lv (.int x :: .int i :: .ref a :: st) := by
  obtain ⟨p, l, e, R, s, m, args, below, meth, c, Q, HP, D0, A, nL0, cI0, cZ0⟩ := E
  obtain ⟨⟨hx, hb, hml, hown, hT⟩, rfl, rfl, rfl, rfl, rfl, hK, hA⟩ := F
  exact fun H locs ls hP hD hS hH hl => va_iast hx hb hK.1 hP hD hS z 0 he rfl hin d (fun H locs hP hD hS => k H locs ls (hcs ▸ hP) (hcs ▸ hD) hS (M _ _) hl)
theorem q_zast {a n : Nat} {f : Nat → Int32} {i x : Int32} {cs' : va_W} (F : Fx E cc nL own rm D cI cZ) (M : Mut E) (z : Nat) (he : cs[z]? = some (a, .inl (cZ, n, .inl f))) (hin : vp_in i n) (hx9 : vp_nar .boolean x = x) (hcs : cs.set z (a, .inl (cZ, n, .inl (upd f i.toNatClampNeg x))) = cs') (d : decode cc pc = .ok (.bastore, 1)) (k : Wg E cs' kc ks (pc + 1) lv (st)) : Wg E cs kc ks pc lv (.int x :: .int i :: .ref a :: st) := by
  obtain ⟨p, l, e, R, s, m, args, below, meth, c, Q, HP, D0, A, nL0, cI0, cZ0⟩ := E
  obtain ⟨⟨hx, hb, hml, hown, hT⟩, rfl, rfl, rfl, rfl, rfl, hK, hA⟩ := F
  exact fun H locs ls hP hD hS hH hl => va_zast hx hb hK.1 hP hD hS z 1 he rfl hin d (fun H locs hP hD hS => k H locs ls (hcs ▸ (hx9 ▸ hP)) (hcs ▸ (hx9 ▸ hD)) hS (M _ _) hl)
theorem q_copyi {index a0 a1 n0 n1 : Nat} {f g : Nat → Int32} {sp dp n : Int32} {cs' : va_W} (F : Fx E cc nL own rm D cI cZ) (M : Mut E) (h1 : Cond.methodLink own index arraycopyName ∈ Tw) (h2 : Cond.native arraycopyName ∈ Tw) (h3 : Cond.static arraycopyName ∈ Tw) (h4 : Cond.initialized "java/lang/System" ∈ Tw) (z0 z1 : Nat) (he0 : cs[z0]? = some (a0, .inl (cI, n0, .inl f))) (he1 : cs[z1]? = some (a1, .inl (cI, n1, .inl g))) (g1 : ¬ sp < 0) (g2 : ¬ dp < 0) (g3 : ¬ n < 0) (g4 : sp.toNatClampNeg + n.toNatClampNeg ≤ n0) (g5 : dp.toNatClampNeg + n.toNatClampNeg ≤ n1) (hf : 1 ≤ rm.frames) (hw : (st.map fun v => v.category).sum + (nativeFrameWords "java/lang/System" "arraycopy" 5 + 11) ≤ rm.locals) (hcs : cs.set z1 (a1, .inl (cI, n1, .inl (va_cpy f g sp.toNatClampNeg dp.toNatClampNeg n.toNatClampNeg))) = cs') (d : decode cc pc = .ok (.invokestatic index, 3)) (k : Wg E cs' kc ks (pc + 3) lv (st)) : Wg E cs kc ks pc lv (.int n :: .int dp :: .ref a1 :: .int sp :: .ref a0 :: st) := by
  obtain ⟨p, l, e, R, s, m, args, below, meth, c, Q, HP, D0, A, nL0, cI0, cZ0⟩ := E
  obtain ⟨⟨hx, hb, hml, hown, hT⟩, rfl, rfl, rfl, rfl, rfl, hK, hA⟩ := F
  exact fun H locs ls hP hD hS hH hl => va_copyi hx hb (hml.trans hl.1.symm) hown (hT _ h1) (hT _ h2) (hT _ h3) (hT _ h4) hK.1 hP hD hS z0 z1 0 0 he0 he1 rfl rfl rfl g1 g2 g3 g4 g5 (fun _ _ => rfl) hf hw d (fun H locs hP hD hS => k H locs ls (hcs ▸ hP) (hcs ▸ hD) hS (M _ _) hl)
theorem q_newI {n : Int32} {N : Nat} (F : Fx E cc nL own rm D cI cZ) (M : Mut E) (h1 : Cond.arrayClass .int ∈ Tw) (hn : ¬ n < 0) (hN : n.toNatClampNeg = N) (hb9 : N * componentBytes .int ≤ 536870912) (hc : kc + 1 ≤ rm.cells) (hs : ks + N ≤ rm.slots) (d : decode cc pc = .ok (.newarray .int, 2)) (k : ∀ q : Nat, Wg E (cs ++ [(q, .inl (cI, N, .inl (fun _ => 0)))]) (kc + 1) (ks + N) (pc + 2) lv (.ref q :: st)) : Wg E cs kc ks pc lv (.int n :: st) := by
  obtain ⟨p, l, e, R, s, m, args, below, meth, c, Q, HP, D0, A, nL0, cI0, cZ0⟩ := E
  obtain ⟨⟨hx, hb, hml, hown, hT⟩, rfl, rfl, rfl, rfl, rfl, hK, hA⟩ := F
  intro H locs ls hP hD hS hH hl
  refine va_newa (atype := .int) (a0 := (N, .inl (fun _ => 0))) hx hb (hT _ h1) (ty := .int) rfl hK.1 hP hD hS hA (fun cA => rfl) hn hN hb9 hc hs d (fun q cA H1 hK1 hP hD hS => ?_)
  have e : cA = cI := by
    have a1 := (hK1.2 2 (cA, .int) rfl).2
    have a2 := (hK1.2 0 (cI, .int) rfl).2
    exact Option.some.inj (a1.symm.trans a2)
  subst e
  exact k q H1 locs ls hP hD hS (M _ _) hl
theorem q_newZ {n : Int32} {N : Nat} (F : Fx E cc nL own rm D cI cZ) (M : Mut E) (h1 : Cond.arrayClass .boolean ∈ Tw) (hn : ¬ n < 0) (hN : n.toNatClampNeg = N) (hb9 : N * componentBytes .boolean ≤ 536870912) (hc : kc + 1 ≤ rm.cells) (hs : ks + N ≤ rm.slots) (d : decode cc pc = .ok (.newarray .boolean, 2)) (k : ∀ q : Nat, Wg E (cs ++ [(q, .inl (cZ, N, .inl (fun _ => 0)))]) (kc + 1) (ks + N) (pc + 2) lv (.ref q :: st)) : Wg E cs kc ks pc lv (.int n :: st) := by
  obtain ⟨p, l, e, R, s, m, args, below, meth, c, Q, HP, D0, A, nL0, cI0, cZ0⟩ := E
  obtain ⟨⟨hx, hb, hml, hown, hT⟩, rfl, rfl, rfl, rfl, rfl, hK, hA⟩ := F
  intro H locs ls hP hD hS hH hl
  refine va_newa (atype := .boolean) (a0 := (N, .inl (fun _ => 0))) hx hb (hT _ h1) (ty := .boolean) rfl hK.1 hP hD hS hA (fun cA => rfl) hn hN hb9 hc hs d (fun q cA H1 hK1 hP hD hS => ?_)
  have e : cA = cZ := by
    have a1 := (hK1.2 2 (cA, .boolean) rfl).2
    have a2 := (hK1.2 1 (cZ, .boolean) rfl).2
    exact Option.some.inj (a1.symm.trans a2)
  subst e
  exact k q H1 locs ls hP hD hS (M _ _) hl
theorem q_new {index ci N : Nat} {C : String} {T : u_T} {fs : List Value} (F : Fx E cc nL own rm D cI cZ) (M : Mut E) (ty : Nat → FieldType) (hty : ∀ k, k < N → parseFieldDescriptor (T k).2.2.1 = some (ty k)) (hin : ∀ w ∈ u_ws C T N, w ∈ Tw) (h1 : Cond.classLink own index C ∈ Tw) (h2 : Cond.instantiable C N ∈ Tw) (h3 : Cond.initialized C ∈ Tw) (hci : vwCl[ci]? = some (C, T, N)) (hfs : ∀ j, j < N → defaultValue (ty j) = vp_V fs j) (hc : kc + 1 ≤ rm.cells) (hs : ks + N ≤ rm.slots) (d : decode cc pc = .ok (.new index, 3)) (k : ∀ q : Nat, Wg E (cs ++ [(q, .inr (ci, fs))]) (kc + 1) (ks + N) (pc + 3) lv (.ref q :: st)) : Wg E cs kc ks pc lv (st) := by
  obtain ⟨p, l, e, R, s, m, args, below, meth, c, Q, HP, D0, A, nL0, cI0, cZ0⟩ := E
  obtain ⟨⟨hx, hb, hml, hown, hT⟩, rfl, rfl, rfl, rfl, rfl, hK, hA⟩ := F
  exact fun H locs ls hP hD hS hH hl => va_new hx hb hT hin ty hty hown (hT _ h1) (hT _ h2) (hT _ h3) hK.1 hP hD hS hA hci hfs hc hs d (fun q H1 hP hD hS => k q H1 locs ls hP hD hS (M _ _) hl)
theorem q_oini {index a : Nat} (F : Fx E cc nL own rm D cI cZ) (h1 : Cond.methodLink own index Lib.objectInit ∈ Tw) (h2 : Cond.instanceMethod Lib.objectInit ∈ Tw) (h3 : Cond.code Lib.objectInit ⟨#[0xb1]⟩ 1 none ∈ Tw) (hf : 1 ≤ rm.frames) (hw : (st.map fun v => v.category).sum + 12 ≤ rm.locals) (d : decode cc pc = .ok (.invokespecial index, 3)) (k : Wg E cs kc ks (pc + 3) lv (st)) : Wg E cs kc ks pc lv (.ref a :: st) := by
  obtain ⟨p, l, e, R, s, m, args, below, meth, c, Q, HP, D0, A, nL0, cI0, cZ0⟩ := E
  obtain ⟨⟨hx, hb, hml, hown, hT⟩, rfl, rfl, rfl, rfl, rfl, hK, hA⟩ := F
  exact fun H locs ls hP hD hS hH hl => (by
    refine W.objInit hx hb hown (hT _ h1) (hT _ h2) (hT _ h3) (g := F0 m pc ls (.ref a :: st)) rfl (hl.1.trans hml.symm) rfl d hf (by show 2 * 0 + _ + 12 ≤ _; omega) ?_
    exact W.eq (g2 := F0 m (pc + 3) ls st) rfl (k H locs ls hP hD hS hH hl))
theorem q_iretR {v : Int32} {post : Int32 → Prop} (F : Fx E cc nL own rm D cI cZ) (Z : RetR E (some .int) (gR post)) (d : decode cc pc = .ok (.ireturn, 1)) (h : post v) : Wg E cs 0 0 pc lv [.int v] := by
  obtain ⟨p, l, e, R, s, m, args, below, meth, c, Q, HP, D0, A, nL0, cI0, cZ0⟩ := E
  obtain ⟨⟨hx, hb, hml, hown, hT⟩, rfl, rfl, rfl, rfl, rfl, hK, hA⟩ := F
  obtain ⟨rfl, hHP, hr, hlk⟩ := Z
  intro H locs ls hP hD hS hH hl
  obtain ⟨rfl, rfl⟩ := hHP H locs hH
  exact W.iret hx hb hr (fun t ht hW => ⟨v, rfl, h, ht⟩) (fun q hq => by cases hq) d hlk
theorem q_zretR {v : Int32} {post : Int32 → Prop} (F : Fx E cc nL own rm D cI cZ) (Z : RetR E (some .boolean) (gR (fun r => isB r ∧ post r))) (d : decode cc pc = .ok (.ireturn, 1)) (hB : isB v) (h : post v) : Wg E cs 0 0 pc lv [.int v] := by
  obtain ⟨p, l, e, R, s, m, args, below, meth, c, Q, HP, D0, A, nL0, cI0, cZ0⟩ := E
  obtain ⟨⟨hx, hb, hml, hown, hT⟩, rfl, rfl, rfl, rfl, rfl, hK, hA⟩ := F
  obtain ⟨rfl, hHP, hr, hlk⟩ := Z
  intro H locs ls hP hD hS hH hl
  obtain ⟨rfl, rfl⟩ := hHP H locs hH
  exact W.zret hx hb hr (isB_nar hB) (fun t ht hW => ⟨v, rfl, ⟨hB, h⟩, ht⟩) (fun q hq => by cases hq) d hlk
theorem q_lretR {v : Int64} {post : Int64 → Prop} (F : Fx E cc nL own rm D cI cZ) (Z : RetR E (some .long) (gRl post)) (d : decode cc pc = .ok (.lreturn, 1)) (h : post v) : Wg E cs 0 0 pc lv [.long v] := by
  obtain ⟨p, l, e, R, s, m, args, below, meth, c, Q, HP, D0, A, nL0, cI0, cZ0⟩ := E
  obtain ⟨⟨hx, hb, hml, hown, hT⟩, rfl, rfl, rfl, rfl, rfl, hK, hA⟩ := F
  obtain ⟨rfl, hHP, hr, hlk⟩ := Z
  intro H locs ls hP hD hS hH hl
  obtain ⟨rfl, rfl⟩ := hHP H locs hH
  exact W.lret hx hb hr (fun t ht hW => ⟨v, rfl, h, ht⟩) (fun q hq => by cases hq) d hlk
theorem q_aretR {a : Nat} {n : String} {post : Prop} (F : Fx E cc nL own rm D cI cZ) (Z : RetR E (some (.object n)) (gRr a post)) (d : decode cc pc = .ok (.areturn, 1)) (h : post) : Wg E cs 0 0 pc lv [.ref a] := by
  obtain ⟨p, l, e, R, s, m, args, below, meth, c, Q, HP, D0, A, nL0, cI0, cZ0⟩ := E
  obtain ⟨⟨hx, hb, hml, hown, hT⟩, rfl, rfl, rfl, rfl, rfl, hK, hA⟩ := F
  obtain ⟨rfl, hHP, hr, hlk⟩ := Z
  intro H locs ls hP hD hS hH hl
  obtain ⟨rfl, rfl⟩ := hHP H locs hH
  exact W.aret hx hb hr (Or.inl ⟨n, rfl⟩) (Or.inr ⟨a, rfl⟩) (fun t ht hW => ⟨rfl, h, ht⟩) (fun q hq => by cases hq) d hlk
theorem q_iretM {S : Type} {v : Int32} {mc ms : Nat} {cs0 : va_W} {post : Int32 → S → Prop} {CE : S → va_W} (F : Fx E cc nL own rm D cI cZ) (Z : RetM E (some .int) mc ms cs0 (gQi D post CE cs0)) (d : decode cc pc = .ok (.ireturn, 1)) (u : S) (h : post v u) (hcs : CE u = cs) : Wg E cs mc ms pc lv [.int v] := by
  obtain ⟨p, l, e, R, s, m, args, below, meth, c, Q, HP, D0, A, nL0, cI0, cZ0⟩ := E
  obtain ⟨⟨hx, hb, hml, hown, hT⟩, rfl, rfl, rfl, rfl, rfl, hK, hA⟩ := F
  obtain ⟨rfl, rfl, hr, hlk⟩ := Z
  intro H locs ls hP hD hS hH hl
  exact W.iret hx hb hr (fun t ht hW => ⟨⟨v, u, rfl, h, by rw [ht, hcs]; exact hP, by rw [hcs]; exact hD⟩, hS.F ht⟩) hS.2.2 d hlk
theorem q_zretM {S : Type} {v : Int32} {mc ms : Nat} {cs0 : va_W} {post : Int32 → S → Prop} {CE : S → va_W} (F : Fx E cc nL own rm D cI cZ) (Z : RetM E (some .boolean) mc ms cs0 (gQi D (fun r u => isB r ∧ post r u) CE cs0)) (d : decode cc pc = .ok (.ireturn, 1)) (hB : isB v) (u : S) (h : post v u) (hcs : CE u = cs) : Wg E cs mc ms pc lv [.int v] := by
  obtain ⟨p, l, e, R, s, m, args, below, meth, c, Q, HP, D0, A, nL0, cI0, cZ0⟩ := E
  obtain ⟨⟨hx, hb, hml, hown, hT⟩, rfl, rfl, rfl, rfl, rfl, hK, hA⟩ := F
  obtain ⟨rfl, rfl, hr, hlk⟩ := Z
  intro H locs ls hP hD hS hH hl
  exact W.zret hx hb hr (isB_nar hB) (fun t ht hW => ⟨⟨v, u, rfl, ⟨hB, h⟩, by rw [ht, hcs]; exact hP, by rw [hcs]; exact hD⟩, hS.F ht⟩) hS.2.2 d hlk
theorem q_vretM {S : Type} {mc ms : Nat} {cs0 : va_W} {post : S → Prop} {CE : S → va_W} (F : Fx E cc nL own rm D cI cZ) (Z : RetM E none mc ms cs0 (gQv D post CE cs0)) (d : decode cc pc = .ok (.return_, 1)) (u : S) (h : post u) (hcs : CE u = cs) : Wg E cs mc ms pc lv [] := by
  obtain ⟨p, l, e, R, s, m, args, below, meth, c, Q, HP, D0, A, nL0, cI0, cZ0⟩ := E
  obtain ⟨⟨hx, hb, hml, hown, hT⟩, rfl, rfl, rfl, rfl, rfl, hK, hA⟩ := F
  obtain ⟨rfl, rfl, hr, hlk⟩ := Z
  intro H locs ls hP hD hS hH hl
  exact W.vret hx hb hr (fun t ht hW => ⟨⟨u, rfl, h, by rw [ht, hcs]; exact hP, by rw [hcs]; exact hD⟩, hS.F ht⟩) hS.2.2 d hlk
end QR
/-- what the tables say of a callee -/
def MC (y : MethodName) (bytes : ByteArray) (maxL : Nat) (ret : Option FieldType) (n : Nat) : Prop := Cond.code y bytes maxL ret ∈ Tw ∧ Cond.initialized y.cls ∈ Tw ∧ y.cls ≠ "java/lang/invoke/MethodHandle" ∧ y.cls ≠ "java/lang/invoke/VarHandle" ∧ (parseMethodDescriptor y.desc).map (fun d => d.parameters.length) = some n
def RunE : MEnv → va_W → Nat → Nat → Nat → Nat → Nat → List (Nat × Value) → List Value → List Value → (Nat → State → Outcome → State → Prop) → (Nat → Addr → Prop) → Prop
  | (p, l, e, R, s, m, args, below, meth, c, _, HP, D, A, nL, _, _), cs, kc, ks, mc, ms, pc, lv, st0, rest, Qa, free => ∀ (H : Heap) (locs : List Loc) (ls : Array Slot), va_P D vwCl cs H → va_D A cs → va_S A s.heap H locs → HP H locs → lv_has ls nL lv → va_Run p l e R s m args below meth c H locs kc ks mc ms (F0 m pc ls st0) rest (Qa H.size) (free H.size)
section QC
variable {E : MEnv} {cc : ByteArray} {nL : Nat} {own : String} {rm : Room} {D : va_G} {cI cZ : ClassId} {cs : va_W} {kc ks pc : Nat} {lv : List (Nat × Value)} {st0 rest : List Value}
variable {y : MethodName} {bytes : ByteArray} {maxL n index mc ms : Nat} {ret : Option FieldType} {rmC : Room} {wc : va_W} {Qc : Nat → Array Value → State → Outcome → State → Prop} {free : Nat → Addr → Prop} {As : List Value}
theorem q_runS (F : Fx E cc nL own rm D cI cZ) (hM : ∀ (l : Launch) (sz : Nat), Met l y (wsM y bytes maxL ret) rmC (va_Pc As (gP D cI cZ wc sz)) (Qc sz) mc ms (free sz)) (mc9 : MC y bytes maxL ret n) (hst : Cond.static y ∈ Tw) (hlk : Cond.methodLink own index y ∈ Tw) (hR : rmC.frames + 1 ≤ rm.frames ∧ 8 + (maxL + 11) + rmC.locals ≤ rm.locals) (hk : kc + mc ≤ rm.cells ∧ ks + ms ≤ rm.slots) (hrm : rmC.cells = mc ∧ rmC.slots = ms) (isC : List Nat) (h1 : isC.map (fun i => cs[i]?) = wc.map some) (h2 : va_nd isC = true) (hn : As.length = n) (hs : st0 = As.reverse ++ rest) (hw : (rest.map fun v => v.category).sum ≤ 8) (d : decode cc pc = .ok (.invokestatic index, 3)) : RunE E cs kc ks mc ms pc lv st0 rest (fun sz => Qc sz As.toArray) free := by
  obtain ⟨p, l, e, R, s, m, args, below, meth, c, Q, HP, D0, A, nL0, cI0, cZ0⟩ := E
  obtain ⟨⟨hx, hb, hml, hown, hT⟩, rfl, rfl, rfl, rfl, rfl, hK, hA⟩ := F
  intro H locs ls hP hD hS hH hl
  exact va_runS ⟨hx, hb, hml, hown, hT⟩ (hM l H.size) ⟨(callB_of (ws' := Tw) n hT (good_T mc9.1) rfl hrm.1 hrm.2 (hT _ mc9.2.1) (hT _ hlk) mc9.2.2 hR), hT _ hst⟩ (gP_pre hP hD hK isC h1 h2) rfl hn hl.1 hs (lv_room hw) d hk
theorem q_runSN {host : String} (F : Fx E cc nL own rm D cI cZ) (hM : ∀ (l : Launch) (sz : Nat), Met l y (wsM y bytes maxL ret) rmC (va_Pc As (gP D cI cZ wc sz)) (Qc sz) mc ms (free sz)) (mc9 : MC y bytes maxL ret n) (hst : Cond.static y ∈ Tw) (hlk0 : ∀ U : State, nestOk U → va_Nw (.methodLinkNest own index y host) U) (hR : rmC.frames + 1 ≤ rm.frames ∧ 8 + (maxL + 11) + rmC.locals ≤ rm.locals) (hk : kc + mc ≤ rm.cells ∧ ks + ms ≤ rm.slots) (hrm : rmC.cells = mc ∧ rmC.slots = ms) (isC : List Nat) (h1 : isC.map (fun i => cs[i]?) = wc.map some) (h2 : va_nd isC = true) (hn : As.length = n) (hs : st0 = As.reverse ++ rest) (hw : (rest.map fun v => v.category).sum ≤ 8) (d : decode cc pc = .ok (.invokestatic index, 3)) : RunE E cs kc ks mc ms pc lv st0 rest (fun sz => Qc sz As.toArray) free := by
  obtain ⟨p, l, e, R, s, m, args, below, meth, c, Q, HP, D0, A, nL0, cI0, cZ0⟩ := E
  obtain ⟨⟨hx, hb, hml, hown, hT⟩, rfl, rfl, rfl, rfl, rfl, hK, hA⟩ := F
  intro H locs ls hP hD hS hH hl
  have hlk := hlk0 _ hK.2
  exact va_runSN ⟨hx, hb, hml, hown, hT⟩ (hM l H.size) ⟨(va_cnB (ws' := Tw) n hT (good_T mc9.1) rfl hrm.1 hrm.2 hlk (hT _ mc9.2.1) mc9.2.2 hR), hT _ hst, trivial⟩ (gP_pre hP hD hK isC h1 h2) rfl hn hl.1 hs (lv_room hw) d hk
theorem q_runV {b ci : Nat} {C : String} {T9 : u_T} {N9 : Nat} {fs : List Value} (F : Fx E cc nL own rm D cI cZ) (hM : ∀ (l : Launch) (sz : Nat), Met l y (wsM y bytes maxL ret) rmC (va_Pc (.ref b :: As) (gP D cI cZ wc sz)) (Qc sz) mc ms (free sz)) (mc9 : MC y bytes maxL ret n) (hin : Cond.instanceMethod y ∈ Tw) (hse : Cond.selects C y y ∈ Tw) (hlk : Cond.methodLink own index y ∈ Tw) (hR : rmC.frames + 1 ≤ rm.frames ∧ 8 + (maxL + 11) + rmC.locals ≤ rm.locals) (hk : kc + mc ≤ rm.cells ∧ ks + ms ≤ rm.slots) (hrm : rmC.cells = mc ∧ rmC.slots = ms) (isC : List Nat) (h1 : isC.map (fun i => cs[i]?) = wc.map some) (h2 : va_nd isC = true) (hn : As.length = n) (z : Nat) (he : cs[z]? = some (b, .inr (ci, fs))) (hci : vwCl[ci]? = some (C, T9, N9)) (hs : st0 = As.reverse ++ .ref b :: rest) (hw : (rest.map fun v => v.category).sum ≤ 8) (d : decode cc pc = .ok (.invokevirtual index, 3)) : RunE E cs kc ks mc ms pc lv st0 rest (fun sz => Qc sz (Value.ref b :: As).toArray) free := by
  obtain ⟨p, l, e, R, s, m, args, below, meth, c, Q, HP, D0, A, nL0, cI0, cZ0⟩ := E
  obtain ⟨⟨hx, hb, hml, hown, hT⟩, rfl, rfl, rfl, rfl, rfl, hK, hA⟩ := F
  intro H locs ls hP hD hS hH hl
  have hpre := gP_pre (As := Value.ref b :: As) hP hD hK isC h1 h2
  exact va_runV ⟨hx, hb, hml, hown, hT⟩ (hM l H.size) ⟨(callB_of (ws' := Tw) n hT (good_T mc9.1) rfl hrm.1 hrm.2 (hT _ mc9.2.1) (hT _ hlk) mc9.2.2 hR), hT _ hin, hT _ hse⟩ ⟨hpre.1, va_recv hK.1 hP hci he, hpre.2⟩ rfl hn hl.1 hs (lv_room hw) d hk
theorem q_runI {b : Nat} (F : Fx E cc nL own rm D cI cZ) (hM : ∀ (l : Launch) (sz : Nat), Met l y (wsM y bytes maxL none) rmC (va_Pc (.ref b :: As) (gP D cI cZ wc sz)) (Qc sz) mc ms (free sz)) (mc9 : MC y bytes maxL none n) (hy1 : y.name = "<init>") (hin : Cond.instanceMethod y ∈ Tw) (hlk : Cond.methodLink own index y ∈ Tw) (hR : rmC.frames + 1 ≤ rm.frames ∧ 8 + (maxL + 11) + rmC.locals ≤ rm.locals) (hk : kc + mc ≤ rm.cells ∧ ks + ms ≤ rm.slots) (hrm : rmC.cells = mc ∧ rmC.slots = ms) (isC : List Nat) (h1 : isC.map (fun i => cs[i]?) = wc.map some) (h2 : va_nd isC = true) (hn : As.length = n) (hs : st0 = As.reverse ++ .ref b :: rest) (hw : (rest.map fun v => v.category).sum ≤ 8) (d : decode cc pc = .ok (.invokespecial index, 3)) : RunE E cs kc ks mc ms pc lv st0 rest (fun sz => Qc sz (Value.ref b :: As).toArray) free := by
  obtain ⟨p, l, e, R, s, m, args, below, meth, c, Q, HP, D0, A, nL0, cI0, cZ0⟩ := E
  obtain ⟨⟨hx, hb, hml, hown, hT⟩, rfl, rfl, rfl, rfl, rfl, hK, hA⟩ := F
  intro H locs ls hP hD hS hH hl
  exact va_runI ⟨hx, hb, hml, hown, hT⟩ (hM l H.size) ⟨(callB_of (ws' := Tw) n hT (good_T mc9.1) rfl hrm.1 hrm.2 (hT _ mc9.2.1) (hT _ hlk) mc9.2.2 hR), hy1, hT _ hin⟩ (gP_pre (As := Value.ref b :: As) hP hD hK isC h1 h2) rfl hn hl.1 hs (lv_room hw) d hk
theorem q_runIN {b : Nat} {host : String} (F : Fx E cc nL own rm D cI cZ) (hM : ∀ (l : Launch) (sz : Nat), Met l y (wsM y bytes maxL none) rmC (va_Pc (.ref b :: As) (gP D cI cZ wc sz)) (Qc sz) mc ms (free sz)) (mc9 : MC y bytes maxL none n) (hy1 : y.name = "<init>") (hin : Cond.instanceMethod y ∈ Tw) (hlk0 : ∀ U : State, nestOk U → va_Nw (.methodLinkNest own index y host) U) (hR : rmC.frames + 1 ≤ rm.frames ∧ 8 + (maxL + 11) + rmC.locals ≤ rm.locals) (hk : kc + mc ≤ rm.cells ∧ ks + ms ≤ rm.slots) (hrm : rmC.cells = mc ∧ rmC.slots = ms) (isC : List Nat) (h1 : isC.map (fun i => cs[i]?) = wc.map some) (h2 : va_nd isC = true) (hn : As.length = n) (hs : st0 = As.reverse ++ .ref b :: rest) (hw : (rest.map fun v => v.category).sum ≤ 8) (d : decode cc pc = .ok (.invokespecial index, 3)) : RunE E cs kc ks mc ms pc lv st0 rest (fun sz => Qc sz (Value.ref b :: As).toArray) free := by
  obtain ⟨p, l, e, R, s, m, args, below, meth, c, Q, HP, D0, A, nL0, cI0, cZ0⟩ := E
  obtain ⟨⟨hx, hb, hml, hown, hT⟩, rfl, rfl, rfl, rfl, rfl, hK, hA⟩ := F
  intro H locs ls hP hD hS hH hl
  have hlk := hlk0 _ hK.2
  exact va_runIN ⟨hx, hb, hml, hown, hT⟩ (hM l H.size) ⟨(va_cnB (ws' := Tw) n hT (good_T mc9.1) rfl hrm.1 hrm.2 hlk (hT _ mc9.2.1) mc9.2.2 hR), hy1, hT _ hin⟩ (gP_pre (As := Value.ref b :: As) hP hD hK isC h1 h2) rfl hn hl.1 hs (lv_room hw) d hk
theorem q_cR {av : Array Value} {post : Int32 → Prop} (hr : RunE E cs kc ks 0 0 pc lv st0 rest (fun _ => gR post av) (fun _ _ => False)) (kk : ∀ r : Int32, post r → Wg E cs kc ks (pc + 3) lv (.int r :: rest)) : Wg E cs kc ks pc lv st0 := by
  obtain ⟨p, l, e, R, s, m, args, below, meth, c, Q, HP, D0, A, nL0, cI0, cZ0⟩ := E
  intro H locs ls hP hD hS hH hl T hT X
  obtain ⟨v, st₀, t, T', L, h0, X', hL, e1, -, ⟨r, hv, hp, hh⟩, stp⟩ := hr H locs ls hP hD hS hH hl T hT X
  cases hv
  obtain ⟨t2, a1, b1⟩ := kk r hp H locs ls hP hD hS hH hl T' (by rw [e1, hh, h0]) (Stand.forget X' (fun q h => (hL q h).elim))
  exact ⟨t2, stp t2 a1, b1⟩
theorem q_cRl {av : Array Value} {post : Int64 → Prop} (hr : RunE E cs kc ks 0 0 pc lv st0 rest (fun _ => gRl post av) (fun _ _ => False)) (kk : ∀ r : Int64, post r → Wg E cs kc ks (pc + 3) lv (.long r :: rest)) : Wg E cs kc ks pc lv st0 := by
  obtain ⟨p, l, e, R, s, m, args, below, meth, c, Q, HP, D0, A, nL0, cI0, cZ0⟩ := E
  intro H locs ls hP hD hS hH hl T hT X
  obtain ⟨v, st₀, t, T', L, h0, X', hL, e1, -, ⟨r, hv, hp, hh⟩, stp⟩ := hr H locs ls hP hD hS hH hl T hT X
  cases hv
  obtain ⟨t2, a1, b1⟩ := kk r hp H locs ls hP hD hS hH hl T' (by rw [e1, hh, h0]) (Stand.forget X' (fun q h => (hL q h).elim))
  exact ⟨t2, stp t2 a1, b1⟩
theorem q_cRr {av : Array Value} {a : Nat} {post : Prop} (hr : RunE E cs kc ks 0 0 pc lv st0 rest (fun _ => gRr a post av) (fun _ _ => False)) (kk : post → Wg E cs kc ks (pc + 3) lv (.ref a :: rest)) : Wg E cs kc ks pc lv st0 := by
  obtain ⟨p, l, e, R, s, m, args, below, meth, c, Q, HP, D0, A, nL0, cI0, cZ0⟩ := E
  intro H locs ls hP hD hS hH hl T hT X
  obtain ⟨v, st₀, t, T', L, h0, X', hL, e1, -, ⟨hv, hp, hh⟩, stp⟩ := hr H locs ls hP hD hS hH hl T hT X
  cases hv
  obtain ⟨t2, a1, b1⟩ := kk hp H locs ls hP hD hS hH hl T' (by rw [e1, hh, h0]) (Stand.forget X' (fun q h => (hL q h).elim))
  exact ⟨t2, stp t2 a1, b1⟩
theorem q_cMi {S : Type} {av : Array Value} {wr : va_W} {post : Int32 → S → Prop} {CE : S → va_W} (F : Fx E cc nL own rm D cI cZ) (M : Mut E) (hr : RunE E cs kc ks mc ms pc lv st0 rest (fun sz => gQi D post CE wc sz av) (fun sz => va_A wc sz)) (isC isR : List Nat) (hC : isC.map (fun i => cs[i]?) = wc.map some) (hR : isR.map (fun i => cs[i]?) = wr.map some) (hn9 : va_nd isR = true) (hdis : ∀ i ∈ isR, i ∉ isC) (kk : ∀ (r : Int32) (u : S), post r u → Wg E (wr ++ CE u) (kc + mc) (ks + ms) (pc + 3) lv (.int r :: rest)) : Wg E cs kc ks pc lv st0 := by
  obtain ⟨p, l, e, R, s, m, args, below, meth, c, Q, HP, D0, A, nL0, cI0, cZ0⟩ := E
  obtain ⟨⟨hx, hb, hml, hown, hT⟩, rfl, rfl, rfl, rfl, rfl, hK, hA⟩ := F
  intro H locs ls hP hD hS hH hl
  have hFc := va_free hD hS hA isC hC
  refine va_calli (hr H locs ls hP hD hS hH hl) hS (fun q _ h => hFc q h) hFc (fun r u t H1 locs1 ht hvm hw hB hz1 hk1 hS1 => ?_)
  obtain ⟨hP1, hD1⟩ := hB
  rw [ht] at hP1
  obtain ⟨hP2, hD2⟩ := va_join hP hD isC isR hC hR hn9 hdis hk1 hFc hP1 hD1
  exact kk r u hw H1 locs1 ls hP2 hD2 hS1 (M _ _) hl
theorem q_cMv {S : Type} {av : Array Value} {wr : va_W} {post : S → Prop} {CE : S → va_W} (F : Fx E cc nL own rm D cI cZ) (M : Mut E) (hr : RunE E cs kc ks mc ms pc lv st0 rest (fun sz => gQv D post CE wc sz av) (fun sz => va_A wc sz)) (isC isR : List Nat) (hC : isC.map (fun i => cs[i]?) = wc.map some) (hR : isR.map (fun i => cs[i]?) = wr.map some) (hn9 : va_nd isR = true) (hdis : ∀ i ∈ isR, i ∉ isC) (kk : ∀ (u : S), post u → Wg E (wr ++ CE u) (kc + mc) (ks + ms) (pc + 3) lv rest) : Wg E cs kc ks pc lv st0 := by
  obtain ⟨p, l, e, R, s, m, args, below, meth, c, Q, HP, D0, A, nL0, cI0, cZ0⟩ := E
  obtain ⟨⟨hx, hb, hml, hown, hT⟩, rfl, rfl, rfl, rfl, rfl, hK, hA⟩ := F
  intro H locs ls hP hD hS hH hl
  have hFc := va_free hD hS hA isC hC
  refine va_callv (hr H locs ls hP hD hS hH hl) hS (fun q _ h => hFc q h) hFc (fun u t H1 locs1 ht hvm hw hB hz1 hk1 hS1 => ?_)
  obtain ⟨hP1, hD1⟩ := hB
  rw [ht] at hP1
  obtain ⟨hP2, hD2⟩ := va_join hP hD isC isR hC hR hn9 hdis hk1 hFc hP1 hD1
  exact kk u hw H1 locs1 ls hP2 hD2 hS1 (M _ _) hl
end QC
