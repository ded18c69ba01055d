/-! CONSTRUCTORS: a judgement over a world that grows -/
def qi_K (E : qs_E) (A : Nat → Prop) (U : State) : Prop := qs_Bg E A U ∧ va_AO RX0 U ∧ va_AO RX2 U
def qi_Cx (E : qs_E) (A : Nat → Prop) (mm : qs_M) (p : Program) (s : State) (m : MethodId) (args : Array Value) (meth : Method) (c : Code) : Prop :=
  p.tables.exec = Jvm.exec ∧ c.code = mm.2.1 ∧ meth.sig.returnType = mm.2.2.2 ∧ c.maxLocals = mm.2.2.1 ∧ s.vm.findClass mm.1 = some m.cls ∧ (∀ w ∈ qs_gT, w.before args s = true) ∧ meth.locks = false ∧ qi_K E A s ∧ meth.name = "<init>" ∧ (∀ q : Nat, s.heap.size ≤ q → A q)
def qi_B {S : Type} (E : qs_E) (A : Nat → Prop) (wd : S → va_W) : S → State → Prop := fun u t => va_P E.1 vwCl (wd u) t.heap ∧ va_D A (wd u)
def qi_V {S : Type} (l : Launch) (E : qs_E) (A : Nat → Prop) (mm : qs_M) (R : Room) (post : S → Prop) (wd : S → va_W) (mc ms : Nat) (ws : va_W) (cells slots pc : Nat) (lv : List (Nat × Value)) (st : List Value) : Prop :=
  ∀ (p : Program) (e : Env) (s : State) (m : MethodId) (args : Array Value) (below : List Frame) (meth : Method) (c : Code) (H : Heap) (locs : List Loc) (ls : Array Slot), qi_Cx E A mm p s m args meth c → va_S A s.heap H locs → va_P E.1 vwCl ws H → va_D A ws → lv_has ls mm.2.2.1 lv →
    W p l e R s m args below meth c H locs cells slots (MQ below (va_Qv post (qi_B E A wd) A) args s mc ms A) (F0 m pc ls st)
def qi_Met {S : Type} (l : Launch) (E : qs_E) (y : MethodName) (mm : qs_M) (R : Room) (mc ms ci : Nat) (fs : List Value) (h0 sz : Nat) (post : S → Prop) (wd : S → va_W) : Prop :=
  Met l y (qs_ws y mm) R (va_Pc [.ref h0] (fun U => U.heap.size = sz ∧ va_P E.1 vwCl [(h0, .inr (ci, fs))] U.heap ∧ qi_K E (va_A [(h0, .inr (ci, fs))] sz) U ∧ va_D (fun _ => True) [(h0, .inr (ci, fs))])) (va_Qv post (qi_B E (va_A [(h0, .inr (ci, fs))] sz) wd) (va_A [(h0, .inr (ci, fs))] sz)) mc ms (va_A [(h0, .inr (ci, fs))] sz)
def qs_FP (own : String) (idx ci k : Nat) (ft : FieldType) : Prop := ∃ (C : String) (T : u_T) (N : Nat) (ty : Nat → FieldType), qs_cl ci C T N ty ∧ k < N ∧ ty k = ft ∧ (T k).1 = C ∧ (T k).2.2.2 = true ∧ (T k).1 = own ∧ Cond.fieldLink own idx C (T k).2.1 (T k).2.2.1 ∈ qs_gT
section QI
variable {S : Type} {l : Launch} {E : qs_E} {A : Nat → Prop} {mm : qs_M} {R : Room} {post : S → Prop} {wd : S → va_W} {mc ms : Nat} {ws : va_W} {cells slots pc : Nat} {lv : List (Nat × Value)} {st : List Value}
theorem qi_aload {j : Fin 4} {i a : Nat} (hd : decode mm.2.1 pc = .ok (.aload_n j, 1)) (hi : (j : Nat) = i) (n : Nat) (hk : lv[n]? = some (i, .ref a)) (k : qi_V l E A mm R post wd mc ms ws cells slots (pc + 1) lv (.ref a :: st)) : qi_V l E A mm R post wd mc ms ws cells slots pc lv st :=
  fun p e s m args below meth c H locs ls hc hS hP hD hl => lv_aload_n hc.1 hc.2.1 hd hi (lv_at hl n hk) (k p e s m args below meth c H locs ls hc hS hP hD hl)
theorem qi_iload {j : Fin 4} {i : Nat} {x : Int32} (hd : decode mm.2.1 pc = .ok (.iload_n j, 1)) (hi : (j : Nat) = i) (n : Nat) (hk : lv[n]? = some (i, .int x)) (k : qi_V l E A mm R post wd mc ms ws cells slots (pc + 1) lv (.int x :: st)) : qi_V l E A mm R post wd mc ms ws cells slots pc lv st :=
  fun p e s m args below meth c H locs ls hc hS hP hD hl => lv_iload_n hc.1 hc.2.1 hd hi (lv_at hl n hk) (k p e s m args below meth c H locs ls hc hS hP hD hl)
theorem qi_iconst {n : Int} (v : Int32) (hd : decode mm.2.1 pc = .ok (.iconst n, 1)) (hv : Int32.ofInt n = v) (k : qi_V l E A mm R post wd mc ms ws cells slots (pc + 1) lv (.int v :: st)) : qi_V l E A mm R post wd mc ms ws cells slots pc lv st :=
  fun p e s m args below meth c H locs ls hc hS hP hD hl => lv_iconst hc.1 hc.2.1 hd hv (k p e s m args below meth c H locs ls hc hS hP hD hl)
theorem qi_bipush {n : Int} (v : Int32) (hd : decode mm.2.1 pc = .ok (.bipush n, 2)) (hv : (Int8.ofInt n).toInt32 = v) (k : qi_V l E A mm R post wd mc ms ws cells slots (pc + 2) lv (.int v :: st)) : qi_V l E A mm R post wd mc ms ws cells slots pc lv st :=
  fun p e s m args below meth c H locs ls hc hS hP hD hl => lv_bipush hc.1 hc.2.1 hd hv (k p e s m args below meth c H locs ls hc hS hP hD hl)
theorem qi_sipush {n : Int} (v : Int32) (hd : decode mm.2.1 pc = .ok (.sipush n, 3)) (hv : (Int16.ofInt n).toInt32 = v) (k : qi_V l E A mm R post wd mc ms ws cells slots (pc + 3) lv (.int v :: st)) : qi_V l E A mm R post wd mc ms ws cells slots pc lv st :=
  fun p e s m args below meth c H locs ls hc hS hP hD hl => lv_sipush hc.1 hc.2.1 hd hv (k p e s m args below meth c H locs ls hc hS hP hD hl)
theorem qi_dup {v : Value} (hd : decode mm.2.1 pc = .ok (.dup, 1)) (hv : v.category = 1) (k : qi_V l E A mm R post wd mc ms ws cells slots (pc + 1) lv (v :: v :: st)) : qi_V l E A mm R post wd mc ms ws cells slots pc lv (v :: st) :=
  fun p e s m args below meth c H locs ls hc hS hP hD hl => lv_dup hc.1 hc.2.1 hd hv (k p e s m args below meth c H locs ls hc hS hP hD hl)
theorem qi_istore {j : Fin 4} {i : Nat} {x : Int32} (lv' : List (Nat × Value)) (hd : decode mm.2.1 pc = .ok (.istore_n j, 1)) (hi : (j : Nat) = i) (hn : i < mm.2.2.1) (hl' : (i, Value.int x) :: lv.filter (fun q => !(q.1 == i) && !(q.1 + 1 == i && q.2.category == 2)) = lv') (k : qi_V l E A mm R post wd mc ms ws cells slots (pc + 1) lv' st) : qi_V l E A mm R post wd mc ms ws cells slots pc lv (.int x :: st) :=
  fun p e s m args below meth c H locs ls hc hS hP hD hl => lv_istore_n hc.1 hc.2.1 hd hi hl hn hl' (fun ls hl => k p e s m args below meth c H locs ls hc hS hP hD hl)
theorem qi_iinc {i q : Nat} {n : Int} {x : Int32} (v : Int32) (lv' : List (Nat × Value)) (hd : decode mm.2.1 pc = .ok (.iinc i n, 3)) (hk : lv[q]? = some (i, .int x)) (hv : x + Int32.ofInt n = v) (hn : i < mm.2.2.1) (hl' : (i, Value.int v) :: lv.filter (fun q => !(q.1 == i) && !(q.1 + 1 == i && q.2.category == 2)) = lv') (k : qi_V l E A mm R post wd mc ms ws cells slots (pc + 3) lv' st) : qi_V l E A mm R post wd mc ms ws cells slots pc lv st :=
  fun p e s m args below meth c H locs ls hc hS hP hD hl => lv_iinc hc.1 hc.2.1 hd hl hk hv hn hl' (fun ls hl => k p e s m args below meth c H locs ls hc hS hP hD hl)
theorem qi_goto {off : Int} (tgt : Nat) (hd : decode mm.2.1 pc = .ok (.goto off, 3)) (ht : (pc : Int) + off = (tgt : Int)) (k : qi_V l E A mm R post wd mc ms ws cells slots tgt lv st) : qi_V l E A mm R post wd mc ms ws cells slots pc lv st :=
  fun p e s m args below meth c H locs ls hc hS hP hD hl => lv_goto hc.1 hc.2.1 hd ht (k p e s m args below meth c H locs ls hc hS hP hD hl)
theorem qi_geN {off : Int} (tgt : Nat) {x y : Int32} (hd : decode mm.2.1 pc = .ok (.if_icmp .ge off, 3)) (ht : (pc : Int) + off = (tgt : Int)) (h : ¬ y ≤ x) (k : qi_V l E A mm R post wd mc ms ws cells slots (pc + 3) lv st) : qi_V l E A mm R post wd mc ms ws cells slots pc lv (.int y :: .int x :: st) :=
  fun p e s m args below meth c H locs ls hc hS hP hD hl => lv_icmp_ge hc.1 hc.2.1 hd ht (fun h2 => absurd h2 h) (fun _ => k p e s m args below meth c H locs ls hc hS hP hD hl)
theorem qi_geY {off : Int} (tgt : Nat) {x y : Int32} (hd : decode mm.2.1 pc = .ok (.if_icmp .ge off, 3)) (ht : (pc : Int) + off = (tgt : Int)) (h : y ≤ x) (k : qi_V l E A mm R post wd mc ms ws cells slots tgt lv st) : qi_V l E A mm R post wd mc ms ws cells slots pc lv (.int y :: .int x :: st) :=
  fun p e s m args below meth c H locs ls hc hS hP hD hl => lv_icmp_ge hc.1 hc.2.1 hd ht (fun _ => k p e s m args below meth c H locs ls hc hS hP hD hl) (fun h2 => absurd h h2)
theorem qi_obj {idx a : Nat} (hw : Cond.methodLink mm.1 idx Lib.objectInit ∈ qs_gT ∧ Cond.instanceMethod Lib.objectInit ∈ qs_gT ∧ Cond.code Lib.objectInit ⟨#[0xb1]⟩ 1 none ∈ qs_gT) (h1 : 1 ≤ R.frames) (h2 : 20 ≤ R.locals) (hst : (st.map fun v => v.category).sum ≤ 8) (hd : decode mm.2.1 pc = .ok (.invokespecial idx, 3)) (k : qi_V l E A mm R post wd mc ms ws cells slots (pc + 3) lv st) : qi_V l E A mm R post wd mc ms ws cells slots pc lv (.ref a :: st) := by
  intro p e s m args below meth c H locs ls hc hS hP hD hl
  have h8 := lv_room (m := m) (pc := pc) (ls := ls) (rest := .ref a :: st) hst
  exact W.objInit hc.1 hc.2.1 hc.2.2.2.2.1 (hc.2.2.2.2.2.1 _ hw.1) (hc.2.2.2.2.2.1 _ hw.2.1) (hc.2.2.2.2.2.1 _ hw.2.2) (g := F0 m pc ls (.ref a :: st)) rfl (by rw [hc.2.2.2.1]; exact hl.1) rfl hd h1 (by omega) (k p e s m args below meth c H locs ls hc hS hP hD hl)
theorem qi_vret (hr : mm.2.2.2 = none) (u : S) (hp : post u) (hw : ws = wd u) (hcell : cells = mc) (hslot : slots = ms) (hd : decode mm.2.1 pc = .ok (.return_, 1)) : qi_V l E A mm R post wd mc ms ws cells slots pc lv [] := by
  subst hcell
  subst hslot
  intro p e s m args below meth c H locs ls hc hS hP hD hl
  exact W.vret hc.1 hc.2.1 (hc.2.2.1.trans hr) (fun t ht hW => ⟨⟨u, rfl, hp, by rw [ht, ← hw]; exact hP, by rw [← hw]; exact hD⟩, hS.F ht⟩) hS.2.2 hd (hlocks := hc.2.2.2.2.2.2.1)
theorem qi_new {idx ci N : Nat} {C : String} {Tt : u_T} {ty : Nat → FieldType} (fs : List Value) (ws' : Nat → va_W) (hcl : qs_cl ci C Tt N ty) (hw : Cond.classLink mm.1 idx C ∈ qs_gT ∧ Cond.instantiable C N ∈ qs_gT ∧ Cond.initialized C ∈ qs_gT) (hfs : ∀ j, j < N → defaultValue (ty j) = vp_V fs j) (hws : ∀ q, ws ++ [(q, .inr (ci, fs))] = ws' q) (hcells : cells + 1 ≤ R.cells) (hslots : slots + N ≤ R.slots) (hd : decode mm.2.1 pc = .ok (.new idx, 3)) (k : ∀ q : Nat, qi_V l E A mm R post wd mc ms (ws' q) (cells + 1) (slots + N) (pc + 3) lv (.ref q :: st)) : qi_V l E A mm R post wd mc ms ws cells slots pc lv st := by
  obtain ⟨h1, h2, h3, h4⟩ := hcl
  intro p e s m args below meth c H locs ls hc hS hP hD hl
  have hts := hc.2.2.2.2.2.1
  exact va_new (D := E.1) (ci := ci) (fs := fs) (C := C) (T := Tt) (N := N) hc.1 hc.2.1 hts h2 ty h3 hc.2.2.2.2.1 (hts _ hw.1) (hts _ hw.2.1) (hts _ hw.2.2) hc.2.2.2.2.2.2.2.1.1.1 hP hD hS hc.2.2.2.2.2.2.2.2.2 h1 hfs hcells hslots hd (fun q H1 hP1 hD1 hS1 => k q p e s m args below meth c H1 locs ls hc hS1 (by rw [← hws]; exact hP1) (by rw [← hws]; exact hD1) hl)
theorem qi_newi {n : Int32} (N : Nat) (ws' : Nat → va_W) (harr : Cond.arrayClass .int ∈ qs_gT) (hn : ¬ n < 0) (hN : n.toNatClampNeg = N) (hb : N * 4 ≤ 536870912) (hws : ∀ q, ws ++ [(q, .inl (E.2.1 0, N, .inl (fun _ => 0)))] = ws' q) (hcells : cells + 1 ≤ R.cells) (hslots : slots + N ≤ R.slots) (hd : decode mm.2.1 pc = .ok (.newarray .int, 2)) (k : ∀ q : Nat, qi_V l E A mm R post wd mc ms (ws' q) (cells + 1) (slots + N) (pc + 2) lv (.ref q :: st)) : qi_V l E A mm R post wd mc ms ws cells slots pc lv (.int n :: st) := by
  intro p e s m args below meth c H locs ls hc hS hP hD hl
  have hts := hc.2.2.2.2.2.1
  refine va_newa (D := E.1) (atype := .int) (ty := .int) (a0 := (N, .inl (fun _ => 0))) hc.1 hc.2.1 (hts _ harr) rfl hc.2.2.2.2.2.2.2.1.1.1 hP hD hS hc.2.2.2.2.2.2.2.2.2 (fun cA => rfl) hn hN hb hcells hslots hd (fun q cA H1 hK1 hP1 hD1 hS1 => ?_)
  have e1 := (hK1.2 4 _ rfl).2
  have e0 := (hK1.2 0 _ rfl).2
  have ecA : cA = E.2.1 0 := Option.some.inj (e1.symm.trans e0)
  subst ecA
  exact k q p e s m args below meth c H1 locs ls hc hS1 (by rw [← hws]; exact hP1) (by rw [← hws]; exact hD1) hl
theorem qi_newb {n : Int32} (N : Nat) (ws' : Nat → va_W) (harr : Cond.arrayClass .byte ∈ qs_gT) (hn : ¬ n < 0) (hN : n.toNatClampNeg = N) (hb : N * 1 ≤ 536870912) (hws : ∀ q, ws ++ [(q, .inl (E.2.1 1, N, .inl (fun _ => 0)))] = ws' q) (hcells : cells + 1 ≤ R.cells) (hslots : slots + N ≤ R.slots) (hd : decode mm.2.1 pc = .ok (.newarray .byte, 2)) (k : ∀ q : Nat, qi_V l E A mm R post wd mc ms (ws' q) (cells + 1) (slots + N) (pc + 2) lv (.ref q :: st)) : qi_V l E A mm R post wd mc ms ws cells slots pc lv (.int n :: st) := by
  intro p e s m args below meth c H locs ls hc hS hP hD hl
  have hts := hc.2.2.2.2.2.1
  refine va_newa (D := E.1) (atype := .byte) (ty := .byte) (a0 := (N, .inl (fun _ => 0))) hc.1 hc.2.1 (hts _ harr) rfl hc.2.2.2.2.2.2.2.1.1.1 hP hD hS hc.2.2.2.2.2.2.2.2.2 (fun cA => rfl) hn hN hb hcells hslots hd (fun q cA H1 hK1 hP1 hD1 hS1 => ?_)
  have e1 := (hK1.2 4 _ rfl).2
  have e0 := (hK1.2 1 _ rfl).2
  have ecA : cA = E.2.1 1 := Option.some.inj (e1.symm.trans e0)
  subst ecA
  exact k q p e s m args below meth c H1 locs ls hc hS1 (by rw [← hws]; exact hP1) (by rw [← hws]; exact hD1) hl
theorem qi_newq {n : Int32} {C : String} {idx : Nat} (N t0 : Nat) (ws' : Nat → va_W) (hC : (C = RX0 ∧ t0 = 2) ∨ (C = RX2 ∧ t0 = 3)) (hw : Cond.classLink mm.1 idx C ∈ qs_gT) (hn : ¬ n < 0) (hN : n.toNatClampNeg = N) (hb : N * 4 ≤ 536870912) (hws : ∀ q, ws ++ [(q, .inl (E.2.1 t0, N, .inr (.inr (.inr (.inr (fun _ => none))))))] = ws' q) (hcells : cells + 1 ≤ R.cells) (hslots : slots + N ≤ R.slots) (hd : decode mm.2.1 pc = .ok (.anewarray idx, 3)) (k : ∀ q : Nat, qi_V l E A mm R post wd mc ms (ws' q) (cells + 1) (slots + N) (pc + 3) lv (.ref q :: st)) : qi_V l E A mm R post wd mc ms ws cells slots pc lv (.int n :: st) := by
  intro p e s m args below meth c H locs ls hc hS hP hD hl
  have hts := hc.2.2.2.2.2.1
  have hAO : va_AO C s := by
    rcases hC with ⟨rfl, -⟩ | ⟨rfl, -⟩
    · exact hc.2.2.2.2.2.2.2.1.2.1
    · exact hc.2.2.2.2.2.2.2.1.2.2
  refine va_newq (D := E.1) hc.1 hc.2.1 hc.2.2.2.2.1 (hts _ hw) hAO hc.2.2.2.2.2.2.2.1.1.1 hP hD hS hc.2.2.2.2.2.2.2.2.2 hn hN hb hcells hslots hd (fun q cA H1 hK1 hP1 hD1 hS1 => ?_)
  have ecA : cA = E.2.1 t0 := by
    obtain ⟨kA, comp, -, -, -, e1⟩ := (hK1.2 4 _ rfl).2
    rcases hC with ⟨rfl, rfl⟩ | ⟨rfl, rfl⟩
    · obtain ⟨kA2, comp2, -, -, -, e0⟩ := (hK1.2 2 _ rfl).2
      exact Option.some.inj (e1.symm.trans e0)
    · obtain ⟨kA2, comp2, -, -, -, e0⟩ := (hK1.2 3 _ rfl).2
      exact Option.some.inj (e1.symm.trans e0)
  subst ecA
  exact k q p e s m args below meth c H1 locs ls hc hS1 (by rw [← hws]; exact hP1) (by rw [← hws]; exact hD1) hl
theorem qi_put {idx ci k0 a q0 : Nat} {ft : FieldType} {v : Value} {fs : List Value} (ws' : va_W) (hf : qs_FW mm.1 idx ci k0 ft) (he : ws[q0]? = some (a, .inr (ci, fs))) (hn : narrow ft v = v) (hfit : fits ft v = true) (hlen : k0 < fs.length) (hws : ws.set q0 (a, .inr (ci, fs.set k0 v)) = ws') (hd : decode mm.2.1 pc = .ok (.putfield idx, 3)) (k : qi_V l E A mm R post wd mc ms ws' cells slots (pc + 3) lv st) : qi_V l E A mm R post wd mc ms ws cells slots pc lv (v :: .ref a :: st) := by
  obtain ⟨C, Tt, N, ty, ⟨h1, h2, h3, h4⟩, hk, hty, hC, hfin, hlink⟩ := hf
  subst hws
  intro p e s m args below meth c H locs ls hc hS hP hD hl
  have hts := hc.2.2.2.2.2.1
  rcases hlink with hlink | ⟨host, hlink⟩
  · exact va_put (D := E.1) (ci := ci) (v := v) (ty := ft) (C := C) (T := Tt) (N := N) (ref := C) hc.1 hc.2.1 hts h2 ty h3 h4 hc.2.2.2.2.1 hc.2.2.2.2.2.2.2.1.1.1 hP hD hS q0 he h1 k0 hk (hts _ hlink) (fun x hx => by rw [← hC]; exact hx) hfin (by rw [h3 k0 hk, hty]) hn hfit hlen hd (fun H1 locs1 hP1 hD1 hS1 => k p e s m args below meth c H1 locs1 ls hc hS1 hP1 hD1 hl)
  · exact va_putN (D := E.1) (ci := ci) (v := v) (ty := ft) (C := C) (T := Tt) (N := N) (ref := C) hc.1 hc.2.1 hts h2 ty h3 h4 hc.2.2.2.2.1 hc.2.2.2.2.2.2.2.1.1.1 hP hD hS q0 he h1 k0 hk (va_Nw.use rfl (hc.2.2.2.2.2.2.2.1.1.2.1 _ hlink)) (fun x hx => by rw [← hC]; exact hx) hfin (by rw [h3 k0 hk, hty]) hn hfit hlen hd (fun H1 locs1 hP1 hD1 hS1 => k p e s m args below meth c H1 locs1 ls hc hS1 hP1 hD1 hl)
theorem qi_putF {idx ci k0 a q0 : Nat} {ft : FieldType} {v : Value} {fs : List Value} (ws' : va_W) (hf : qs_FP mm.1 idx ci k0 ft) (he : ws[q0]? = some (a, .inr (ci, fs))) (hn : narrow ft v = v) (hfit : fits ft v = true) (hlen : k0 < fs.length) (hws : ws.set q0 (a, .inr (ci, fs.set k0 v)) = ws') (hd : decode mm.2.1 pc = .ok (.putfield idx, 3)) (k : qi_V l E A mm R post wd mc ms ws' cells slots (pc + 3) lv st) : qi_V l E A mm R post wd mc ms ws cells slots pc lv (v :: .ref a :: st) := by
  obtain ⟨C, Tt, N, ty, ⟨h1, h2, h3, h4⟩, hk, hty, hC, hfin, hown, hlink⟩ := hf
  subst hws
  intro p e s m args below meth c H locs ls hc hS hP hD hl
  have hts := hc.2.2.2.2.2.1
  exact va_putF (D := E.1) (ci := ci) (v := v) (ty := ft) (C := C) (T := Tt) (N := N) (ref := C) hc.1 hc.2.1 hts h2 ty h3 h4 hc.2.2.2.2.1 hc.2.2.2.2.2.2.2.1.1.1 hP hD hS q0 he h1 k0 hk (hts _ hlink) (fun x hx => by rw [← hC]; exact hx) hfin hc.2.2.2.2.2.2.2.2.1 hown (by rw [h3 k0 hk, hty]) hn hfit hlen hd (fun H1 locs1 hP1 hD1 hS1 => k p e s m args below meth c H1 locs1 ls hc hS1 hP1 hD1 hl)
theorem qi_get {idx ci k0 a q0 : Nat} {ft : FieldType} {v : Value} {fs : List Value} (hf : qs_FF mm.1 idx ci k0 ft) (he : ws[q0]? = some (a, .inr (ci, fs))) (hv : fs[k0]? = some v) (hd : decode mm.2.1 pc = .ok (.getfield idx, 3)) (k : qi_V l E A mm R post wd mc ms ws cells slots (pc + 3) lv (v :: st)) : qi_V l E A mm R post wd mc ms ws cells slots pc lv (.ref a :: st) := by
  obtain ⟨C, Tt, N, ty, ⟨h1, h2, h3, h4⟩, hk, hty, hC, hlink⟩ := hf
  intro p e s m args below meth c H locs ls hc hS hP hD hl
  have hts := hc.2.2.2.2.2.1
  rcases hlink with hlink | ⟨host, hlink⟩
  · exact va_get (D := E.1) (ci := ci) (v := v) (C := C) (T := Tt) (N := N) (ref := C) hc.1 hc.2.1 hts h2 hc.2.2.2.2.1 hc.2.2.2.2.2.2.2.1.1.1 hP q0 he h1 k0 hk (hts _ hlink) (fun x hx => by rw [← hC]; exact hx) hv hd (k p e s m args below meth c H locs ls hc hS hP hD hl)
  · exact va_getN (D := E.1) (ci := ci) (v := v) (C := C) (T := Tt) (N := N) (ref := C) hc.1 hc.2.1 hts h2 hc.2.2.2.2.1 hc.2.2.2.2.2.2.2.1.1.1 hP q0 he h1 k0 hk (va_Nw.use rfl (hc.2.2.2.2.2.2.2.1.1.2.1 _ hlink)) (fun x hx => by rw [← hC]; exact hx) hv hd (k p e s m args below meth c H locs ls hc hS hP hD hl)
theorem qi_iast {a q0 n : Nat} {f : Nat → Int32} {j x : Int32} (ws' : va_W) (he : ws[q0]? = some (a, .inl (E.2.1 0, n, .inl f))) (hin : vp_in j n) (hws : ws.set q0 (a, .inl (E.2.1 0, n, .inl (upd f j.toNatClampNeg x))) = ws') (hd : decode mm.2.1 pc = .ok (.iastore, 1)) (k : qi_V l E A mm R post wd mc ms ws' cells slots (pc + 1) lv st) : qi_V l E A mm R post wd mc ms ws cells slots pc lv (.int x :: .int j :: .ref a :: st) := by
  subst hws
  exact fun p e s m args below meth c H locs ls hc hS hP hD hl => va_iast (f := f) (n := n) hc.1 hc.2.1 hc.2.2.2.2.2.2.2.1.1.1 hP hD hS q0 0 he rfl hin hd (fun H1 locs1 hP1 hD1 hS1 => k p e s m args below meth c H1 locs1 ls hc hS1 hP1 hD1 hl)
theorem qi_astq {a v q0 qk t0 ci n : Nat} {r : vw_C} {vs : List Value} {f : Nat → Option Nat} {j : Int32} (ws' : va_W) (he : ws[q0]? = some (a, .inl (E.2.1 t0, n, .inr (.inr (.inr (.inr f)))))) (ht : (qs_tys E)[t0]? = some (E.2.1 t0, .object r.1)) (hv : ws[qk]? = some (v, .inr (ci, vs))) (hr : vwCl[ci]? = some r) (hin : vp_in j n) (hws : ws.set q0 (a, .inl (E.2.1 t0, n, .inr (.inr (.inr (.inr (va_up f j.toNatClampNeg (some v))))))) = ws') (hd : decode mm.2.1 pc = .ok (.aastore, 1)) (k : qi_V l E A mm R post wd mc ms ws' cells slots (pc + 1) lv st) : qi_V l E A mm R post wd mc ms ws cells slots pc lv (.ref v :: .int j :: .ref a :: st) := by
  subst hws
  exact fun p e s m args below meth c H locs ls hc hS hP hD hl => va_astq (f := f) (n := n) hc.1 hc.2.1 hc.2.2.2.2.2.2.2.1.1.1 hP hD hS q0 t0 qk ci he ht hv hr hin hd (fun H1 locs1 hP1 hD1 hS1 => k p e s m args below meth c H1 locs1 ls hc hS1 hP1 hD1 hl)
theorem qi_enter {y : MethodName} {ci h0 sz : Nat} {fs : List Value} (hpn : plainFor y = true) (hown : mm.1 = y.cls) (hname : y.name = "<init>") (hsz : 1 ≤ mm.2.2.1) (k : qi_V l E (va_A [(h0, .inr (ci, fs))] sz) mm R post wd mc ms [(h0, .inr (ci, fs))] 0 0 0 [(0, .ref h0)] []) : qi_Met l E y mm R mc ms ci fs h0 sz post wd := by
  refine va_MetF (cc := mm.2.1) (maxL := mm.2.2.1) (ret := mm.2.2.2) hpn rfl ?_
  intro p e s m args below meth c s₁ B hml hv
  obtain ⟨rfl, hz, hP, hK, hD0⟩ := hv
  have hts := atoms_spec (ws := qs_ws y mm) B.pre
  have hl := lv_entry ([.ref h0]) (n := mm.2.2.1) hsz
  rw [lg_entry_eq]
  have hin : meth.name = "<init>" := (name_of_methodNamed B.named B.method).1.trans hname
  subst hz
  exact k p e s m _ below meth c s.heap [] _ ⟨B.exec, B.bytes, B.returns, hml, by rw [hown]; exact findClass_of_methodNamed B.named, fun w hw => hts w (List.mem_cons_of_mem _ hw), B.notSynchronized, hK, hin, fun q h => Or.inr h⟩ va_S.rf hP hD0.self hl
theorem qi_K.warm {s U : State} {H : Heap} {locs : List Loc} (h : qi_K E A s) (hS : va_S A s.heap H locs) (hU : U.heap = H) (hW : s.WarmedH U.vm) : qi_K E A U := ⟨h.1.go hS hU hW, va_AO.moved hW.alike h.2.1, va_AO.moved hW.alike h.2.2⟩
theorem qi_K.blind {U : State} {g : JFrame} {mk : MethodId} {a : Array Value} (h : qi_K E A U) : qi_K E A (U.calling g mk a) := ⟨h.1.blind, va_AO.moved (u := U) (Vm.Alike.refl U.vm) h.2.1, va_AO.moved (u := U) (Vm.Alike.refl U.vm) h.2.2⟩
theorem qi_K.narrow {U : State} {A' : Nat → Prop} (h : qi_K E A U) (hA : ∀ q, A' q → A q) : qi_K E A' U := ⟨h.1.narrow hA, h.2⟩
def qi_CI (own : String) (idx : Nat) (y : MethodName) (mj : qs_M) : Prop := Cond.code y mj.2.1 mj.2.2.1 mj.2.2.2 ∈ qs_gT ∧ Cond.initialized y.cls ∈ qs_gT ∧ (y.cls ≠ "java/lang/invoke/MethodHandle" ∧ y.cls ≠ "java/lang/invoke/VarHandle" ∧ (parseMethodDescriptor y.desc).map (fun d => d.parameters.length) = some 0) ∧ y.name = "<init>" ∧ Cond.instanceMethod y ∈ qs_gT ∧ mj.2.2.2 = none ∧ (Cond.methodLink own idx y ∈ qs_gT ∨ ∃ host, Cond.methodLinkNest own idx y host ∈ qs_nT)
theorem qi_call {S1 : Type} {post1 : S1 → Prop} {wd1 : S1 → va_W} {y : MethodName} {mj : qs_M} {Rj : Room} {mc1 ms1 idx ci b : Nat} {fs : List Value} {wr : va_W} (hf : qi_CI mm.1 idx y mj) (hM : ∀ sz, qi_Met l E y mj Rj mc1 ms1 ci fs b sz post1 wd1) (hR : Rj.cells = mc1 ∧ Rj.slots = ms1 ∧ Rj.frames + 1 ≤ R.frames ∧ 8 + (mj.2.2.1 + 11) + Rj.locals ≤ R.locals) (hfit : cells + mc1 ≤ R.cells ∧ slots + ms1 ≤ R.slots) (nC : Nat) (isR : List Nat) (hC : ws[nC]? = some (b, .inr (ci, fs))) (hRr : isR.map (fun i => ws[i]?) = wr.map some) (hnd : va_nd isR = true) (hdis : ∀ i ∈ isR, i ∉ [nC]) (hw8 : (st.map fun v => v.category).sum ≤ 8) (hd : decode mm.2.1 pc = .ok (.invokespecial idx, 3)) (k : ∀ u : S1, post1 u → qi_V l E A mm R post wd mc ms (wr ++ wd1 u) (cells + mc1) (slots + ms1) (pc + 3) lv st) : qi_V l E A mm R post wd mc ms ws cells slots pc lv (.ref b :: st) := by
  intro p e s m args below meth c H locs ls hc hS hP hD hl
  obtain ⟨g1, g2, g3, g4, g5, g6, g7⟩ := hf
  have hts := hc.2.2.2.2.2.1
  have hC' : [nC].map (fun i => ws[i]?) = [(b, Sum.inr (ci, fs))].map some := by simp [hC]
  have hPc : va_P E.1 vwCl [(b, .inr (ci, fs))] H := hP.sub [nC] (by simp [hC])
  have hDc : va_D A [(b, .inr (ci, fs))] := hD.sub [nC] (by simp [va_nd]) (by simp [hC])
  have hFc := va_free (wc := [(b, .inr (ci, fs))]) hD hS hc.2.2.2.2.2.2.2.2.2 [nC] hC'
  have hpre : PreS s H (va_Pc [.ref b] (fun U => U.heap.size = H.size ∧ va_P E.1 vwCl [(b, .inr (ci, fs))] U.heap ∧ qi_K E (va_A [(b, .inr (ci, fs))] H.size) U ∧ va_D (fun _ => True) [(b, .inr (ci, fs))])) (.ref b :: []) := ⟨fun a U g mk q => ⟨q.1, q.2.1, q.2.2.1, q.2.2.2.1.blind, q.2.2.2.2⟩, fun U hU hW => ⟨rfl, by rw [hU], by rw [hU]; exact hPc, (hc.2.2.2.2.2.2.2.1.warm hS hU hW).narrow hFc, hDc.weaken (fun _ _ _ _ => trivial)⟩⟩
  have hrun : va_Run p l e R s m args below meth c H locs cells slots mc1 ms1 (F0 m pc ls (.ref b :: st)) st (va_Qv post1 (qi_B E (va_A [(b, .inr (ci, fs))] H.size) wd1) (va_A [(b, .inr (ci, fs))] H.size) [Value.ref b].toArray) (va_A [(b, .inr (ci, fs))] H.size) := by
    have hws : qs_ws y mj = Cond.code y mj.2.1 mj.2.2.1 none :: qs_gT := by unfold qs_ws; rw [g6]
    rcases g7 with g7 | ⟨host, g7⟩
    · exact va_runI (As := []) (rest := st) ⟨hc.1, hc.2.1, hc.2.2.2.1, hc.2.2.2.2.1, hts⟩ (hM H.size) (cwI 0 hts (qs_good g1) hws hR.1 hR.2.1 (hts _ g2) (hts _ g7) (hts _ g5) g4 g3 ⟨hR.2.2.1, hR.2.2.2⟩) hpre rfl rfl hl.1 rfl (lv_room hw8) hd hfit
    · exact va_runIN (As := []) (rest := st) ⟨hc.1, hc.2.1, hc.2.2.2.1, hc.2.2.2.2.1, hts⟩ (hM H.size) ⟨va_cnB 0 hts (qs_good g1) hws hR.1 hR.2.1 (hc.2.2.2.2.2.2.2.1.1.2.1 _ g7) (hts _ g2) g3 ⟨hR.2.2.1, hR.2.2.2⟩, g4, hts _ g5⟩ hpre rfl rfl hl.1 rfl (lv_room hw8) hd hfit
  refine va_callv hrun hS (fun q _ h => hFc q h) hFc (fun u t H1 locs1 ht hvm hw hB hz1 hk1 hS1 => ?_)
  obtain ⟨hP1, hD1⟩ := hB
  rw [ht] at hP1
  obtain ⟨hP2, hD2⟩ := va_join (wr := wr) (w1 := wd1 u) hP hD [nC] isR hC' hRr hnd hdis hk1 hFc hP1 hD1
  exact k u hw p e s m args below meth c H1 locs1 ls hc hS1 hP2 hD2 hl
end QI
