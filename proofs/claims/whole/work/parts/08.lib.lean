/-! THE SMALL MACHINE: shapes (which cell is what), data (what the whole-number fields and elements hold), and a judgement over them -/
def qs_isN : Cond → Bool
  | .fieldLinkNest .. => true
  | .methodLinkNest .. => true
  | _ => false
def qs_gT : List Cond := lw_tbl.filter goodWord
def qs_nT : List Cond := lw_tbl.filter qs_isN
theorem qs_gm {w : Cond} (i : Nat) (h : lw_tbl[i]? = some w) (g : goodWord w = true) : w ∈ qs_gT := List.mem_filter.mpr ⟨List.mem_of_getElem? h, g⟩
theorem qs_nm {w : Cond} (i : Nat) (h : lw_tbl[i]? = some w) (g : qs_isN w = true) : w ∈ qs_nT := List.mem_filter.mpr ⟨List.mem_of_getElem? h, g⟩
theorem qs_gW {w : Cond} (h : w ∈ qs_gT) : goodWord w = true := (List.mem_filter.mp h).2
abbrev qs_M : Type := String × ByteArray × Nat × Option FieldType
abbrev qs_D : Type := Nat → Nat → Int32
abbrev qs_Sh : Type := (Nat × List (Option (Option Nat))) ⊕ (Nat × Nat × (Nat → Option Nat))
abbrev qs_E : Type := va_G × (Nat → ClassId) × (Nat → Nat) × Nat
def qs_u (D : qs_D) (i k : Nat) (v : Int32) : qs_D := fun j => if j = i then upd (D i) k v else D j
def qs_tr (E : qs_E) : Value → Value
  | .ref i => .ref (E.2.2.1 i)
  | v => v
def qs_fld (E : qs_E) (d : Nat → Int32) (k : Nat) (t : Option (Option Nat)) : Value := match t with
  | none => .int (d k)
  | some r => va_rf (r.map E.2.2.1)
def qs_cell (E : qs_E) (sh : qs_Sh) (d : Nat → Int32) : va_E := match sh with
  | .inl o => .inr (o.1, o.2.mapIdx (qs_fld E d))
  | .inr a => .inl (E.2.1 a.1, a.2.1, if a.1 ≤ 1 then .inl d else .inr (.inr (.inr (.inr (fun j => (a.2.2 j).map E.2.2.1)))))
def qs_ren (E : qs_E) (Sh : List qs_Sh) (D : qs_D) : va_W := Sh.mapIdx (fun i sh => (E.2.2.1 i, qs_cell E sh (D i)))
def qs_tys (E : qs_E) : List (ClassId × FieldType) := [(E.2.1 0, .int), (E.2.1 1, .byte), (E.2.1 2, .object RX0), (E.2.1 3, .object RX2)]
theorem qs_cat (E : qs_E) (v : Value) : (qs_tr E v).category = v.category := by cases v <;> rfl
theorem qs_ren_at {E : qs_E} {Sh : List qs_Sh} {D : qs_D} {i : Nat} {sh : qs_Sh} (h : Sh[i]? = some sh) : (qs_ren E Sh D)[i]? = some (E.2.2.1 i, qs_cell E sh (D i)) := by
  simp [qs_ren, List.getElem?_mapIdx, h]
theorem qs_u_self (D : qs_D) (i k : Nat) (v : Int32) : qs_u D i k v i = upd (D i) k v := by simp [qs_u]
theorem qs_u_ne (D : qs_D) {i j : Nat} (k : Nat) (v : Int32) (h : j ≠ i) : qs_u D i k v j = D j := by simp [qs_u, h]
def qs_w (D : qs_D) (i : Nat) (f : Nat → Int32) : qs_D := fun j => if j = i then f else D j
theorem qs_ren_w {E : qs_E} {Sh : List qs_Sh} {D : qs_D} {i : Nat} {f : Nat → Int32} {sh : qs_Sh} (h : Sh[i]? = some sh) : qs_ren E Sh (qs_w D i f) = (qs_ren E Sh D).set i (E.2.2.1 i, qs_cell E sh f) := by
  apply List.ext_getElem?
  intro j
  by_cases hj : j = i
  · subst hj
    have hl : j < Sh.length := (List.getElem?_eq_some_iff.mp h).1
    rw [qs_ren_at h, List.getElem?_set_self (by simp [qs_ren, hl])]
    simp [qs_w]
  · rw [List.getElem?_set_ne (fun e => hj e.symm)]
    cases hs : Sh[j]? with
    | none => simp [qs_ren, List.getElem?_mapIdx, hs]
    | some x => rw [qs_ren_at hs, qs_ren_at hs]; simp [qs_w, hj]
theorem qs_u_w (D : qs_D) (i k : Nat) (v : Int32) : qs_u D i k v = qs_w D i (upd (D i) k v) := rfl
theorem qs_fld_set {E : qs_E} {d : Nat → Int32} {tm : List (Option (Option Nat))} {k : Nat} {v : Int32} (h : tm[k]? = some none) : tm.mapIdx (qs_fld E (upd d k v)) = (tm.mapIdx (qs_fld E d)).set k (.int v) := by
  apply List.ext_getElem?
  intro j
  by_cases hj : j = k
  · subst hj
    have hl : j < tm.length := (List.getElem?_eq_some_iff.mp h).1
    rw [List.getElem?_set_self (by simp [hl]), List.getElem?_mapIdx, h]
    simp [qs_fld, upd]
  · rw [List.getElem?_set_ne (fun e => hj e.symm), List.getElem?_mapIdx, List.getElem?_mapIdx]
    cases hs : tm[j]? with
    | none => rfl
    | some x => cases x <;> simp [qs_fld, upd, hj]
/-- tables that nobody writes, and texts -/
def qs_tabs : List (String × String × List Int32) := [("QuarrelSauce", "DEED_CHANGES", [0, 8, 5, 3, -20, 12, 15, -4, 2, -9, 6, 1]), ("QuarrelSauce", "ABOVE", [-1, 0, 0, 2, 3, 0, 1]), ("QuarrelSauceModel", "CHANGES", [0, 8, 5, 3, -20, 12, 15, -4, 2, -9, 6, 1]), ("QuarrelSauceModel", "NAMES", [115, 97, 117, 99, 101, 0, 0, 99, 114, 101, 97, 109, 0, 0, 115, 116, 111, 99, 107, 0, 0, 103, 108, 97, 122, 101, 0, 0, 100, 97, 114, 107, 0, 0, 0, 115, 97, 108, 97, 100, 0, 0, 99, 117, 115, 116, 97, 114, 100, 116, 104, 105, 99, 107, 0, 0, 115, 97, 108, 116, 0, 0, 0, 111, 102, 102, 0, 0, 0, 0, 115, 112, 108, 105, 116, 0, 0, 100, 101, 101, 100, 0, 0, 0, 103, 114, 117, 100, 103, 101, 0, 104, 101, 97, 116, 0, 0, 0])]
def qs_strs : List (Nat × String × List Int32) := [(101, "sauce", [115, 97, 117, 99, 101]), (103, "cream", [99, 114, 101, 97, 109]), (105, "stock", [115, 116, 111, 99, 107]), (107, "glaze", [103, 108, 97, 122, 101]), (109, "dark", [100, 97, 114, 107]), (111, "salad", [115, 97, 108, 97, 100]), (113, "custard", [99, 117, 115, 116, 97, 114, 100]), (73, "thick", [116, 104, 105, 99, 107]), (79, "salt", [115, 97, 108, 116]), (83, "off", [111, 102, 102]), (87, "split", [115, 112, 108, 105, 116]), (52, "deed", [100, 101, 101, 100]), (61, "grudge", [103, 114, 117, 100, 103, 101]), (69, "heat", [104, 101, 97, 116])]
def qs_slen : List Nat := qs_strs.map (fun q => q.2.2.length)
def qs_sbyt : List (List Int32) := qs_strs.map (fun q => q.2.2)
def qs_Bg (E : qs_E) (A : Nat → Prop) (U : State) : Prop :=
  va_K E.1 vwCl (qs_tys E) U ∧ (∀ w ∈ qs_nT, va_Nw w U) ∧
  (∀ (t : Nat) (x : String × String × List Int32), qs_tabs[t]? = some x → va_Z x.1 x.2.1 "[I" (.ref (E.2.2.1 (2000 + t))) A U U.heap ∧ va_T .int (E.2.2.1 (2000 + t)) x.2.2.length (fun j => .int (x.2.2.getD j 0)) A U U.heap) ∧
  (∀ (k : Nat) (x : Nat × String × List Int32), qs_strs[k]? = some x → vk_R RX3 x.1 x.2.1 (E.2.2.1 (1000 + k)) U) ∧
  vk_S 14 qs_slen qs_sbyt (fun k => E.2.2.1 (1000 + k)) (fun k => E.2.2.1 (3000 + k)) A U U.heap ∧
  va_Z "java/lang/String" "COMPACT_STRINGS" "Z" (.int 1) A U U.heap ∧
  (va_Z "jdk/internal/util/Preconditions" "SIOOBE_FORMATTER" "Ljava/util/function/BiFunction;" .null A U U.heap ∨ va_Z "jdk/internal/util/Preconditions" "SIOOBE_FORMATTER" "Ljava/util/function/BiFunction;" (.ref (E.2.2.1 4000)) A U U.heap)
theorem qs_nW {w : Cond} (hw : w ∈ qs_nT) {s U : State} (hW : s.WarmedH U.vm) (h : va_Nw w s) : va_Nw w U := by
  have h1 := (List.mem_filter.mp hw).2
  cases w <;> first | exact va_Nw.warmF hW h | exact va_Nw.warmM hW h | (simp [qs_isN] at h1; done)
theorem qs_Bg.go {E : qs_E} {A : Nat → Prop} {s U : State} {H : Heap} {locs : List Loc} (h : qs_Bg E A s) (hS : va_S A s.heap H locs) (hU : U.heap = H) (hW : s.WarmedH U.vm) : qs_Bg E A U := by
  subst hU
  obtain ⟨h1, h2, h3, h4, h5, h6, h7⟩ := h
  exact ⟨va_K.moved hW.alike h1, fun w hw => qs_nW hw hW (h2 w hw), fun t x hx => ⟨(va_Z.moved hW.alike (h3 t x hx).1).kept hS.2.1, (va_T.moved hW.alike (h3 t x hx).2).kept hS.2.1⟩, fun k x hx => (h4 k x hx).warm hW, (vk_S.moved hW.alike h5).kept hS.2.1, (va_Z.moved hW.alike h6).kept hS.2.1, h7.imp (fun h => (va_Z.moved hW.alike h).kept hS.2.1) (fun h => (va_Z.moved hW.alike h).kept hS.2.1)⟩
theorem qs_nS {w : Cond} (hw : w ∈ qs_nT) {s U : State} (hW : s.vm = U.vm) (h : va_Nw w s) : va_Nw w U := by
  have h1 := (List.mem_filter.mp hw).2
  cases w <;> first | (simp [qs_isN] at h1; done) | exact va_Nw.same rfl hW h
theorem qs_Bg.blind {E : qs_E} {A : Nat → Prop} {U : State} {g : JFrame} {mk : MethodId} {a : Array Value} (h : qs_Bg E A U) : qs_Bg E A (U.calling g mk a) := by
  obtain ⟨h1, h2, h3, h4, h5, h6, h7⟩ := h
  exact ⟨va_K.moved (u := U) (Vm.Alike.refl U.vm) h1, fun w hw => qs_nS (s := U) hw rfl (h2 w hw), fun t x hx => ⟨va_Z.moved (u := U) (Vm.Alike.refl U.vm) (h3 t x hx).1, va_T.moved (u := U) (Vm.Alike.refl U.vm) (h3 t x hx).2⟩, fun k x hx => vk_R.same (u := U) rfl (h4 k x hx), vk_S.moved (u := U) (Vm.Alike.refl U.vm) h5, va_Z.moved (u := U) (Vm.Alike.refl U.vm) h6, h7.imp (fun h => va_Z.moved (u := U) (Vm.Alike.refl U.vm) h) (fun h => va_Z.moved (u := U) (Vm.Alike.refl U.vm) h)⟩
theorem qs_Bg.narrow {E : qs_E} {A B : Nat → Prop} {U : State} (h : qs_Bg E A U) (hAB : ∀ q, B q → A q) : qs_Bg E B U := by
  obtain ⟨h1, h2, h3, h4, h5, h6, h7⟩ := h
  exact ⟨h1, h2, fun t x hx => ⟨(h3 t x hx).1.narrow hAB, (h3 t x hx).2.narrow hAB⟩, h4, h5.narrow hAB, h6.narrow hAB, h7.imp (fun h => h.narrow hAB) (fun h => h.narrow hAB)⟩
def qs_rm (dp : Nat) : Room := { frames := dp, cells := 0, slots := 0, locals := 39 * dp }
def qs_ws (y : MethodName) (mm : qs_M) : List Cond := Cond.code y mm.2.1 mm.2.2.1 mm.2.2.2 :: qs_gT
def qs_Q {ρ : Type} (E : qs_E) (A : Nat → Prop) (Sh : List qs_Sh) (rv : ρ → Option Value) (X : ρ × qs_D) : Array Value → State → Outcome → State → Prop := fun _ st oc t =>
  (oc = .returned ((rv X.1).map (qs_tr E)) ∧ va_P E.1 vwCl (qs_ren E Sh X.2) t.heap ∧ va_D A (qs_ren E Sh X.2)) ∧ va_F A st t
def qs_W (E : qs_E) (A : Nat → Prop) (Sh : List qs_Sh) (D : qs_D) (U : State) : Prop := qs_Bg E A U ∧ va_P E.1 vwCl (qs_ren E Sh D) U.heap ∧ va_D A (qs_ren E Sh D)
def qs_Ctr {ρ : Type} (l : Launch) (E : qs_E) (A : Nat → Prop) (Sh : List qs_Sh) (y : MethodName) (mm : qs_M) (dp : Nat) (rv : ρ → Option Value) (av : List Value) (D : qs_D) (X : ρ × qs_D) : Prop :=
  Met l y (qs_ws y mm) (qs_rm dp) (va_Pc (av.map (qs_tr E)) (qs_W E A Sh D)) (qs_Q E A Sh rv X) 0 0 A
def qs_Cx (E : qs_E) (A : Nat → Prop) (mm : qs_M) (p : Program) (s : State) (m : MethodId) (args : Array Value) (meth : Method) (c : Code) : Prop :=
  p.tables.exec = Jvm.exec ∧ c.code = mm.2.1 ∧ meth.sig.returnType = mm.2.2.2 ∧ c.maxLocals = mm.2.2.1 ∧ s.vm.findClass mm.1 = some m.cls ∧ (∀ w ∈ qs_gT, w.before args s = true) ∧ meth.locks = false ∧ qs_Bg E A s
def qs_lv (E : qs_E) (lv : List (Nat × Value)) : List (Nat × Value) := lv.map (fun q => (q.1, qs_tr E q.2))
def qs_V {ρ : Type} (l : Launch) (E : qs_E) (A : Nat → Prop) (Sh : List qs_Sh) (mm : qs_M) (dp : Nat) (rv : ρ → Option Value) (pc : Nat) (lv : List (Nat × Value)) (st : List Value) (D : qs_D) (X : ρ × qs_D) : Prop :=
  ∀ (p : Program) (e : Env) (s : State) (m : MethodId) (args : Array Value) (below : List Frame) (meth : Method) (c : Code) (H : Heap) (locs : List Loc) (ls : Array Slot), qs_Cx E A mm p s m args meth c → va_S A s.heap H locs → va_P E.1 vwCl (qs_ren E Sh D) H → va_D A (qs_ren E Sh D) → lv_has ls mm.2.2.1 (qs_lv E lv) →
    W p l e (qs_rm dp) s m args below meth c H locs 0 0 (MQ below (qs_Q E A Sh rv X) args s 0 0 A) (F0 m pc ls (st.map (qs_tr E)))
def qs_VO {ρ : Type} (l : Launch) (E : qs_E) (A : Nat → Prop) (Sh : List qs_Sh) (mm : qs_M) (dp : Nat) (rv : ρ → Option Value) (pc : Nat) (lv : List (Nat × Value)) (st : List Value) (D : qs_D) (T : Option (ρ × qs_D)) : Prop :=
  ∀ X : ρ × qs_D, T = some X → qs_V l E A Sh mm dp rv pc lv st D X
def qs_ri : Int32 → Option Value := fun x => some (.int x)
def qs_rl : Int64 → Option Value := fun x => some (.long x)
def qs_rr : Nat → Option Value := fun x => some (.ref x)
def qs_rv : Unit → Option Value := fun _ => none
/-- the words of the decompiled functions -/
def qs_let {α β : Type} (a : α) (f : α → β) : β := f a
def qs_bind {ρ σ : Type} (o : Option (ρ × qs_D)) (f : ρ → qs_D → Option (σ × qs_D)) : Option (σ × qs_D) := match o with
  | none => none
  | some x => f x.1 x.2
def qs_g {σ : Type} (j : Int32) (n : Nat) (T : Option σ) : Option σ := if 0 ≤ j ∧ j < Int32.ofNat n then T else none
def qs_gb {σ : Type} (x : Int32) (T : Option σ) : Option σ := if x = 0 ∨ x = 1 then T else none
def qs_gz {σ : Type} (x : Int32) (T : Option σ) : Option σ := if x = 0 then none else T
def qs_lk : List (Nat × Value) → Nat → Option Value
  | [], _ => none
  | q :: r, i => cond (Nat.beq q.1 i) (some q.2) (qs_lk r i)
def qs_st (lv : List (Nat × Value)) (i : Nat) (v : Value) : List (Nat × Value) := (i, v) :: lv.filter (fun q => !(q.1 == i) && !(q.1 + 1 == i && q.2.category == 2))
def qs_st2 (lv : List (Nat × Value)) (i : Nat) (v : Value) : List (Nat × Value) := (i, v) :: lv.filter (fun q => !(q.1 == i) && (!(q.1 == i + 1) && !(q.1 + 1 == i && q.2.category == 2)))
theorem qs_in {j : Int32} {n : Nat} (hn : n < 2 ^ 31) (h : 0 ≤ j ∧ j < Int32.ofNat n) : vp_in j n := by
  rw [vp_in_iff]
  have h1 := Int32.le_iff_toInt_le.mp h.1
  have h2 := Int32.lt_iff_toInt_lt.mp h.2
  have e : (Int32.ofNat n).toInt = (n : Int) := nI_toInt hn
  rw [e] at h2
  exact ⟨by simpa using h1, h2⟩
theorem qs_in_lt {j : Int32} {n : Nat} (hn : n < 2 ^ 31) (h : 0 ≤ j ∧ j < Int32.ofNat n) : j.toNatClampNeg < n := Nat.not_le.mp fun q => qs_in hn h (Or.inr q)
theorem qs_lk_mem : ∀ {lv : List (Nat × Value)} {i : Nat} {v : Value}, qs_lk lv i = some v → (i, v) ∈ lv := by
  intro lv
  induction lv with
  | nil => intro i v h; cases h
  | cons q r ih =>
    intro i v h
    unfold qs_lk at h
    cases hb : Nat.beq q.1 i with
    | true =>
      rw [hb] at h
      have e : q.1 = i := Nat.eq_of_beq_eq_true hb
      have e2 : q.2 = v := Option.some.inj h
      rw [← e, ← e2]
      exact List.mem_cons_self
    | false =>
      rw [hb] at h
      exact List.mem_cons_of_mem _ (ih h)
theorem qs_get {E : qs_E} {ls : Array Slot} {n : Nat} {lv : List (Nat × Value)} {i : Nat} {v : Value} (hl : lv_has ls n (qs_lv E lv)) (h : qs_lk lv i = some v) : ls[i]? = some (.val (qs_tr E v)) :=
  hl.2.2 (i, qs_tr E v) (List.mem_map.mpr ⟨(i, v), qs_lk_mem h, rfl⟩)
theorem qs_st_lv (E : qs_E) (lv : List (Nat × Value)) (i : Nat) (v : Value) : (i, qs_tr E v) :: (qs_lv E lv).filter (fun q => !(q.1 == i) && !(q.1 + 1 == i && q.2.category == 2)) = qs_lv E (qs_st lv i v) := by
  simp only [qs_lv, qs_st, List.map_cons, List.filter_map]
  congr 2
  congr 1
  funext q
  simp [qs_cat]
theorem qs_st2_lv (E : qs_E) (lv : List (Nat × Value)) (i : Nat) (v : Value) : (i, qs_tr E v) :: (qs_lv E lv).filter (fun q => !(q.1 == i) && (!(q.1 == i + 1) && !(q.1 + 1 == i && q.2.category == 2))) = qs_lv E (qs_st2 lv i v) := by
  simp only [qs_lv, qs_st2, List.map_cons, List.filter_map]
  congr 2
  congr 1
  funext q
  simp [qs_cat]
theorem qs_sum (E : qs_E) (st : List Value) : ((st.map (qs_tr E)).map fun v => v.category).sum = (st.map fun v => v.category).sum := by
  rw [List.map_map]
  congr 2
  funext v
  exact qs_cat E v
theorem qs_args (E : qs_E) : ∀ (vs : List Value) (i : Nat), lv_args i (vs.map (qs_tr E)) = qs_lv E (lv_args i vs) := by
  intro vs
  induction vs with
  | nil => intro i; rfl
  | cons v vs ih =>
    intro i
    show (i, qs_tr E v) :: lv_args (if (qs_tr E v).category = 2 then i + 2 else i + 1) (vs.map (qs_tr E)) = _
    rw [qs_cat, ih]
    rfl

def qs_cl (ci : Nat) (C : String) (T : u_T) (N : Nat) (ty : Nat → FieldType) : Prop := vwCl[ci]? = some (C, T, N) ∧ (∀ w ∈ u_ws C T N, w ∈ qs_gT) ∧ (∀ k, k < N → parseFieldDescriptor (T k).2.2.1 = some (ty k)) ∧ (∀ a, a < N → ∀ b, b < N → a ≠ b → (T a).2.1 ≠ (T b).2.1)
def qs_FF (own : String) (idx ci k : Nat) (ft : FieldType) : Prop := ∃ (C : String) (T : u_T) (N : Nat) (ty : Nat → FieldType), qs_cl ci C T N ty ∧ k < N ∧ ty k = ft ∧ (T k).1 = C ∧ (Cond.fieldLink own idx C (T k).2.1 (T k).2.2.1 ∈ qs_gT ∨ ∃ host, Cond.fieldLinkNest own idx C (T k).2.1 (T k).2.2.1 host ∈ qs_nT)
def qs_FW (own : String) (idx ci k : Nat) (ft : FieldType) : Prop := ∃ (C : String) (T : u_T) (N : Nat) (ty : Nat → FieldType), qs_cl ci C T N ty ∧ k < N ∧ ty k = ft ∧ (T k).1 = C ∧ (T k).2.2.2 = false ∧ (Cond.fieldLink own idx C (T k).2.1 (T k).2.2.1 ∈ qs_gT ∨ ∃ host, Cond.fieldLinkNest own idx C (T k).2.1 (T k).2.2.1 host ∈ qs_nT)
theorem qs_FW.FF {own : String} {idx ci k : Nat} {ft : FieldType} (h : qs_FW own idx ci k ft) : qs_FF own idx ci k ft := by
  obtain ⟨C, T, N, ty, h1, h2, h3, h4, h5, h6⟩ := h
  exact ⟨C, T, N, ty, h1, h2, h3, h4, h6⟩
def qs_CF (own : String) (idx : Nat) (y : MethodName) (mj : qs_M) (n : Nat) (isSt : Bool) : Prop :=
  Cond.code y mj.2.1 mj.2.2.1 mj.2.2.2 ∈ qs_gT ∧ Cond.initialized y.cls ∈ qs_gT ∧ mj.2.2.1 ≤ 20 ∧ (y.cls ≠ "java/lang/invoke/MethodHandle" ∧ y.cls ≠ "java/lang/invoke/VarHandle" ∧ (parseMethodDescriptor y.desc).map (fun d => d.parameters.length) = some n) ∧ (Cond.methodLink own idx y ∈ qs_gT ∨ ∃ host, Cond.methodLinkNest own idx y host ∈ qs_nT) ∧ (if isSt then Cond.static y ∈ qs_gT else Cond.instanceMethod y ∈ qs_gT ∧ Cond.selects y.cls y y ∈ qs_gT)
def qs_gcp {σ : Type} (sp dp n : Int32) (n0 n1 : Nat) (T : Option σ) : Option σ := if ¬ sp < 0 ∧ ¬ dp < 0 ∧ ¬ n < 0 ∧ sp.toNatClampNeg + n.toNatClampNeg ≤ n0 ∧ dp.toNatClampNeg + n.toNatClampNeg ≤ n1 then T else none
theorem qs_good {y : MethodName} {mj : qs_M} (h : Cond.code y mj.2.1 mj.2.2.1 mj.2.2.2 ∈ qs_gT) : GoodIn qs_gT (qs_ws y mj) := by
  intro w hw
  rcases List.mem_cons.mp hw with rfl | hw
  · exact ⟨h, good_of_word (qs_gW h)⟩
  · exact ⟨hw, good_of_word (qs_gW hw)⟩

section QS
variable {ρ : Type} {l : Launch} {E : qs_E} {A : Nat → Prop} {Sh : List qs_Sh} {mm : qs_M} {dp : Nat} {rv : ρ → Option Value} {pc : Nat} {lv : List (Nat × Value)} {st : List Value} {D : qs_D} {T T1 T2 : Option (ρ × qs_D)}
theorem qs_none : qs_VO l E A Sh mm dp rv pc lv st D none := fun X hX => by cases hX
theorem qs_sub {lv1 : List (Nat × Value)} (ks : List Nat) (h : ks.filterMap (fun k => lv[k]?) = lv1) (k : qs_VO l E A Sh mm dp rv pc lv1 st D T) : qs_VO l E A Sh mm dp rv pc lv st D T := by
  intro X hX p e s m args below meth c H locs ls hc hS hP hD hl
  refine k X hX p e s m args below meth c H locs ls hc hS hP hD ⟨hl.1, hl.2.1, fun q hq => ?_⟩
  obtain ⟨r, hr, rfl⟩ := List.mem_map.mp hq
  subst h
  obtain ⟨i, -, hi⟩ := List.mem_filterMap.mp hr
  exact hl.2.2 _ (List.mem_map.mpr ⟨r, List.mem_of_getElem? hi, rfl⟩)
theorem qs_ite {c : Prop} [Decidable c] (k1 : c → qs_VO l E A Sh mm dp rv pc lv st D T1) (k2 : ¬ c → qs_VO l E A Sh mm dp rv pc lv st D T2) : qs_VO l E A Sh mm dp rv pc lv st D (if c then T1 else T2) := by
  by_cases h : c
  · rw [if_pos h]; exact k1 h
  · rw [if_neg h]; exact k2 h
theorem qs_iconst {n : Int} {pc1 : Nat} (v : Int32) (hd : decode mm.2.1 pc = .ok (.iconst n, 1)) (hv : Int32.ofInt n = v) (hp : pc + 1 = pc1) (k : qs_VO l E A Sh mm dp rv pc1 lv (.int v :: st) D T) : qs_VO l E A Sh mm dp rv pc lv st D T := by
  subst hp
  exact fun X hX p e s m args below meth c H locs ls hc hS hP hD hl =>  lv_iconst hc.1 hc.2.1 hd hv (k X hX p e s m args below meth c H locs ls hc hS hP hD hl)
theorem qs_bipush {n : Int} {pc1 : Nat} (v : Int32) (hd : decode mm.2.1 pc = .ok (.bipush n, 2)) (hv : (Int8.ofInt n).toInt32 = v) (hp : pc + 2 = pc1) (k : qs_VO l E A Sh mm dp rv pc1 lv (.int v :: st) D T) : qs_VO l E A Sh mm dp rv pc lv st D T := by
  subst hp
  exact fun X hX p e s m args below meth c H locs ls hc hS hP hD hl =>  lv_bipush hc.1 hc.2.1 hd hv (k X hX p e s m args below meth c H locs ls hc hS hP hD hl)
theorem qs_sipush {n : Int} {pc1 : Nat} (v : Int32) (hd : decode mm.2.1 pc = .ok (.sipush n, 3)) (hv : (Int16.ofInt n).toInt32 = v) (hp : pc + 3 = pc1) (k : qs_VO l E A Sh mm dp rv pc1 lv (.int v :: st) D T) : qs_VO l E A Sh mm dp rv pc lv st D T := by
  subst hp
  exact fun X hX p e s m args below meth c H locs ls hc hS hP hD hl =>  lv_sipush hc.1 hc.2.1 hd hv (k X hX p e s m args below meth c H locs ls hc hS hP hD hl)
theorem qs_lconst {n : Fin 2} {pc1 : Nat} (v : Int64) (hd : decode mm.2.1 pc = .ok (.lconst n, 1)) (hv : Int64.ofNat (n : Nat) = v) (hp : pc + 1 = pc1) (k : qs_VO l E A Sh mm dp rv pc1 lv (.long v :: st) D T) : qs_VO l E A Sh mm dp rv pc lv st D T := by
  subst hp
  exact fun X hX p e s m args below meth c H locs ls hc hS hP hD hl =>  lv_lconst hc.1 hc.2.1 hd hv (k X hX p e s m args below meth c H locs ls hc hS hP hD hl)
theorem qs_ldc {idx pc1 : Nat} {v : Int32} (hw : Cond.constant mm.1 idx v ∈ qs_gT) (hd : decode mm.2.1 pc = .ok (.ldc idx, 2)) (hp : pc + 2 = pc1) (k : qs_VO l E A Sh mm dp rv pc1 lv (.int v :: st) D T) : qs_VO l E A Sh mm dp rv pc lv st D T := by
  subst hp
  exact fun X hX p e s m args below meth c H locs ls hc hS hP hD hl =>  lv_ldc hc.1 hc.2.1 hc.2.2.2.2.1 (hc.2.2.2.2.2.1 _ hw) hd (k X hX p e s m args below meth c H locs ls hc hS hP hD hl)
theorem qs_ldcw {idx pc1 : Nat} {v : Int32} (hw : Cond.constant mm.1 idx v ∈ qs_gT) (hd : decode mm.2.1 pc = .ok (.ldc_w idx, 3)) (hp : pc + 3 = pc1) (k : qs_VO l E A Sh mm dp rv pc1 lv (.int v :: st) D T) : qs_VO l E A Sh mm dp rv pc lv st D T := by
  subst hp
  exact fun X hX p e s m args below meth c H locs ls hc hS hP hD hl =>  lv_ldcw hc.1 hc.2.1 hc.2.2.2.2.1 (hc.2.2.2.2.2.1 _ hw) hd (k X hX p e s m args below meth c H locs ls hc hS hP hD hl)
theorem qs_ldcS {idx pc1 k0 : Nat} {tx : String} {bs : List Int32} (hm : mm.1 = RX3) (hw : qs_strs[k0]? = some (idx, tx, bs)) (hd : decode mm.2.1 pc = .ok (.ldc idx, 2)) (hp : pc + 2 = pc1) (k : qs_VO l E A Sh mm dp rv pc1 lv (.ref (1000 + k0) :: st) D T) : qs_VO l E A Sh mm dp rv pc lv st D T := by
  subst hp
  exact fun X hX p e s m args below meth c H locs ls hc hS hP hD hl =>  va_ldcS (own := RX3) (tx := tx) hc.1 hc.2.1 (by rw [← hm]; exact hc.2.2.2.2.1) (hc.2.2.2.2.2.2.2.2.2.2.1 k0 _ hw) hd (k X hX p e s m args below meth c H locs ls hc hS hP hD hl)
theorem qs_iload_n {j : Fin 4} {i pc1 : Nat} {x : Int32} (hd : decode mm.2.1 pc = .ok (.iload_n j, 1)) (hi : (j : Nat) = i) (hk : qs_lk lv i = some (.int x)) (hp : pc + 1 = pc1) (k : qs_VO l E A Sh mm dp rv pc1 lv (.int x :: st) D T) : qs_VO l E A Sh mm dp rv pc lv st D T := by
  subst hp
  exact fun X hX p e s m args below meth c H locs ls hc hS hP hD hl =>  lv_iload_n hc.1 hc.2.1 hd hi (qs_get hl hk) (k X hX p e s m args below meth c H locs ls hc hS hP hD hl)
theorem qs_iload {i pc1 : Nat} {x : Int32} (hd : decode mm.2.1 pc = .ok (.iload i, 2)) (hk : qs_lk lv i = some (.int x)) (hp : pc + 2 = pc1) (k : qs_VO l E A Sh mm dp rv pc1 lv (.int x :: st) D T) : qs_VO l E A Sh mm dp rv pc lv st D T := by
  subst hp
  exact fun X hX p e s m args below meth c H locs ls hc hS hP hD hl =>  lv_iload hc.1 hc.2.1 hd (qs_get hl hk) (k X hX p e s m args below meth c H locs ls hc hS hP hD hl)
theorem qs_lload_n {j : Fin 4} {i pc1 : Nat} {x : Int64} (hd : decode mm.2.1 pc = .ok (.lload_n j, 1)) (hi : (j : Nat) = i) (hk : qs_lk lv i = some (.long x)) (hp : pc + 1 = pc1) (k : qs_VO l E A Sh mm dp rv pc1 lv (.long x :: st) D T) : qs_VO l E A Sh mm dp rv pc lv st D T := by
  subst hp
  exact fun X hX p e s m args below meth c H locs ls hc hS hP hD hl =>  lv_lload_n hc.1 hc.2.1 hd hi (qs_get hl hk) (k X hX p e s m args below meth c H locs ls hc hS hP hD hl)
theorem qs_lload {i pc1 : Nat} {x : Int64} (hd : decode mm.2.1 pc = .ok (.lload i, 2)) (hk : qs_lk lv i = some (.long x)) (hp : pc + 2 = pc1) (k : qs_VO l E A Sh mm dp rv pc1 lv (.long x :: st) D T) : qs_VO l E A Sh mm dp rv pc lv st D T := by
  subst hp
  exact fun X hX p e s m args below meth c H locs ls hc hS hP hD hl =>  lv_lload hc.1 hc.2.1 hd (qs_get hl hk) (k X hX p e s m args below meth c H locs ls hc hS hP hD hl)
theorem qs_aload_n {j : Fin 4} {i pc1 : Nat} {x : Nat} (hd : decode mm.2.1 pc = .ok (.aload_n j, 1)) (hi : (j : Nat) = i) (hk : qs_lk lv i = some (.ref x)) (hp : pc + 1 = pc1) (k : qs_VO l E A Sh mm dp rv pc1 lv (.ref x :: st) D T) : qs_VO l E A Sh mm dp rv pc lv st D T := by
  subst hp
  exact fun X hX p e s m args below meth c H locs ls hc hS hP hD hl =>  lv_aload_n hc.1 hc.2.1 hd hi (qs_get hl hk) (k X hX p e s m args below meth c H locs ls hc hS hP hD hl)
theorem qs_aload {i pc1 : Nat} {x : Nat} (hd : decode mm.2.1 pc = .ok (.aload i, 2)) (hk : qs_lk lv i = some (.ref x)) (hp : pc + 2 = pc1) (k : qs_VO l E A Sh mm dp rv pc1 lv (.ref x :: st) D T) : qs_VO l E A Sh mm dp rv pc lv st D T := by
  subst hp
  exact fun X hX p e s m args below meth c H locs ls hc hS hP hD hl =>  lv_aload hc.1 hc.2.1 hd (qs_get hl hk) (k X hX p e s m args below meth c H locs ls hc hS hP hD hl)
theorem qs_istore_n {j : Fin 4} {i pc1 : Nat} {x : Int32} {F : Int32 → Option (ρ × qs_D)} (lv1 : Int32 → List (Nat × Value)) (hd : decode mm.2.1 pc = .ok (.istore_n j, 1)) (hi : (j : Nat) = i) (hn : i < mm.2.2.1) (hv : ∀ y, qs_st lv i (.int y) = lv1 y) (hp : pc + 1 = pc1) (k : ∀ y : Int32, qs_VO l E A Sh mm dp rv pc1 (lv1 y) st D (F y)) : qs_VO l E A Sh mm dp rv pc lv (.int x :: st) D (qs_let x F) := by
  subst hp
  intro X hX p e s m args below meth c H locs ls hc hS hP hD hl
  exact lv_istore_n (lv := qs_lv E lv) (lv' := qs_lv E (lv1 x)) hc.1 hc.2.1 hd hi hl hn (by rw [← hv x]; exact qs_st_lv E lv i (.int x)) (fun ls hl => k x X hX p e s m args below meth c H locs ls hc hS hP hD hl)
theorem qs_istore {i pc1 : Nat} {x : Int32} {F : Int32 → Option (ρ × qs_D)} (lv1 : Int32 → List (Nat × Value)) (hd : decode mm.2.1 pc = .ok (.istore i, 2)) (hn : i < mm.2.2.1) (hv : ∀ y, qs_st lv i (.int y) = lv1 y) (hp : pc + 2 = pc1) (k : ∀ y : Int32, qs_VO l E A Sh mm dp rv pc1 (lv1 y) st D (F y)) : qs_VO l E A Sh mm dp rv pc lv (.int x :: st) D (qs_let x F) := by
  subst hp
  intro X hX p e s m args below meth c H locs ls hc hS hP hD hl
  exact lv_istore (lv := qs_lv E lv) (lv' := qs_lv E (lv1 x)) hc.1 hc.2.1 hd hl hn (by rw [← hv x]; exact qs_st_lv E lv i (.int x)) (fun ls hl => k x X hX p e s m args below meth c H locs ls hc hS hP hD hl)
theorem qs_lstore_n {j : Fin 4} {i pc1 : Nat} {x : Int64} {F : Int64 → Option (ρ × qs_D)} (lv1 : Int64 → List (Nat × Value)) (hd : decode mm.2.1 pc = .ok (.lstore_n j, 1)) (hi : (j : Nat) = i) (hn : i + 1 < mm.2.2.1) (hv : ∀ y, qs_st2 lv i (.long y) = lv1 y) (hp : pc + 1 = pc1) (k : ∀ y : Int64, qs_VO l E A Sh mm dp rv pc1 (lv1 y) st D (F y)) : qs_VO l E A Sh mm dp rv pc lv (.long x :: st) D (qs_let x F) := by
  subst hp
  intro X hX p e s m args below meth c H locs ls hc hS hP hD hl
  exact lv_lstore_n (lv := qs_lv E lv) (lv' := qs_lv E (lv1 x)) hc.1 hc.2.1 hd hi hl hn (by rw [← hv x]; exact qs_st2_lv E lv i (.long x)) (fun ls hl => k x X hX p e s m args below meth c H locs ls hc hS hP hD hl)
theorem qs_lstore {i pc1 : Nat} {x : Int64} {F : Int64 → Option (ρ × qs_D)} (lv1 : Int64 → List (Nat × Value)) (hd : decode mm.2.1 pc = .ok (.lstore i, 2)) (hn : i + 1 < mm.2.2.1) (hv : ∀ y, qs_st2 lv i (.long y) = lv1 y) (hp : pc + 2 = pc1) (k : ∀ y : Int64, qs_VO l E A Sh mm dp rv pc1 (lv1 y) st D (F y)) : qs_VO l E A Sh mm dp rv pc lv (.long x :: st) D (qs_let x F) := by
  subst hp
  intro X hX p e s m args below meth c H locs ls hc hS hP hD hl
  exact lv_lstore (lv := qs_lv E lv) (lv' := qs_lv E (lv1 x)) hc.1 hc.2.1 hd hl hn (by rw [← hv x]; exact qs_st2_lv E lv i (.long x)) (fun ls hl => k x X hX p e s m args below meth c H locs ls hc hS hP hD hl)
theorem qs_astore_n {j : Fin 4} {i pc1 x : Nat} (lv1 : List (Nat × Value)) (hd : decode mm.2.1 pc = .ok (.astore_n j, 1)) (hi : (j : Nat) = i) (hn : i < mm.2.2.1) (hv : qs_st lv i (.ref x) = lv1) (hp : pc + 1 = pc1) (k : qs_VO l E A Sh mm dp rv pc1 lv1 st D T) : qs_VO l E A Sh mm dp rv pc lv (.ref x :: st) D T := by
  subst hp
  intro X hX p e s m args below meth c H locs ls hc hS hP hD hl
  exact lv_astore_n (lv := qs_lv E lv) (lv' := qs_lv E lv1) hc.1 hc.2.1 hd hi hl hn (by rw [← hv]; exact qs_st_lv E lv i (.ref x)) (fun ls hl => k X hX p e s m args below meth c H locs ls hc hS hP hD hl)
theorem qs_astore {i pc1 x : Nat} (lv1 : List (Nat × Value)) (hd : decode mm.2.1 pc = .ok (.astore i, 2)) (hn : i < mm.2.2.1) (hv : qs_st lv i (.ref x) = lv1) (hp : pc + 2 = pc1) (k : qs_VO l E A Sh mm dp rv pc1 lv1 st D T) : qs_VO l E A Sh mm dp rv pc lv (.ref x :: st) D T := by
  subst hp
  intro X hX p e s m args below meth c H locs ls hc hS hP hD hl
  exact lv_astore (lv := qs_lv E lv) (lv' := qs_lv E lv1) hc.1 hc.2.1 hd hl hn (by rw [← hv]; exact qs_st_lv E lv i (.ref x)) (fun ls hl => k X hX p e s m args below meth c H locs ls hc hS hP hD hl)
theorem qs_iinc {i pc1 : Nat} {n : Int} {x : Int32} {F : Int32 → Option (ρ × qs_D)} (lv1 : Int32 → List (Nat × Value)) (v : Int32) (hd : decode mm.2.1 pc = .ok (.iinc i n, 3)) (hk : qs_lk lv i = some (.int x)) (hc0 : Int32.ofInt n = v) (hn : i < mm.2.2.1) (hv : ∀ y, qs_st lv i (.int y) = lv1 y) (hp : pc + 3 = pc1) (k : ∀ y : Int32, qs_VO l E A Sh mm dp rv pc1 (lv1 y) st D (F y)) : qs_VO l E A Sh mm dp rv pc lv st D (qs_let (x + v) F) := by
  subst hp
  subst hc0
  intro X hX p e s m args below meth c H locs ls hc hS hP hD hl
  obtain ⟨q, hq⟩ := List.getElem?_of_mem (List.mem_map.mpr ⟨(i, Value.int x), qs_lk_mem hk, rfl⟩ : (i, Value.int x) ∈ qs_lv E lv)
  exact lv_iinc (lv := qs_lv E lv) (lv' := qs_lv E (lv1 (x + Int32.ofInt n))) hc.1 hc.2.1 hd hl hq rfl hn (by rw [← hv _]; exact qs_st_lv E lv i (.int (x + Int32.ofInt n))) (fun ls hl => k _ X hX p e s m args below meth c H locs ls hc hS hP hD hl)
theorem qs_iadd {pc1 : Nat} {x y : Int32} (hd : decode mm.2.1 pc = .ok (.iadd, 1)) (hp : pc + 1 = pc1) (k : qs_VO l E A Sh mm dp rv pc1 lv (.int (x + y) :: st) D T) : qs_VO l E A Sh mm dp rv pc lv (.int y :: .int x :: st) D T := by
  subst hp
  exact fun X hX p e s m args below meth c H locs ls hc hS hP hD hl =>  lv_iadd hc.1 hc.2.1 hd (k X hX p e s m args below meth c H locs ls hc hS hP hD hl)
theorem qs_isub {pc1 : Nat} {x y : Int32} (hd : decode mm.2.1 pc = .ok (.isub, 1)) (hp : pc + 1 = pc1) (k : qs_VO l E A Sh mm dp rv pc1 lv (.int (x - y) :: st) D T) : qs_VO l E A Sh mm dp rv pc lv (.int y :: .int x :: st) D T := by
  subst hp
  exact fun X hX p e s m args below meth c H locs ls hc hS hP hD hl =>  lv_isub hc.1 hc.2.1 hd (k X hX p e s m args below meth c H locs ls hc hS hP hD hl)
theorem qs_imul {pc1 : Nat} {x y : Int32} (hd : decode mm.2.1 pc = .ok (.imul, 1)) (hp : pc + 1 = pc1) (k : qs_VO l E A Sh mm dp rv pc1 lv (.int (x * y) :: st) D T) : qs_VO l E A Sh mm dp rv pc lv (.int y :: .int x :: st) D T := by
  subst hp
  exact fun X hX p e s m args below meth c H locs ls hc hS hP hD hl =>  lv_imul hc.1 hc.2.1 hd (k X hX p e s m args below meth c H locs ls hc hS hP hD hl)
theorem qs_iand {pc1 : Nat} {x y : Int32} (hd : decode mm.2.1 pc = .ok (.iand, 1)) (hp : pc + 1 = pc1) (k : qs_VO l E A Sh mm dp rv pc1 lv (.int (x &&& y) :: st) D T) : qs_VO l E A Sh mm dp rv pc lv (.int y :: .int x :: st) D T := by
  subst hp
  exact fun X hX p e s m args below meth c H locs ls hc hS hP hD hl =>  lv_iand hc.1 hc.2.1 hd (k X hX p e s m args below meth c H locs ls hc hS hP hD hl)
theorem qs_ior {pc1 : Nat} {x y : Int32} (hd : decode mm.2.1 pc = .ok (.ior, 1)) (hp : pc + 1 = pc1) (k : qs_VO l E A Sh mm dp rv pc1 lv (.int (x ||| y) :: st) D T) : qs_VO l E A Sh mm dp rv pc lv (.int y :: .int x :: st) D T := by
  subst hp
  exact fun X hX p e s m args below meth c H locs ls hc hS hP hD hl =>  lv_ior hc.1 hc.2.1 hd (k X hX p e s m args below meth c H locs ls hc hS hP hD hl)
theorem qs_ixor {pc1 : Nat} {x y : Int32} (hd : decode mm.2.1 pc = .ok (.ixor, 1)) (hp : pc + 1 = pc1) (k : qs_VO l E A Sh mm dp rv pc1 lv (.int (x ^^^ y) :: st) D T) : qs_VO l E A Sh mm dp rv pc lv (.int y :: .int x :: st) D T := by
  subst hp
  exact fun X hX p e s m args below meth c H locs ls hc hS hP hD hl =>  lv_ixor hc.1 hc.2.1 hd (k X hX p e s m args below meth c H locs ls hc hS hP hD hl)
theorem qs_ineg {pc1 : Nat} {x : Int32} (hd : decode mm.2.1 pc = .ok (.ineg, 1)) (hp : pc + 1 = pc1) (k : qs_VO l E A Sh mm dp rv pc1 lv (.int (-x) :: st) D T) : qs_VO l E A Sh mm dp rv pc lv (.int x :: st) D T := by
  subst hp
  exact fun X hX p e s m args below meth c H locs ls hc hS hP hD hl =>  lv_ineg hc.1 hc.2.1 hd (k X hX p e s m args below meth c H locs ls hc hS hP hD hl)
theorem qs_idiv {pc1 : Nat} {x y : Int32} (hd : decode mm.2.1 pc = .ok (.idiv, 1)) (hne : ¬ y = 0) (hp : pc + 1 = pc1) (k : qs_VO l E A Sh mm dp rv pc1 lv (.int (x / y) :: st) D T) : qs_VO l E A Sh mm dp rv pc lv (.int y :: .int x :: st) D T := by
  subst hp
  exact fun X hX p e s m args below meth c H locs ls hc hS hP hD hl =>  lv_idiv hc.1 hc.2.1 hd hne (k X hX p e s m args below meth c H locs ls hc hS hP hD hl)
theorem qs_idivz {pc1 : Nat} {x y : Int32} (hd : decode mm.2.1 pc = .ok (.idiv, 1)) (hp : pc + 1 = pc1) (k : ¬ y = 0 → qs_VO l E A Sh mm dp rv pc1 lv (.int (x / y) :: st) D T) : qs_VO l E A Sh mm dp rv pc lv (.int y :: .int x :: st) D (qs_gz y T) := by
  subst hp
  unfold qs_gz
  refine qs_ite (fun _ => qs_none) (fun hy => ?_)
  exact fun X hX p e s m args below meth c H locs ls hc hS hP hD hl =>  lv_idiv hc.1 hc.2.1 hd hy (k hy X hX p e s m args below meth c H locs ls hc hS hP hD hl)
theorem qs_irem {pc1 : Nat} {x y : Int32} (hd : decode mm.2.1 pc = .ok (.irem, 1)) (hne : ¬ y = 0) (hp : pc + 1 = pc1) (k : qs_VO l E A Sh mm dp rv pc1 lv (.int (x - x / y * y) :: st) D T) : qs_VO l E A Sh mm dp rv pc lv (.int y :: .int x :: st) D T := by
  subst hp
  exact fun X hX p e s m args below meth c H locs ls hc hS hP hD hl =>  lv_irem hc.1 hc.2.1 hd hne (k X hX p e s m args below meth c H locs ls hc hS hP hD hl)
theorem qs_iremz {pc1 : Nat} {x y : Int32} (hd : decode mm.2.1 pc = .ok (.irem, 1)) (hp : pc + 1 = pc1) (k : ¬ y = 0 → qs_VO l E A Sh mm dp rv pc1 lv (.int (x - x / y * y) :: st) D T) : qs_VO l E A Sh mm dp rv pc lv (.int y :: .int x :: st) D (qs_gz y T) := by
  subst hp
  unfold qs_gz
  refine qs_ite (fun _ => qs_none) (fun hy => ?_)
  exact fun X hX p e s m args below meth c H locs ls hc hS hP hD hl =>  lv_irem hc.1 hc.2.1 hd hy (k hy X hX p e s m args below meth c H locs ls hc hS hP hD hl)
theorem qs_lmul {pc1 : Nat} {x y : Int64} (hd : decode mm.2.1 pc = .ok (.lmul, 1)) (hp : pc + 1 = pc1) (k : qs_VO l E A Sh mm dp rv pc1 lv (.long (x * y) :: st) D T) : qs_VO l E A Sh mm dp rv pc lv (.long y :: .long x :: st) D T := by
  subst hp
  exact fun X hX p e s m args below meth c H locs ls hc hS hP hD hl =>  lv_lmul hc.1 hc.2.1 hd (k X hX p e s m args below meth c H locs ls hc hS hP hD hl)
theorem qs_i2l {pc1 : Nat} {x : Int32} (hd : decode mm.2.1 pc = .ok (.i2l, 1)) (hp : pc + 1 = pc1) (k : qs_VO l E A Sh mm dp rv pc1 lv (.long x.toInt64 :: st) D T) : qs_VO l E A Sh mm dp rv pc lv (.int x :: st) D T := by
  subst hp
  exact fun X hX p e s m args below meth c H locs ls hc hS hP hD hl =>  lv_i2l hc.1 hc.2.1 hd rfl (k X hX p e s m args below meth c H locs ls hc hS hP hD hl)
theorem qs_i2b {pc1 : Nat} {x : Int32} (hd : decode mm.2.1 pc = .ok (.i2b, 1)) (hp : pc + 1 = pc1) (k : qs_VO l E A Sh mm dp rv pc1 lv (.int (x.toInt8.toInt32) :: st) D T) : qs_VO l E A Sh mm dp rv pc lv (.int x :: st) D T := by
  subst hp
  exact fun X hX p e s m args below meth c H locs ls hc hS hP hD hl =>  lv_i2b hc.1 hc.2.1 hd rfl (k X hX p e s m args below meth c H locs ls hc hS hP hD hl)
theorem qs_i2s {pc1 : Nat} {x : Int32} (hd : decode mm.2.1 pc = .ok (.i2s, 1)) (hp : pc + 1 = pc1) (k : qs_VO l E A Sh mm dp rv pc1 lv (.int (x.toInt16.toInt32) :: st) D T) : qs_VO l E A Sh mm dp rv pc lv (.int x :: st) D T := by
  subst hp
  exact fun X hX p e s m args below meth c H locs ls hc hS hP hD hl =>  lv_i2s hc.1 hc.2.1 hd rfl (k X hX p e s m args below meth c H locs ls hc hS hP hD hl)
theorem qs_iushr {pc1 : Nat} {x y : Int32} (hd : decode mm.2.1 pc = .ok (.iushr, 1)) (hp : pc + 1 = pc1) (k : qs_VO l E A Sh mm dp rv pc1 lv (.int ((x.toUInt32 >>> (y.toUInt32 &&& Int32.toUInt32 31)).toInt32) :: st) D T) : qs_VO l E A Sh mm dp rv pc lv (.int y :: .int x :: st) D T := by
  subst hp
  exact fun X hX p e s m args below meth c H locs ls hc hS hP hD hl =>  lv_iushr hc.1 hc.2.1 hd rfl (k X hX p e s m args below meth c H locs ls hc hS hP hD hl)
theorem qs_ishl {pc1 : Nat} {x y : Int32} (hd : decode mm.2.1 pc = .ok (.ishl, 1)) (hp : pc + 1 = pc1) (k : qs_VO l E A Sh mm dp rv pc1 lv (.int (x <<< (y &&& 31)) :: st) D T) : qs_VO l E A Sh mm dp rv pc lv (.int y :: .int x :: st) D T := by
  subst hp
  exact fun X hX p e s m args below meth c H locs ls hc hS hP hD hl =>  lv_ishl hc.1 hc.2.1 hd (k X hX p e s m args below meth c H locs ls hc hS hP hD hl)
theorem qs_ishr {pc1 : Nat} {x y : Int32} (hd : decode mm.2.1 pc = .ok (.ishr, 1)) (hp : pc + 1 = pc1) (k : qs_VO l E A Sh mm dp rv pc1 lv (.int (x >>> (y &&& 31)) :: st) D T) : qs_VO l E A Sh mm dp rv pc lv (.int y :: .int x :: st) D T := by
  subst hp
  exact fun X hX p e s m args below meth c H locs ls hc hS hP hD hl =>  lv_ishr hc.1 hc.2.1 hd (k X hX p e s m args below meth c H locs ls hc hS hP hD hl)
theorem qs_dup {pc1 : Nat} {v : Value} (hd : decode mm.2.1 pc = .ok (.dup, 1)) (hv : v.category = 1) (hp : pc + 1 = pc1) (k : qs_VO l E A Sh mm dp rv pc1 lv (v :: v :: st) D T) : qs_VO l E A Sh mm dp rv pc lv (v :: st) D T := by
  subst hp
  exact fun X hX p e s m args below meth c H locs ls hc hS hP hD hl =>  lv_dup hc.1 hc.2.1 hd (by rw [qs_cat]; exact hv) (k X hX p e s m args below meth c H locs ls hc hS hP hD hl)
theorem qs_pop {pc1 : Nat} {v : Value} (hd : decode mm.2.1 pc = .ok (.pop, 1)) (hv : v.category = 1) (hp : pc + 1 = pc1) (k : qs_VO l E A Sh mm dp rv pc1 lv st D T) : qs_VO l E A Sh mm dp rv pc lv (v :: st) D T := by
  subst hp
  exact fun X hX p e s m args below meth c H locs ls hc hS hP hD hl =>  lv_pop hc.1 hc.2.1 hd (by rw [qs_cat]; exact hv) (k X hX p e s m args below meth c H locs ls hc hS hP hD hl)
theorem qs_dup2 {pc1 : Nat} {v w : Value} (hd : decode mm.2.1 pc = .ok (.dup2, 1)) (hv : v.category = 1) (hw : w.category = 1) (hp : pc + 1 = pc1) (k : qs_VO l E A Sh mm dp rv pc1 lv (v :: w :: v :: w :: st) D T) : qs_VO l E A Sh mm dp rv pc lv (v :: w :: st) D T := by
  subst hp
  exact fun X hX p e s m args below meth c H locs ls hc hS hP hD hl =>  lv_dup2_11 hc.1 hc.2.1 hd (by rw [qs_cat]; exact hv) (by rw [qs_cat]; exact hw) (k X hX p e s m args below meth c H locs ls hc hS hP hD hl)
theorem qs_if_eq {off : Int} {tgt pc1 : Nat} {x : Int32} (hd : decode mm.2.1 pc = .ok (.ifCond .eq off, 3)) (ht : (pc : Int) + off = (tgt : Int)) (hp : pc + 3 = pc1) (k1 : x = 0 → qs_VO l E A Sh mm dp rv tgt lv st D T1) (k2 : ¬ x = 0 → qs_VO l E A Sh mm dp rv pc1 lv st D T2) : qs_VO l E A Sh mm dp rv pc lv (.int x :: st) D (if x = 0 then T1 else T2) := by
  subst hp
  refine qs_ite (fun h => ?_) (fun h => ?_)
  · exact fun X hX p e s m args below meth c H locs ls hc hS hP hD hl =>  lv_if_eq hc.1 hc.2.1 hd ht (fun h => k1 h X hX p e s m args below meth c H locs ls hc hS hP hD hl) (fun h2 => absurd h h2)
  · exact fun X hX p e s m args below meth c H locs ls hc hS hP hD hl =>  lv_if_eq hc.1 hc.2.1 hd ht (fun h2 => absurd h2 h) (fun h => k2 h X hX p e s m args below meth c H locs ls hc hS hP hD hl)
theorem qs_icmp_eq {off : Int} {tgt pc1 : Nat} {x y : Int32} (hd : decode mm.2.1 pc = .ok (.if_icmp .eq off, 3)) (ht : (pc : Int) + off = (tgt : Int)) (hp : pc + 3 = pc1) (k1 : x = y → qs_VO l E A Sh mm dp rv tgt lv st D T1) (k2 : ¬ x = y → qs_VO l E A Sh mm dp rv pc1 lv st D T2) : qs_VO l E A Sh mm dp rv pc lv (.int y :: .int x :: st) D (if x = y then T1 else T2) := by
  subst hp
  refine qs_ite (fun h => ?_) (fun h => ?_)
  · exact fun X hX p e s m args below meth c H locs ls hc hS hP hD hl =>  lv_icmp_eq hc.1 hc.2.1 hd ht (fun h => k1 h X hX p e s m args below meth c H locs ls hc hS hP hD hl) (fun h2 => absurd h h2)
  · exact fun X hX p e s m args below meth c H locs ls hc hS hP hD hl =>  lv_icmp_eq hc.1 hc.2.1 hd ht (fun h2 => absurd h2 h) (fun h => k2 h X hX p e s m args below meth c H locs ls hc hS hP hD hl)
theorem qs_if_lt {off : Int} {tgt pc1 : Nat} {x : Int32} (hd : decode mm.2.1 pc = .ok (.ifCond .lt off, 3)) (ht : (pc : Int) + off = (tgt : Int)) (hp : pc + 3 = pc1) (k1 : x < 0 → qs_VO l E A Sh mm dp rv tgt lv st D T1) (k2 : ¬ x < 0 → qs_VO l E A Sh mm dp rv pc1 lv st D T2) : qs_VO l E A Sh mm dp rv pc lv (.int x :: st) D (if x < 0 then T1 else T2) := by
  subst hp
  refine qs_ite (fun h => ?_) (fun h => ?_)
  · exact fun X hX p e s m args below meth c H locs ls hc hS hP hD hl =>  lv_if_lt hc.1 hc.2.1 hd ht (fun h => k1 h X hX p e s m args below meth c H locs ls hc hS hP hD hl) (fun h2 => absurd h h2)
  · exact fun X hX p e s m args below meth c H locs ls hc hS hP hD hl =>  lv_if_lt hc.1 hc.2.1 hd ht (fun h2 => absurd h2 h) (fun h => k2 h X hX p e s m args below meth c H locs ls hc hS hP hD hl)
theorem qs_icmp_lt {off : Int} {tgt pc1 : Nat} {x y : Int32} (hd : decode mm.2.1 pc = .ok (.if_icmp .lt off, 3)) (ht : (pc : Int) + off = (tgt : Int)) (hp : pc + 3 = pc1) (k1 : x < y → qs_VO l E A Sh mm dp rv tgt lv st D T1) (k2 : ¬ x < y → qs_VO l E A Sh mm dp rv pc1 lv st D T2) : qs_VO l E A Sh mm dp rv pc lv (.int y :: .int x :: st) D (if x < y then T1 else T2) := by
  subst hp
  refine qs_ite (fun h => ?_) (fun h => ?_)
  · exact fun X hX p e s m args below meth c H locs ls hc hS hP hD hl =>  lv_icmp_lt hc.1 hc.2.1 hd ht (fun h => k1 h X hX p e s m args below meth c H locs ls hc hS hP hD hl) (fun h2 => absurd h h2)
  · exact fun X hX p e s m args below meth c H locs ls hc hS hP hD hl =>  lv_icmp_lt hc.1 hc.2.1 hd ht (fun h2 => absurd h2 h) (fun h => k2 h X hX p e s m args below meth c H locs ls hc hS hP hD hl)
theorem qs_if_ge {off : Int} {tgt pc1 : Nat} {x : Int32} (hd : decode mm.2.1 pc = .ok (.ifCond .ge off, 3)) (ht : (pc : Int) + off = (tgt : Int)) (hp : pc + 3 = pc1) (k1 : 0 ≤ x → qs_VO l E A Sh mm dp rv tgt lv st D T1) (k2 : ¬ 0 ≤ x → qs_VO l E A Sh mm dp rv pc1 lv st D T2) : qs_VO l E A Sh mm dp rv pc lv (.int x :: st) D (if 0 ≤ x then T1 else T2) := by
  subst hp
  refine qs_ite (fun h => ?_) (fun h => ?_)
  · exact fun X hX p e s m args below meth c H locs ls hc hS hP hD hl =>  lv_if_ge hc.1 hc.2.1 hd ht (fun h => k1 h X hX p e s m args below meth c H locs ls hc hS hP hD hl) (fun h2 => absurd h h2)
  · exact fun X hX p e s m args below meth c H locs ls hc hS hP hD hl =>  lv_if_ge hc.1 hc.2.1 hd ht (fun h2 => absurd h2 h) (fun h => k2 h X hX p e s m args below meth c H locs ls hc hS hP hD hl)
theorem qs_icmp_ge {off : Int} {tgt pc1 : Nat} {x y : Int32} (hd : decode mm.2.1 pc = .ok (.if_icmp .ge off, 3)) (ht : (pc : Int) + off = (tgt : Int)) (hp : pc + 3 = pc1) (k1 : y ≤ x → qs_VO l E A Sh mm dp rv tgt lv st D T1) (k2 : ¬ y ≤ x → qs_VO l E A Sh mm dp rv pc1 lv st D T2) : qs_VO l E A Sh mm dp rv pc lv (.int y :: .int x :: st) D (if y ≤ x then T1 else T2) := by
  subst hp
  refine qs_ite (fun h => ?_) (fun h => ?_)
  · exact fun X hX p e s m args below meth c H locs ls hc hS hP hD hl =>  lv_icmp_ge hc.1 hc.2.1 hd ht (fun h => k1 h X hX p e s m args below meth c H locs ls hc hS hP hD hl) (fun h2 => absurd h h2)
  · exact fun X hX p e s m args below meth c H locs ls hc hS hP hD hl =>  lv_icmp_ge hc.1 hc.2.1 hd ht (fun h2 => absurd h2 h) (fun h => k2 h X hX p e s m args below meth c H locs ls hc hS hP hD hl)
theorem qs_if_gt {off : Int} {tgt pc1 : Nat} {x : Int32} (hd : decode mm.2.1 pc = .ok (.ifCond .gt off, 3)) (ht : (pc : Int) + off = (tgt : Int)) (hp : pc + 3 = pc1) (k1 : 0 < x → qs_VO l E A Sh mm dp rv tgt lv st D T1) (k2 : ¬ 0 < x → qs_VO l E A Sh mm dp rv pc1 lv st D T2) : qs_VO l E A Sh mm dp rv pc lv (.int x :: st) D (if 0 < x then T1 else T2) := by
  subst hp
  refine qs_ite (fun h => ?_) (fun h => ?_)
  · exact fun X hX p e s m args below meth c H locs ls hc hS hP hD hl =>  lv_if_gt hc.1 hc.2.1 hd ht (fun h => k1 h X hX p e s m args below meth c H locs ls hc hS hP hD hl) (fun h2 => absurd h h2)
  · exact fun X hX p e s m args below meth c H locs ls hc hS hP hD hl =>  lv_if_gt hc.1 hc.2.1 hd ht (fun h2 => absurd h2 h) (fun h => k2 h X hX p e s m args below meth c H locs ls hc hS hP hD hl)
theorem qs_icmp_gt {off : Int} {tgt pc1 : Nat} {x y : Int32} (hd : decode mm.2.1 pc = .ok (.if_icmp .gt off, 3)) (ht : (pc : Int) + off = (tgt : Int)) (hp : pc + 3 = pc1) (k1 : y < x → qs_VO l E A Sh mm dp rv tgt lv st D T1) (k2 : ¬ y < x → qs_VO l E A Sh mm dp rv pc1 lv st D T2) : qs_VO l E A Sh mm dp rv pc lv (.int y :: .int x :: st) D (if y < x then T1 else T2) := by
  subst hp
  refine qs_ite (fun h => ?_) (fun h => ?_)
  · exact fun X hX p e s m args below meth c H locs ls hc hS hP hD hl =>  lv_icmp_gt hc.1 hc.2.1 hd ht (fun h => k1 h X hX p e s m args below meth c H locs ls hc hS hP hD hl) (fun h2 => absurd h h2)
  · exact fun X hX p e s m args below meth c H locs ls hc hS hP hD hl =>  lv_icmp_gt hc.1 hc.2.1 hd ht (fun h2 => absurd h2 h) (fun h => k2 h X hX p e s m args below meth c H locs ls hc hS hP hD hl)
theorem qs_if_le {off : Int} {tgt pc1 : Nat} {x : Int32} (hd : decode mm.2.1 pc = .ok (.ifCond .le off, 3)) (ht : (pc : Int) + off = (tgt : Int)) (hp : pc + 3 = pc1) (k1 : x ≤ 0 → qs_VO l E A Sh mm dp rv tgt lv st D T1) (k2 : ¬ x ≤ 0 → qs_VO l E A Sh mm dp rv pc1 lv st D T2) : qs_VO l E A Sh mm dp rv pc lv (.int x :: st) D (if x ≤ 0 then T1 else T2) := by
  subst hp
  refine qs_ite (fun h => ?_) (fun h => ?_)
  · exact fun X hX p e s m args below meth c H locs ls hc hS hP hD hl =>  lv_if_le hc.1 hc.2.1 hd ht (fun h => k1 h X hX p e s m args below meth c H locs ls hc hS hP hD hl) (fun h2 => absurd h h2)
  · exact fun X hX p e s m args below meth c H locs ls hc hS hP hD hl =>  lv_if_le hc.1 hc.2.1 hd ht (fun h2 => absurd h2 h) (fun h => k2 h X hX p e s m args below meth c H locs ls hc hS hP hD hl)
theorem qs_icmp_le {off : Int} {tgt pc1 : Nat} {x y : Int32} (hd : decode mm.2.1 pc = .ok (.if_icmp .le off, 3)) (ht : (pc : Int) + off = (tgt : Int)) (hp : pc + 3 = pc1) (k1 : x ≤ y → qs_VO l E A Sh mm dp rv tgt lv st D T1) (k2 : ¬ x ≤ y → qs_VO l E A Sh mm dp rv pc1 lv st D T2) : qs_VO l E A Sh mm dp rv pc lv (.int y :: .int x :: st) D (if x ≤ y then T1 else T2) := by
  subst hp
  refine qs_ite (fun h => ?_) (fun h => ?_)
  · exact fun X hX p e s m args below meth c H locs ls hc hS hP hD hl =>  lv_icmp_le hc.1 hc.2.1 hd ht (fun h => k1 h X hX p e s m args below meth c H locs ls hc hS hP hD hl) (fun h2 => absurd h h2)
  · exact fun X hX p e s m args below meth c H locs ls hc hS hP hD hl =>  lv_icmp_le hc.1 hc.2.1 hd ht (fun h2 => absurd h2 h) (fun h => k2 h X hX p e s m args below meth c H locs ls hc hS hP hD hl)
theorem qs_if_ne {off : Int} {tgt pc1 : Nat} {x : Int32} (hd : decode mm.2.1 pc = .ok (.ifCond .ne off, 3)) (ht : (pc : Int) + off = (tgt : Int)) (hp : pc + 3 = pc1) (k1 : x = 0 → qs_VO l E A Sh mm dp rv pc1 lv st D T1) (k2 : ¬ x = 0 → qs_VO l E A Sh mm dp rv tgt lv st D T2) : qs_VO l E A Sh mm dp rv pc lv (.int x :: st) D (if x = 0 then T1 else T2) := by
  subst hp
  refine qs_ite (fun h => ?_) (fun h => ?_)
  · exact fun X hX p e s m args below meth c H locs ls hc hS hP hD hl =>  lv_if_ne hc.1 hc.2.1 hd ht (fun h2 => absurd h h2) (fun h => k1 h X hX p e s m args below meth c H locs ls hc hS hP hD hl)
  · exact fun X hX p e s m args below meth c H locs ls hc hS hP hD hl =>  lv_if_ne hc.1 hc.2.1 hd ht (fun h => k2 h X hX p e s m args below meth c H locs ls hc hS hP hD hl) (fun h2 => absurd h2 h)
theorem qs_icmp_ne {off : Int} {tgt pc1 : Nat} {x y : Int32} (hd : decode mm.2.1 pc = .ok (.if_icmp .ne off, 3)) (ht : (pc : Int) + off = (tgt : Int)) (hp : pc + 3 = pc1) (k1 : x = y → qs_VO l E A Sh mm dp rv pc1 lv st D T1) (k2 : ¬ x = y → qs_VO l E A Sh mm dp rv tgt lv st D T2) : qs_VO l E A Sh mm dp rv pc lv (.int y :: .int x :: st) D (if x = y then T1 else T2) := by
  subst hp
  refine qs_ite (fun h => ?_) (fun h => ?_)
  · exact fun X hX p e s m args below meth c H locs ls hc hS hP hD hl =>  lv_icmp_ne hc.1 hc.2.1 hd ht (fun h2 => absurd h h2) (fun h => k1 h X hX p e s m args below meth c H locs ls hc hS hP hD hl)
  · exact fun X hX p e s m args below meth c H locs ls hc hS hP hD hl =>  lv_icmp_ne hc.1 hc.2.1 hd ht (fun h => k2 h X hX p e s m args below meth c H locs ls hc hS hP hD hl) (fun h2 => absurd h2 h)
theorem qs_tsIn {dflt lo hi : Int} {offs : Array Int} {len tgt : Nat} {x : Int32} {off : Int} (hd : decode mm.2.1 pc = .ok (.tableswitch dflt lo hi offs, len)) (h1 : ¬ x.toInt < lo) (h2 : ¬ hi < x.toInt) (ho : offs[(x.toInt - lo).toNat]? = some off) (ht : (pc : Int) + off = (tgt : Int)) (k : qs_VO l E A Sh mm dp rv tgt lv st D T) : qs_VO l E A Sh mm dp rv pc lv (.int x :: st) D T := fun X hX p e s m args below meth c H locs ls hc hS hP hD hl =>  lv_tableIn hc.1 hc.2.1 hd h1 h2 ho ht (k X hX p e s m args below meth c H locs ls hc hS hP hD hl)
theorem qs_tsOut {dflt lo hi : Int} {offs : Array Int} {len tgt : Nat} {x : Int32} (hd : decode mm.2.1 pc = .ok (.tableswitch dflt lo hi offs, len)) (h : x.toInt < lo ∨ hi < x.toInt) (ht : (pc : Int) + dflt = (tgt : Int)) (k : qs_VO l E A Sh mm dp rv tgt lv st D T) : qs_VO l E A Sh mm dp rv pc lv (.int x :: st) D T := fun X hX p e s m args below meth c H locs ls hc hS hP hD hl =>  lv_tableOut hc.1 hc.2.1 hd h ht (k X hX p e s m args below meth c H locs ls hc hS hP hD hl)
theorem qs_goto {off : Int} {tgt : Nat} (hd : decode mm.2.1 pc = .ok (.goto off, 3)) (ht : (pc : Int) + off = (tgt : Int)) (k : qs_VO l E A Sh mm dp rv tgt lv st D T) : qs_VO l E A Sh mm dp rv pc lv st D T := fun X hX p e s m args below meth c H locs ls hc hS hP hD hl =>  lv_goto hc.1 hc.2.1 hd ht (k X hX p e s m args below meth c H locs ls hc hS hP hD hl)
theorem qs_getI {idx pc1 i ci k0 : Nat} {tm : List (Option (Option Nat))} {ft : FieldType} (hf : qs_FF mm.1 idx ci k0 ft) (he : Sh[i]? = some (.inl (ci, tm))) (hv : tm[k0]? = some none) (hd : decode mm.2.1 pc = .ok (.getfield idx, 3)) (hp : pc + 3 = pc1) (k : qs_VO l E A Sh mm dp rv pc1 lv (.int (D i k0) :: st) D T) : qs_VO l E A Sh mm dp rv pc lv (.ref i :: st) D T := by
  subst hp
  obtain ⟨C, Tt, N, ty, ⟨h1, h2, h3, h4⟩, hk, hty, hC, hlink⟩ := hf
  intro X hX p e s m args below meth c H locs ls hc hS hP hD hl
  have hfs : (tm.mapIdx (qs_fld E (D i)))[k0]? = some (.int (D i k0)) := by rw [List.getElem?_mapIdx, hv]; rfl
  rcases hlink with hlink | ⟨host, hlink⟩
  · exact va_get (D := E.1) (ci := ci) (v := .int (D i k0)) (C := C) (T := Tt) (N := N) (ref := C) hc.1 hc.2.1 hc.2.2.2.2.2.1 h2 hc.2.2.2.2.1 hc.2.2.2.2.2.2.2.1 hP i (qs_ren_at he) h1 k0 hk (hc.2.2.2.2.2.1 _ hlink) (fun x hx => by rw [← hC]; exact hx) hfs hd (k X hX p e s m args below meth c H locs ls hc hS hP hD hl)
  · exact va_getN (D := E.1) (ci := ci) (v := .int (D i k0)) (C := C) (T := Tt) (N := N) (ref := C) hc.1 hc.2.1 hc.2.2.2.2.2.1 h2 hc.2.2.2.2.1 hc.2.2.2.2.2.2.2.1 hP i (qs_ren_at he) h1 k0 hk (va_Nw.use rfl (hc.2.2.2.2.2.2.2.2.1 _ hlink)) (fun x hx => by rw [← hC]; exact hx) hfs hd (k X hX p e s m args below meth c H locs ls hc hS hP hD hl)
theorem qs_getR {idx pc1 i j ci k0 : Nat} {tm : List (Option (Option Nat))} {ft : FieldType} (hf : qs_FF mm.1 idx ci k0 ft) (he : Sh[i]? = some (.inl (ci, tm))) (hv : tm[k0]? = some (some (some j))) (hd : decode mm.2.1 pc = .ok (.getfield idx, 3)) (hp : pc + 3 = pc1) (k : qs_VO l E A Sh mm dp rv pc1 lv (.ref j :: st) D T) : qs_VO l E A Sh mm dp rv pc lv (.ref i :: st) D T := by
  subst hp
  obtain ⟨C, Tt, N, ty, ⟨h1, h2, h3, h4⟩, hk, hty, hC, hlink⟩ := hf
  intro X hX p e s m args below meth c H locs ls hc hS hP hD hl
  have hfs : (tm.mapIdx (qs_fld E (D i)))[k0]? = some (.ref (E.2.2.1 j)) := by rw [List.getElem?_mapIdx, hv]; rfl
  rcases hlink with hlink | ⟨host, hlink⟩
  · exact va_get (D := E.1) (ci := ci) (v := .ref (E.2.2.1 j)) (C := C) (T := Tt) (N := N) (ref := C) hc.1 hc.2.1 hc.2.2.2.2.2.1 h2 hc.2.2.2.2.1 hc.2.2.2.2.2.2.2.1 hP i (qs_ren_at he) h1 k0 hk (hc.2.2.2.2.2.1 _ hlink) (fun x hx => by rw [← hC]; exact hx) hfs hd (k X hX p e s m args below meth c H locs ls hc hS hP hD hl)
  · exact va_getN (D := E.1) (ci := ci) (v := .ref (E.2.2.1 j)) (C := C) (T := Tt) (N := N) (ref := C) hc.1 hc.2.1 hc.2.2.2.2.2.1 h2 hc.2.2.2.2.1 hc.2.2.2.2.2.2.2.1 hP i (qs_ren_at he) h1 k0 hk (va_Nw.use rfl (hc.2.2.2.2.2.2.2.2.1 _ hlink)) (fun x hx => by rw [← hC]; exact hx) hfs hd (k X hX p e s m args below meth c H locs ls hc hS hP hD hl)
theorem qs_ren_put {i ci k0 : Nat} {tm : List (Option (Option Nat))} {x : Int32} (he : Sh[i]? = some (.inl (ci, tm))) (hv : tm[k0]? = some none) : qs_ren E Sh (qs_u D i k0 x) = (qs_ren E Sh D).set i (E.2.2.1 i, .inr (ci, (tm.mapIdx (qs_fld E (D i))).set k0 (.int x))) := by
  rw [qs_u_w, qs_ren_w he]
  show _ = (qs_ren E Sh D).set i (E.2.2.1 i, _)
  rw [← qs_fld_set hv]
  rfl
theorem qs_putG {idx i ci k0 : Nat} {tm : List (Option (Option Nat))} {ft : FieldType} {x : Int32} {F : qs_D → Option (ρ × qs_D)} (hn : narrow ft (.int x) = .int x) (hfit : fits ft (.int x) = true) (hf : qs_FW mm.1 idx ci k0 ft) (he : Sh[i]? = some (.inl (ci, tm))) (hv : tm[k0]? = some none) (hd : decode mm.2.1 pc = .ok (.putfield idx, 3)) (k : ∀ D1 : qs_D, qs_VO l E A Sh mm dp rv (pc + 3) lv st D1 (F D1)) : qs_VO l E A Sh mm dp rv pc lv (.int x :: .ref i :: st) D (qs_let (qs_u D i k0 x) F) := by
  obtain ⟨C, Tt, N, ty, ⟨h1, h2, h3, h4⟩, hk, hty, hC, hfin, hlink⟩ := hf
  intro X hX p e s m args below meth c H locs ls hc hS hP hD hl
  have hlen : k0 < (tm.mapIdx (qs_fld E (D i))).length := by rw [List.length_mapIdx]; exact (List.getElem?_eq_some_iff.mp hv).1
  rcases hlink with hlink | ⟨host, hlink⟩
  · exact va_put (D := E.1) (ci := ci) (v := .int x) (ty := ft) (C := C) (T := Tt) (N := N) (ref := C) hc.1 hc.2.1 hc.2.2.2.2.2.1 h2 ty h3 h4 hc.2.2.2.2.1 hc.2.2.2.2.2.2.2.1 hP hD hS i (qs_ren_at he) h1 k0 hk (hc.2.2.2.2.2.1 _ hlink) (fun x hx => by rw [← hC]; exact hx) hfin (by rw [h3 k0 hk, hty]) hn hfit hlen hd (fun H1 locs1 hP1 hD1 hS1 => k _ X hX p e s m args below meth c H1 locs1 ls hc hS1 (by rw [qs_ren_put he hv]; exact hP1) (by rw [qs_ren_put he hv]; exact hD1) hl)
  · exact va_putN (D := E.1) (ci := ci) (v := .int x) (ty := ft) (C := C) (T := Tt) (N := N) (ref := C) hc.1 hc.2.1 hc.2.2.2.2.2.1 h2 ty h3 h4 hc.2.2.2.2.1 hc.2.2.2.2.2.2.2.1 hP hD hS i (qs_ren_at he) h1 k0 hk (va_Nw.use rfl (hc.2.2.2.2.2.2.2.2.1 _ hlink)) (fun x hx => by rw [← hC]; exact hx) hfin (by rw [h3 k0 hk, hty]) hn hfit hlen hd (fun H1 locs1 hP1 hD1 hS1 => k _ X hX p e s m args below meth c H1 locs1 ls hc hS1 (by rw [qs_ren_put he hv]; exact hP1) (by rw [qs_ren_put he hv]; exact hD1) hl)
theorem qs_putI {idx pc1 i ci k0 : Nat} {tm : List (Option (Option Nat))} {x : Int32} {F : qs_D → Option (ρ × qs_D)} (hf : qs_FW mm.1 idx ci k0 .int) (he : Sh[i]? = some (.inl (ci, tm))) (hv : tm[k0]? = some none) (hd : decode mm.2.1 pc = .ok (.putfield idx, 3)) (hp : pc + 3 = pc1) (k : ∀ D1 : qs_D, qs_VO l E A Sh mm dp rv pc1 lv st D1 (F D1)) : qs_VO l E A Sh mm dp rv pc lv (.int x :: .ref i :: st) D (qs_let (qs_u D i k0 x) F) := by
  subst hp
  exact qs_putG rfl rfl hf he hv hd k
theorem qs_putZ {idx pc1 i ci k0 : Nat} {tm : List (Option (Option Nat))} {x : Int32} {F : qs_D → Option (ρ × qs_D)} (hz : x = 0 ∨ x = 1) (hf : qs_FW mm.1 idx ci k0 .boolean) (he : Sh[i]? = some (.inl (ci, tm))) (hv : tm[k0]? = some none) (hd : decode mm.2.1 pc = .ok (.putfield idx, 3)) (hp : pc + 3 = pc1) (k : ∀ D1 : qs_D, qs_VO l E A Sh mm dp rv pc1 lv st D1 (F D1)) : qs_VO l E A Sh mm dp rv pc lv (.int x :: .ref i :: st) D (qs_let (qs_u D i k0 x) F) := by
  subst hp
  rcases hz with rfl | rfl
  · exact qs_putG (by decide) (by decide) hf he hv hd k
  · exact qs_putG (by decide) (by decide) hf he hv hd k
theorem qs_iald {pc1 i n : Nat} {f : Nat → Option Nat} {j : Int32} (he : Sh[i]? = some (.inr (0, n, f))) (hn : n < 2 ^ 31) (hd : decode mm.2.1 pc = .ok (.iaload, 1)) (hp : pc + 1 = pc1) (k : 0 ≤ j ∧ j < Int32.ofNat n → qs_VO l E A Sh mm dp rv pc1 lv (.int (D i j.toNatClampNeg) :: st) D T) : qs_VO l E A Sh mm dp rv pc lv (.int j :: .ref i :: st) D (qs_g j n T) := by
  subst hp
  unfold qs_g
  refine qs_ite (fun h => ?_) (fun _ => qs_none)
  exact fun X hX p e s m args below meth c H locs ls hc hS hP hD hl => va_iald (f := D i) (n := n) hc.1 hc.2.1 hc.2.2.2.2.2.2.2.1 hP i 0 (qs_ren_at he) rfl (qs_in hn h) hd (k h X hX p e s m args below meth c H locs ls hc hS hP hD hl)
theorem qs_bald {pc1 i n : Nat} {f : Nat → Option Nat} {j : Int32} (he : Sh[i]? = some (.inr (1, n, f))) (hn : n < 2 ^ 31) (hd : decode mm.2.1 pc = .ok (.baload, 1)) (hp : pc + 1 = pc1) (k : 0 ≤ j ∧ j < Int32.ofNat n → qs_VO l E A Sh mm dp rv pc1 lv (.int (D i j.toNatClampNeg) :: st) D T) : qs_VO l E A Sh mm dp rv pc lv (.int j :: .ref i :: st) D (qs_g j n T) := by
  subst hp
  unfold qs_g
  refine qs_ite (fun h => ?_) (fun _ => qs_none)
  exact fun X hX p e s m args below meth c H locs ls hc hS hP hD hl => va_bald (f := D i) (n := n) hc.1 hc.2.1 hc.2.2.2.2.2.2.2.1 hP i 1 (qs_ren_at he) rfl (qs_in hn h) hd (k h X hX p e s m args below meth c H locs ls hc hS hP hD hl)
theorem qs_iast {pc1 i n : Nat} {f : Nat → Option Nat} {j x : Int32} {F : qs_D → Option (ρ × qs_D)} (he : Sh[i]? = some (.inr (0, n, f))) (hn : n < 2 ^ 31) (hd : decode mm.2.1 pc = .ok (.iastore, 1)) (hp : pc + 1 = pc1) (k : ∀ D1 : qs_D, qs_VO l E A Sh mm dp rv pc1 lv st D1 (F D1)) : qs_VO l E A Sh mm dp rv pc lv (.int x :: .int j :: .ref i :: st) D (qs_g j n (qs_let (qs_u D i j.toNatClampNeg x) F)) := by
  subst hp
  unfold qs_g
  refine qs_ite (fun h => ?_) (fun _ => qs_none)
  exact fun X hX p e s m args below meth c H locs ls hc hS hP hD hl => va_iast (f := D i) (n := n) hc.1 hc.2.1 hc.2.2.2.2.2.2.2.1 hP hD hS i 0 (qs_ren_at he) rfl (qs_in hn h) hd (fun H1 locs1 hP1 hD1 hS1 => k _ X hX p e s m args below meth c H1 locs1 ls hc hS1 (by rw [qs_u_w, qs_ren_w he]; exact hP1) (by rw [qs_u_w, qs_ren_w he]; exact hD1) hl)
theorem qs_bast {pc1 i n : Nat} {f : Nat → Option Nat} {j x : Int32} {F : qs_D → Option (ρ × qs_D)} (he : Sh[i]? = some (.inr (1, n, f))) (hn : n < 2 ^ 31) (hd : decode mm.2.1 pc = .ok (.bastore, 1)) (hp : pc + 1 = pc1) (k : ∀ D1 : qs_D, qs_VO l E A Sh mm dp rv pc1 lv st D1 (F D1)) : qs_VO l E A Sh mm dp rv pc lv (.int x :: .int j :: .ref i :: st) D (qs_g j n (qs_let (qs_u D i j.toNatClampNeg x.toInt8.toInt32) F)) := by
  subst hp
  unfold qs_g
  refine qs_ite (fun h => ?_) (fun _ => qs_none)
  exact fun X hX p e s m args below meth c H locs ls hc hS hP hD hl => va_bast (f := D i) (n := n) hc.1 hc.2.1 hc.2.2.2.2.2.2.2.1 hP hD hS i 1 (qs_ren_at he) rfl (qs_in hn h) hd (fun H1 locs1 hP1 hD1 hS1 => by
    rw [vp_nar_byte] at hP1 hD1
    exact k _ X hX p e s m args below meth c H1 locs1 ls hc hS1 (by rw [qs_u_w, qs_ren_w he]; exact hP1) (by rw [qs_u_w, qs_ren_w he]; exact hD1) hl)
theorem qs_aald {pc1 i kd n : Nat} {C : String} {g : Nat → Nat} {j : Int32} (ht : (qs_tys E)[kd]? = some (E.2.1 kd, .object C)) (hkd : ¬ kd ≤ 1) (he : Sh[i]? = some (.inr (kd, n, fun j => some (g j)))) (hn : n < 2 ^ 31) (hd : decode mm.2.1 pc = .ok (.aaload, 1)) (hp : pc + 1 = pc1) (k : 0 ≤ j ∧ j < Int32.ofNat n → qs_VO l E A Sh mm dp rv pc1 lv (.ref (g j.toNatClampNeg) :: st) D T) : qs_VO l E A Sh mm dp rv pc lv (.int j :: .ref i :: st) D (qs_g j n T) := by
  subst hp
  unfold qs_g
  refine qs_ite (fun h => ?_) (fun _ => qs_none)
  intro X hX p e s m args below meth c H locs ls hc hS hP hD hl
  have hh := qs_ren_at (E := E) (D := D) he
  rw [show qs_cell E (.inr (kd, n, fun j => some (g j))) (D i) = .inl (E.2.1 kd, n, .inr (.inr (.inr (.inr (fun j => (some (g j)).map E.2.2.1))))) from by simp [qs_cell, hkd]] at hh
  exact va_aldq hc.1 hc.2.1 hc.2.2.2.2.2.2.2.1 hP i kd hh ht (qs_in hn h) hd (k h X hX p e s m args below meth c H locs ls hc hS hP hD hl)
theorem qs_alen {pc1 i n : Nat} {f : Nat → Option Nat} (he : Sh[i]? = some (.inr (0, n, f))) (hd : decode mm.2.1 pc = .ok (.arraylength, 1)) (hp : pc + 1 = pc1) (k : qs_VO l E A Sh mm dp rv pc1 lv (.int (Int32.ofNat n) :: st) D T) : qs_VO l E A Sh mm dp rv pc lv (.ref i :: st) D T := by
  subst hp
  exact fun X hX p e s m args below meth c H locs ls hc hS hP hD hl => va_alen (x := (n, .inl (D i))) (ty := .int) hc.1 hc.2.1 hc.2.2.2.2.2.2.2.1 hP i 0 (qs_ren_at he) rfl rfl hd (k X hX p e s m args below meth c H locs ls hc hS hP hD hl)
theorem qs_gets {idx pc1 t : Nat} {C n : String} {vs : List Int32} (hx : qs_tabs[t]? = some (C, n, vs)) (hw : Cond.fieldLink mm.1 idx C n "[I" ∈ qs_gT) (hd : decode mm.2.1 pc = .ok (.getstatic idx, 3)) (hp : pc + 3 = pc1) (k : qs_VO l E A Sh mm dp rv pc1 lv (.ref (2000 + t) :: st) D T) : qs_VO l E A Sh mm dp rv pc lv st D T := by
  subst hp
  exact fun X hX p e s m args below meth c H locs ls hc hS hP hD hl => va_gets hc.1 hc.2.1 (hc.2.2.2.2.2.2.2.2.2.1 t _ hx).1 hS hc.2.2.2.2.1 (hc.2.2.2.2.2.1 _ hw) (fun x h => h) hd (k X hX p e s m args below meth c H locs ls hc hS hP hD hl)
theorem qs_ialdT {pc1 t : Nat} {C n : String} {vs : List Int32} {j : Int32} (hx : qs_tabs[t]? = some (C, n, vs)) (hn : vs.length < 2 ^ 31) (hd : decode mm.2.1 pc = .ok (.iaload, 1)) (hp : pc + 1 = pc1) (k : 0 ≤ j ∧ j < Int32.ofNat vs.length → qs_VO l E A Sh mm dp rv pc1 lv (.int (vs.getD j.toNatClampNeg 0) :: st) D T) : qs_VO l E A Sh mm dp rv pc lv (.int j :: .ref (2000 + t) :: st) D (qs_g j vs.length T) := by
  subst hp
  unfold qs_g
  refine qs_ite (fun h => ?_) (fun _ => qs_none)
  exact fun X hX p e s m args below meth c H locs ls hc hS hP hD hl => va_ti hc.1 hc.2.1 (hc.2.2.2.2.2.2.2.2.2.1 t _ hx).2 hS (qs_in hn h) rfl hd (k h X hX p e s m args below meth c H locs ls hc hS hP hD hl)
theorem qs_copy {idx pc1 a b n0 n1 : Nat} {f g : Nat → Option Nat} {sp q n : Int32} {F : qs_D → Option (ρ × qs_D)} (hw : Cond.methodLink mm.1 idx arraycopyName ∈ qs_gT ∧ Cond.native arraycopyName ∈ qs_gT ∧ Cond.static arraycopyName ∈ qs_gT ∧ Cond.initialized "java/lang/System" ∈ qs_gT) (ha : Sh[a]? = some (.inr (0, n0, f))) (hb : Sh[b]? = some (.inr (0, n1, g))) (hr : 1 ≤ dp) (hz : (st.map fun v => v.category).sum + (nativeFrameWords "java/lang/System" "arraycopy" 5 + 11) ≤ 39 * dp) (hd : decode mm.2.1 pc = .ok (.invokestatic idx, 3)) (hp : pc + 3 = pc1) (k : ∀ D1 : qs_D, qs_VO l E A Sh mm dp rv pc1 lv st D1 (F D1)) : qs_VO l E A Sh mm dp rv pc lv (.int n :: .int q :: .ref b :: .int sp :: .ref a :: st) D (qs_gcp sp q n n0 n1 (qs_let (qs_w D b (va_cpy (D a) (D b) sp.toNatClampNeg q.toNatClampNeg n.toNatClampNeg)) F)) := by
  subst hp
  unfold qs_gcp
  refine qs_ite (fun h => ?_) (fun _ => qs_none)
  exact fun X hX p e s m args below meth c H locs ls hc hS hP hD hl => va_copyi (f := D a) (g := D b) (ty := .int) hc.1 hc.2.1 (hc.2.2.2.1.trans hl.1.symm) hc.2.2.2.2.1 (hc.2.2.2.2.2.1 _ hw.1) (hc.2.2.2.2.2.1 _ hw.2.1) (hc.2.2.2.2.2.1 _ hw.2.2.1) (hc.2.2.2.2.2.1 _ hw.2.2.2) hc.2.2.2.2.2.2.2.1 hP hD hS a b 0 0 (qs_ren_at ha) (qs_ren_at hb) rfl rfl rfl h.1 h.2.1 h.2.2.1 h.2.2.2.1 h.2.2.2.2 (fun _ _ => rfl) hr (by rw [qs_sum]; exact hz) hd (fun H1 locs1 hP1 hD1 hS1 => k _ X hX p e s m args below meth c H1 locs1 ls hc hS1 (by rw [qs_ren_w hb]; exact hP1) (by rw [qs_ren_w hb]; exact hD1) hl)
/-! returns -/
theorem qs_iret {x : Int32} (hr : mm.2.2.2 = some .int) (hd : decode mm.2.1 pc = .ok (.ireturn, 1)) : qs_VO l E A Sh mm dp qs_ri pc lv [.int x] D (some (x, D)) := by
  intro X hX p e s m args below meth c H locs ls hc hS hP hD hl
  cases hX
  exact W.iret hc.1 hc.2.1 (hc.2.2.1.trans hr) (fun t ht hW => ⟨⟨rfl, by rw [ht]; exact hP, hD⟩, hS.F ht⟩) hS.2.2 hd (hlocks := hc.2.2.2.2.2.2.1)
theorem qs_zret {x : Int32} (hz : x = 0 ∨ x = 1) (hr : mm.2.2.2 = some .boolean) (hd : decode mm.2.1 pc = .ok (.ireturn, 1)) : qs_VO l E A Sh mm dp qs_ri pc lv [.int x] D (some (x, D)) := by
  intro X hX p e s m args below meth c H locs ls hc hS hP hD hl
  cases hX
  exact W.zret hc.1 hc.2.1 (hc.2.2.1.trans hr) (by rcases hz with rfl | rfl <;> decide) (fun t ht hW => ⟨⟨rfl, by rw [ht]; exact hP, hD⟩, hS.F ht⟩) hS.2.2 hd (hlocks := hc.2.2.2.2.2.2.1)
theorem qs_zretB {x : Int32} (hr : mm.2.2.2 = some .boolean) (hd : decode mm.2.1 pc = .ok (.ireturn, 1)) : qs_VO l E A Sh mm dp qs_ri pc lv [.int x] D (qs_gb x (some (x, D))) := by
  unfold qs_gb
  exact qs_ite (fun h => qs_zret h hr hd) (fun _ => qs_none)
theorem qs_lret {x : Int64} (hr : mm.2.2.2 = some .long) (hd : decode mm.2.1 pc = .ok (.lreturn, 1)) : qs_VO l E A Sh mm dp qs_rl pc lv [.long x] D (some (x, D)) := by
  intro X hX p e s m args below meth c H locs ls hc hS hP hD hl
  cases hX
  exact W.lret hc.1 hc.2.1 (hc.2.2.1.trans hr) (fun t ht hW => ⟨⟨rfl, by rw [ht]; exact hP, hD⟩, hS.F ht⟩) hS.2.2 hd (hlocks := hc.2.2.2.2.2.2.1)
theorem qs_aret {x : Nat} {C : String} (hr : mm.2.2.2 = some (.object C)) (hd : decode mm.2.1 pc = .ok (.areturn, 1)) : qs_VO l E A Sh mm dp qs_rr pc lv [.ref x] D (some (x, D)) := by
  intro X hX p e s m args below meth c H locs ls hc hS hP hD hl
  cases hX
  exact W.aret (v := .ref (E.2.2.1 x)) hc.1 hc.2.1 (hc.2.2.1.trans hr) (Or.inl ⟨C, rfl⟩) (Or.inr ⟨_, rfl⟩) (fun t ht hW => ⟨⟨rfl, by rw [ht]; exact hP, hD⟩, hS.F ht⟩) hS.2.2 hd (hlocks := hc.2.2.2.2.2.2.1)
theorem qs_vret (hr : mm.2.2.2 = none) (hd : decode mm.2.1 pc = .ok (.return_, 1)) : qs_VO l E A Sh mm dp qs_rv pc lv [] D (some ((), D)) := by
  intro X hX p e s m args below meth c H locs ls hc hS hP hD hl
  cases hX
  exact W.vret hc.1 hc.2.1 (hc.2.2.1.trans hr) (fun t ht hW => ⟨⟨rfl, by rw [ht]; exact hP, hD⟩, hS.F ht⟩) hS.2.2 hd (hlocks := hc.2.2.2.2.2.2.1)
/-! the entry, and calls -/
theorem qs_enter {y : MethodName} {av : List Value} {X : ρ × qs_D} (hpn : plainFor y = true) (hown : mm.1 = y.cls) (hsz : (lg_sl (av.map (qs_tr E))).length ≤ mm.2.2.1) (k : qs_VO l E A Sh mm dp rv 0 (lv_args 0 av) [] D T) (hX : T = some X) : qs_Ctr l E A Sh y mm dp rv av D X := by
  refine va_MetF (cc := mm.2.1) (maxL := mm.2.2.1) (ret := mm.2.2.2) hpn rfl ?_
  intro p e s m args below meth c s₁ B hml hv
  obtain ⟨rfl, hBg, hP, hD⟩ := hv
  have hts := atoms_spec (ws := qs_ws y mm) B.pre
  have hl := lv_entry (av.map (qs_tr E)) (n := mm.2.2.1) hsz
  rw [lg_entry_eq]
  rw [qs_args] at hl
  exact k X hX p e s m _ below meth c s.heap [] _ ⟨B.exec, B.bytes, B.returns, hml, by rw [hown]; exact findClass_of_methodNamed B.named, fun w hw => hts w (List.mem_cons_of_mem _ hw), B.notSynchronized, hBg⟩ va_S.rf hP hD hl
theorem qs_after {σ : Type} {p : Program} {e : Env} {R : Room} {s : State} {m : MethodId} {args : Array Value} {below : List Frame} {meth : Method} {c : Code} {H : Heap} {locs : List Loc} {Q : State → Prop} {ls : Array Slot} {rest st0 : List Value} {a : Array Value} {rj : σ → Option Value} {Y : σ × qs_D} (hr : va_Run p l e R s m args below meth c H locs 0 0 0 0 (F0 m pc ls st0) rest (qs_Q E A Sh rj Y a) A) (hS : va_S A s.heap H locs)
    (kk : ∀ (H1 : Heap) (locs1 : List Loc), va_S A s.heap H1 locs1 → va_P E.1 vwCl (qs_ren E Sh Y.2) H1 → va_D A (qs_ren E Sh Y.2) → W p l e R s m args below meth c H1 locs1 0 0 Q (F0 m (pc + 3) ls (((rj Y.1).map (qs_tr E)).toList ++ rest))) : W p l e R s m args below meth c H locs 0 0 Q (F0 m pc ls st0) := by
  intro T hT X
  obtain ⟨v, st₀, t, T', L, h0, X', hL, e1, e2, ⟨⟨hv, hp, hd⟩, hz, hk⟩, st⟩ := hr T hT X
  cases hv
  rw [h0] at hz hk
  obtain ⟨t2, a1, b1⟩ := kk T'.heap (locs ++ L)
    ⟨Nat.le_trans hS.1 (by rw [e1]; exact hz), fun q h1 h2 => by rw [e1, hk q (Nat.lt_of_lt_of_le h1 hS.1) h2]; exact hS.2.1 q h1 h2, fun q hq => by
      rcases List.mem_append.mp hq with h | h
      · exact hS.2.2 q h
      · exact hL q h⟩ (by rw [e1]; exact hp) hd T' rfl X'
  exact ⟨t2, st t2 a1, b1⟩
theorem qs_blind {av : List Value} : FrameBlind (va_Pc av (qs_W E A Sh D)) := fun a U g mk q => ⟨q.1, q.2.1.blind, q.2.2⟩
theorem qs_callG {σ : Type} {y : MethodName} {mj : qs_M} {dj n idx i : Nat} {rj : σ → Option Value} {As stk : List Value} {T0 : Option (σ × qs_D)} {F : σ → qs_D → Option (ρ × qs_D)} (hf : qs_CF mm.1 idx y mj n false) (hdp : dj + 1 ≤ dp) (hrec : ∀ (s : State) (H : Heap) (locs : List Loc), qs_Bg E A s → va_S A s.heap H locs → va_P E.1 vwCl (qs_ren E Sh D) H → ∃ cell : Cell, H[E.2.2.1 i]? = some cell ∧ cell.vm.isStatics = false ∧ s.vm.findClass y.cls = some cell.cls) (hM : ∀ Y, T0 = some Y → qs_Ctr l E A Sh y mj dj rj (.ref i :: As) D Y) (hn : As.length = n) (hw : (st.map fun v => v.category).sum ≤ 8) (hd : decode mm.2.1 pc = .ok (.invokevirtual idx, 3)) (hst : stk = As.reverse ++ .ref i :: st)
    (k : ∀ (r : σ) (D1 : qs_D), T0 = some (r, D1) → qs_VO l E A Sh mm dp rv (pc + 3) lv ((rj r).toList ++ st) D1 (F r D1)) : qs_VO l E A Sh mm dp rv pc lv stk D (qs_bind T0 F) := by
  cases hT0 : T0 with
  | none => exact qs_none
  | some Y =>
    obtain ⟨r, D1⟩ := Y
    intro X hX p e s m args below meth c H locs ls hc hS hP hD hl
    obtain ⟨g1, g2, g3, g4, g5, g6⟩ := hf
    obtain ⟨g6, g7⟩ : Cond.instanceMethod y ∈ qs_gT ∧ Cond.selects y.cls y y ∈ qs_gT := g6
    have hts := hc.2.2.2.2.2.1
    have hM' := hM _ hT0
    have hstack : stk.map (qs_tr E) = (As.map (qs_tr E)).reverse ++ Value.ref (E.2.2.1 i) :: st.map (qs_tr E) := by rw [hst, List.map_append, List.map_reverse]; rfl
    have hpre : PreV s H y.cls (E.2.2.1 i) (va_Pc ((Value.ref i :: As).map (qs_tr E)) (qs_W E A Sh D)) (As.map (qs_tr E)) := ⟨qs_blind, hrec s H locs hc.2.2.2.2.2.2.2 hS hP, fun U hU hW => ⟨rfl, hc.2.2.2.2.2.2.2.go hS hU hW, by rw [hU]; exact hP, hD⟩⟩
    have hroom : (qs_rm dj).frames + 1 ≤ (qs_rm dp).frames ∧ 8 + (mj.2.2.1 + 11) + (qs_rm dj).locals ≤ (qs_rm dp).locals := ⟨hdp, by show 8 + (mj.2.2.1 + 11) + 39 * dj ≤ 39 * dp; omega⟩
    have hrun : va_Run p l e (qs_rm dp) s m args below meth c H locs 0 0 0 0 (F0 m pc ls (stk.map (qs_tr E))) (st.map (qs_tr E)) (qs_Q E A Sh rj (r, D1) (Value.ref (E.2.2.1 i) :: As.map (qs_tr E)).toArray) A := by
      rcases g5 with g5 | ⟨host, g5⟩
      · exact va_runV (As := As.map (qs_tr E)) ⟨hc.1, hc.2.1, hc.2.2.2.1, hc.2.2.2.2.1, hts⟩ hM' ⟨callB_of n hts (qs_good g1) rfl rfl rfl (hts _ g2) (hts _ g5) g4 hroom, hts _ g6, hts _ g7⟩ hpre rfl (by rw [List.length_map]; exact hn) hl.1 hstack (lv_room (by rw [qs_sum]; exact hw)) hd ⟨Nat.le_refl _, Nat.le_refl _⟩
      · exact va_runVN (As := As.map (qs_tr E)) ⟨hc.1, hc.2.1, hc.2.2.2.1, hc.2.2.2.2.1, hts⟩ hM' ⟨va_cnB n hts (qs_good g1) rfl rfl rfl (hc.2.2.2.2.2.2.2.2.1 _ g5) (hts _ g2) g4 hroom, hts _ g6, hts _ g7⟩ hpre rfl (by rw [List.length_map]; exact hn) hl.1 hstack (lv_room (by rw [qs_sum]; exact hw)) hd ⟨Nat.le_refl _, Nat.le_refl _⟩
    refine qs_after hrun hS (fun H1 locs1 hS1 hP1 hD1 => ?_)
    have hk := k r D1 hT0 X hX p e s m args below meth c H1 locs1 ls hc hS1 hP1 hD1 hl
    have hee : ((rj r).toList ++ st).map (qs_tr E) = ((rj r).map (qs_tr E)).toList ++ st.map (qs_tr E) := by cases rj r <;> simp
    rw [hee] at hk
    exact hk
theorem qs_callV {σ : Type} {y : MethodName} {mj : qs_M} {dj n idx i ci : Nat} {rj : σ → Option Value} {As stk : List Value} {T0 : Option (σ × qs_D)} {F : σ → qs_D → Option (ρ × qs_D)} {tm : List (Option (Option Nat))} {Tt : u_T} {N : Nat} (hf : qs_CF mm.1 idx y mj n false) (hdp : dj + 1 ≤ dp) (he : Sh[i]? = some (.inl (ci, tm))) (hci : vwCl[ci]? = some (y.cls, Tt, N)) (hM : ∀ Y, T0 = some Y → qs_Ctr l E A Sh y mj dj rj (.ref i :: As) D Y) (hn : As.length = n) (hw : (st.map fun v => v.category).sum ≤ 8) (hd : decode mm.2.1 pc = .ok (.invokevirtual idx, 3)) (hst : stk = As.reverse ++ .ref i :: st)
    (k : ∀ (r : σ) (D1 : qs_D), T0 = some (r, D1) → qs_VO l E A Sh mm dp rv (pc + 3) lv ((rj r).toList ++ st) D1 (F r D1)) : qs_VO l E A Sh mm dp rv pc lv stk D (qs_bind T0 F) := qs_callG hf hdp (fun s H locs hB hS hP => va_recv hB.1 hP hci (qs_ren_at he)) hM hn hw hd hst k
theorem qs_callS {σ : Type} {y : MethodName} {mj : qs_M} {dj n idx : Nat} {rj : σ → Option Value} {As stk : List Value} {T0 : Option (σ × qs_D)} {F : σ → qs_D → Option (ρ × qs_D)} (hf : qs_CF mm.1 idx y mj n true) (hdp : dj + 1 ≤ dp) (hM : ∀ Y, T0 = some Y → qs_Ctr l E A Sh y mj dj rj As D Y) (hn : As.length = n) (hw : (st.map fun v => v.category).sum ≤ 8) (hd : decode mm.2.1 pc = .ok (.invokestatic idx, 3)) (hst : stk = As.reverse ++ st)
    (k : ∀ (r : σ) (D1 : qs_D), T0 = some (r, D1) → qs_VO l E A Sh mm dp rv (pc + 3) lv ((rj r).toList ++ st) D1 (F r D1)) : qs_VO l E A Sh mm dp rv pc lv stk D (qs_bind T0 F) := by
  cases hT0 : T0 with
  | none => exact qs_none
  | some Y =>
    obtain ⟨r, D1⟩ := Y
    intro X hX p e s m args below meth c H locs ls hc hS hP hD hl
    obtain ⟨g1, g2, g3, g4, g5, g6⟩ := hf
    have g6 : Cond.static y ∈ qs_gT := g6
    have hts := hc.2.2.2.2.2.1
    have hM' := hM _ hT0
    have hstack : stk.map (qs_tr E) = (As.map (qs_tr E)).reverse ++ st.map (qs_tr E) := by rw [hst, List.map_append, List.map_reverse]
    have hpre : PreS s H (va_Pc (As.map (qs_tr E)) (qs_W E A Sh D)) (As.map (qs_tr E)) := ⟨qs_blind, fun U hU hW => ⟨rfl, hc.2.2.2.2.2.2.2.go hS hU hW, by rw [hU]; exact hP, hD⟩⟩
    have hroom : (qs_rm dj).frames + 1 ≤ (qs_rm dp).frames ∧ 8 + (mj.2.2.1 + 11) + (qs_rm dj).locals ≤ (qs_rm dp).locals := ⟨hdp, by show 8 + (mj.2.2.1 + 11) + 39 * dj ≤ 39 * dp; omega⟩
    have hrun : va_Run p l e (qs_rm dp) s m args below meth c H locs 0 0 0 0 (F0 m pc ls (stk.map (qs_tr E))) (st.map (qs_tr E)) (qs_Q E A Sh rj (r, D1) (As.map (qs_tr E)).toArray) A := by
      rcases g5 with g5 | ⟨host, g5⟩
      · exact va_runS (As := As.map (qs_tr E)) ⟨hc.1, hc.2.1, hc.2.2.2.1, hc.2.2.2.2.1, hts⟩ hM' ⟨callB_of n hts (qs_good g1) rfl rfl rfl (hts _ g2) (hts _ g5) g4 hroom, hts _ g6⟩ hpre rfl (by rw [List.length_map]; exact hn) hl.1 hstack (lv_room (by rw [qs_sum]; exact hw)) hd ⟨Nat.le_refl _, Nat.le_refl _⟩
      · exact va_runSN (As := As.map (qs_tr E)) ⟨hc.1, hc.2.1, hc.2.2.2.1, hc.2.2.2.2.1, hts⟩ hM' ⟨va_cnB n hts (qs_good g1) rfl rfl rfl (hc.2.2.2.2.2.2.2.2.1 _ g5) (hts _ g2) g4 hroom, hts _ g6, trivial⟩ hpre rfl (by rw [List.length_map]; exact hn) hl.1 hstack (lv_room (by rw [qs_sum]; exact hw)) hd ⟨Nat.le_refl _, Nat.le_refl _⟩
    refine qs_after hrun hS (fun H1 locs1 hS1 hP1 hD1 => ?_)
    have hk := k r D1 hT0 X hX p e s m args below meth c H1 locs1 ls hc hS1 hP1 hD1 hl
    have hee : ((rj r).toList ++ st).map (qs_tr E) = ((rj r).map (qs_tr E)).toList ++ st.map (qs_tr E) := by cases rj r <;> simp
    rw [hee] at hk
    exact hk
theorem qs_i2c {pc1 : Nat} {x : Int32} (hd : decode mm.2.1 pc = .ok (.i2c, 1)) (hp : pc + 1 = pc1) (k : qs_VO l E A Sh mm dp rv pc1 lv (.int ((x.toUInt32 % 65536).toInt32) :: st) D T) : qs_VO l E A Sh mm dp rv pc lv (.int x :: st) D T := by
  subst hp
  exact fun X hX p e s m args below meth c H locs ls hc hS hP hD hl => lv_i2c hc.1 hc.2.1 hd rfl (k X hX p e s m args below meth c H locs ls hc hS hP hD hl)
theorem qs_nret {x : Int32} {ty : FieldType} (hn : narrow ty (.int x) = .int x) (hr : mm.2.2.2 = some ty) (hd : decode mm.2.1 pc = .ok (.ireturn, 1)) : qs_VO l E A Sh mm dp qs_ri pc lv [.int x] D (some (x, D)) := by
  intro X hX p e s m args below meth c H locs ls hc hS hP hD hl
  cases hX
  exact W.zret hc.1 hc.2.1 (hc.2.2.1.trans hr) hn (fun t ht hW => ⟨⟨rfl, by rw [ht]; exact hP, hD⟩, hS.F ht⟩) hS.2.2 hd (hlocks := hc.2.2.2.2.2.2.1)
theorem qs_sval {k0 idx pc1 : Nat} (hk : k0 < 14) (hw : Cond.fieldLink mm.1 idx "java/lang/String" "value" "[B" ∈ qs_gT) (hd : decode mm.2.1 pc = .ok (.getfield idx, 3)) (hp : pc + 3 = pc1) (k : qs_VO l E A Sh mm dp rv pc1 lv (.ref (3000 + k0) :: st) D T) : qs_VO l E A Sh mm dp rv pc lv (.ref (1000 + k0) :: st) D T := by
  subst hp
  exact fun X hX p e s m args below meth c H locs ls hc hS hP hD hl => vk_getf hc.1 hc.2.1 (hc.2.2.2.2.2.2.2.2.2.2.2.1.1 k0 hk).2.2.1 hS hc.2.2.2.2.1 (hc.2.2.2.2.2.1 _ hw) (fun x h => h) hd (k X hX p e s m args below meth c H locs ls hc hS hP hD hl)
theorem qs_scod {k0 idx pc1 : Nat} (hk : k0 < 14) (hw : Cond.fieldLink mm.1 idx "java/lang/String" "coder" "B" ∈ qs_gT) (hd : decode mm.2.1 pc = .ok (.getfield idx, 3)) (hp : pc + 3 = pc1) (k : qs_VO l E A Sh mm dp rv pc1 lv (.int 0 :: st) D T) : qs_VO l E A Sh mm dp rv pc lv (.ref (1000 + k0) :: st) D T := by
  subst hp
  exact fun X hX p e s m args below meth c H locs ls hc hS hP hD hl => vk_getf hc.1 hc.2.1 (hc.2.2.2.2.2.2.2.2.2.2.2.1.1 k0 hk).2.1 hS hc.2.2.2.2.1 (hc.2.2.2.2.2.1 _ hw) (fun x h => h) hd (k X hX p e s m args below meth c H locs ls hc hS hP hD hl)
theorem qs_gcomp {idx pc1 : Nat} (hw : Cond.fieldLink mm.1 idx "java/lang/String" "COMPACT_STRINGS" "Z" ∈ qs_gT) (hd : decode mm.2.1 pc = .ok (.getstatic idx, 3)) (hp : pc + 3 = pc1) (k : qs_VO l E A Sh mm dp rv pc1 lv (.int 1 :: st) D T) : qs_VO l E A Sh mm dp rv pc lv st D T := by
  subst hp
  exact fun X hX p e s m args below meth c H locs ls hc hS hP hD hl => va_gets hc.1 hc.2.1 hc.2.2.2.2.2.2.2.2.2.2.2.2.1 hS hc.2.2.2.2.1 (hc.2.2.2.2.2.1 _ hw) (fun x h => h) hd (k X hX p e s m args below meth c H locs ls hc hS hP hD hl)
theorem qs_gfmt {idx pc1 : Nat} (hw : Cond.fieldLink mm.1 idx "jdk/internal/util/Preconditions" "SIOOBE_FORMATTER" "Ljava/util/function/BiFunction;" ∈ qs_gT) (hd : decode mm.2.1 pc = .ok (.getstatic idx, 3)) (hp : pc + 3 = pc1) (k : ∀ v : Value, v = .null ∨ v = .ref 4000 → qs_VO l E A Sh mm dp rv pc1 lv (v :: st) D T) : qs_VO l E A Sh mm dp rv pc lv st D T := by
  subst hp
  intro X hX p e s m args below meth c H locs ls hc hS hP hD hl
  rcases hc.2.2.2.2.2.2.2.2.2.2.2.2.2 with h | h
  · exact va_gets hc.1 hc.2.1 h hS hc.2.2.2.2.1 (hc.2.2.2.2.2.1 _ hw) (fun x h => h) hd (k .null (Or.inl rfl) X hX p e s m args below meth c H locs ls hc hS hP hD hl)
  · exact va_gets hc.1 hc.2.1 h hS hc.2.2.2.2.1 (hc.2.2.2.2.2.1 _ hw) (fun x h => h) hd (k (.ref 4000) (Or.inr rfl) X hX p e s m args below meth c H locs ls hc hS hP hD hl)
theorem qs_tblen {k0 pc1 : Nat} (hk : k0 < 14) (hd : decode mm.2.1 pc = .ok (.arraylength, 1)) (hp : pc + 1 = pc1) (k : qs_VO l E A Sh mm dp rv pc1 lv (.int (Int32.ofNat (qs_slen.getD k0 0)) :: st) D T) : qs_VO l E A Sh mm dp rv pc lv (.ref (3000 + k0) :: st) D T := by
  subst hp
  exact fun X hX p e s m args below meth c H locs ls hc hS hP hD hl => va_tlen hc.1 hc.2.1 (hc.2.2.2.2.2.2.2.2.2.2.2.1.1 k0 hk).2.2.2 hS rfl hd (k X hX p e s m args below meth c H locs ls hc hS hP hD hl)
theorem qs_tbald {k0 pc1 : Nat} {j : Int32} (hk : k0 < 14) (hj : 0 ≤ j ∧ j < Int32.ofNat (qs_slen.getD k0 0)) (hn : qs_slen.getD k0 0 < 2 ^ 31) (hd : decode mm.2.1 pc = .ok (.baload, 1)) (hp : pc + 1 = pc1) (k : qs_VO l E A Sh mm dp rv pc1 lv (.int ((qs_sbyt.getD k0 []).getD j.toNatClampNeg 0) :: st) D T) : qs_VO l E A Sh mm dp rv pc lv (.int j :: .ref (3000 + k0) :: st) D T := by
  subst hp
  exact fun X hX p e s m args below meth c H locs ls hc hS hP hD hl => va_tb hc.1 hc.2.1 (hc.2.2.2.2.2.2.2.2.2.2.2.1.1 k0 hk).2.2.2 hS (qs_in hn hj) rfl hd (k X hX p e s m args below meth c H locs ls hc hS hP hD hl)

end QS
