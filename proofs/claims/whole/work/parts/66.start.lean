/-! THE CLAIM OUT OF ONE WALK OF THE LAW'S BODY. Your part is whole_start (and what it stands on); all else here is the same for every law, but numbers. -/
def R_law : String := "QuarrelSauceLaw"
def lw_P (b : Addr) (xs : List Int32) (args : Array Value) (s : State) : Prop := args = #[.ref b] ∧ s.IntsAt b xs ∧ xs.length ≤ 3072 ∧ (Jvm.Cond.and given_1 narrow_1).before args s = true
def lw_Q (_ : Array Value) (s : State) (o : Outcome) (t : State) : Prop := o = .returned (some (.int 1)) ∧ Framed s o t [] 600000 7302249
def lw_Z (below : List Frame) (a : Array Value) (s : State) : State → Prop := fun t => ∃ o, t.status = .running ∧ Ended t below o ∧ lw_Q a s o t
/-- the law's own end, with 1 on the stack, nothing written that was there before, its room as the claim has it -/
theorem lw_ret {p : Program} {l : Launch} {e : Env} {s : State} {m : MethodId} {below : List Frame} {meth : Method} {c : Code} {b : Nat} (hx : p.tables.exec = Jvm.exec) (hb : c.code = code) (hr : meth.sig.returnType = ret) (hlocks : meth.locks = false) {pc : Nat} {H : Heap} {ls : Array Slot} (hdg : decode code pc = .ok (.ireturn, 1)) : W p l e room_1 s m #[Value.ref b] below meth c H [] 600000 7302249 (lw_Z below #[Value.ref b] s) (F0 m pc ls [.int 1]) := by
  intro T hT X
  obtain ⟨fs, hret, hrun, hended, hW, hframe⟩ := X.leave (v := some (.int 1)) (hlocks := hlocks) (fun h => by rw [hr] at h; cases h)
  have hmeth' : T.vm.method? m = some meth := X.method'
  refine ⟨T.setFrames fs, ?_, .returned (some (.int 1)), hrun, hended, rfl, ⟨_, rfl⟩, hW, hframe⟩
  jvm_step X.here [X.here.top, hx, hb, hdg, hmeth', hr, ret, narrow_b1]
  (try refine ⟨rfl, ?_⟩); (try refine ⟨rfl, ?_⟩)
  first | (intro acts; rw [hret _ acts rfl rfl rfl]) | rw [hret _ _ rfl rfl rfl]
  exact Steps.refl _
/-- what holds at the law's entry: the machine, the code, the tables' words (any of lw_tbl by 'hts w (by decide +kernel)'), the script of L ints xs at the cell b, what the Statement gives of the start (any of its parts by flat_of_before) -/
def lw_At (p : Program) (s : State) (m : MethodId) (meth : Method) (c : Code) (b L : Nat) (xs : Nat → Int32) : Prop :=
  p.tables.exec = Jvm.exec ∧ c.code = code ∧ meth.sig.returnType = ret ∧ c.maxLocals = 4 ∧ s.vm.findClass R_law = some m.cls ∧ (∀ w ∈ lw_tbl, w.before #[Value.ref b] s = true) ∧ va_X b L xs s s.heap ∧ b < s.heap.size ∧ meth.locks = false ∧ (Jvm.Cond.and given_1 narrow_1).before #[Value.ref b] s = true

/-! what the Statement gives of the start -/
def fl_1 : List Jvm.Cond := flatC (Jvm.Cond.and given_1 narrow_1)
theorem ft_0 : fl_1[5]? = some (Cond.arrayOf (.static "QuarrelSauce" "DEED_CHANGES" "[I") .int) ∧ fl_1[6]? = some (Cond.eq (.length (.static "QuarrelSauce" "DEED_CHANGES" "[I")) (.int (Int32.ofNat 12))) := by decide +kernel
theorem fe_0 : ∀ j, j < 12 → fl_1[7 + j]? = some (Cond.eq (.elem (.static "QuarrelSauce" "DEED_CHANGES" "[I") (.int (Int32.ofNat j))) (.int ((qs_tab 0).getD j 0))) := by decide +kernel
theorem ft_1 : fl_1[25]? = some (Cond.arrayOf (.static "QuarrelSauce" "ABOVE" "[I") .int) ∧ fl_1[26]? = some (Cond.eq (.length (.static "QuarrelSauce" "ABOVE" "[I")) (.int (Int32.ofNat 7))) := by decide +kernel
theorem fe_1 : ∀ j, j < 7 → fl_1[27 + j]? = some (Cond.eq (.elem (.static "QuarrelSauce" "ABOVE" "[I") (.int (Int32.ofNat j))) (.int ((qs_tab 1).getD j 0))) := by decide +kernel
theorem ft_2 : fl_1[35]? = some (Cond.arrayOf (.static "QuarrelSauceModel" "CHANGES" "[I") .int) ∧ fl_1[36]? = some (Cond.eq (.length (.static "QuarrelSauceModel" "CHANGES" "[I")) (.int (Int32.ofNat 12))) := by decide +kernel
theorem fe_2 : ∀ j, j < 12 → fl_1[37 + j]? = some (Cond.eq (.elem (.static "QuarrelSauceModel" "CHANGES" "[I") (.int (Int32.ofNat j))) (.int ((qs_tab 2).getD j 0))) := by decide +kernel
theorem ft_3 : fl_1[50]? = some (Cond.arrayOf (.static "QuarrelSauceModel" "NAMES" "[I") .int) ∧ fl_1[51]? = some (Cond.eq (.length (.static "QuarrelSauceModel" "NAMES" "[I")) (.int (Int32.ofNat 98))) := by decide +kernel
theorem fe_3 : ∀ j, j < 98 → fl_1[52 + j]? = some (Cond.eq (.elem (.static "QuarrelSauceModel" "NAMES" "[I") (.int (Int32.ofNat j))) (.int ((qs_tab 3).getD j 0))) := by decide +kernel
def sx (i : Nat) : Nat := ([101, 103, 105, 107, 109, 111, 113, 73, 79, 83, 87, 52, 61, 69] : List Nat).getD i 0
def sp (i : Nat) : Nat := ([162, 171, 181, 192, 204, 216, 230, 247, 263, 279, 295, 314, 333, 355] : List Nat).getD i 0
theorem fs_1 : ∀ i, i < 14 → fl_1[sp i]? = some (Cond.exactly (.string RX3 (sx i)) "java/lang/String") ∧ fl_1[sp i + 1]? = some (Cond.eq (.field (.string RX3 (sx i)) "java/lang/String" "coder" "B") (.int 0)) ∧ fl_1[sp i + 2]? = some (Cond.arrayOf (.field (.string RX3 (sx i)) "java/lang/String" "value" "[B") .byte) ∧ fl_1[sp i + 3]? = some (Cond.eq (.length (.field (.string RX3 (sx i)) "java/lang/String" "value" "[B")) (.int (Int32.ofNat (qs_slen.getD i 0)))) := by decide +kernel
theorem fs_2 : ∀ i, i < 14 → ∀ j, j < qs_slen.getD i 0 → fl_1[sp i + 4 + j]? = some (Cond.eq (.elem (.field (.string RX3 (sx i)) "java/lang/String" "value" "[B") (.int (Int32.ofNat j))) (.int ((qs_sbyt.getD i []).getD j 0))) := by decide +kernel
theorem fs_3 : ∀ i, i < 14 → ∀ j, j < i → fl_1[sp i + 4 + qs_slen.getD i 0 + j]? = some (Cond.not (Cond.eq (.string RX3 (sx j)) (.string RX3 (sx i)))) := by decide +kernel
theorem fz_1 : fl_1[19]? = some (Cond.eq (.static "java/lang/String" "COMPACT_STRINGS" "Z") (.int 1)) ∧ fl_1[20]? = some (Cond.isRef (.static "jdk/internal/util/Preconditions" "SIOOBE_FORMATTER" "Ljava/util/function/BiFunction;")) := by decide +kernel
theorem slen_ok : ∀ i, i < 14 → qs_slen.getD i 0 < 2 ^ 31 := by decide
set_option maxHeartbeats 4000000 in
theorem lw_bg {s : State} {b : Nat} (hts : ∀ w ∈ lw_tbl, w.before #[Value.ref b] s = true) (hgv : (Jvm.Cond.and given_1 narrow_1).before #[Value.ref b] s = true) : ∃ E : qs_E, qs_Bg E (fun q => s.heap.size ≤ q) s := by
  have hf := flat_of_before _ hgv
  have hF : ∀ (i : Nat) (c : Jvm.Cond), fl_1[i]? = some c → c.before #[Value.ref b] s = true := fun i c h => hf c (List.mem_of_getElem? h)
  have hA : ∀ a : Nat, a < s.heap.size → ¬ (fun q : Nat => s.heap.size ≤ q) a := fun a h => Nat.not_le.mpr h
  obtain ⟨c0, i0, k0⟩ := u_known (C := RX0) (T := TX0) (N := 6) (n := 6) hts (fun w hw => (List.mem_filter.mp (clX0.2.1 w hw)).1) (hts _ (List.mem_of_getElem? (i := 126) (by decide +kernel)))
  obtain ⟨c1, i1, k1⟩ := u_known (C := RX1) (T := TX1) (N := 9) (n := 9) hts (fun w hw => (List.mem_filter.mp (clX1.2.1 w hw)).1) (hts _ (List.mem_of_getElem? (i := 116) (by decide +kernel)))
  obtain ⟨c2, i2, k2⟩ := u_known (C := RX2) (T := TX2) (N := 3) (n := 3) hts (fun w hw => (List.mem_filter.mp (clX2.2.1 w hw)).1) (hts _ (List.mem_of_getElem? (i := 232) (by decide +kernel)))
  obtain ⟨c3, i3, k3⟩ := u_known (C := RX3) (T := TX3) (N := 5) (n := 5) hts (fun w hw => (List.mem_filter.mp (clX3.2.1 w hw)).1) (hts _ (List.mem_of_getElem? (i := 207) (by decide +kernel)))
  obtain ⟨c4, i4, k4⟩ := u_known (C := RX4) (T := TX4) (N := 7) (n := 7) hts (fun w hw => (List.mem_filter.mp (clX4.2.1 w hw)).1) (hts _ (List.mem_of_getElem? (i := 108) (by decide +kernel)))
  obtain ⟨c5, i5, k5⟩ := u_known (C := RX5) (T := TX5) (N := 15) (n := 15) hts (fun w hw => (List.mem_filter.mp (clX5.2.1 w hw)).1) (hts _ (List.mem_of_getElem? (i := 773) (by decide +kernel)))
  obtain ⟨dC, dI, hKc⟩ : ∃ (dC : Nat → ClassId) (dI : Nat → Nat → Nat), ∀ (k : Nat) (q : vw_C), vwCl[k]? = some q → u_Kn s q.1 q.2.1 q.2.2 (dC k) (dI k) := by
    refine ⟨fun k => if k = 0 then c0 else if k = 1 then c1 else if k = 2 then c2 else if k = 3 then c3 else if k = 4 then c4 else c5, fun k => if k = 0 then i0 else if k = 1 then i1 else if k = 2 then i2 else if k = 3 then i3 else if k = 4 then i4 else i5, ?_⟩
    intro k q hq
    match k, hq with
    | 0, hq => cases hq; exact k0
    | 1, hq => cases hq; exact k1
    | 2, hq => cases hq; exact k2
    | 3, hq => cases hq; exact k3
    | 4, hq => cases hq; exact k4
    | 5, hq => cases hq; exact k5
    | k + 6, hq => simp [vwCl] at hq
  obtain ⟨a0, b0, d0, e0, f0, g0⟩ := Cond.arrayClass_spec (type := .int) (args := #[Value.ref b]) (first := s) (s := s) (o := none) (idx := []) (hts (Cond.arrayClass .int) (List.mem_of_getElem? (i := 164) (by decide +kernel)))
  obtain ⟨a1, b1, d1, e1, f1, g1⟩ := Cond.arrayClass_spec (type := .byte) (args := #[Value.ref b]) (first := s) (s := s) (o := none) (idx := []) (hts (Cond.arrayClass .byte) (List.mem_of_getElem? (i := 229) (by decide +kernel)))
  obtain ⟨d2, a2, b2, j2, -, e2, f2, g2⟩ := Cond.arrayOver_spec (n := RX0) (args := #[Value.ref b]) (first := s) (s := s) (o := none) (idx := []) (hts (Cond.arrayOver (.object RX0)) (List.mem_of_getElem? (i := 122) (by decide +kernel)))
  obtain ⟨d3, a3, b3, j3, -, e3, f3, g3⟩ := Cond.arrayOver_spec (n := RX2) (args := #[Value.ref b]) (first := s) (s := s) (o := none) (idx := []) (hts (Cond.arrayOver (.object RX2)) (List.mem_of_getElem? (i := 231) (by decide +kernel)))
  obtain ⟨t0, v0, w0⟩ := va_Tof (tm := .static "QuarrelSauce" "DEED_CHANGES" "[I") (ty := .int) (N := 12) (f := fun j => .int ((qs_tab 0).getD j 0)) (by decide) (hF _ _ ft_0.1) (va_eqt (hF _ _ ft_0.2)) (fun j hj => va_eqt (hF _ _ (fe_0 j hj))) hA
  have z0 := va_Zof (C := "QuarrelSauce") (n := "DEED_CHANGES") (d := "[I") (hts _ (List.mem_of_getElem? (i := 395) (by decide +kernel))) (hts _ (List.mem_of_getElem? (i := 93) (by decide +kernel))) v0 hA
  obtain ⟨t1, v1, w1⟩ := va_Tof (tm := .static "QuarrelSauce" "ABOVE" "[I") (ty := .int) (N := 7) (f := fun j => .int ((qs_tab 1).getD j 0)) (by decide) (hF _ _ ft_1.1) (va_eqt (hF _ _ ft_1.2)) (fun j hj => va_eqt (hF _ _ (fe_1 j hj))) hA
  have z1 := va_Zof (C := "QuarrelSauce") (n := "ABOVE") (d := "[I") (hts _ (List.mem_of_getElem? (i := 707) (by decide +kernel))) (hts _ (List.mem_of_getElem? (i := 93) (by decide +kernel))) v1 hA
  obtain ⟨t2, v2, w2⟩ := va_Tof (tm := .static "QuarrelSauceModel" "CHANGES" "[I") (ty := .int) (N := 12) (f := fun j => .int ((qs_tab 2).getD j 0)) (by decide) (hF _ _ ft_2.1) (va_eqt (hF _ _ ft_2.2)) (fun j hj => va_eqt (hF _ _ (fe_2 j hj))) hA
  have z2 := va_Zof (C := "QuarrelSauceModel") (n := "CHANGES") (d := "[I") (hts _ (List.mem_of_getElem? (i := 929) (by decide +kernel))) (hts _ (List.mem_of_getElem? (i := 99) (by decide +kernel))) v2 hA
  obtain ⟨t3, v3, w3⟩ := va_Tof (tm := .static "QuarrelSauceModel" "NAMES" "[I") (ty := .int) (N := 98) (f := fun j => .int ((qs_tab 3).getD j 0)) (by decide) (hF _ _ ft_3.1) (va_eqt (hF _ _ ft_3.2)) (fun j hj => va_eqt (hF _ _ (fe_3 j hj))) hA
  have z3 := va_Zof (C := "QuarrelSauceModel") (n := "NAMES") (d := "[I") (hts _ (List.mem_of_getElem? (i := 1103) (by decide +kernel))) (hts _ (List.mem_of_getElem? (i := 99) (by decide +kernel))) v3 hA
  obtain ⟨adK, adV, sS, sE⟩ := vk_Sof (N := 14) (tm := fun i => .string RX3 (sx i)) (len := qs_slen) (byt := qs_sbyt) slen_ok (fun i hi => hF _ _ (fs_1 i hi).1) (fun i hi => hF _ _ (fs_1 i hi).2.1) (fun i hi => hF _ _ (fs_1 i hi).2.2.1) (fun i hi => hF _ _ (fs_1 i hi).2.2.2) (fun i hi j hj => hF _ _ (fs_2 i hi j hj)) (fun i j hi hj hij => by
    rcases Nat.lt_or_gt_of_ne hij with q | q
    · exact Or.inl (hF _ _ (fs_3 j hj i q))
    · exact Or.inr (hF _ _ (fs_3 i hi j q))) hA
  have zc := va_Zof (C := "java/lang/String") (n := "COMPACT_STRINGS") (d := "Z") (hts _ (List.mem_of_getElem? (i := 618) (by decide +kernel))) (hts _ (List.mem_of_getElem? (i := 102) (by decide +kernel))) (va_eqt (hF _ _ fz_1.1)) hA
  obtain ⟨vf, y1, y2⟩ := Cond.isRef_spec (args := #[Value.ref b]) (first := s) (s := s) (o := none) (idx := []) (hF _ _ fz_1.2)
  have zf := va_Zof (C := "jdk/internal/util/Preconditions") (n := "SIOOBE_FORMATTER") (d := "Ljava/util/function/BiFunction;") (hts _ (List.mem_of_getElem? (i := 634) (by decide +kernel))) (hts _ (List.mem_of_getElem? (i := 104) (by decide +kernel))) y1 hA
  obtain ⟨fm, hfm⟩ : ∃ fm : Nat, vf = .null ∨ vf = .ref fm := by
    cases vf with
    | null => exact ⟨0, Or.inl rfl⟩
    | ref a => exact ⟨a, Or.inr rfl⟩
    | _ => simp [Value.isRef] at y2
  obtain ⟨cA, hcA⟩ : ∃ cA : Nat → ClassId, cA = fun k => if k = 0 then a0 else if k = 1 then a1 else if k = 2 then a2 else a3 := ⟨_, rfl⟩
  obtain ⟨tb, htb⟩ : ∃ tb : Nat → Nat, tb = fun k => if k = 0 then t0 else if k = 1 then t1 else if k = 2 then t2 else t3 := ⟨_, rfl⟩
  obtain ⟨ad, had⟩ : ∃ ad : Nat → Nat, ad = fun i => if i = 4000 then fm else if 3000 ≤ i then adV (i - 3000) else if 2000 ≤ i then tb (i - 2000) else adK (i - 1000) := ⟨_, rfl⟩
  have ad1 : ∀ k, k < 14 → ad (1000 + k) = adK k := fun k hk => by
    rw [had]
    show (if 1000 + k = 4000 then fm else if 3000 ≤ 1000 + k then adV (1000 + k - 3000) else if 2000 ≤ 1000 + k then tb (1000 + k - 2000) else adK (1000 + k - 1000)) = _
    rw [if_neg (by omega), if_neg (by omega), if_neg (by omega), Nat.add_sub_cancel_left]
  have ad2 : ∀ k, k < 4 → ad (2000 + k) = tb k := fun k hk => by
    rw [had]
    show (if 2000 + k = 4000 then fm else if 3000 ≤ 2000 + k then adV (2000 + k - 3000) else if 2000 ≤ 2000 + k then tb (2000 + k - 2000) else adK (2000 + k - 1000)) = _
    rw [if_neg (by omega), if_neg (by omega), if_pos (by omega), Nat.add_sub_cancel_left]
  have ad3 : ∀ k, k < 14 → ad (3000 + k) = adV k := fun k hk => by
    rw [had]
    show (if 3000 + k = 4000 then fm else if 3000 ≤ 3000 + k then adV (3000 + k - 3000) else if 2000 ≤ 3000 + k then tb (3000 + k - 2000) else adK (3000 + k - 1000)) = _
    rw [if_neg (by omega), if_pos (by omega), Nat.add_sub_cancel_left]
  have ad4 : ad 4000 = fm := by rw [had]; rfl
  refine ⟨((dC, dI), cA, ad, 0), ⟨hKc, ?_⟩, ?_, ?_, ?_, ?_, zc, ?_⟩
  · intro k q hq
    match k, hq with
    | 0, hq =>
      cases hq
      have q0 : cA 0 = a0 := by rw [hcA]; rfl
      show ArrOfT s (cA 0) .int ∧ va_RA s (cA 0) .int
      rw [q0]
      exact ⟨fun N z => ⟨(fun k h => by cases h), b0, f0, d0, g0⟩, e0⟩
    | 1, hq =>
      cases hq
      have q0 : cA 1 = a1 := by rw [hcA]; rfl
      show ArrOfT s (cA 1) .byte ∧ va_RA s (cA 1) .byte
      rw [q0]
      exact ⟨fun N z => ⟨(fun k h => by cases h), b1, f1, d1, g1⟩, e1⟩
    | 2, hq =>
      cases hq
      have q0 : cA 2 = a2 := by rw [hcA]; rfl
      show ArrOfT s (cA 2) (.object RX0) ∧ va_RA s (cA 2) (.object RX0)
      rw [q0]
      exact ⟨fun N z => ⟨(fun k h => by cases h), b2, e2, d2, f2⟩, b2, d2, e2, f2, j2, g2⟩
    | 3, hq =>
      cases hq
      have q0 : cA 3 = a3 := by rw [hcA]; rfl
      show ArrOfT s (cA 3) (.object RX2) ∧ va_RA s (cA 3) (.object RX2)
      rw [q0]
      exact ⟨fun N z => ⟨(fun k h => by cases h), b3, e3, d3, f3⟩, b3, d3, e3, f3, j3, g3⟩
    | k + 4, hq => simp [qs_tys] at hq
  · intro w hw
    have h1 := List.mem_filter.mp hw
    have h2 := hts w h1.1
    have h3 := h1.2
    cases w <;> first | exact va_Nw.of rfl h2 | (simp [qs_isN] at h3; done)
  · intro t x hx
    match t, hx with
    | 0, hx =>
      cases hx
      show va_Z _ _ _ (.ref (ad (2000 + 0))) _ s s.heap ∧ va_T _ (ad (2000 + 0)) _ _ _ s s.heap
      have q0 : tb 0 = t0 := by rw [htb]; rfl
      rw [ad2 0 (by decide), q0]
      exact ⟨z0, w0⟩
    | 1, hx =>
      cases hx
      show va_Z _ _ _ (.ref (ad (2000 + 1))) _ s s.heap ∧ va_T _ (ad (2000 + 1)) _ _ _ s s.heap
      have q0 : tb 1 = t1 := by rw [htb]; rfl
      rw [ad2 1 (by decide), q0]
      exact ⟨z1, w1⟩
    | 2, hx =>
      cases hx
      show va_Z _ _ _ (.ref (ad (2000 + 2))) _ s s.heap ∧ va_T _ (ad (2000 + 2)) _ _ _ s s.heap
      have q0 : tb 2 = t2 := by rw [htb]; rfl
      rw [ad2 2 (by decide), q0]
      exact ⟨z2, w2⟩
    | 3, hx =>
      cases hx
      show va_Z _ _ _ (.ref (ad (2000 + 3))) _ s s.heap ∧ va_T _ (ad (2000 + 3)) _ _ _ s s.heap
      have q0 : tb 3 = t3 := by rw [htb]; rfl
      rw [ad2 3 (by decide), q0]
      exact ⟨z3, w3⟩
    | t + 4, hx => simp [qs_tabs] at hx
  · intro k x hx
    match k, hx with
    | 0, hx =>
      cases hx
      show vk_R RX3 _ _ (ad (1000 + 0)) s
      rw [ad1 0 (by decide)]
      exact vk_R.of (hts _ (List.mem_of_getElem? (i := 604) (by decide +kernel))) (sE 0 (by decide))
    | 1, hx =>
      cases hx
      show vk_R RX3 _ _ (ad (1000 + 1)) s
      rw [ad1 1 (by decide)]
      exact vk_R.of (hts _ (List.mem_of_getElem? (i := 657) (by decide +kernel))) (sE 1 (by decide))
    | 2, hx =>
      cases hx
      show vk_R RX3 _ _ (ad (1000 + 2)) s
      rw [ad1 2 (by decide)]
      exact vk_R.of (hts _ (List.mem_of_getElem? (i := 658) (by decide +kernel))) (sE 2 (by decide))
    | 3, hx =>
      cases hx
      show vk_R RX3 _ _ (ad (1000 + 3)) s
      rw [ad1 3 (by decide)]
      exact vk_R.of (hts _ (List.mem_of_getElem? (i := 659) (by decide +kernel))) (sE 3 (by decide))
    | 4, hx =>
      cases hx
      show vk_R RX3 _ _ (ad (1000 + 4)) s
      rw [ad1 4 (by decide)]
      exact vk_R.of (hts _ (List.mem_of_getElem? (i := 660) (by decide +kernel))) (sE 4 (by decide))
    | 5, hx =>
      cases hx
      show vk_R RX3 _ _ (ad (1000 + 5)) s
      rw [ad1 5 (by decide)]
      exact vk_R.of (hts _ (List.mem_of_getElem? (i := 661) (by decide +kernel))) (sE 5 (by decide))
    | 6, hx =>
      cases hx
      show vk_R RX3 _ _ (ad (1000 + 6)) s
      rw [ad1 6 (by decide)]
      exact vk_R.of (hts _ (List.mem_of_getElem? (i := 662) (by decide +kernel))) (sE 6 (by decide))
    | 7, hx =>
      cases hx
      show vk_R RX3 _ _ (ad (1000 + 7)) s
      rw [ad1 7 (by decide)]
      exact vk_R.of (hts _ (List.mem_of_getElem? (i := 668) (by decide +kernel))) (sE 7 (by decide))
    | 8, hx =>
      cases hx
      show vk_R RX3 _ _ (ad (1000 + 8)) s
      rw [ad1 8 (by decide)]
      exact vk_R.of (hts _ (List.mem_of_getElem? (i := 682) (by decide +kernel))) (sE 8 (by decide))
    | 9, hx =>
      cases hx
      show vk_R RX3 _ _ (ad (1000 + 9)) s
      rw [ad1 9 (by decide)]
      exact vk_R.of (hts _ (List.mem_of_getElem? (i := 683) (by decide +kernel))) (sE 9 (by decide))
    | 10, hx =>
      cases hx
      show vk_R RX3 _ _ (ad (1000 + 10)) s
      rw [ad1 10 (by decide)]
      exact vk_R.of (hts _ (List.mem_of_getElem? (i := 684) (by decide +kernel))) (sE 10 (by decide))
    | 11, hx =>
      cases hx
      show vk_R RX3 _ _ (ad (1000 + 11)) s
      rw [ad1 11 (by decide)]
      exact vk_R.of (hts _ (List.mem_of_getElem? (i := 685) (by decide +kernel))) (sE 11 (by decide))
    | 12, hx =>
      cases hx
      show vk_R RX3 _ _ (ad (1000 + 12)) s
      rw [ad1 12 (by decide)]
      exact vk_R.of (hts _ (List.mem_of_getElem? (i := 690) (by decide +kernel))) (sE 12 (by decide))
    | 13, hx =>
      cases hx
      show vk_R RX3 _ _ (ad (1000 + 13)) s
      rw [ad1 13 (by decide)]
      exact vk_R.of (hts _ (List.mem_of_getElem? (i := 691) (by decide +kernel))) (sE 13 (by decide))
    | k + 14, hx => simp [qs_strs] at hx
  · show vk_S 14 qs_slen qs_sbyt (fun k => ad (1000 + k)) (fun k => ad (3000 + k)) _ s s.heap
    obtain ⟨p1, p2⟩ := sS
    refine ⟨fun i hi => ?_, fun i j hi hj hij => p2 i j hi hj ?_⟩
    · show _
      have := p1 i hi
      rw [← ad1 i hi, ← ad3 i hi] at this
      exact this
    · show adK i = adK j
      rw [← ad1 i hi, ← ad1 j hj]
      exact hij
  · rcases hfm with q | q
    · rw [q] at zf; exact Or.inl zf
    · rw [q] at zf
      right
      show va_Z _ _ _ (.ref (ad 4000)) _ s s.heap
      rw [ad4]
      exact zf
