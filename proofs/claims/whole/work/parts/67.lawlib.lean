/-! THE LAW: two worlds side by side -/
def QL (Ex Em : qs_E) (Ax Am : Nat → Prop) (s : State) (X M : qs_D) (H : Heap) (locs : List Loc) : Prop :=
  va_S (fun q : Nat => s.heap.size ≤ q) s.heap H locs ∧ va_P Ex.1 vwCl (qs_ren Ex shX X) H ∧ va_D Ax (qs_ren Ex shX X) ∧ va_P Em.1 vwCl (qs_ren Em shM M) H ∧ va_D Am (qs_ren Em shM M)
def QC (Ex Em : qs_E) (Ax Am : Nat → Prop) (s : State) : Prop := qs_Bg Ex Ax s ∧ qs_Bg Em Am s ∧ (∀ q : Nat, Ax q → s.heap.size ≤ q) ∧ (∀ q : Nat, Am q → s.heap.size ≤ q) ∧ ∀ q : Nat, Ax q → ¬ Am q
theorem lw_gT {s : State} {args : Array Value} (hts : ∀ w ∈ lw_tbl, w.before args s = true) : ∀ w ∈ qs_gT, w.before args s = true := fun w hw => hts w (List.mem_filter.mp hw).1
theorem lw_call {σ : Type} {p : Program} {l : Launch} {e : Env} {s : State} {m : MethodId} {args : Array Value} {below : List Frame} {meth : Method} {c : Code} {H : Heap} {locs : List Loc} {cells slots pc : Nat} {Q : State → Prop} {ls : Array Slot} {E : qs_E} {A : Nat → Prop} {Sh : List qs_Sh} {D : qs_D} {y : MethodName} {mj : qs_M} {dj n idx ci N : Nat} {Tt : u_T} {tm : List (Option (Option Nat))} {rj : σ → Option Value} {Y : σ × qs_D} {As rest stk : List Value}
    (hx : p.tables.exec = Jvm.exec) (hb : c.code = code) (hml : c.maxLocals = 4) (hown : s.vm.findClass R_law = some m.cls) (hts : ∀ w ∈ lw_tbl, w.before args s = true) (hl : ls.size = 4)
    (hBg : qs_Bg E A s) (hA : ∀ q : Nat, A q → s.heap.size ≤ q) (hS : va_S (fun q : Nat => s.heap.size ≤ q) s.heap H locs) (hP : va_P E.1 vwCl (qs_ren E Sh D) H) (hD : va_D A (qs_ren E Sh D))
    (hf : qs_CF R_law idx y mj n false) (hdp : dj ≤ 10) (he : Sh[0]? = some (.inl (ci, tm))) (hci : vwCl[ci]? = some (y.cls, Tt, N)) (hM : qs_Ctr l E A Sh y mj dj rj (.ref 0 :: As) D Y) (hn : As.length = n) (hAs : As.map (qs_tr E) = As) (hw : (rest.map fun v => v.category).sum ≤ 8) (hd : decode code pc = .ok (.invokevirtual idx, 3)) (hst : stk = As.reverse ++ .ref (E.2.2.1 0) :: rest) (hcells : cells ≤ room_1.cells ∧ slots ≤ room_1.slots)
    (kk : ∀ (H1 : Heap) (locs1 : List Loc), va_S (fun q : Nat => s.heap.size ≤ q) s.heap H1 locs1 → (∀ q : Nat, q < H.size → ¬ A q → H1[q]? = H[q]?) → va_P E.1 vwCl (qs_ren E Sh Y.2) H1 → va_D A (qs_ren E Sh Y.2) → W p l e room_1 s m args below meth c H1 locs1 cells slots Q (F0 m (pc + 3) ls (((rj Y.1).map (qs_tr E)).toList ++ rest))) : W p l e room_1 s m args below meth c H locs cells slots Q (F0 m pc ls stk) := by
  obtain ⟨g1, g2, g3, g4, g5, g6⟩ := hf
  obtain ⟨g6, g7⟩ : Cond.instanceMethod y ∈ qs_gT ∧ Cond.selects y.cls y y ∈ qs_gT := g6
  have ht2 := lw_gT hts
  have hS1 : va_S A s.heap H [] := ⟨hS.1, fun q h1 h2 => hS.2.1 q h1 (Nat.not_le.mpr h1), fun q hq => absurd hq List.not_mem_nil⟩
  have hpre : PreV s H y.cls (E.2.2.1 0) (va_Pc ((Value.ref 0 :: As).map (qs_tr E)) (qs_W E A Sh D)) As := ⟨qs_blind, va_recv hBg.1 hP hci (qs_ren_at he), fun U hU hW => ⟨by show (Value.ref (E.2.2.1 0) :: As).toArray = (Value.ref (E.2.2.1 0) :: As.map (qs_tr E)).toArray; rw [hAs], hBg.go hS1 hU hW, by rw [hU]; exact hP, hD⟩⟩
  have hroom : (qs_rm dj).frames + 1 ≤ room_1.frames ∧ 8 + (mj.2.2.1 + 11) + (qs_rm dj).locals ≤ room_1.locals := ⟨by show dj + 1 ≤ 13; omega, by show 8 + (mj.2.2.1 + 11) + 39 * dj ≤ 472; omega⟩
  have hrun : va_Run p l e room_1 s m args below meth c H locs cells slots 0 0 (F0 m pc ls stk) rest (qs_Q E A Sh rj Y (Value.ref (E.2.2.1 0) :: As).toArray) A := by
    rcases g5 with g5 | ⟨host, g5⟩
    · exact va_runV (As := As) (rest := rest) ⟨hx, hb, hml, hown, ht2⟩ hM ⟨callB_of n ht2 (qs_good g1) rfl rfl rfl (ht2 _ g2) (ht2 _ g5) g4 hroom, ht2 _ g6, ht2 _ g7⟩ hpre rfl hn hl hst (lv_room hw) hd ⟨hcells.1, hcells.2⟩
    · exact va_runVN (As := As) (rest := rest) ⟨hx, hb, hml, hown, ht2⟩ hM ⟨va_cnB n ht2 (qs_good g1) rfl rfl rfl (hBg.2.1 _ g5) (ht2 _ g2) g4 hroom, ht2 _ g6, ht2 _ g7⟩ hpre rfl hn hl hst (lv_room hw) hd ⟨hcells.1, hcells.2⟩
  exact qx_after hrun hS hA kk
/-- what the law holds, and where it goes on -/
def LC (p : Program) (s : State) (m : MethodId) (meth : Method) (c : Code) (b L : Nat) (xs : Nat → Int32) (Ex Em : qs_E) (Ax Am : Nat → Prop) : Prop := lw_At p s m meth c b L xs ∧ QC Ex Em Ax Am s
section LAW
variable {p : Program} {l : Launch} {e : Env} {s : State} {m : MethodId} {below : List Frame} {meth : Method} {c : Code} {b L : Nat} {xs : Nat → Int32} {Ex Em : qs_E} {Ax Am : Nat → Prop} {X M : qs_D} {H : Heap} {locs : List Loc} {ls : Array Slot} {pc i : Nat} {st : List Value} {Q : State → Prop}
abbrev lw_lv (b : Nat) (Ex Em : qs_E) (i : Nat) : List (Nat × Value) := [(3, .int (nI i)), (2, .ref (Em.2.2.1 0)), (1, .ref (Ex.2.2.1 0)), (0, .ref b)]
theorem lw_callX {σ : Type} {y : MethodName} {mj : qs_M} {dj n idx : Nat} {rj : σ → Option Value} {r : σ} {X' : qs_D} {As rest stk : List Value} (hC : LC p s m meth c b L xs Ex Em Ax Am) (hl : lv_has ls 4 (lw_lv b Ex Em i)) (hQ : QL Ex Em Ax Am s X M H locs) (hf : qs_CF R_law idx y mj n false) (hdp : dj ≤ 10) (hy : y.cls = RX4) (hM : qs_Ctr l Ex Ax shX y mj dj rj (.ref 0 :: As) X (r, X')) (hn : As.length = n) (hAs : As.map (qs_tr Ex) = As) (hw : (rest.map fun v => v.category).sum ≤ 8) (hd : decode code pc = .ok (.invokevirtual idx, 3)) (hst : stk = As.reverse ++ .ref (Ex.2.2.1 0) :: rest)
    (kk : ∀ (H1 : Heap) (locs1 : List Loc), QL Ex Em Ax Am s X' M H1 locs1 → W p l e room_1 s m #[Value.ref b] below meth c H1 locs1 58 1078 Q (F0 m (pc + 3) ls (((rj r).map (qs_tr Ex)).toList ++ rest))) : W p l e room_1 s m #[Value.ref b] below meth c H locs 58 1078 Q (F0 m pc ls stk) := by
  obtain ⟨⟨hx, hb, hr, hml, hown, hts, hX, hbl, hlocks, hgv⟩, q1, q2, q3, q4, q5⟩ := hC
  obtain ⟨s1, s2, s3, s4, s5⟩ := hQ
  exact lw_call hx hb hml hown hts hl.1 q1 q3 s1 s2 s3 hf hdp (he := (rfl : shX[0]? = some (.inl (4, [some (some 1), some (some 13), some (some 25), some (some 37), some (some 39), some (some 40), none])))) (by rw [hy]; rfl) hM hn hAs hw hd hst ⟨by decide, by decide⟩ (fun H1 locs1 t1 t2 t3 t4 => kk H1 locs1 ⟨t1, t3, t4, s4.kept (fun k q hq => t2 q.1 ((s4 k q hq).lt) (fun z => q5 _ z (s5.2 k q hq))), s5⟩)
theorem lw_callM {σ : Type} {y : MethodName} {mj : qs_M} {dj n idx : Nat} {rj : σ → Option Value} {r : σ} {M' : qs_D} {As rest stk : List Value} (hC : LC p s m meth c b L xs Ex Em Ax Am) (hl : lv_has ls 4 (lw_lv b Ex Em i)) (hQ : QL Ex Em Ax Am s X M H locs) (hf : qs_CF R_law idx y mj n false) (hdp : dj ≤ 10) (hy : y.cls = RX5) (hM : qs_Ctr l Em Am shM y mj dj rj (.ref 0 :: As) M (r, M')) (hn : As.length = n) (hAs : As.map (qs_tr Em) = As) (hw : (rest.map fun v => v.category).sum ≤ 8) (hd : decode code pc = .ok (.invokevirtual idx, 3)) (hst : stk = As.reverse ++ .ref (Em.2.2.1 0) :: rest)
    (kk : ∀ (H1 : Heap) (locs1 : List Loc), QL Ex Em Ax Am s X M' H1 locs1 → W p l e room_1 s m #[Value.ref b] below meth c H1 locs1 58 1078 Q (F0 m (pc + 3) ls (((rj r).map (qs_tr Em)).toList ++ rest))) : W p l e room_1 s m #[Value.ref b] below meth c H locs 58 1078 Q (F0 m pc ls stk) := by
  obtain ⟨⟨hx, hb, hr, hml, hown, hts, hX, hbl, hlocks, hgv⟩, q1, q2, q3, q4, q5⟩ := hC
  obtain ⟨s1, s2, s3, s4, s5⟩ := hQ
  exact lw_call hx hb hml hown hts hl.1 q2 q4 s1 s4 s5 hf hdp (he := (rfl : shM[0]? = some (.inl (5, [some (some 1), some (some 2), some (some 3), none, some (some 4), some (some 5), some (some 6), some (some 7), some (some 8), none, none, none, none, none, none])))) (by rw [hy]; rfl) hM hn hAs hw hd hst ⟨by decide, by decide⟩ (fun H1 locs1 t1 t2 t3 t4 => kk H1 locs1 ⟨t1, s2.kept (fun k q hq => t2 q.1 ((s2 k q hq).lt) (fun z => q5 _ (s3.2 k q hq) z)), s3, t3, t4⟩)
theorem lw_arg {k : Int} (kn : Nat) (hC : LC p s m meth c b L xs Ex Em Ax Am) (hL : L ≤ 3072) (hl : lv_has ls 4 (lw_lv b Ex Em i)) (hQ : QL Ex Em Ax Am s X M H locs) (hin : i + kn < L) (hk : Int32.ofInt k = nI kn) (d0 : decode code pc = .ok (.aload_n 0, 1)) (d1 : decode code (pc + 1) = .ok (.iload_n 3, 1)) (d2 : decode code (pc + 2) = .ok (.iconst k, 1)) (d3 : decode code (pc + 3) = .ok (.iadd, 1)) (d4 : decode code (pc + 4) = .ok (.iaload, 1)) (kk : W p l e room_1 s m #[Value.ref b] below meth c H locs 58 1078 Q (F0 m (pc + 5) ls (.int (xs (i + kn)) :: st))) : W p l e room_1 s m #[Value.ref b] below meth c H locs 58 1078 Q (F0 m pc ls st) := by
  obtain ⟨⟨hx, hb, hr, hml, hown, hts, hX, hbl, hlocks, hgv⟩, -⟩ := hC
  have hbA : ¬ (fun q : Nat => s.heap.size ≤ q) b := Nat.not_le.mpr hbl
  refine lv_aload_n hx hb d0 rfl (lv_at hl 3 rfl) ?_
  refine lv_iload_n hx hb d1 rfl (lv_at hl 0 rfl) ?_
  refine lv_iconst hx hb d2 hk ?_
  refine lv_iadd hx hb d3 ?_
  rw [nI_add]
  refine va_sld hx hb hX hbl hbA hQ.1 (vp_in_nI hin (by omega)) d4 ?_
  rw [tnN (by omega)]
  exact kk
theorem lw_al {j : Fin 4} {a q n : Nat} (hC : LC p s m meth c b L xs Ex Em Ax Am) (hl : lv_has ls 4 (lw_lv b Ex Em i)) (hd : decode code pc = .ok (.aload_n j, 1)) (hj : (j : Nat) = n) (hk : (lw_lv b Ex Em i)[q]? = some (n, .ref a)) (kk : W p l e room_1 s m #[Value.ref b] below meth c H locs 58 1078 Q (F0 m (pc + 1) ls (.ref a :: st))) : W p l e room_1 s m #[Value.ref b] below meth c H locs 58 1078 Q (F0 m pc ls st) :=
  lv_aload_n hC.1.1 hC.1.2.1 hd hj (lv_at hl q hk) kk
end LAW
