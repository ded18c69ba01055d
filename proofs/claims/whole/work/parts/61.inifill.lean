/-! a call of a contract from a world that is greater, and Arrays.fill from a constructor -/
theorem qx_after {σ : Type} {l : Launch} {E : qs_E} {A0 A1 : Nat → Prop} {Sh : List qs_Sh} {p : Program} {e : Env} {R : Room} {s : State} {m : MethodId} {args : Array Value} {below : List Frame} {meth : Method} {c : Code} {H : Heap} {locs : List Loc} {cells slots pc : Nat} {Q : State → Prop} {ls : Array Slot} {rest st0 : List Value} {a : Array Value} {rj : σ → Option Value} {Y : σ × qs_D} (hr : va_Run p l e R s m args below meth c H locs cells slots 0 0 (F0 m pc ls st0) rest (qs_Q E A1 Sh rj Y a) A1) (hS : va_S A0 s.heap H locs) (hA : ∀ q, A1 q → A0 q)
    (kk : ∀ (H1 : Heap) (locs1 : List Loc), va_S A0 s.heap H1 locs1 → (∀ q : Nat, q < H.size → ¬ A1 q → H1[q]? = H[q]?) → va_P E.1 vwCl (qs_ren E Sh Y.2) H1 → va_D A1 (qs_ren E Sh Y.2) → W p l e R s m args below meth c H1 locs1 cells slots Q (F0 m (pc + 3) ls (((rj Y.1).map (qs_tr E)).toList ++ rest))) : W p l e R s m args below meth c H locs cells slots Q (F0 m pc ls st0) := by
  intro T hT X
  obtain ⟨v, st₀, t, T', L, h0, X', hL, e1, e2, ⟨⟨hv, hp, hd⟩, hz, hk⟩, st⟩ := hr T hT X
  cases hv
  rw [h0] at hz hk
  obtain ⟨t2, a1, b1⟩ := kk T'.heap (locs ++ L)
    ⟨Nat.le_trans hS.1 (by rw [e1]; exact hz), fun q h1 h2 => by rw [e1, hk q (Nat.lt_of_lt_of_le h1 hS.1) (fun z => h2 (hA q z))]; exact hS.2.1 q h1 h2, fun q hq => by
      rcases List.mem_append.mp hq with h | h
      · exact hS.2.2 q h
      · exact hA _ (hL q h)⟩ (fun q h1 h2 => by rw [e1]; exact hk q h1 h2) (by rw [e1]; exact hp) hd T' rfl X'
  exact ⟨t2, st t2 a1, b1⟩
theorem qs_Bg.ad {E : qs_E} {A : Nat → Prop} {U : State} {ad' : Nat → Nat} (h : ∀ i, 1000 ≤ i → ad' i = E.2.2.1 i) (hb : qs_Bg E A U) : qs_Bg (E.1, E.2.1, ad', E.2.2.2) A U := by
  obtain ⟨h1, h2, h3, h4, h5, h6, h7⟩ := hb
  have e1 : (fun k => ad' (1000 + k)) = fun k => E.2.2.1 (1000 + k) := by funext k; exact h _ (by omega)
  have e3 : (fun k => ad' (3000 + k)) = fun k => E.2.2.1 (3000 + k) := by funext k; exact h _ (by omega)
  refine ⟨h1, h2, fun t x hx => ?_, fun k x hx => ?_, ?_, h6, ?_⟩
  · show va_Z x.1 x.2.1 "[I" (.ref (ad' (2000 + t))) A U U.heap ∧ va_T .int (ad' (2000 + t)) x.2.2.length (fun j => .int (x.2.2.getD j 0)) A U U.heap
    rw [h (2000 + t) (by omega)]
    exact h3 t x hx
  · show vk_R RX3 x.1 x.2.1 (ad' (1000 + k)) U
    rw [h (1000 + k) (by omega)]
    exact h4 k x hx
  · show vk_S 14 qs_slen qs_sbyt (fun k => ad' (1000 + k)) (fun k => ad' (3000 + k)) A U U.heap
    rw [e1, e3]
    exact h5
  · show _ ∨ va_Z "jdk/internal/util/Preconditions" "SIOOBE_FORMATTER" "Ljava/util/function/BiFunction;" (.ref (ad' 4000)) A U U.heap
    rw [h 4000 (by omega)]
    exact h7
abbrev shA (n0 : Nat) : List qs_Sh := [.inr (0, n0, fun _ => none)]
set_option maxRecDepth 20000 in
theorem gJ7_fill_L5 {l : Launch} {E : qs_E} {A : Nat → Prop} {r0 n0 : Nat} {Sh : List qs_Sh} (hn0 : n0 < 2 ^ 31) (h0 : Sh[r0]? = some (.inr (0, n0, fun _ => none))) : ∀ (n : Nat) (w1 : Int32) (w2 : Int32) (w3 : Int32) (D : qs_D), qs_VO l E A Sh mJ7_fill_53178 0 qs_rv 5 [(0, .ref r0), (1, .int w1), (2, .int w2), (3, .int w3)] [] D (fJ7_fill_53178_L5 r0 n0 n w1 w2 w3 D) := by
  intro n
  induction n with
  | zero => intro w1 w2 w3 D; exact qs_none
  | succ n ih =>
    intro w1 w2 w3 D
    unfold fJ7_fill_53178_L5
    refine qs_iload_n dJ7_fill_53178_5 rfl rfl rfl ?_
    refine qs_iload_n dJ7_fill_53178_6 rfl rfl rfl ?_
    refine qs_icmp_ge (tgt := 20) dJ7_fill_53178_7 (by decide) rfl (fun g3 => ?_) (fun g3 => ?_)
    · exact qs_vret rfl dJ7_fill_53178_20
    · refine qs_aload_n dJ7_fill_53178_10 rfl rfl rfl ?_
      refine qs_iload_n dJ7_fill_53178_11 rfl rfl rfl ?_
      refine qs_iload_n dJ7_fill_53178_12 rfl rfl rfl ?_
      refine qs_iast h0 hn0 dJ7_fill_53178_13 rfl (fun D4 => ?_)
      refine qs_iinc (fun v5 => [(2, .int v5), (0, .ref r0), (1, .int w1), (3, .int w3)]) (1 : Int32) dJ7_fill_53178_14 rfl (by decide) (by decide) (fun _ => rfl) rfl (fun v5 => ?_)
      refine qs_goto (tgt := 5) dJ7_fill_53178_17 (by decide) ?_
      exact qs_sub [1, 2, 0, 3] rfl (ih w1 v5 w3 D4)
set_option maxRecDepth 20000 in
theorem gJ7_fill {l : Launch} {E : qs_E} {A : Nat → Prop} {r0 : Nat} {n0 : Nat} {p1 : Int32} {D : qs_D} {X : Unit × qs_D} {Sh : List qs_Sh} (hn0 : n0 < 2 ^ 31) (h0 : Sh[r0]? = some (.inr (0, n0, fun _ => none))) (hX : fJ7_fill_53178 r0 n0 p1 D = some X) : qs_Ctr l E A Sh yJ7_fill_53178 mJ7_fill_53178 0 qs_rv [.ref r0, .int p1] D X := by
  refine qs_enter (by decide +kernel) rfl (Nat.le_of_ble_eq_true rfl) ?_ hX
  show qs_VO l E A Sh mJ7_fill_53178 0 qs_rv 0 [(0, .ref r0), (1, .int p1)] [] D (fJ7_fill_53178 r0 n0 p1 D)
  unfold fJ7_fill_53178
  refine qs_iconst (0 : Int32) dJ7_fill_53178_0 (by decide) rfl ?_
  refine qs_istore_n (fun v1 => [(2, .int v1), (0, .ref r0), (1, .int p1)]) dJ7_fill_53178_1 rfl (by decide) (fun _ => rfl) rfl (fun v1 => ?_)
  refine qs_aload_n dJ7_fill_53178_2 rfl rfl rfl ?_
  refine qs_alen h0 dJ7_fill_53178_3 rfl ?_
  refine qs_istore_n (fun v2 => [(3, .int v2), (2, .int v1), (0, .ref r0), (1, .int p1)]) dJ7_fill_53178_4 rfl (by decide) (fun _ => rfl) rfl (fun v2 => ?_)
  exact qs_sub [2, 3, 1, 0] rfl (gJ7_fill_L5 hn0 h0 qs_F p1 v1 v2 D)
theorem qi_fill {S : Type} {l : Launch} {E : qs_E} {A : Nat → Prop} {mm : qs_M} {R : Room} {post : S → Prop} {wd : S → va_W} {mc ms : Nat} {ws : va_W} {cells slots pc : Nat} {lv : List (Nat × Value)} {st : List Value} {a q0 n idx : Nat} {f : Nat → Int32} {v : Int32} (ws' : (Nat → Int32) → va_W) (hf : qs_CF mm.1 idx yJ7_fill_53178 mJ7_fill_53178 2 true) (he : ws[q0]? = some (a, .inl (E.2.1 0, n, .inl f))) (hn : n ≤ 200) (hR : 1 ≤ R.frames ∧ 23 ≤ R.locals) (hRc : cells ≤ R.cells ∧ slots ≤ R.slots) (hws : ∀ f' : Nat → Int32, ws.set q0 (a, .inl (E.2.1 0, n, .inl f')) = ws' f') (hw8 : (st.map fun v => v.category).sum ≤ 8) (hd : decode mm.2.1 pc = .ok (.invokestatic idx, 3)) (k : ∀ f' : Nat → Int32, (∀ x, x < n → f' x = v) → qi_V l E A mm R post wd mc ms (ws' f') cells slots (pc + 3) lv st) : qi_V l E A mm R post wd mc ms ws cells slots pc lv (.int v :: .ref a :: st) := by
  intro p e s m args below meth c H locs ls hc hS hP hD hl
  obtain ⟨g1, g2, g3, g4, g5, g6⟩ := hf
  have g6 : Cond.static yJ7_fill_53178 ∈ qs_gT := g6
  have hts := hc.2.2.2.2.2.1
  obtain ⟨E1, hE1⟩ : ∃ E1 : qs_E, E1 = (E.1, E.2.1, (fun i => if i = 0 then a else E.2.2.1 i), E.2.2.2) := ⟨_, rfl⟩
  have ead : E1.2.2.1 0 = a := by rw [hE1]; rfl
  have hEE : E1.1 = E.1 := by rw [hE1]
  have hren : ∀ D : qs_D, qs_ren E1 (shA n) D = [(a, .inl (E.2.1 0, n, .inl (D 0)))] := by intro D; rw [hE1]; rfl
  obtain ⟨f2, x1, x2⟩ := cFill (r := 0) (n0 := n) (v := v) hn (fun _ => f)
  have haA : A a := hD.2 q0 _ he
  have hM : qs_Ctr l E1 (fun q => q = a) (shA n) yJ7_fill_53178 mJ7_fill_53178 0 qs_rv [.ref 0, .int v] (fun _ => f) ((), qs_w (fun _ => f) 0 f2) := gJ7_fill (by omega) rfl x1
  have hPc : va_P E1.1 vwCl (qs_ren E1 (shA n) (fun _ => f)) H := by
    rw [hren, hEE]
    exact hP.sub [q0] (by simp [he])
  have hDc : va_D (fun q => q = a) (qs_ren E1 (shA n) (fun _ => f)) := by
    rw [hren]
    refine ⟨fun i j p q h1 h2 _ => ?_, fun k q h1 => ?_⟩
    · have := (List.getElem?_eq_some_iff.mp h1).1
      have := (List.getElem?_eq_some_iff.mp h2).1
      simp at *
      omega
    · have hk0 : k = 0 := by
        have := (List.getElem?_eq_some_iff.mp h1).1
        simp at this
        exact this
      subst hk0
      simp at h1
      rw [← h1]
  have hBg : ∀ U : State, U.heap = H → s.WarmedH U.vm → qs_Bg E1 (fun q => q = a) U := by
    intro U hU hW
    have := ((hc.2.2.2.2.2.2.2.1.1.go hS hU hW).narrow (B := fun q => q = a) (fun q hq => by rw [hq]; exact haA)).ad (ad' := fun i => if i = 0 then a else E.2.2.1 i) (fun i hi => if_neg (by omega))
    rw [hE1]
    exact this
  have hpre : PreS s H (va_Pc ([.ref 0, .int v].map (qs_tr E1)) (qs_W E1 (fun q => q = a) (shA n) (fun _ => f))) [.ref a, .int v] := ⟨qs_blind, fun U hU hW => ⟨by rw [← ead]; rfl, hBg U hU hW, by rw [hU]; exact hPc, hDc⟩⟩
  have hrun : va_Run p l e R s m args below meth c H locs cells slots 0 0 (F0 m pc ls (.int v :: .ref a :: st)) st (qs_Q E1 (fun q => q = a) (shA n) qs_rv ((), qs_w (fun _ => f) 0 f2) [.ref a, .int v].toArray) (fun q => q = a) := by
    rcases g5 with g5 | ⟨host, g5⟩
    · exact va_runS (As := [.ref a, .int v]) ⟨hc.1, hc.2.1, hc.2.2.2.1, hc.2.2.2.2.1, hts⟩ hM ⟨callB_of 2 hts (qs_good g1) rfl rfl rfl (hts _ g2) (hts _ g5) g4 ⟨hR.1, hR.2⟩, hts _ g6⟩ hpre rfl rfl hl.1 rfl (lv_room hw8) hd ⟨hRc.1, hRc.2⟩
    · exact va_runSN (As := [.ref a, .int v]) ⟨hc.1, hc.2.1, hc.2.2.2.1, hc.2.2.2.2.1, hts⟩ hM ⟨va_cnB 2 hts (qs_good g1) rfl rfl rfl (hc.2.2.2.2.2.2.2.1.1.2.1 _ g5) (hts _ g2) g4 ⟨hR.1, hR.2⟩, hts _ g6, trivial⟩ hpre rfl rfl hl.1 rfl (lv_room hw8) hd ⟨hRc.1, hRc.2⟩
  refine qx_after hrun hS (fun q hq => by rw [hq]; exact haA) (fun H1 locs1 hS1 hk1 hP1 hD1 => ?_)
  rw [hren, hEE] at hP1
  have hP2 : va_P E.1 vwCl (ws.set q0 (a, .inl (E.2.1 0, n, .inl f2))) H1 := by
    intro j q hj
    by_cases hjq : j = q0
    · subst hjq
      have hlt : j < ws.length := (List.getElem?_eq_some_iff.mp he).1
      rw [List.getElem?_set_self hlt] at hj
      cases hj
      exact hP1 0 _ (by simp [pw_self])
    · rw [List.getElem?_set_ne (fun z => hjq z.symm)] at hj
      exact (hP j q hj).kept (hk1 q.1 ((hP j q hj).lt) (fun z => hjq (hD.1 j q0 q _ hj he z)))
  have hk := k f2 x2 p e s m args below meth c H1 locs1 ls hc hS1 (by rw [← hws]; exact hP2) (by rw [← hws]; exact hD.set he) hl
  exact hk
