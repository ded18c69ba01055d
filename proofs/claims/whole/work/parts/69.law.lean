theorem rr0 {s1 s2 s3 : Nat → Int32} (h1 : ∀ x, x < 10 → s1 x = -1) : RR (dX s1 s2 s3) dM := by
  have m1 : dM 1 = dM1 := rfl
  have g6 : ∀ j, j < 6 → dM1 (6 + j) = 0 := by decide
  have g60 : ∀ j, j < 10 → dM1 (60 + j) = -1 := by decide
  refine ⟨⟨0, 0, ?_, ?_⟩, ⟨rfl, Or.inl rfl⟩, fun j hj => rfl, fun z hz => ?_, ⟨0, by decide, rfl, rfl, fun k hk => absurd hk (by omega)⟩⟩
  · rw [m1]
    exact ⟨by decide, by decide, ⟨50, by decide, by decide⟩, ⟨3, by decide, by decide⟩, ⟨0, by decide, by decide⟩, by decide, by decide, fun j hj => ⟨0, by decide, g6 j hj⟩, fun d hd => absurd hd (by omega), fun j hj => Or.inl (g60 j hj)⟩
  · rw [m1]
    have e1 : dM1 1 = 50 := by decide
    have e2 : dM1 2 = 3 := by decide
    have e0 : dM1 0 = 0 := by decide
    have e3 : dM1 3 = 0 := by decide
    have e4 : dM1 4 = 1 := by decide
    refine ⟨⟨?_, ?_, ?_, rfl, fun j hj => ?_, fun i hi => absurd hi (by omega)⟩, ?_, ?_, fun j hj => ?_⟩
    · rw [e1]; rfl
    · rw [e2]; rfl
    · rw [e0]; rfl
    · rw [g6 j hj]; rfl
    · rw [e3]; rfl
    · rw [e4]; rfl
    · rw [g60 j hj]; exact h1 j hj
  · have hz4 : z = 0 ∨ z = 1 ∨ z = 2 ∨ z = 3 := by omega
    rcases hz4 with rfl | rfl | rfl | rfl
    · exact ⟨rfl, rfl, Or.inl rfl, ⟨0, by decide, rfl⟩, fun i hi => rfl⟩
    · exact ⟨rfl, rfl, Or.inl rfl, ⟨0, by decide, rfl⟩, fun i hi => rfl⟩
    · exact ⟨rfl, rfl, Or.inl rfl, ⟨0, by decide, rfl⟩, fun i hi => rfl⟩
    · exact ⟨rfl, rfl, Or.inl rfl, ⟨0, by decide, rfl⟩, fun i hi => rfl⟩
theorem subL6 {L b : Nat} (hL : L ≤ 5000) (hb : b ≤ 10000) : (nI L - 6 < nI b) ↔ L < 6 + b := by
  show (nI L - nI 6 < nI b) ↔ L < 6 + b
  rw [Int32.lt_iff_toInt_lt, Int32.toInt_sub, nI_toInt (by omega), nI_toInt (by omega), nI_toInt (by omega), Int.bmod_eq_of_le (by omega) (by omega)]
  omega
set_option maxHeartbeats 4000000 in
theorem law_loop {p : Program} {l : Launch} {e : Env} {s : State} {m : MethodId} {below : List Frame} {meth : Method} {c : Code} {b L : Nat} {xs : Nat → Int32} {Ex Em : qs_E} {Ax Am : Nat → Prop} (hL : L ≤ 3072) (hC : LC p s m meth c b L xs Ex Em Ax Am) : ∀ (n i : Nat) (X M : qs_D) (H : Heap) (locs : List Loc) (ls : Array Slot), L + 1 ≤ i + n → i ≤ L → lv_has ls 4 (lw_lv b Ex Em i) → QL Ex Em Ax Am s X M H locs → RR X M → W p l e room_1 s m #[Value.ref b] below meth c H locs 58 1078 (lw_Z below #[Value.ref b] s) (F0 m 18 ls []) := by
  obtain ⟨⟨hx, hb, hr, hml, hown, hts, hX, hbl, hlocks, hgv⟩, -⟩ := id hC
  have hbA : ¬ (fun q : Nat => s.heap.size ≤ q) b := Nat.not_le.mpr hbl
  intro n
  induction n with
  | zero => intro i X M H locs ls h1 h2; omega
  | succ n ih =>
    intro i X M H locs ls hin hi hl hQ hR
    refine lv_iload_n hx hb dL_law_18 rfl (lv_at hl 0 rfl) ?_
    refine lv_aload_n hx hb dL_law_19 rfl (lv_at hl 3 rfl) ?_
    refine va_slen hx hb hX hbl hbA hQ.1 dL_law_20 ?_
    refine lv_bipush (v := 6) hx hb dL_law_21 (by decide) ?_
    refine lv_isub hx hb dL_law_23 ?_
    refine lv_icmp_gt (tgt := 1355) hx hb dL_law_24 (by decide) (fun cg => ?_) (fun cg => ?_)
    · refine lv_iconst (v := 1) hx hb dL_law_1355 (by decide) ?_
      refine va_forget (fun q hq => hQ.1.2.2 q hq) ?_
      refine W.widen (k := 600000) (n := 7302249) (Nat.le_of_ble_eq_true rfl) (Nat.le_of_ble_eq_true rfl) ?_
      exact lw_ret hx hb hr hlocks dL_law_1356
    · have h6 : i + 6 ≤ L := by
        have q : ¬ L < 6 + i := fun z => cg ((subL6 (by omega) (by omega)).mpr z)
        omega
      refine lv_aload_n hx hb dL_law_27 rfl (lv_at hl 3 rfl) ?_
      refine lv_iload_n hx hb dL_law_28 rfl (lv_at hl 0 rfl) ?_
      refine va_sld hx hb hX hbl hbA hQ.1 (vp_in_nI (by omega) (by omega)) dL_law_29 ?_
      refine lv_bipush (v := 63) hx hb dL_law_30 (by decide) ?_
      refine lv_iand hx hb dL_law_32 ?_
      obtain ⟨j, hj, ej⟩ := pk_andE (xs (nI i).toNatClampNeg) (m := 63) 6 (by decide)
      rw [ej]
      have kk : ∀ (X1 M1 : qs_D) (H1 : Heap) (locs1 : List Loc), QL Ex Em Ax Am s X1 M1 H1 locs1 → RR X1 M1 → W p l e room_1 s m #[Value.ref b] below meth c H1 locs1 58 1078 (lw_Z below #[Value.ref b] s) (F0 m 1349 ls []) := by
        intro X1 M1 H1 locs1 hQ1 hR1
        refine lv_iinc (v := nI (i + 6)) (lv' := lw_lv b Ex Em (i + 6)) hx hb dL_law_1349 hl (k := 0) rfl (nI_add i 6) (by decide) rfl (fun ls hl => ?_)
        refine lv_goto (tgt := 18) hx hb dL_law_1352 (by decide) ?_
        exact ih (i + 6) X1 M1 H1 locs1 ls (by omega) (by omega) hl hQ1 hR1
      have hj64 : j < 64 := hj
      by_cases hj40 : j < 40
      · have hjj : j = 0 ∨ j = 1 ∨ j = 2 ∨ j = 3 ∨ j = 4 ∨ j = 5 ∨ j = 6 ∨ j = 7 ∨ j = 8 ∨ j = 9 ∨ j = 10 ∨ j = 11 ∨ j = 12 ∨ j = 13 ∨ j = 14 ∨ j = 15 ∨ j = 16 ∨ j = 17 ∨ j = 18 ∨ j = 19 ∨ j = 20 ∨ j = 21 ∨ j = 22 ∨ j = 23 ∨ j = 24 ∨ j = 25 ∨ j = 26 ∨ j = 27 ∨ j = 28 ∨ j = 29 ∨ j = 30 ∨ j = 31 ∨ j = 32 ∨ j = 33 ∨ j = 34 ∨ j = 35 ∨ j = 36 ∨ j = 37 ∨ j = 38 ∨ j = 39 := by omega
        rcases hjj with rfl | rfl | rfl | rfl | rfl | rfl | rfl | rfl | rfl | rfl | rfl | rfl | rfl | rfl | rfl | rfl | rfl | rfl | rfl | rfl | rfl | rfl | rfl | rfl | rfl | rfl | rfl | rfl | rfl | rfl | rfl | rfl | rfl | rfl | rfl | rfl | rfl | rfl | rfl | rfl
        · exact lv_tableIn (off := 175) (tgt := 208) hx hb dL_law_33 (by decide) (by decide) (by decide) (by decide) (lc_0 hC hL hl hQ hR h6 kk)
        · exact lv_tableIn (off := 208) (tgt := 241) hx hb dL_law_33 (by decide) (by decide) (by decide) (by decide) (lc_1 hC hL hl hQ hR h6 kk)
        · exact lv_tableIn (off := 241) (tgt := 274) hx hb dL_law_33 (by decide) (by decide) (by decide) (by decide) (lc_2 hC hL hl hQ hR h6 kk)
        · exact lv_tableIn (off := 264) (tgt := 297) hx hb dL_law_33 (by decide) (by decide) (by decide) (by decide) (lc_3 hC hL hl hQ hR h6 kk)
        · exact lv_tableIn (off := 297) (tgt := 330) hx hb dL_law_33 (by decide) (by decide) (by decide) (by decide) (lc_4 hC hL hl hQ hR h6 kk)
        · exact lv_tableIn (off := 330) (tgt := 363) hx hb dL_law_33 (by decide) (by decide) (by decide) (by decide) (lc_5 hC hL hl hQ hR h6 kk)
        · exact lv_tableIn (off := 373) (tgt := 406) hx hb dL_law_33 (by decide) (by decide) (by decide) (by decide) (lc_6 hC hL hl hQ hR h6 kk)
        · exact lv_tableIn (off := 396) (tgt := 429) hx hb dL_law_33 (by decide) (by decide) (by decide) (by decide) (lc_7 hC hL hl hQ hR h6 kk)
        · exact lv_tableIn (off := 419) (tgt := 452) hx hb dL_law_33 (by decide) (by decide) (by decide) (by decide) (lc_8 hC hL hl hQ hR h6 kk)
        · exact lv_tableIn (off := 442) (tgt := 475) hx hb dL_law_33 (by decide) (by decide) (by decide) (by decide) (lc_9 hC hL hl hQ hR h6 kk)
        · exact lv_tableIn (off := 465) (tgt := 498) hx hb dL_law_33 (by decide) (by decide) (by decide) (by decide) (lc_10 hC hL hl hQ hR h6 kk)
        · exact lv_tableIn (off := 508) (tgt := 541) hx hb dL_law_33 (by decide) (by decide) (by decide) (by decide) (lc_11 hC hL hl hQ hR h6 kk)
        · exact lv_tableIn (off := 531) (tgt := 564) hx hb dL_law_33 (by decide) (by decide) (by decide) (by decide) (lc_12 hC hL hl hQ hR h6 kk)
        · exact lv_tableIn (off := 554) (tgt := 587) hx hb dL_law_33 (by decide) (by decide) (by decide) (by decide) (lc_13 hC hL hl hQ hR h6 kk)
        · exact lv_tableIn (off := 587) (tgt := 620) hx hb dL_law_33 (by decide) (by decide) (by decide) (by decide) (lc_14 hC hL hl hQ hR h6 kk)
        · exact lv_tableIn (off := 610) (tgt := 643) hx hb dL_law_33 (by decide) (by decide) (by decide) (by decide) (lc_15 hC hL hl hQ hR h6 kk)
        · exact lv_tableIn (off := 643) (tgt := 676) hx hb dL_law_33 (by decide) (by decide) (by decide) (by decide) (lc_16 hC hL hl hQ hR h6 kk)
        · exact lv_tableIn (off := 676) (tgt := 709) hx hb dL_law_33 (by decide) (by decide) (by decide) (by decide) (lc_17 hC hL hl hQ hR h6 kk)
        · exact lv_tableIn (off := 709) (tgt := 742) hx hb dL_law_33 (by decide) (by decide) (by decide) (by decide) (lc_18 hC hL hl hQ hR h6 kk)
        · exact lv_tableIn (off := 732) (tgt := 765) hx hb dL_law_33 (by decide) (by decide) (by decide) (by decide) (lc_19 hC hL hl hQ hR h6 kk)
        · exact lv_tableIn (off := 755) (tgt := 788) hx hb dL_law_33 (by decide) (by decide) (by decide) (by decide) (lc_20 hC hL hl hQ hR h6 kk)
        · exact lv_tableIn (off := 788) (tgt := 821) hx hb dL_law_33 (by decide) (by decide) (by decide) (by decide) (lc_21 hC hL hl hQ hR h6 kk)
        · exact lv_tableIn (off := 821) (tgt := 854) hx hb dL_law_33 (by decide) (by decide) (by decide) (by decide) (lc_22 hC hL hl hQ hR h6 kk)
        · exact lv_tableIn (off := 844) (tgt := 877) hx hb dL_law_33 (by decide) (by decide) (by decide) (by decide) (lc_23 hC hL hl hQ hR h6 kk)
        · exact lv_tableIn (off := 888) (tgt := 921) hx hb dL_law_33 (by decide) (by decide) (by decide) (by decide) (lc_24 hC hL hl hQ hR h6 kk)
        · exact lv_tableIn (off := 911) (tgt := 944) hx hb dL_law_33 (by decide) (by decide) (by decide) (by decide) (lc_25 hC hL hl hQ hR h6 kk)
        · exact lv_tableIn (off := 944) (tgt := 977) hx hb dL_law_33 (by decide) (by decide) (by decide) (by decide) (lc_26 hC hL hl hQ hR h6 kk)
        · exact lv_tableIn (off := 957) (tgt := 990) hx hb dL_law_33 (by decide) (by decide) (by decide) (by decide) (lc_27 hC hL hl hQ hR h6 kk)
        · exact lv_tableIn (off := 970) (tgt := 1003) hx hb dL_law_33 (by decide) (by decide) (by decide) (by decide) (lc_28 hC hL hl hQ hR h6 kk)
        · exact lv_tableIn (off := 1003) (tgt := 1036) hx hb dL_law_33 (by decide) (by decide) (by decide) (by decide) (lc_29 hC hL hl hQ hR h6 kk)
        · exact lv_tableIn (off := 1036) (tgt := 1069) hx hb dL_law_33 (by decide) (by decide) (by decide) (by decide) (lc_30 hC hL hl hQ hR h6 kk)
        · exact lv_tableIn (off := 1079) (tgt := 1112) hx hb dL_law_33 (by decide) (by decide) (by decide) (by decide) (lc_31 hC hL hl hQ hR h6 kk)
        · exact lv_tableIn (off := 1122) (tgt := 1155) hx hb dL_law_33 (by decide) (by decide) (by decide) (by decide) (lc_32 hC hL hl hQ hR h6 kk)
        · exact lv_tableIn (off := 1185) (tgt := 1218) hx hb dL_law_33 (by decide) (by decide) (by decide) (by decide) (lc_33 hC hL hl hQ hR h6 kk)
        · exact lv_tableIn (off := 1208) (tgt := 1241) hx hb dL_law_33 (by decide) (by decide) (by decide) (by decide) (lc_34 hC hL hl hQ hR h6 kk)
        · exact lv_tableIn (off := 1231) (tgt := 1264) hx hb dL_law_33 (by decide) (by decide) (by decide) (by decide) (lc_35 hC hL hl hQ hR h6 kk)
        · exact lv_tableIn (off := 1244) (tgt := 1277) hx hb dL_law_33 (by decide) (by decide) (by decide) (by decide) (lc_36 hC hL hl hQ hR h6 kk)
        · exact lv_tableIn (off := 1257) (tgt := 1290) hx hb dL_law_33 (by decide) (by decide) (by decide) (by decide) (lc_37 hC hL hl hQ hR h6 kk)
        · exact lv_tableIn (off := 1270) (tgt := 1303) hx hb dL_law_33 (by decide) (by decide) (by decide) (by decide) (lc_38 hC hL hl hQ hR h6 kk)
        · exact lv_tableIn (off := 1293) (tgt := 1326) hx hb dL_law_33 (by decide) (by decide) (by decide) (by decide) (lc_39 hC hL hl hQ hR h6 kk)
      · refine lv_tableOut (tgt := 1349) hx hb dL_law_33 (Or.inr ?_) (by decide) (kk X M H locs hQ hR)
        rw [nI_toInt (by omega)]
        omega
theorem ydX4 : ∀ j, j < 7 → defaultValue (tyX4 j) = vp_V [.null, .null, .null, .null, .null, .null, .int 0] j := by
  intro j hj
  have hj : j = 0 ∨ j = 1 ∨ j = 2 ∨ j = 3 ∨ j = 4 ∨ j = 5 ∨ j = 6 := by omega
  rcases hj with rfl | rfl | rfl | rfl | rfl | rfl | rfl <;> rfl
theorem ydX5 : ∀ j, j < 15 → defaultValue (tyX5 j) = vp_V [.null, .null, .null, .int 0, .null, .null, .null, .null, .null, .int 0, .int 0, .int 0, .int 0, .int 0, .int 0] j := by
  intro j hj
  have hj : j = 0 ∨ j = 1 ∨ j = 2 ∨ j = 3 ∨ j = 4 ∨ j = 5 ∨ j = 6 ∨ j = 7 ∨ j = 8 ∨ j = 9 ∨ j = 10 ∨ j = 11 ∨ j = 12 ∨ j = 13 ∨ j = 14 := by omega
  rcases hj with rfl | rfl | rfl | rfl | rfl | rfl | rfl | rfl | rfl | rfl | rfl | rfl | rfl | rfl | rfl <;> rfl
set_option maxHeartbeats 4000000 in
set_option maxRecDepth 100000 in
/-- THE LAW, from its entry -/
theorem whole_start {p : Program} {e : Env} {s : State} {m : MethodId} {below : List Frame} {meth : Method} {c : Code} (l : Launch) (hflags : l.flags = flags0) {b L : Nat} {xs : Nat → Int32} (hL : L ≤ 3072) (C0 : lw_At p s m meth c b L xs) : W p l e room_1 s m #[Value.ref b] below meth c s.heap [] 0 0 (lw_Z below #[Value.ref b] s) (entryFrame m ([Value.ref b] : List Value).toArray 4) := by
  obtain ⟨hx, hb, hr, hml, hown, hts, hX, hbl, hlocks, hgv⟩ := id C0
  obtain ⟨E, hBg⟩ := lw_bg hts hgv
  have hgT := lw_gT hts
  have hA : ∀ q : Nat, s.heap.size ≤ q → (fun q : Nat => s.heap.size ≤ q) q := fun _ h => h
  have hS : va_S (fun q : Nat => s.heap.size ≤ q) s.heap s.heap [] := va_S.rf
  have hP : va_P E.1 vwCl [] s.heap := fun k q h => by simp at h
  have hD : va_D (fun q : Nat => s.heap.size ≤ q) [] := ⟨fun i j p q h => by simp at h, fun k q h => by simp at h⟩
  have hAO0 : va_AO RX0 s := va_AO.of (hts _ (List.mem_of_getElem? (i := 122) (by decide +kernel)))
  have hAO2 : va_AO RX2 s := va_AO.of (hts _ (List.mem_of_getElem? (i := 231) (by decide +kernel)))
  have hl := lv_entry ([.ref b]) (n := 4) (Nat.le_of_ble_eq_true rfl)
  rw [lg_entry_eq]
  generalize (lg_sl ([.ref b]) ++ List.replicate (4 - (lg_sl ([.ref b])).length) Slot.unset).toArray = ls at hl ⊢
  have hl : lv_has ls 4 [(0, .ref b)] := hl
  refine va_new (D := E.1) (ci := 4) (fs := [.null, .null, .null, .null, .null, .null, .int 0]) (C := RX4) (T := TX4) (N := 7) hx hb hts (fun w hw => (List.mem_filter.mp (clX4.2.1 w hw)).1) tyX4 tyX4_ok hown (index := 7) (hts _ (List.mem_of_getElem? (i := 107) (by decide +kernel))) (hts _ (List.mem_of_getElem? (i := 108) (by decide +kernel))) (hts _ (List.mem_of_getElem? (i := 93) (by decide +kernel))) hBg.1 hP hD hS hA rfl ydX4 (Nat.le_of_ble_eq_true rfl) (Nat.le_of_ble_eq_true rfl) dL_law_0 (fun x H hP hD hS => ?_)
  have hP : va_P E.1 vwCl [(x, .inr (4, [.null, .null, .null, .null, .null, .null, .int 0]))] H := hP
  have hD : va_D (fun q : Nat => s.heap.size ≤ q) [(x, .inr (4, [.null, .null, .null, .null, .null, .null, .int 0]))] := hD
  refine lv_dup hx hb dL_law_3 rfl ?_
  have hFc := va_free (wc := [(x, .inr (4, [.null, .null, .null, .null, .null, .null, .int 0]))]) hD hS hA [0] rfl
  have hpre : PreS s H (va_Pc [.ref x] (fun U => U.heap.size = H.size ∧ va_P E.1 vwCl [(x, .inr (4, [.null, .null, .null, .null, .null, .null, .int 0]))] U.heap ∧ qi_K E (va_A [(x, .inr (4, [.null, .null, .null, .null, .null, .null, .int 0]))] H.size) U ∧ va_D (fun _ => True) [(x, .inr (4, [.null, .null, .null, .null, .null, .null, .int 0]))])) (.ref x :: []) := ⟨fun a U g mk q => ⟨q.1, q.2.1, q.2.2.1, q.2.2.2.1.blind, q.2.2.2.2⟩, fun U hU hW => ⟨rfl, by rw [hU], by rw [hU]; exact hP, ⟨(hBg.go hS hU hW).narrow hFc, va_AO.moved hW.alike hAO0, va_AO.moved hW.alike hAO2⟩, hD.weaken (fun _ _ _ _ => trivial)⟩⟩
  refine va_callv (va_runI (As := []) (rest := [.ref x]) ⟨hx, hb, hml, hown, hgT⟩ (nX4_init (l := l) (E := E) (h0 := x) (sz := H.size)) (cwI 0 hgT (qs_good (qs_gm 111 (by decide +kernel) (by decide +kernel))) rfl rfl rfl (hgT _ (qs_gm 93 (by decide +kernel) (by decide +kernel))) (hgT _ (qs_gm 109 (by decide +kernel) (by decide +kernel))) (hgT _ (qs_gm 110 (by decide +kernel) (by decide +kernel))) rfl (by decide +kernel) ⟨Nat.le_of_ble_eq_true rfl, Nat.le_of_ble_eq_true rfl⟩) hpre rfl rfl hl.1 rfl (lv_room (Nat.le_of_ble_eq_true rfl)) dL_law_4 ⟨Nat.le_of_ble_eq_true rfl, Nat.le_of_ble_eq_true rfl⟩) hS (fun q _ h => hFc q h) hFc (fun u t H1 locs1 ht hvm hw hB hz1 hk1 hS1 => ?_)
  obtain ⟨adx, Dx⟩ := u
  obtain ⟨hPx, hDx⟩ := hB
  rw [ht] at hPx
  obtain ⟨wx0, wx1, s1, s2, s3, wD, ws1, -, -⟩ := hw
  have wx0 : adx 0 = x := wx0
  have wx1 : ∀ i, 1000 ≤ i → adx i = E.2.2.1 i := wx1
  have wD : Dx = dX s1 s2 s3 := wD
  obtain ⟨Ex, hEx⟩ : ∃ Ex : qs_E, Ex = (E.1, E.2.1, adx, 0) := ⟨_, rfl⟩
  have ex1 : Ex.1 = E.1 := by rw [hEx]
  have ex0 : Ex.2.2.1 0 = x := by rw [hEx]; exact wx0
  have hPx : va_P Ex.1 vwCl (qs_ren Ex shX Dx) H1 := by rw [hEx]; exact hPx
  have hDx0 : va_D (fun q : Nat => s.heap.size ≤ q) (qs_ren Ex shX Dx) := by
    rw [hEx]
    exact ⟨hDx.1, fun k q hq => hFc _ (hDx.2 k q hq)⟩
  generalize hwx : qs_ren Ex shX Dx = wx at hPx hDx0
  refine W.widen (k := 49) (n := 558) (Nat.le_of_ble_eq_true rfl) (Nat.le_of_ble_eq_true rfl) ?_
  refine lv_astore_n (lv' := [(1, .ref x), (0, .ref b)]) hx hb dL_law_7 rfl hl (by decide) rfl (fun ls hl => ?_)
  rw [ex1] at hPx
  refine va_new (D := E.1) (ci := 5) (fs := [.null, .null, .null, .int 0, .null, .null, .null, .null, .null, .int 0, .int 0, .int 0, .int 0, .int 0, .int 0]) (C := RX5) (T := TX5) (N := 15) hx hb hts (fun w hw => (List.mem_filter.mp (clX5.2.1 w hw)).1) tyX5 tyX5_ok hown (index := 10) (hts _ (List.mem_of_getElem? (i := 772) (by decide +kernel))) (hts _ (List.mem_of_getElem? (i := 773) (by decide +kernel))) (hts _ (List.mem_of_getElem? (i := 99) (by decide +kernel))) hBg.1 hPx hDx0 hS1 hA rfl ydX5 (Nat.le_of_ble_eq_true rfl) (Nat.le_of_ble_eq_true rfl) dL_law_8 (fun mo H2 hP2 hD2 hS2 => ?_)
  refine lv_dup hx hb dL_law_11 rfl ?_
  have hPx2 : va_P E.1 vwCl wx H2 := fun k q hq => hP2 k q (by rw [List.getElem?_append_left (List.getElem?_eq_some_iff.mp hq).1]; exact hq)
  have hat : (wx ++ [(mo, Sum.inr (5, [.null, .null, .null, .int 0, .null, .null, .null, .null, .null, .int 0, .int 0, .int 0, .int 0, .int 0, .int 0]))])[wx.length]? = some (mo, .inr (5, [.null, .null, .null, .int 0, .null, .null, .null, .null, .null, .int 0, .int 0, .int 0, .int 0, .int 0, .int 0])) := by simp
  have hPm : va_P E.1 vwCl [(mo, .inr (5, [.null, .null, .null, .int 0, .null, .null, .null, .null, .null, .int 0, .int 0, .int 0, .int 0, .int 0, .int 0]))] H2 := hP2.sub [wx.length] (by simp)
  have hDm : va_D (fun q : Nat => s.heap.size ≤ q) [(mo, .inr (5, [.null, .null, .null, .int 0, .null, .null, .null, .null, .null, .int 0, .int 0, .int 0, .int 0, .int 0, .int 0]))] := hD2.sub [wx.length] (by simp [va_nd]) (by simp)
  have hFm := va_free (wc := [(mo, .inr (5, [.null, .null, .null, .int 0, .null, .null, .null, .null, .null, .int 0, .int 0, .int 0, .int 0, .int 0, .int 0]))]) hD2 hS2 hA [wx.length] (by simp)
  have hapart : ∀ (k : Nat) (q : Nat × va_E), wx[k]? = some q → ¬ va_A [(mo, .inr (5, [.null, .null, .null, .int 0, .null, .null, .null, .null, .null, .int 0, .int 0, .int 0, .int 0, .int 0, .int 0]))] H2.size q.1 := by
    intro k q hq hz
    have hk : k < wx.length := (List.getElem?_eq_some_iff.mp hq).1
    rcases hz with ⟨k2, e2, h2⟩ | h2
    · have hk2 : k2 = 0 := by
        have := (List.getElem?_eq_some_iff.mp h2).1
        simp at this
        exact this
      subst hk2
      simp at h2
      have := hD2.1 k wx.length q _ (by rw [List.getElem?_append_left hk]; exact hq) hat h2.1.symm
      omega
    · have := (hPx2 k q hq).lt
      omega
  have hpre2 : PreS s H2 (va_Pc [.ref mo] (fun U => U.heap.size = H2.size ∧ va_P E.1 vwCl [(mo, .inr (5, [.null, .null, .null, .int 0, .null, .null, .null, .null, .null, .int 0, .int 0, .int 0, .int 0, .int 0, .int 0]))] U.heap ∧ qi_K E (va_A [(mo, .inr (5, [.null, .null, .null, .int 0, .null, .null, .null, .null, .null, .int 0, .int 0, .int 0, .int 0, .int 0, .int 0]))] H2.size) U ∧ va_D (fun _ => True) [(mo, .inr (5, [.null, .null, .null, .int 0, .null, .null, .null, .null, .null, .int 0, .int 0, .int 0, .int 0, .int 0, .int 0]))])) (.ref mo :: []) := ⟨fun a U g mk q => ⟨q.1, q.2.1, q.2.2.1, q.2.2.2.1.blind, q.2.2.2.2⟩, fun U hU hW => ⟨rfl, by rw [hU], by rw [hU]; exact hPm, ⟨(hBg.go hS2 hU hW).narrow hFm, va_AO.moved hW.alike hAO0, va_AO.moved hW.alike hAO2⟩, hDm.weaken (fun _ _ _ _ => trivial)⟩⟩
  refine va_callv (va_runI (As := []) (rest := [.ref mo]) ⟨hx, hb, hml, hown, hgT⟩ (nX5_init (l := l) (E := E) (h0 := mo) (sz := H2.size)) (cwI 0 hgT (qs_good (qs_gm 776 (by decide +kernel) (by decide +kernel))) rfl rfl rfl (hgT _ (qs_gm 99 (by decide +kernel) (by decide +kernel))) (hgT _ (qs_gm 774 (by decide +kernel) (by decide +kernel))) (hgT _ (qs_gm 775 (by decide +kernel) (by decide +kernel))) rfl (by decide +kernel) ⟨Nat.le_of_ble_eq_true rfl, Nat.le_of_ble_eq_true rfl⟩) hpre2 rfl rfl hl.1 rfl (lv_room (Nat.le_of_ble_eq_true rfl)) dL_law_12 ⟨Nat.le_of_ble_eq_true rfl, Nat.le_of_ble_eq_true rfl⟩) hS2 (fun q _ h => hFm q h) hFm (fun adm t2 H3 locs3 ht2 hvm2 hw2 hB2 hz2 hk2 hS3 => ?_)
  obtain ⟨hPm3, hDm3⟩ := hB2
  rw [ht2] at hPm3
  obtain ⟨wm0, wm1⟩ := hw2
  obtain ⟨Em, hEm⟩ : ∃ Em : qs_E, Em = (E.1, E.2.1, adm, 0) := ⟨_, rfl⟩
  have em0 : Em.2.2.1 0 = mo := by rw [hEm]; exact wm0
  have hPm3 : va_P Em.1 vwCl (qs_ren Em shM dM) H3 := by rw [hEm]; exact hPm3
  have hDm3 : va_D (va_A [(mo, .inr (5, [.null, .null, .null, .int 0, .null, .null, .null, .null, .null, .int 0, .int 0, .int 0, .int 0, .int 0, .int 0]))] H2.size) (qs_ren Em shM dM) := by rw [hEm]; exact hDm3
  have hPx3 : va_P E.1 vwCl wx H3 := hPx2.kept (fun k q hq => hk2 q.1 ((hPx2 k q hq).lt) (hapart k q hq))
  obtain ⟨Ax, hAx⟩ : ∃ Ax : Nat → Prop, Ax = fun q => ∃ (k : Nat) (p : Nat × va_E), wx[k]? = some p ∧ p.1 = q := ⟨_, rfl⟩
  obtain ⟨Am, hAm⟩ : ∃ Am : Nat → Prop, Am = fun q => ∃ (k : Nat) (p : Nat × va_E), (qs_ren Em shM dM)[k]? = some p ∧ p.1 = q := ⟨_, rfl⟩
  have xs0 : ∀ q : Nat, Ax q → s.heap.size ≤ q := by
    intro q hq
    rw [hAx] at hq
    obtain ⟨k, p, h1, h2⟩ := hq
    rw [← h2]
    exact hDx0.2 k p h1
  have ms0 : ∀ q : Nat, Am q → s.heap.size ≤ q := by
    intro q hq
    rw [hAm] at hq
    obtain ⟨k, p, h1, h2⟩ := hq
    rw [← h2]
    exact hFm _ (hDm3.2 k p h1)
  have hdis : ∀ q : Nat, Ax q → ¬ Am q := by
    intro q hq hq2
    rw [hAx] at hq
    rw [hAm] at hq2
    obtain ⟨k, p, h1, h2⟩ := hq
    obtain ⟨k', p', h1', h2'⟩ := hq2
    exact hapart k p h1 (by rw [h2, ← h2']; exact hDm3.2 k' p' h1')
  have hBx : qs_Bg Ex Ax s := by
    rw [hEx]
    exact (hBg.narrow xs0).ad wx1
  have hBm : qs_Bg Em Am s := by
    rw [hEm]
    exact (hBg.narrow ms0).ad wm1
  have hC : LC p s m meth c b L xs Ex Em Ax Am := ⟨C0, hBx, hBm, xs0, ms0, hdis⟩
  have hQ : QL Ex Em Ax Am s Dx dM H3 locs3 := ⟨hS3, by rw [hwx, ex1]; exact hPx3, by rw [hwx, hAx]; exact ⟨hDx0.1, fun k q hq => ⟨k, q, hq, rfl⟩⟩, hPm3, by rw [hAm]; exact ⟨hDm3.1, fun k q hq => ⟨k, q, hq, rfl⟩⟩⟩
  refine W.widen (k := 58) (n := 1078) (Nat.le_of_ble_eq_true rfl) (Nat.le_of_ble_eq_true rfl) ?_
  refine lv_astore_n (lv' := [(2, .ref mo), (1, .ref x), (0, .ref b)]) hx hb dL_law_15 rfl hl (by decide) rfl (fun ls hl => ?_)
  refine lv_iconst (v := 0) hx hb dL_law_16 (by decide) ?_
  refine lv_istore_n (lv' := [(3, .int 0), (2, .ref mo), (1, .ref x), (0, .ref b)]) hx hb dL_law_17 rfl hl (by decide) rfl (fun ls hl => ?_)
  exact law_loop hL hC (L + 1) 0 Dx dM H3 locs3 ls (by omega) (by omega) (by unfold lw_lv; rw [em0, ex0]; exact hl) hQ (by rw [wD]; exact rr0 ws1)
