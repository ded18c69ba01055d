section QSC
variable {ρ : Type} {l : Launch} {E : qs_E} {A : Nat → Prop} {Sh : List qs_Sh} {mm : qs_M} {dp : Nat} {rv : ρ → Option Value} {pc : Nat} {lv : List (Nat × Value)} {st : List Value} {D : qs_D}
theorem qs_cS1i {y : MethodName} {mj : qs_M} {dj idx pc1 : Nat} {v1 : Value} {T0 : Option (Int32 × qs_D)} {F : Int32 → qs_D → Option (ρ × qs_D)} (hf : qs_CF mm.1 idx y mj 1 true) (hdp : dj + 1 ≤ dp) (hM : ∀ Y, T0 = some Y → qs_Ctr l E A Sh y mj dj qs_ri [v1] D Y) (hw : (st.map fun v => v.category).sum ≤ 8) (hd : decode mm.2.1 pc = .ok (.invokestatic idx, 3)) (hp : pc + 3 = pc1) (k : ∀ (r : Int32) (D1 : qs_D), T0 = some (r, D1) → qs_VO l E A Sh mm dp rv pc1 lv (.int r :: st) D1 (F r D1)) : qs_VO l E A Sh mm dp rv pc lv (v1 :: st) D (qs_bind T0 F) := by
  subst hp
  exact qs_callS (As := [v1]) hf hdp hM rfl hw hd rfl k
theorem qs_cS2i {y : MethodName} {mj : qs_M} {dj idx pc1 : Nat} {v1 v2 : Value} {T0 : Option (Int32 × qs_D)} {F : Int32 → qs_D → Option (ρ × qs_D)} (hf : qs_CF mm.1 idx y mj 2 true) (hdp : dj + 1 ≤ dp) (hM : ∀ Y, T0 = some Y → qs_Ctr l E A Sh y mj dj qs_ri [v1, v2] D Y) (hw : (st.map fun v => v.category).sum ≤ 8) (hd : decode mm.2.1 pc = .ok (.invokestatic idx, 3)) (hp : pc + 3 = pc1) (k : ∀ (r : Int32) (D1 : qs_D), T0 = some (r, D1) → qs_VO l E A Sh mm dp rv pc1 lv (.int r :: st) D1 (F r D1)) : qs_VO l E A Sh mm dp rv pc lv (v2 :: v1 :: st) D (qs_bind T0 F) := by
  subst hp
  exact qs_callS (As := [v1, v2]) hf hdp hM rfl hw hd rfl k
theorem qs_cS2l {y : MethodName} {mj : qs_M} {dj idx pc1 : Nat} {v1 v2 : Value} {T0 : Option (Int64 × qs_D)} {F : Int64 → qs_D → Option (ρ × qs_D)} (hf : qs_CF mm.1 idx y mj 2 true) (hdp : dj + 1 ≤ dp) (hM : ∀ Y, T0 = some Y → qs_Ctr l E A Sh y mj dj qs_rl [v1, v2] D Y) (hw : (st.map fun v => v.category).sum ≤ 8) (hd : decode mm.2.1 pc = .ok (.invokestatic idx, 3)) (hp : pc + 3 = pc1) (k : ∀ (r : Int64) (D1 : qs_D), T0 = some (r, D1) → qs_VO l E A Sh mm dp rv pc1 lv (.long r :: st) D1 (F r D1)) : qs_VO l E A Sh mm dp rv pc lv (v2 :: v1 :: st) D (qs_bind T0 F) := by
  subst hp
  exact qs_callS (As := [v1, v2]) hf hdp hM rfl hw hd rfl k
theorem qs_cS2v {y : MethodName} {mj : qs_M} {dj idx pc1 : Nat} {v1 v2 : Value} {T0 : Option (Unit × qs_D)} {F : Unit → qs_D → Option (ρ × qs_D)} (hf : qs_CF mm.1 idx y mj 2 true) (hdp : dj + 1 ≤ dp) (hM : ∀ Y, T0 = some Y → qs_Ctr l E A Sh y mj dj qs_rv [v1, v2] D Y) (hw : (st.map fun v => v.category).sum ≤ 8) (hd : decode mm.2.1 pc = .ok (.invokestatic idx, 3)) (hp : pc + 3 = pc1) (k : ∀ (r : Unit) (D1 : qs_D), T0 = some (r, D1) → qs_VO l E A Sh mm dp rv pc1 lv (st) D1 (F r D1)) : qs_VO l E A Sh mm dp rv pc lv (v2 :: v1 :: st) D (qs_bind T0 F) := by
  subst hp
  exact qs_callS (As := [v1, v2]) hf hdp hM rfl hw hd rfl k
theorem qs_cS3i {y : MethodName} {mj : qs_M} {dj idx pc1 : Nat} {v1 v2 v3 : Value} {T0 : Option (Int32 × qs_D)} {F : Int32 → qs_D → Option (ρ × qs_D)} (hf : qs_CF mm.1 idx y mj 3 true) (hdp : dj + 1 ≤ dp) (hM : ∀ Y, T0 = some Y → qs_Ctr l E A Sh y mj dj qs_ri [v1, v2, v3] D Y) (hw : (st.map fun v => v.category).sum ≤ 8) (hd : decode mm.2.1 pc = .ok (.invokestatic idx, 3)) (hp : pc + 3 = pc1) (k : ∀ (r : Int32) (D1 : qs_D), T0 = some (r, D1) → qs_VO l E A Sh mm dp rv pc1 lv (.int r :: st) D1 (F r D1)) : qs_VO l E A Sh mm dp rv pc lv (v3 :: v2 :: v1 :: st) D (qs_bind T0 F) := by
  subst hp
  exact qs_callS (As := [v1, v2, v3]) hf hdp hM rfl hw hd rfl k
theorem qs_cV0i {y : MethodName} {mj : qs_M} {dj idx i ci pc1 : Nat} {T0 : Option (Int32 × qs_D)} {F : Int32 → qs_D → Option (ρ × qs_D)} {tm : List (Option (Option Nat))} {Tt : u_T} {N : Nat} (hf : qs_CF mm.1 idx y mj 0 false) (hdp : dj + 1 ≤ dp) (he : Sh[i]? = some (.inl (ci, tm))) (hci : vwCl[ci]? = some (y.cls, Tt, N)) (hM : ∀ Y, T0 = some Y → qs_Ctr l E A Sh y mj dj qs_ri [.ref i] D Y) (hw : (st.map fun v => v.category).sum ≤ 8) (hd : decode mm.2.1 pc = .ok (.invokevirtual idx, 3)) (hp : pc + 3 = pc1) (k : ∀ (r : Int32) (D1 : qs_D), T0 = some (r, D1) → qs_VO l E A Sh mm dp rv pc1 lv (.int r :: st) D1 (F r D1)) : qs_VO l E A Sh mm dp rv pc lv (.ref i :: st) D (qs_bind T0 F) := by
  subst hp
  exact qs_callV (As := []) hf hdp he hci hM rfl hw hd rfl k
theorem qs_cV0v {y : MethodName} {mj : qs_M} {dj idx i ci pc1 : Nat} {T0 : Option (Unit × qs_D)} {F : Unit → qs_D → Option (ρ × qs_D)} {tm : List (Option (Option Nat))} {Tt : u_T} {N : Nat} (hf : qs_CF mm.1 idx y mj 0 false) (hdp : dj + 1 ≤ dp) (he : Sh[i]? = some (.inl (ci, tm))) (hci : vwCl[ci]? = some (y.cls, Tt, N)) (hM : ∀ Y, T0 = some Y → qs_Ctr l E A Sh y mj dj qs_rv [.ref i] D Y) (hw : (st.map fun v => v.category).sum ≤ 8) (hd : decode mm.2.1 pc = .ok (.invokevirtual idx, 3)) (hp : pc + 3 = pc1) (k : ∀ (r : Unit) (D1 : qs_D), T0 = some (r, D1) → qs_VO l E A Sh mm dp rv pc1 lv (st) D1 (F r D1)) : qs_VO l E A Sh mm dp rv pc lv (.ref i :: st) D (qs_bind T0 F) := by
  subst hp
  exact qs_callV (As := []) hf hdp he hci hM rfl hw hd rfl k
theorem qs_cV1i {y : MethodName} {mj : qs_M} {dj idx i ci pc1 : Nat} {v1 : Value} {T0 : Option (Int32 × qs_D)} {F : Int32 → qs_D → Option (ρ × qs_D)} {tm : List (Option (Option Nat))} {Tt : u_T} {N : Nat} (hf : qs_CF mm.1 idx y mj 1 false) (hdp : dj + 1 ≤ dp) (he : Sh[i]? = some (.inl (ci, tm))) (hci : vwCl[ci]? = some (y.cls, Tt, N)) (hM : ∀ Y, T0 = some Y → qs_Ctr l E A Sh y mj dj qs_ri [.ref i, v1] D Y) (hw : (st.map fun v => v.category).sum ≤ 8) (hd : decode mm.2.1 pc = .ok (.invokevirtual idx, 3)) (hp : pc + 3 = pc1) (k : ∀ (r : Int32) (D1 : qs_D), T0 = some (r, D1) → qs_VO l E A Sh mm dp rv pc1 lv (.int r :: st) D1 (F r D1)) : qs_VO l E A Sh mm dp rv pc lv (v1 :: .ref i :: st) D (qs_bind T0 F) := by
  subst hp
  exact qs_callV (As := [v1]) hf hdp he hci hM rfl hw hd rfl k
theorem qs_cV1r {y : MethodName} {mj : qs_M} {dj idx i ci pc1 : Nat} {v1 : Value} {T0 : Option (Nat × qs_D)} {F : Nat → qs_D → Option (ρ × qs_D)} {tm : List (Option (Option Nat))} {Tt : u_T} {N : Nat} (hf : qs_CF mm.1 idx y mj 1 false) (hdp : dj + 1 ≤ dp) (he : Sh[i]? = some (.inl (ci, tm))) (hci : vwCl[ci]? = some (y.cls, Tt, N)) (hM : ∀ Y, T0 = some Y → qs_Ctr l E A Sh y mj dj qs_rr [.ref i, v1] D Y) (hw : (st.map fun v => v.category).sum ≤ 8) (hd : decode mm.2.1 pc = .ok (.invokevirtual idx, 3)) (hp : pc + 3 = pc1) (k : ∀ (r : Nat) (D1 : qs_D), T0 = some (r, D1) → qs_VO l E A Sh mm dp rv pc1 lv (.ref r :: st) D1 (F r D1)) : qs_VO l E A Sh mm dp rv pc lv (v1 :: .ref i :: st) D (qs_bind T0 F) := by
  subst hp
  exact qs_callV (As := [v1]) hf hdp he hci hM rfl hw hd rfl k
theorem qs_cV1v {y : MethodName} {mj : qs_M} {dj idx i ci pc1 : Nat} {v1 : Value} {T0 : Option (Unit × qs_D)} {F : Unit → qs_D → Option (ρ × qs_D)} {tm : List (Option (Option Nat))} {Tt : u_T} {N : Nat} (hf : qs_CF mm.1 idx y mj 1 false) (hdp : dj + 1 ≤ dp) (he : Sh[i]? = some (.inl (ci, tm))) (hci : vwCl[ci]? = some (y.cls, Tt, N)) (hM : ∀ Y, T0 = some Y → qs_Ctr l E A Sh y mj dj qs_rv [.ref i, v1] D Y) (hw : (st.map fun v => v.category).sum ≤ 8) (hd : decode mm.2.1 pc = .ok (.invokevirtual idx, 3)) (hp : pc + 3 = pc1) (k : ∀ (r : Unit) (D1 : qs_D), T0 = some (r, D1) → qs_VO l E A Sh mm dp rv pc1 lv (st) D1 (F r D1)) : qs_VO l E A Sh mm dp rv pc lv (v1 :: .ref i :: st) D (qs_bind T0 F) := by
  subst hp
  exact qs_callV (As := [v1]) hf hdp he hci hM rfl hw hd rfl k
theorem qs_cV2i {y : MethodName} {mj : qs_M} {dj idx i ci pc1 : Nat} {v1 v2 : Value} {T0 : Option (Int32 × qs_D)} {F : Int32 → qs_D → Option (ρ × qs_D)} {tm : List (Option (Option Nat))} {Tt : u_T} {N : Nat} (hf : qs_CF mm.1 idx y mj 2 false) (hdp : dj + 1 ≤ dp) (he : Sh[i]? = some (.inl (ci, tm))) (hci : vwCl[ci]? = some (y.cls, Tt, N)) (hM : ∀ Y, T0 = some Y → qs_Ctr l E A Sh y mj dj qs_ri [.ref i, v1, v2] D Y) (hw : (st.map fun v => v.category).sum ≤ 8) (hd : decode mm.2.1 pc = .ok (.invokevirtual idx, 3)) (hp : pc + 3 = pc1) (k : ∀ (r : Int32) (D1 : qs_D), T0 = some (r, D1) → qs_VO l E A Sh mm dp rv pc1 lv (.int r :: st) D1 (F r D1)) : qs_VO l E A Sh mm dp rv pc lv (v2 :: v1 :: .ref i :: st) D (qs_bind T0 F) := by
  subst hp
  exact qs_callV (As := [v1, v2]) hf hdp he hci hM rfl hw hd rfl k
theorem qs_cV2v {y : MethodName} {mj : qs_M} {dj idx i ci pc1 : Nat} {v1 v2 : Value} {T0 : Option (Unit × qs_D)} {F : Unit → qs_D → Option (ρ × qs_D)} {tm : List (Option (Option Nat))} {Tt : u_T} {N : Nat} (hf : qs_CF mm.1 idx y mj 2 false) (hdp : dj + 1 ≤ dp) (he : Sh[i]? = some (.inl (ci, tm))) (hci : vwCl[ci]? = some (y.cls, Tt, N)) (hM : ∀ Y, T0 = some Y → qs_Ctr l E A Sh y mj dj qs_rv [.ref i, v1, v2] D Y) (hw : (st.map fun v => v.category).sum ≤ 8) (hd : decode mm.2.1 pc = .ok (.invokevirtual idx, 3)) (hp : pc + 3 = pc1) (k : ∀ (r : Unit) (D1 : qs_D), T0 = some (r, D1) → qs_VO l E A Sh mm dp rv pc1 lv (st) D1 (F r D1)) : qs_VO l E A Sh mm dp rv pc lv (v2 :: v1 :: .ref i :: st) D (qs_bind T0 F) := by
  subst hp
  exact qs_callV (As := [v1, v2]) hf hdp he hci hM rfl hw hd rfl k
theorem qs_cV3i {y : MethodName} {mj : qs_M} {dj idx i ci pc1 : Nat} {v1 v2 v3 : Value} {T0 : Option (Int32 × qs_D)} {F : Int32 → qs_D → Option (ρ × qs_D)} {tm : List (Option (Option Nat))} {Tt : u_T} {N : Nat} (hf : qs_CF mm.1 idx y mj 3 false) (hdp : dj + 1 ≤ dp) (he : Sh[i]? = some (.inl (ci, tm))) (hci : vwCl[ci]? = some (y.cls, Tt, N)) (hM : ∀ Y, T0 = some Y → qs_Ctr l E A Sh y mj dj qs_ri [.ref i, v1, v2, v3] D Y) (hw : (st.map fun v => v.category).sum ≤ 8) (hd : decode mm.2.1 pc = .ok (.invokevirtual idx, 3)) (hp : pc + 3 = pc1) (k : ∀ (r : Int32) (D1 : qs_D), T0 = some (r, D1) → qs_VO l E A Sh mm dp rv pc1 lv (.int r :: st) D1 (F r D1)) : qs_VO l E A Sh mm dp rv pc lv (v3 :: v2 :: v1 :: .ref i :: st) D (qs_bind T0 F) := by
  subst hp
  exact qs_callV (As := [v1, v2, v3]) hf hdp he hci hM rfl hw hd rfl k
theorem qs_cV3v {y : MethodName} {mj : qs_M} {dj idx i ci pc1 : Nat} {v1 v2 v3 : Value} {T0 : Option (Unit × qs_D)} {F : Unit → qs_D → Option (ρ × qs_D)} {tm : List (Option (Option Nat))} {Tt : u_T} {N : Nat} (hf : qs_CF mm.1 idx y mj 3 false) (hdp : dj + 1 ≤ dp) (he : Sh[i]? = some (.inl (ci, tm))) (hci : vwCl[ci]? = some (y.cls, Tt, N)) (hM : ∀ Y, T0 = some Y → qs_Ctr l E A Sh y mj dj qs_rv [.ref i, v1, v2, v3] D Y) (hw : (st.map fun v => v.category).sum ≤ 8) (hd : decode mm.2.1 pc = .ok (.invokevirtual idx, 3)) (hp : pc + 3 = pc1) (k : ∀ (r : Unit) (D1 : qs_D), T0 = some (r, D1) → qs_VO l E A Sh mm dp rv pc1 lv (st) D1 (F r D1)) : qs_VO l E A Sh mm dp rv pc lv (v3 :: v2 :: v1 :: .ref i :: st) D (qs_bind T0 F) := by
  subst hp
  exact qs_callV (As := [v1, v2, v3]) hf hdp he hci hM rfl hw hd rfl k
theorem qs_cV4i {y : MethodName} {mj : qs_M} {dj idx i ci pc1 : Nat} {v1 v2 v3 v4 : Value} {T0 : Option (Int32 × qs_D)} {F : Int32 → qs_D → Option (ρ × qs_D)} {tm : List (Option (Option Nat))} {Tt : u_T} {N : Nat} (hf : qs_CF mm.1 idx y mj 4 false) (hdp : dj + 1 ≤ dp) (he : Sh[i]? = some (.inl (ci, tm))) (hci : vwCl[ci]? = some (y.cls, Tt, N)) (hM : ∀ Y, T0 = some Y → qs_Ctr l E A Sh y mj dj qs_ri [.ref i, v1, v2, v3, v4] D Y) (hw : (st.map fun v => v.category).sum ≤ 8) (hd : decode mm.2.1 pc = .ok (.invokevirtual idx, 3)) (hp : pc + 3 = pc1) (k : ∀ (r : Int32) (D1 : qs_D), T0 = some (r, D1) → qs_VO l E A Sh mm dp rv pc1 lv (.int r :: st) D1 (F r D1)) : qs_VO l E A Sh mm dp rv pc lv (v4 :: v3 :: v2 :: v1 :: .ref i :: st) D (qs_bind T0 F) := by
  subst hp
  exact qs_callV (As := [v1, v2, v3, v4]) hf hdp he hci hM rfl hw hd rfl k
theorem qs_cV5i {y : MethodName} {mj : qs_M} {dj idx i ci pc1 : Nat} {v1 v2 v3 v4 v5 : Value} {T0 : Option (Int32 × qs_D)} {F : Int32 → qs_D → Option (ρ × qs_D)} {tm : List (Option (Option Nat))} {Tt : u_T} {N : Nat} (hf : qs_CF mm.1 idx y mj 5 false) (hdp : dj + 1 ≤ dp) (he : Sh[i]? = some (.inl (ci, tm))) (hci : vwCl[ci]? = some (y.cls, Tt, N)) (hM : ∀ Y, T0 = some Y → qs_Ctr l E A Sh y mj dj qs_ri [.ref i, v1, v2, v3, v4, v5] D Y) (hw : (st.map fun v => v.category).sum ≤ 8) (hd : decode mm.2.1 pc = .ok (.invokevirtual idx, 3)) (hp : pc + 3 = pc1) (k : ∀ (r : Int32) (D1 : qs_D), T0 = some (r, D1) → qs_VO l E A Sh mm dp rv pc1 lv (.int r :: st) D1 (F r D1)) : qs_VO l E A Sh mm dp rv pc lv (v5 :: v4 :: v3 :: v2 :: v1 :: .ref i :: st) D (qs_bind T0 F) := by
  subst hp
  exact qs_callV (As := [v1, v2, v3, v4, v5]) hf hdp he hci hM rfl hw hd rfl k
end QSC
/-! String's own methods, on the constants -/
section QSS
variable {l : Launch} {E : qs_E} {A : Nat → Prop} {D : qs_D}
theorem kS_coder {k0 : Nat} (hk : k0 < 14) : qs_Ctr l E A shX yJ0_coder_7d493 mJ0_coder_7d493 0 qs_ri [.ref (1000 + k0)] D (0, D) := by
  refine qs_enter (T := if (1 : Int32) = 0 then none else some (0, D)) (by decide +kernel) rfl (Nat.le_of_ble_eq_true rfl) ?_ (if_neg (by decide))
  show qs_VO l E A shX mJ0_coder_7d493 0 qs_ri 0 [(0, .ref (1000 + k0))] [] D _
  refine qs_gcomp wzJ0_38 dJ0_coder_7d493_0 rfl ?_
  refine qs_if_eq (tgt := 13) dJ0_coder_7d493_3 (by decide) rfl (fun h => absurd h (by decide)) (fun _ => ?_)
  refine qs_aload_n dJ0_coder_7d493_6 rfl rfl rfl ?_
  refine qs_scod hk wzJ0_15 dJ0_coder_7d493_7 rfl ?_
  refine qs_goto (tgt := 14) dJ0_coder_7d493_10 (by decide) ?_
  exact qs_nret (by decide) rfl dJ0_coder_7d493_14
theorem kS_lat {k0 : Nat} (hk : k0 < 14) : qs_Ctr l E A shX yJ0_isLatin1_aae02 mJ0_isLatin1_aae02 0 qs_ri [.ref (1000 + k0)] D (1, D) := by
  refine qs_enter (T := if (1 : Int32) = 0 then none else if (0 : Int32) = 0 then some (1, D) else none) (by decide +kernel) rfl (Nat.le_of_ble_eq_true rfl) ?_ ((if_neg (by decide)).trans (if_pos rfl))
  show qs_VO l E A shX mJ0_isLatin1_aae02 0 qs_ri 0 [(0, .ref (1000 + k0))] [] D _
  refine qs_gcomp wzJ0_38 dJ0_isLatin1_aae02_0 rfl ?_
  refine qs_if_eq (tgt := 17) dJ0_isLatin1_aae02_3 (by decide) rfl (fun h => absurd h (by decide)) (fun _ => ?_)
  refine qs_aload_n dJ0_isLatin1_aae02_6 rfl rfl rfl ?_
  refine qs_scod hk wzJ0_15 dJ0_isLatin1_aae02_7 rfl ?_
  refine qs_if_ne (tgt := 17) dJ0_isLatin1_aae02_10 (by decide) rfl (fun _ => ?_) (fun h => absurd rfl h)
  refine qs_iconst (1 : Int32) dJ0_isLatin1_aae02_13 (by decide) rfl ?_
  refine qs_goto (tgt := 18) dJ0_isLatin1_aae02_14 (by decide) ?_
  exact qs_nret (by decide) rfl dJ0_isLatin1_aae02_18
theorem qs_srec {k0 : Nat} (hk : k0 < 14) (s : State) (H : Heap) (locs : List Loc) (hB : qs_Bg E A s) (hS : va_S A s.heap H locs) : ∃ cell : Cell, H[E.2.2.1 (1000 + k0)]? = some cell ∧ cell.vm.isStatics = false ∧ s.vm.findClass "java/lang/String" = some cell.cls := vk_recv (adK := fun k => E.2.2.1 (1000 + k)) hB.2.2.2.2.1 hk hS
theorem qs_slen_ok : ∀ k0, k0 < 14 → Int32.ofNat (qs_slen.getD k0 0) >>> ((0 : Int32) &&& 31) = Int32.ofNat (qs_slen.getD k0 0) ∧ qs_slen.getD k0 0 < 2 ^ 31 := by decide +kernel
theorem kS_length {k0 : Nat} (hk : k0 < 14) : qs_Ctr l E A shX yJ0_length_8abf5 mJ0_length_8abf5 1 qs_ri [.ref (1000 + k0)] D (Int32.ofNat (qs_slen.getD k0 0), D) := by
  refine qs_enter (T := qs_bind (some ((0 : Int32), D)) (fun r D1 => some (Int32.ofNat (qs_slen.getD k0 0) >>> (r &&& 31), D1))) (by decide +kernel) rfl (Nat.le_of_ble_eq_true rfl) ?_ (congrArg (fun z => some (z, D)) (qs_slen_ok k0 hk).1)
  show qs_VO l E A shX mJ0_length_8abf5 1 qs_ri 0 [(0, .ref (1000 + k0))] [] D _
  refine qs_aload_n dJ0_length_8abf5_0 rfl rfl rfl ?_
  refine qs_sval hk wzJ0_9 dJ0_length_8abf5_1 rfl ?_
  refine qs_tblen hk dJ0_length_8abf5_4 rfl ?_
  refine qs_aload_n dJ0_length_8abf5_5 rfl rfl rfl ?_
  refine qs_callG (As := []) (rj := qs_ri) cfJ0_335 (Nat.le_of_ble_eq_true rfl) (fun s H locs hB hS _ => qs_srec hk s H locs hB hS) (fun Y hY => by cases hY; exact kS_coder hk) rfl (Nat.le_of_ble_eq_true rfl) dJ0_length_8abf5_6 rfl (fun r D1 _ => ?_)
  refine qs_ishr dJ0_length_8abf5_9 rfl ?_
  exact qs_iret rfl dJ0_length_8abf5_10
theorem kP_check {j n : Int32} {v : Value} (hj : 0 ≤ j ∧ j < n) (hv : v = .null ∨ v = .ref 4000) : qs_Ctr l E A shX yJ3_checkIndex_8e157 mJ3_checkIndex_8e157 0 qs_ri [.int j, .int n, v] D (j, D) := by
  have h0 : ¬ j < 0 := Int32.not_lt.mpr hj.1
  refine qs_enter (T := if j < 0 then none else if j < n then some (j, D) else none) (by decide +kernel) rfl (by rcases hv with rfl | rfl <;> exact Nat.le_of_ble_eq_true rfl) ?_ ((if_neg h0).trans (if_pos hj.2))
  have e : lv_args 0 [.int j, .int n, v] = [(0, .int j), (1, .int n), (2, v)] := by rfl
  rw [e]
  refine qs_iload_n dJ3_checkIndex_8e157_0 rfl rfl rfl ?_
  refine qs_if_lt (tgt := 9) dJ3_checkIndex_8e157_1 (by decide) rfl (fun h => absurd h h0) (fun _ => ?_)
  refine qs_iload_n dJ3_checkIndex_8e157_4 rfl rfl rfl ?_
  refine qs_iload_n dJ3_checkIndex_8e157_5 rfl rfl rfl ?_
  refine qs_icmp_lt (tgt := 16) dJ3_checkIndex_8e157_6 (by decide) rfl (fun _ => ?_) (fun h => absurd hj.2 h)
  refine qs_iload_n dJ3_checkIndex_8e157_16 rfl rfl rfl ?_
  exact qs_iret rfl dJ3_checkIndex_8e157_17
theorem kS_check {j n : Int32} (hj : 0 ≤ j ∧ j < n) : qs_Ctr l E A shX yJ0_checkIndex_df160 mJ0_checkIndex_df160 1 qs_rv [.int j, .int n] D ((), D) := by
  refine qs_enter (T := qs_bind (some (j, D)) (fun _ D1 => some ((), D1))) (by decide +kernel) rfl (Nat.le_of_ble_eq_true rfl) ?_ rfl
  show qs_VO l E A shX mJ0_checkIndex_df160 1 qs_rv 0 [(0, .int j), (1, .int n)] [] D _
  refine qs_iload_n dJ0_checkIndex_df160_0 rfl rfl rfl ?_
  refine qs_iload_n dJ0_checkIndex_df160_1 rfl rfl rfl ?_
  refine qs_gfmt wzJ0_1053 dJ0_checkIndex_df160_2 rfl (fun v hv => ?_)
  refine qs_callS (As := [.int j, .int n, v]) (st := []) (rj := qs_ri) cfJ0_1059 (Nat.le_of_ble_eq_true rfl) (fun Y hY => by cases hY; exact kP_check hj hv) rfl (Nat.le_of_ble_eq_true rfl) dJ0_checkIndex_df160_5 rfl (fun r D1 _ => ?_)
  refine qs_pop (v := .int r) dJ0_checkIndex_df160_8 rfl rfl ?_
  exact qs_vret rfl dJ0_checkIndex_df160_9
theorem qs_sbyt_ok : ∀ k0, k0 < 14 → ∀ j, j < qs_slen.getD k0 0 → ((((qs_sbyt.getD k0 []).getD j 0 &&& 255).toUInt32 % 65536).toInt32 = (qs_sbyt.getD k0 []).getD j 0 ∧ narrow .char (.int ((qs_sbyt.getD k0 []).getD j 0)) = .int ((qs_sbyt.getD k0 []).getD j 0)) := by decide +kernel
theorem kL_charAt {k0 : Nat} {j : Int32} (hk : k0 < 14) (hj : 0 ≤ j ∧ j < Int32.ofNat (qs_slen.getD k0 0)) : qs_Ctr l E A shX yJ1_charAt_3b067 mJ1_charAt_3b067 2 qs_ri [.ref (3000 + k0), .int j] D ((qs_sbyt.getD k0 []).getD j.toNatClampNeg 0, D) := by
  have hn := (qs_slen_ok k0 hk).2
  have hz := qs_sbyt_ok k0 hk j.toNatClampNeg (qs_in_lt hn hj)
  refine qs_enter (T := qs_bind (some ((), D)) (fun _ D1 => some ((qs_sbyt.getD k0 []).getD j.toNatClampNeg 0, D1))) (by decide +kernel) rfl (Nat.le_of_ble_eq_true rfl) ?_ rfl
  show qs_VO l E A shX mJ1_charAt_3b067 2 qs_ri 0 [(0, .ref (3000 + k0)), (1, .int j)] [] D _
  refine qs_iload_n dJ1_charAt_3b067_0 rfl rfl rfl ?_
  refine qs_aload_n dJ1_charAt_3b067_1 rfl rfl rfl ?_
  refine qs_tblen hk dJ1_charAt_3b067_2 rfl ?_
  refine qs_callS (As := [.int j, .int (Int32.ofNat (qs_slen.getD k0 0))]) (st := []) (rj := qs_rv) cfJ1_9 (Nat.le_of_ble_eq_true rfl) (fun Y hY => by cases hY; exact kS_check hj) rfl (Nat.le_of_ble_eq_true rfl) dJ1_charAt_3b067_3 rfl (fun r D1 _ => ?_)
  refine qs_aload_n dJ1_charAt_3b067_6 rfl rfl rfl ?_
  refine qs_iload_n dJ1_charAt_3b067_7 rfl rfl rfl ?_
  refine qs_tbald hk hj hn dJ1_charAt_3b067_8 rfl ?_
  refine qs_sipush (255 : Int32) dJ1_charAt_3b067_9 (by decide) rfl ?_
  refine qs_iand dJ1_charAt_3b067_12 rfl ?_
  refine qs_i2c dJ1_charAt_3b067_13 rfl ?_
  rw [hz.1]
  exact qs_nret hz.2 rfl dJ1_charAt_3b067_14
theorem kS_charAt {k0 : Nat} {j : Int32} (hk : k0 < 14) (hj : 0 ≤ j ∧ j < Int32.ofNat (qs_slen.getD k0 0)) : qs_Ctr l E A shX yJ0_charAt_5068e mJ0_charAt_5068e 3 qs_ri [.ref (1000 + k0), .int j] D ((qs_sbyt.getD k0 []).getD j.toNatClampNeg 0, D) := by
  have hn := (qs_slen_ok k0 hk).2
  have hz := qs_sbyt_ok k0 hk j.toNatClampNeg (qs_in_lt hn hj)
  refine qs_enter (T := qs_bind (some ((1 : Int32), D)) (fun r D1 => if r = 0 then none else qs_bind (some ((qs_sbyt.getD k0 []).getD j.toNatClampNeg 0, D1)) (fun _ D2 => some ((qs_sbyt.getD k0 []).getD j.toNatClampNeg 0, D2)))) (by decide +kernel) rfl (Nat.le_of_ble_eq_true rfl) ?_ (show (if (1 : Int32) = 0 then none else some ((qs_sbyt.getD k0 []).getD j.toNatClampNeg 0, D)) = some ((qs_sbyt.getD k0 []).getD j.toNatClampNeg 0, D) from if_neg (by decide))
  show qs_VO l E A shX mJ0_charAt_5068e 3 qs_ri 0 [(0, .ref (1000 + k0)), (1, .int j)] [] D _
  refine qs_aload_n dJ0_charAt_5068e_0 rfl rfl rfl ?_
  refine qs_callG (As := []) (rj := qs_ri) cfJ0_492 (Nat.le_of_ble_eq_true rfl) (fun s H locs hB hS _ => qs_srec hk s H locs hB hS) (fun Y hY => by cases hY; exact kS_lat hk) rfl (Nat.le_of_ble_eq_true rfl) dJ0_charAt_5068e_1 rfl (fun r D1 hr => ?_)
  cases hr
  refine qs_if_eq (tgt := 16) dJ0_charAt_5068e_4 (by decide) rfl (fun h => absurd h (by decide)) (fun _ => ?_)
  refine qs_aload_n dJ0_charAt_5068e_7 rfl rfl rfl ?_
  refine qs_sval hk wzJ0_9 dJ0_charAt_5068e_8 rfl ?_
  refine qs_iload_n dJ0_charAt_5068e_11 rfl rfl rfl ?_
  refine qs_callS (As := [.ref (3000 + k0), .int j]) (st := []) (rj := qs_ri) cfJ0_495 (Nat.le_of_ble_eq_true rfl) (fun Y hY => by cases hY; exact kL_charAt hk hj) rfl (Nat.le_of_ble_eq_true rfl) dJ0_charAt_5068e_12 rfl (fun r D1 hr => ?_)
  cases hr
  exact qs_nret hz.2 rfl dJ0_charAt_5068e_15
end QSS
theorem qs_strlen {ρ : Type} {l : Launch} {E : qs_E} {A : Nat → Prop} {mm : qs_M} {dp : Nat} {rv : ρ → Option Value} {pc : Nat} {lv : List (Nat × Value)} {st : List Value} {D : qs_D} {T : Option (ρ × qs_D)} {idx w pc1 : Nat} (hf : qs_CF mm.1 idx yJ0_length_8abf5 mJ0_length_8abf5 0 false) (hw : qs_isW w) (hdp : 4 ≤ dp) (hs : (st.map fun v => v.category).sum ≤ 8) (hd : decode mm.2.1 pc = .ok (.invokevirtual idx, 3)) (hp : pc + 3 = pc1) (k : qs_VO l E A shX mm dp rv pc1 lv (.int (qs_sl w) :: st) D T) : qs_VO l E A shX mm dp rv pc lv (.ref w :: st) D T := by
  subst hp
  obtain ⟨k0, hk, rfl⟩ : ∃ k0, k0 < 14 ∧ w = 1000 + k0 := ⟨w - 1000, by have := hw.1; have := hw.2; omega, by have := hw.1; omega⟩
  have e : qs_sl (1000 + k0) = Int32.ofNat (qs_slen.getD k0 0) := by unfold qs_sl; rw [Nat.add_sub_cancel_left]
  rw [e] at k
  exact qs_callG (T0 := some (Int32.ofNat (qs_slen.getD k0 0), D)) (F := fun _ _ => T) (As := []) (rj := qs_ri) hf (by omega : 1 + 1 ≤ dp) (fun s H locs hB hS _ => qs_srec hk s H locs hB hS) (fun Y hY => by cases hY; exact kS_length hk) rfl hs hd rfl (fun r D1 hr => by cases hr; exact k)
theorem qs_charat {ρ : Type} {l : Launch} {E : qs_E} {A : Nat → Prop} {mm : qs_M} {dp : Nat} {rv : ρ → Option Value} {pc : Nat} {lv : List (Nat × Value)} {st : List Value} {D : qs_D} {T : Option (ρ × qs_D)} {idx w pc1 : Nat} {j : Int32} (hf : qs_CF mm.1 idx yJ0_charAt_5068e mJ0_charAt_5068e 1 false) (hw : qs_isW w) (hdp : 4 ≤ dp) (hs : (st.map fun v => v.category).sum ≤ 8) (hd : decode mm.2.1 pc = .ok (.invokevirtual idx, 3)) (hp : pc + 3 = pc1) (k : 0 ≤ j ∧ j < qs_sl w → qs_VO l E A shX mm dp rv pc1 lv (.int (qs_sc w j) :: st) D T) : qs_VO l E A shX mm dp rv pc lv (.int j :: .ref w :: st) D (qs_gs j w T) := by
  subst hp
  unfold qs_gs
  refine qs_ite (fun h => ?_) (fun _ => qs_none)
  have k := k h
  obtain ⟨k0, hk, rfl⟩ : ∃ k0, k0 < 14 ∧ w = 1000 + k0 := ⟨w - 1000, by have := hw.1; have := hw.2; omega, by have := hw.1; omega⟩
  have e : qs_sl (1000 + k0) = Int32.ofNat (qs_slen.getD k0 0) := by unfold qs_sl; rw [Nat.add_sub_cancel_left]
  have e2 : qs_sc (1000 + k0) j = (qs_sbyt.getD k0 []).getD j.toNatClampNeg 0 := by unfold qs_sc; rw [Nat.add_sub_cancel_left]
  rw [e] at h
  rw [e2] at k
  exact qs_callG (T0 := some ((qs_sbyt.getD k0 []).getD j.toNatClampNeg 0, D)) (F := fun _ _ => T) (As := [.int j]) (rj := qs_ri) hf (by omega : 3 + 1 ≤ dp) (fun s H locs hB hS _ => qs_srec hk s H locs hB hS) (fun Y hY => by cases hY; exact kS_charAt hk h) rfl hs hd rfl (fun r D1 hr => by cases hr; exact k)
