def fX1_splitSet_L4 (r0 : Nat) : Nat → Int32 → Int32 → qs_D → Option (Int32 × qs_D)
  | 0, _, _, _ => none
  | n + 1, w1, w2, D => (if (D r0 5) ≤ w2 then (some (w1, D)) else (qs_g w2 8 (qs_let (w1 ||| ((D (r0 + 4 + w2.toNatClampNeg) 3) <<< (w2 &&& 31))) (fun v5 => (qs_let (w2 + (1 : Int32)) (fun v6 => (fX1_splitSet_L4 r0 n v5 v6 D)))))))
set_option maxRecDepth 20000 in
theorem lX1_splitSet_L4 {l : Launch} {E : qs_E} {A : Nat → Prop} {r0 : Nat} (h0 : qs_isK r0) : ∀ (n : Nat) (w1 : Int32) (w2 : Int32) (D : qs_D), qs_VO l E A shX mX1_splitSet 0 qs_ri 4 [(0, .ref r0), (1, .int w1), (2, .int w2)] [] D (fX1_splitSet_L4 r0 n w1 w2 D) := by
  intro n
  induction n with
  | zero => intro w1 w2 D; exact qs_none
  | succ n ih =>
    intro w1 w2 D
    unfold fX1_splitSet_L4
    refine qs_iload_n dX1_splitSet_4 rfl rfl rfl ?_
    refine qs_aload_n dX1_splitSet_5 rfl rfl rfl ?_
    refine qs_getI ffX1_27 (qs_k0 h0) rfl dX1_splitSet_6 rfl ?_
    refine qs_icmp_ge (tgt := 32) dX1_splitSet_9 (by decide) rfl (fun g3 => ?_) (fun g3 => ?_)
    · refine qs_iload_n dX1_splitSet_32 rfl rfl rfl ?_
      exact qs_iret rfl dX1_splitSet_33
    · refine qs_iload_n dX1_splitSet_12 rfl rfl rfl ?_
      refine qs_aload_n dX1_splitSet_13 rfl rfl rfl ?_
      refine qs_getR ffX1_39 (qs_k0 h0) rfl dX1_splitSet_14 rfl ?_
      refine qs_iload_n dX1_splitSet_17 rfl rfl rfl ?_
      refine qs_aald (kd := 2) (C := RX0) (g := fun j => r0 + 4 + j) rfl (by decide) (qs_kA h0) (by decide) dX1_splitSet_18 rfl (fun g4 => ?_)
      refine qs_getI ffX1_122 (qs_kd h0 g4) rfl dX1_splitSet_19 rfl ?_
      refine qs_iload_n dX1_splitSet_22 rfl rfl rfl ?_
      refine qs_ishl dX1_splitSet_23 rfl ?_
      refine qs_ior dX1_splitSet_24 rfl ?_
      refine qs_istore_n (fun v5 => [(1, .int v5), (0, .ref r0), (2, .int w2)]) dX1_splitSet_25 rfl (by decide) (fun _ => rfl) rfl (fun v5 => ?_)
      refine qs_iinc (fun v6 => [(2, .int v6), (1, .int v5), (0, .ref r0)]) (1 : Int32) dX1_splitSet_26 rfl (by decide) (by decide) (fun _ => rfl) rfl (fun v6 => ?_)
      refine qs_goto (tgt := 4) dX1_splitSet_29 (by decide) ?_
      exact qs_sub [2, 1, 0] rfl (ih v5 v6 D)
def fX1_splitSet (r0 : Nat) (D : qs_D) : Option (Int32 × qs_D) := (qs_let (0 : Int32) (fun v1 => (qs_let (0 : Int32) (fun v2 => (fX1_splitSet_L4 r0 qs_F v1 v2 D)))))
set_option maxRecDepth 20000 in
theorem kX1_splitSet {l : Launch} {E : qs_E} {A : Nat → Prop} {r0 : Nat} {D : qs_D} {X : Int32 × qs_D} (h0 : qs_isK r0) (hX : fX1_splitSet r0 D = some X) : qs_Ctr l E A shX yX1_splitSet mX1_splitSet 0 qs_ri [.ref r0] D X := by
  refine qs_enter (plainFor_of_name (by decide)) rfl (Nat.le_of_ble_eq_true rfl) ?_ hX
  show qs_VO l E A shX mX1_splitSet 0 qs_ri 0 [(0, .ref r0)] [] D (fX1_splitSet r0 D)
  unfold fX1_splitSet
  refine qs_iconst (0 : Int32) dX1_splitSet_0 (by decide) rfl ?_
  refine qs_istore_n (fun v1 => [(1, .int v1), (0, .ref r0)]) dX1_splitSet_1 rfl (by decide) (fun _ => rfl) rfl (fun v1 => ?_)
  refine qs_iconst (0 : Int32) dX1_splitSet_2 (by decide) rfl ?_
  refine qs_istore_n (fun v2 => [(2, .int v2), (1, .int v1), (0, .ref r0)]) dX1_splitSet_3 rfl (by decide) (fun _ => rfl) rfl (fun v2 => ?_)
  exact qs_sub [2, 1, 0] rfl (lX1_splitSet_L4 h0 qs_F v1 v2 D)
def fX1_offSet_L4 (r0 : Nat) : Nat → Int32 → Int32 → qs_D → Option (Int32 × qs_D)
  | 0, _, _, _ => none
  | n + 1, w1, w2, D => (if (D r0 5) ≤ w2 then (some (w1, D)) else (qs_g w2 8 (qs_let (w1 ||| ((D (r0 + 4 + w2.toNatClampNeg) 4) <<< (w2 &&& 31))) (fun v5 => (qs_let (w2 + (1 : Int32)) (fun v6 => (fX1_offSet_L4 r0 n v5 v6 D)))))))
set_option maxRecDepth 20000 in
theorem lX1_offSet_L4 {l : Launch} {E : qs_E} {A : Nat → Prop} {r0 : Nat} (h0 : qs_isK r0) : ∀ (n : Nat) (w1 : Int32) (w2 : Int32) (D : qs_D), qs_VO l E A shX mX1_offSet 0 qs_ri 4 [(0, .ref r0), (1, .int w1), (2, .int w2)] [] D (fX1_offSet_L4 r0 n w1 w2 D) := by
  intro n
  induction n with
  | zero => intro w1 w2 D; exact qs_none
  | succ n ih =>
    intro w1 w2 D
    unfold fX1_offSet_L4
    refine qs_iload_n dX1_offSet_4 rfl rfl rfl ?_
    refine qs_aload_n dX1_offSet_5 rfl rfl rfl ?_
    refine qs_getI ffX1_27 (qs_k0 h0) rfl dX1_offSet_6 rfl ?_
    refine qs_icmp_ge (tgt := 32) dX1_offSet_9 (by decide) rfl (fun g3 => ?_) (fun g3 => ?_)
    · refine qs_iload_n dX1_offSet_32 rfl rfl rfl ?_
      exact qs_iret rfl dX1_offSet_33
    · refine qs_iload_n dX1_offSet_12 rfl rfl rfl ?_
      refine qs_aload_n dX1_offSet_13 rfl rfl rfl ?_
      refine qs_getR ffX1_39 (qs_k0 h0) rfl dX1_offSet_14 rfl ?_
      refine qs_iload_n dX1_offSet_17 rfl rfl rfl ?_
      refine qs_aald (kd := 2) (C := RX0) (g := fun j => r0 + 4 + j) rfl (by decide) (qs_kA h0) (by decide) dX1_offSet_18 rfl (fun g4 => ?_)
      refine qs_getI ffX1_96 (qs_kd h0 g4) rfl dX1_offSet_19 rfl ?_
      refine qs_iload_n dX1_offSet_22 rfl rfl rfl ?_
      refine qs_ishl dX1_offSet_23 rfl ?_
      refine qs_ior dX1_offSet_24 rfl ?_
      refine qs_istore_n (fun v5 => [(1, .int v5), (0, .ref r0), (2, .int w2)]) dX1_offSet_25 rfl (by decide) (fun _ => rfl) rfl (fun v5 => ?_)
      refine qs_iinc (fun v6 => [(2, .int v6), (1, .int v5), (0, .ref r0)]) (1 : Int32) dX1_offSet_26 rfl (by decide) (by decide) (fun _ => rfl) rfl (fun v6 => ?_)
      refine qs_goto (tgt := 4) dX1_offSet_29 (by decide) ?_
      exact qs_sub [2, 1, 0] rfl (ih v5 v6 D)
def fX1_offSet (r0 : Nat) (D : qs_D) : Option (Int32 × qs_D) := (qs_let (0 : Int32) (fun v1 => (qs_let (0 : Int32) (fun v2 => (fX1_offSet_L4 r0 qs_F v1 v2 D)))))
set_option maxRecDepth 20000 in
theorem kX1_offSet {l : Launch} {E : qs_E} {A : Nat → Prop} {r0 : Nat} {D : qs_D} {X : Int32 × qs_D} (h0 : qs_isK r0) (hX : fX1_offSet r0 D = some X) : qs_Ctr l E A shX yX1_offSet mX1_offSet 0 qs_ri [.ref r0] D X := by
  refine qs_enter (plainFor_of_name (by decide)) rfl (Nat.le_of_ble_eq_true rfl) ?_ hX
  show qs_VO l E A shX mX1_offSet 0 qs_ri 0 [(0, .ref r0)] [] D (fX1_offSet r0 D)
  unfold fX1_offSet
  refine qs_iconst (0 : Int32) dX1_offSet_0 (by decide) rfl ?_
  refine qs_istore_n (fun v1 => [(1, .int v1), (0, .ref r0)]) dX1_offSet_1 rfl (by decide) (fun _ => rfl) rfl (fun v1 => ?_)
  refine qs_iconst (0 : Int32) dX1_offSet_2 (by decide) rfl ?_
  refine qs_istore_n (fun v2 => [(2, .int v2), (1, .int v1), (0, .ref r0)]) dX1_offSet_3 rfl (by decide) (fun _ => rfl) rfl (fun v2 => ?_)
  exact qs_sub [2, 1, 0] rfl (lX1_offSet_L4 h0 qs_F v1 v2 D)
def fX1_endangeredSet_L4 (r0 : Nat) : Nat → Int32 → Int32 → qs_D → Option (Int32 × qs_D)
  | 0, _, _, _ => none
  | n + 1, w1, w2, D => (if (D r0 5) ≤ w2 then (some (w1, D)) else (qs_g w2 8 (qs_bind (fX0_isCooking (r0 + 4 + w2.toNatClampNeg) D) (fun x6 D5 => (if x6 = 0 then (qs_let (w2 + (1 : Int32)) (fun v9 => (fX1_endangeredSet_L4 r0 n w1 v9 D5))) else (qs_g w2 8 (qs_bind (fX0_needs (r0 + 4 + w2.toNatClampNeg) (D5 r0 1) D5) (fun x12 D11 => (if x12 ≤ (D5 r0 0) then (qs_let (w2 + (1 : Int32)) (fun v15 => (fX1_endangeredSet_L4 r0 n w1 v15 D11))) else (qs_let (w1 ||| ((1 : Int32) <<< (w2 &&& 31))) (fun v16 => (qs_let (w2 + (1 : Int32)) (fun v17 => (fX1_endangeredSet_L4 r0 n v16 v17 D11))))))))))))))
set_option maxRecDepth 20000 in
theorem lX1_endangeredSet_L4 {l : Launch} {E : qs_E} {A : Nat → Prop} {r0 : Nat} (h0 : qs_isK r0) : ∀ (n : Nat) (w1 : Int32) (w2 : Int32) (D : qs_D), qs_VO l E A shX mX1_endangeredSet 1 qs_ri 4 [(0, .ref r0), (1, .int w1), (2, .int w2)] [] D (fX1_endangeredSet_L4 r0 n w1 w2 D) := by
  intro n
  induction n with
  | zero => intro w1 w2 D; exact qs_none
  | succ n ih =>
    intro w1 w2 D
    unfold fX1_endangeredSet_L4
    refine qs_iload_n dX1_endangeredSet_4 rfl rfl rfl ?_
    refine qs_aload_n dX1_endangeredSet_5 rfl rfl rfl ?_
    refine qs_getI ffX1_27 (qs_k0 h0) rfl dX1_endangeredSet_6 rfl ?_
    refine qs_icmp_ge (tgt := 56) dX1_endangeredSet_9 (by decide) rfl (fun g3 => ?_) (fun g3 => ?_)
    · refine qs_iload_n dX1_endangeredSet_56 rfl rfl rfl ?_
      exact qs_iret rfl dX1_endangeredSet_57
    · refine qs_aload_n dX1_endangeredSet_12 rfl rfl rfl ?_
      refine qs_getR ffX1_39 (qs_k0 h0) rfl dX1_endangeredSet_13 rfl ?_
      refine qs_iload_n dX1_endangeredSet_16 rfl rfl rfl ?_
      refine qs_aald (kd := 2) (C := RX0) (g := fun j => r0 + 4 + j) rfl (by decide) (qs_kA h0) (by decide) dX1_endangeredSet_17 rfl (fun g4 => ?_)
      refine qs_cV0i cfX1_79 (Nat.le_of_ble_eq_true rfl) (qs_kd h0 g4) rfl (fun Y hY => kX0_isCooking (qs_kd h0 g4) hY) (Nat.le_of_ble_eq_true rfl) dX1_endangeredSet_18 rfl (fun x6 D5 g7 => ?_)
      refine qs_if_eq (tgt := 50) dX1_endangeredSet_21 (by decide) rfl (fun g8 => ?_) (fun g8 => ?_)
      · refine qs_iinc (fun v9 => [(2, .int v9), (0, .ref r0), (1, .int w1)]) (1 : Int32) dX1_endangeredSet_50 rfl (by decide) (by decide) (fun _ => rfl) rfl (fun v9 => ?_)
        refine qs_goto (tgt := 4) dX1_endangeredSet_53 (by decide) ?_
        exact qs_sub [1, 2, 0] rfl (ih w1 v9 D5)
      · refine qs_aload_n dX1_endangeredSet_24 rfl rfl rfl ?_
        refine qs_getI ffX1_9 (qs_k0 h0) rfl dX1_endangeredSet_25 rfl ?_
        refine qs_aload_n dX1_endangeredSet_28 rfl rfl rfl ?_
        refine qs_getR ffX1_39 (qs_k0 h0) rfl dX1_endangeredSet_29 rfl ?_
        refine qs_iload_n dX1_endangeredSet_32 rfl rfl rfl ?_
        refine qs_aald (kd := 2) (C := RX0) (g := fun j => r0 + 4 + j) rfl (by decide) (qs_kA h0) (by decide) dX1_endangeredSet_33 rfl (fun g10 => ?_)
        refine qs_aload_n dX1_endangeredSet_34 rfl rfl rfl ?_
        refine qs_getI ffX1_15 (qs_k0 h0) rfl dX1_endangeredSet_35 rfl ?_
        refine qs_cV1i cfX1_128 (Nat.le_of_ble_eq_true rfl) (qs_kd h0 g10) rfl (fun Y hY => kX0_needs (qs_kd h0 g10) hY) (Nat.le_of_ble_eq_true rfl) dX1_endangeredSet_38 rfl (fun x12 D11 g13 => ?_)
        refine qs_icmp_ge (tgt := 50) dX1_endangeredSet_41 (by decide) rfl (fun g14 => ?_) (fun g14 => ?_)
        · refine qs_iinc (fun v15 => [(2, .int v15), (0, .ref r0), (1, .int w1)]) (1 : Int32) dX1_endangeredSet_50 rfl (by decide) (by decide) (fun _ => rfl) rfl (fun v15 => ?_)
          refine qs_goto (tgt := 4) dX1_endangeredSet_53 (by decide) ?_
          exact qs_sub [1, 2, 0] rfl (ih w1 v15 D11)
        · refine qs_iload_n dX1_endangeredSet_44 rfl rfl rfl ?_
          refine qs_iconst (1 : Int32) dX1_endangeredSet_45 (by decide) rfl ?_
          refine qs_iload_n dX1_endangeredSet_46 rfl rfl rfl ?_
          refine qs_ishl dX1_endangeredSet_47 rfl ?_
          refine qs_ior dX1_endangeredSet_48 rfl ?_
          refine qs_istore_n (fun v16 => [(1, .int v16), (0, .ref r0), (2, .int w2)]) dX1_endangeredSet_49 rfl (by decide) (fun _ => rfl) rfl (fun v16 => ?_)
          refine qs_iinc (fun v17 => [(2, .int v17), (1, .int v16), (0, .ref r0)]) (1 : Int32) dX1_endangeredSet_50 rfl (by decide) (by decide) (fun _ => rfl) rfl (fun v17 => ?_)
          refine qs_goto (tgt := 4) dX1_endangeredSet_53 (by decide) ?_
          exact qs_sub [2, 1, 0] rfl (ih v16 v17 D11)
def fX1_endangeredSet (r0 : Nat) (D : qs_D) : Option (Int32 × qs_D) := (qs_let (0 : Int32) (fun v1 => (qs_let (0 : Int32) (fun v2 => (fX1_endangeredSet_L4 r0 qs_F v1 v2 D)))))
set_option maxRecDepth 20000 in
theorem kX1_endangeredSet {l : Launch} {E : qs_E} {A : Nat → Prop} {r0 : Nat} {D : qs_D} {X : Int32 × qs_D} (h0 : qs_isK r0) (hX : fX1_endangeredSet r0 D = some X) : qs_Ctr l E A shX yX1_endangeredSet mX1_endangeredSet 1 qs_ri [.ref r0] D X := by
  refine qs_enter (plainFor_of_name (by decide)) rfl (Nat.le_of_ble_eq_true rfl) ?_ hX
  show qs_VO l E A shX mX1_endangeredSet 1 qs_ri 0 [(0, .ref r0)] [] D (fX1_endangeredSet r0 D)
  unfold fX1_endangeredSet
  refine qs_iconst (0 : Int32) dX1_endangeredSet_0 (by decide) rfl ?_
  refine qs_istore_n (fun v1 => [(1, .int v1), (0, .ref r0)]) dX1_endangeredSet_1 rfl (by decide) (fun _ => rfl) rfl (fun v1 => ?_)
  refine qs_iconst (0 : Int32) dX1_endangeredSet_2 (by decide) rfl ?_
  refine qs_istore_n (fun v2 => [(2, .int v2), (1, .int v1), (0, .ref r0)]) dX1_endangeredSet_3 rfl (by decide) (fun _ => rfl) rfl (fun v2 => ?_)
  exact qs_sub [2, 1, 0] rfl (lX1_endangeredSet_L4 h0 qs_F v1 v2 D)
def fX1_givenForAll_L4 (r0 : Nat) : Nat → Int32 → Int32 → qs_D → Option (Int32 × qs_D)
  | 0, _, _, _ => none
  | n + 1, w1, w2, D => (if (D r0 5) ≤ w2 then (some (w1, D)) else (qs_bind (fX1_given r0 w2 D) (fun x5 D4 => (qs_let (w1 + x5) (fun v7 => (qs_let (w2 + (1 : Int32)) (fun v8 => (fX1_givenForAll_L4 r0 n v7 v8 D4))))))))
set_option maxRecDepth 20000 in
theorem lX1_givenForAll_L4 {l : Launch} {E : qs_E} {A : Nat → Prop} {r0 : Nat} (h0 : qs_isK r0) : ∀ (n : Nat) (w1 : Int32) (w2 : Int32) (D : qs_D), qs_VO l E A shX mX1_givenForAll 3 qs_ri 4 [(0, .ref r0), (1, .int w1), (2, .int w2)] [] D (fX1_givenForAll_L4 r0 n w1 w2 D) := by
  intro n
  induction n with
  | zero => intro w1 w2 D; exact qs_none
  | succ n ih =>
    intro w1 w2 D
    unfold fX1_givenForAll_L4
    refine qs_iload_n dX1_givenForAll_4 rfl rfl rfl ?_
    refine qs_aload_n dX1_givenForAll_5 rfl rfl rfl ?_
    refine qs_getI ffX1_27 (qs_k0 h0) rfl dX1_givenForAll_6 rfl ?_
    refine qs_icmp_ge (tgt := 26) dX1_givenForAll_9 (by decide) rfl (fun g3 => ?_) (fun g3 => ?_)
    · refine qs_iload_n dX1_givenForAll_26 rfl rfl rfl ?_
      exact qs_iret rfl dX1_givenForAll_27
    · refine qs_iload_n dX1_givenForAll_12 rfl rfl rfl ?_
      refine qs_aload_n dX1_givenForAll_13 rfl rfl rfl ?_
      refine qs_iload_n dX1_givenForAll_14 rfl rfl rfl ?_
      refine qs_cV1i cfX1_104 (Nat.le_of_ble_eq_true rfl) (qs_k0 h0) rfl (fun Y hY => kX1_given h0 hY) (Nat.le_of_ble_eq_true rfl) dX1_givenForAll_15 rfl (fun x5 D4 g6 => ?_)
      refine qs_iadd dX1_givenForAll_18 rfl ?_
      refine qs_istore_n (fun v7 => [(1, .int v7), (0, .ref r0), (2, .int w2)]) dX1_givenForAll_19 rfl (by decide) (fun _ => rfl) rfl (fun v7 => ?_)
      refine qs_iinc (fun v8 => [(2, .int v8), (1, .int v7), (0, .ref r0)]) (1 : Int32) dX1_givenForAll_20 rfl (by decide) (by decide) (fun _ => rfl) rfl (fun v8 => ?_)
      refine qs_goto (tgt := 4) dX1_givenForAll_23 (by decide) ?_
      exact qs_sub [2, 1, 0] rfl (ih v7 v8 D4)
def fX1_givenForAll (r0 : Nat) (D : qs_D) : Option (Int32 × qs_D) := (qs_let (0 : Int32) (fun v1 => (qs_let (0 : Int32) (fun v2 => (fX1_givenForAll_L4 r0 qs_F v1 v2 D)))))
set_option maxRecDepth 20000 in
theorem kX1_givenForAll {l : Launch} {E : qs_E} {A : Nat → Prop} {r0 : Nat} {D : qs_D} {X : Int32 × qs_D} (h0 : qs_isK r0) (hX : fX1_givenForAll r0 D = some X) : qs_Ctr l E A shX yX1_givenForAll mX1_givenForAll 3 qs_ri [.ref r0] D X := by
  refine qs_enter (plainFor_of_name (by decide)) rfl (Nat.le_of_ble_eq_true rfl) ?_ hX
  show qs_VO l E A shX mX1_givenForAll 3 qs_ri 0 [(0, .ref r0)] [] D (fX1_givenForAll r0 D)
  unfold fX1_givenForAll
  refine qs_iconst (0 : Int32) dX1_givenForAll_0 (by decide) rfl ?_
  refine qs_istore_n (fun v1 => [(1, .int v1), (0, .ref r0)]) dX1_givenForAll_1 rfl (by decide) (fun _ => rfl) rfl (fun v1 => ?_)
  refine qs_iconst (0 : Int32) dX1_givenForAll_2 (by decide) rfl ?_
  refine qs_istore_n (fun v2 => [(2, .int v2), (1, .int v1), (0, .ref r0)]) dX1_givenForAll_3 rfl (by decide) (fun _ => rfl) rfl (fun v2 => ?_)
  exact qs_sub [2, 1, 0] rfl (lX1_givenForAll_L4 h0 qs_F v1 v2 D)
def fX1_dearest_L6 (r0 : Nat) : Nat → Int32 → Int32 → Int32 → qs_D → Option (Int32 × qs_D)
  | 0, _, _, _, _ => none
  | n + 1, w1, w2, w3, D => (if (D r0 5) ≤ w3 then (some (w1, D)) else (qs_bind (fX1_given r0 w3 D) (fun x6 D5 => (if x6 ≤ w2 then (qs_let (w3 + (1 : Int32)) (fun v9 => (fX1_dearest_L6 r0 n w1 w2 v9 D5))) else (qs_bind (fX1_given r0 w3 D5) (fun x11 D10 => (qs_let x11 (fun v13 => (qs_let w3 (fun v14 => (qs_let (w3 + (1 : Int32)) (fun v15 => (fX1_dearest_L6 r0 n v14 v13 v15 D10)))))))))))))
set_option maxRecDepth 20000 in
theorem lX1_dearest_L6 {l : Launch} {E : qs_E} {A : Nat → Prop} {r0 : Nat} (h0 : qs_isK r0) : ∀ (n : Nat) (w1 : Int32) (w2 : Int32) (w3 : Int32) (D : qs_D), qs_VO l E A shX mX1_dearest 3 qs_ri 6 [(0, .ref r0), (1, .int w1), (2, .int w2), (3, .int w3)] [] D (fX1_dearest_L6 r0 n w1 w2 w3 D) := by
  intro n
  induction n with
  | zero => intro w1 w2 w3 D; exact qs_none
  | succ n ih =>
    intro w1 w2 w3 D
    unfold fX1_dearest_L6
    refine qs_iload_n dX1_dearest_6 rfl rfl rfl ?_
    refine qs_aload_n dX1_dearest_7 rfl rfl rfl ?_
    refine qs_getI ffX1_27 (qs_k0 h0) rfl dX1_dearest_8 rfl ?_
    refine qs_icmp_ge (tgt := 37) dX1_dearest_11 (by decide) rfl (fun g4 => ?_) (fun g4 => ?_)
    · refine qs_iload_n dX1_dearest_37 rfl rfl rfl ?_
      exact qs_iret rfl dX1_dearest_38
    · refine qs_aload_n dX1_dearest_14 rfl rfl rfl ?_
      refine qs_iload_n dX1_dearest_15 rfl rfl rfl ?_
      refine qs_cV1i cfX1_104 (Nat.le_of_ble_eq_true rfl) (qs_k0 h0) rfl (fun Y hY => kX1_given h0 hY) (Nat.le_of_ble_eq_true rfl) dX1_dearest_16 rfl (fun x6 D5 g7 => ?_)
      refine qs_iload_n dX1_dearest_19 rfl rfl rfl ?_
      refine qs_icmp_le (tgt := 31) dX1_dearest_20 (by decide) rfl (fun g8 => ?_) (fun g8 => ?_)
      · refine qs_iinc (fun v9 => [(3, .int v9), (0, .ref r0), (1, .int w1), (2, .int w2)]) (1 : Int32) dX1_dearest_31 rfl (by decide) (by decide) (fun _ => rfl) rfl (fun v9 => ?_)
        refine qs_goto (tgt := 6) dX1_dearest_34 (by decide) ?_
        exact qs_sub [1, 2, 3, 0] rfl (ih w1 w2 v9 D5)
      · refine qs_aload_n dX1_dearest_23 rfl rfl rfl ?_
        refine qs_iload_n dX1_dearest_24 rfl rfl rfl ?_
        refine qs_cV1i cfX1_104 (Nat.le_of_ble_eq_true rfl) (qs_k0 h0) rfl (fun Y hY => kX1_given h0 hY) (Nat.le_of_ble_eq_true rfl) dX1_dearest_25 rfl (fun x11 D10 g12 => ?_)
        refine qs_istore_n (fun v13 => [(2, .int v13), (0, .ref r0), (1, .int w1), (3, .int w3)]) dX1_dearest_28 rfl (by decide) (fun _ => rfl) rfl (fun v13 => ?_)
        refine qs_iload_n dX1_dearest_29 rfl rfl rfl ?_
        refine qs_istore_n (fun v14 => [(1, .int v14), (2, .int v13), (0, .ref r0), (3, .int w3)]) dX1_dearest_30 rfl (by decide) (fun _ => rfl) rfl (fun v14 => ?_)
        refine qs_iinc (fun v15 => [(3, .int v15), (1, .int v14), (2, .int v13), (0, .ref r0)]) (1 : Int32) dX1_dearest_31 rfl (by decide) (by decide) (fun _ => rfl) rfl (fun v15 => ?_)
        refine qs_goto (tgt := 6) dX1_dearest_34 (by decide) ?_
        exact qs_sub [3, 1, 2, 0] rfl (ih v14 v13 v15 D10)
def fX1_dearest (r0 : Nat) (D : qs_D) : Option (Int32 × qs_D) := (qs_let (-1 : Int32) (fun v1 => (qs_let (-1 : Int32) (fun v2 => (qs_let (0 : Int32) (fun v3 => (fX1_dearest_L6 r0 qs_F v1 v2 v3 D)))))))
set_option maxRecDepth 20000 in
theorem kX1_dearest {l : Launch} {E : qs_E} {A : Nat → Prop} {r0 : Nat} {D : qs_D} {X : Int32 × qs_D} (h0 : qs_isK r0) (hX : fX1_dearest r0 D = some X) : qs_Ctr l E A shX yX1_dearest mX1_dearest 3 qs_ri [.ref r0] D X := by
  refine qs_enter (plainFor_of_name (by decide)) rfl (Nat.le_of_ble_eq_true rfl) ?_ hX
  show qs_VO l E A shX mX1_dearest 3 qs_ri 0 [(0, .ref r0)] [] D (fX1_dearest r0 D)
  unfold fX1_dearest
  refine qs_iconst (-1 : Int32) dX1_dearest_0 (by decide) rfl ?_
  refine qs_istore_n (fun v1 => [(1, .int v1), (0, .ref r0)]) dX1_dearest_1 rfl (by decide) (fun _ => rfl) rfl (fun v1 => ?_)
  refine qs_iconst (-1 : Int32) dX1_dearest_2 (by decide) rfl ?_
  refine qs_istore_n (fun v2 => [(2, .int v2), (1, .int v1), (0, .ref r0)]) dX1_dearest_3 rfl (by decide) (fun _ => rfl) rfl (fun v2 => ?_)
  refine qs_iconst (0 : Int32) dX1_dearest_4 (by decide) rfl ?_
  refine qs_istore_n (fun v3 => [(3, .int v3), (2, .int v2), (1, .int v1), (0, .ref r0)]) dX1_dearest_5 rfl (by decide) (fun _ => rfl) rfl (fun v3 => ?_)
  exact qs_sub [3, 2, 1, 0] rfl (lX1_dearest_L6 h0 qs_F v1 v2 v3 D)
def fX1_harmlessDeeds_L19 (r0 : Nat) : Nat → Int32 → Int32 → Int32 → Int32 → qs_D → Option (Int32 × qs_D)
  | 0, _, _, _, _, _ => none
  | n + 1, w1, w2, w3, w4, D => (if (12 : Int32) ≤ w4 then (some (w3, D)) else (qs_bind (fX4_grudgeAfter (D r0 0) w4 D) (fun x10 D9 => (if x10 < w2 then (qs_let (w4 + (1 : Int32)) (fun v13 => (fX1_harmlessDeeds_L19 r0 n w1 w2 w3 v13 D9))) else (qs_let (w3 + (1 : Int32)) (fun v14 => (qs_let (w4 + (1 : Int32)) (fun v15 => (fX1_harmlessDeeds_L19 r0 n w1 w2 v14 v15 D9)))))))))
set_option maxRecDepth 20000 in
theorem lX1_harmlessDeeds_L19 {l : Launch} {E : qs_E} {A : Nat → Prop} {r0 : Nat} (h0 : qs_isK r0) : ∀ (n : Nat) (w1 : Int32) (w2 : Int32) (w3 : Int32) (w4 : Int32) (D : qs_D), qs_VO l E A shX mX1_harmlessDeeds 2 qs_ri 19 [(0, .ref r0), (1, .int w1), (2, .int w2), (3, .int w3), (4, .int w4)] [] D (fX1_harmlessDeeds_L19 r0 n w1 w2 w3 w4 D) := by
  intro n
  induction n with
  | zero => intro w1 w2 w3 w4 D; exact qs_none
  | succ n ih =>
    intro w1 w2 w3 w4 D
    unfold fX1_harmlessDeeds_L19
    refine qs_iload dX1_harmlessDeeds_19 rfl rfl ?_
    refine qs_bipush (12 : Int32) dX1_harmlessDeeds_21 (by decide) rfl ?_
    refine qs_icmp_ge (tgt := 48) dX1_harmlessDeeds_23 (by decide) rfl (fun g8 => ?_) (fun g8 => ?_)
    · refine qs_iload_n dX1_harmlessDeeds_48 rfl rfl rfl ?_
      exact qs_iret rfl dX1_harmlessDeeds_49
    · refine qs_aload_n dX1_harmlessDeeds_26 rfl rfl rfl ?_
      refine qs_getI ffX1_9 (qs_k0 h0) rfl dX1_harmlessDeeds_27 rfl ?_
      refine qs_iload dX1_harmlessDeeds_30 rfl rfl ?_
      refine qs_cS2i cfX1_75 (Nat.le_of_ble_eq_true rfl) (fun Y hY => kX4_grudgeAfter  hY) (Nat.le_of_ble_eq_true rfl) dX1_harmlessDeeds_32 rfl (fun x10 D9 g11 => ?_)
      refine qs_iload_n dX1_harmlessDeeds_35 rfl rfl rfl ?_
      refine qs_icmp_lt (tgt := 42) dX1_harmlessDeeds_36 (by decide) rfl (fun g12 => ?_) (fun g12 => ?_)
      · refine qs_iinc (fun v13 => [(4, .int v13), (0, .ref r0), (1, .int w1), (2, .int w2), (3, .int w3)]) (1 : Int32) dX1_harmlessDeeds_42 rfl (by decide) (by decide) (fun _ => rfl) rfl (fun v13 => ?_)
        refine qs_goto (tgt := 19) dX1_harmlessDeeds_45 (by decide) ?_
        exact qs_sub [1, 2, 3, 4, 0] rfl (ih w1 w2 w3 v13 D9)
      · refine qs_iinc (fun v14 => [(3, .int v14), (0, .ref r0), (1, .int w1), (2, .int w2), (4, .int w4)]) (1 : Int32) dX1_harmlessDeeds_39 rfl (by decide) (by decide) (fun _ => rfl) rfl (fun v14 => ?_)
        refine qs_iinc (fun v15 => [(4, .int v15), (3, .int v14), (0, .ref r0), (1, .int w1), (2, .int w2)]) (1 : Int32) dX1_harmlessDeeds_42 rfl (by decide) (by decide) (fun _ => rfl) rfl (fun v15 => ?_)
        refine qs_goto (tgt := 19) dX1_harmlessDeeds_45 (by decide) ?_
        exact qs_sub [2, 3, 4, 1, 0] rfl (ih w1 w2 v14 v15 D9)
def fX1_harmlessDeeds (r0 : Nat) (p1 : Int32) (D : qs_D) : Option (Int32 × qs_D) := (qs_g p1 8 (qs_bind (fX0_needs (r0 + 4 + p1.toNatClampNeg) (D r0 1) D) (fun x3 D2 => (qs_let x3 (fun v5 => (qs_let (0 : Int32) (fun v6 => (qs_let (0 : Int32) (fun v7 => (fX1_harmlessDeeds_L19 r0 qs_F p1 v5 v6 v7 D2))))))))))
set_option maxRecDepth 20000 in
theorem kX1_harmlessDeeds {l : Launch} {E : qs_E} {A : Nat → Prop} {r0 : Nat} {p1 : Int32} {D : qs_D} {X : Int32 × qs_D} (h0 : qs_isK r0) (hX : fX1_harmlessDeeds r0 p1 D = some X) : qs_Ctr l E A shX yX1_harmlessDeeds mX1_harmlessDeeds 2 qs_ri [.ref r0, .int p1] D X := by
  refine qs_enter (plainFor_of_name (by decide)) rfl (Nat.le_of_ble_eq_true rfl) ?_ hX
  show qs_VO l E A shX mX1_harmlessDeeds 2 qs_ri 0 [(0, .ref r0), (1, .int p1)] [] D (fX1_harmlessDeeds r0 p1 D)
  unfold fX1_harmlessDeeds
  refine qs_aload_n dX1_harmlessDeeds_0 rfl rfl rfl ?_
  refine qs_getR ffX1_39 (qs_k0 h0) rfl dX1_harmlessDeeds_1 rfl ?_
  refine qs_iload_n dX1_harmlessDeeds_4 rfl rfl rfl ?_
  refine qs_aald (kd := 2) (C := RX0) (g := fun j => r0 + 4 + j) rfl (by decide) (qs_kA h0) (by decide) dX1_harmlessDeeds_5 rfl (fun g1 => ?_)
  refine qs_aload_n dX1_harmlessDeeds_6 rfl rfl rfl ?_
  refine qs_getI ffX1_15 (qs_k0 h0) rfl dX1_harmlessDeeds_7 rfl ?_
  refine qs_cV1i cfX1_128 (Nat.le_of_ble_eq_true rfl) (qs_kd h0 g1) rfl (fun Y hY => kX0_needs (qs_kd h0 g1) hY) (Nat.le_of_ble_eq_true rfl) dX1_harmlessDeeds_10 rfl (fun x3 D2 g4 => ?_)
  refine qs_istore_n (fun v5 => [(2, .int v5), (0, .ref r0), (1, .int p1)]) dX1_harmlessDeeds_13 rfl (by decide) (fun _ => rfl) rfl (fun v5 => ?_)
  refine qs_iconst (0 : Int32) dX1_harmlessDeeds_14 (by decide) rfl ?_
  refine qs_istore_n (fun v6 => [(3, .int v6), (2, .int v5), (0, .ref r0), (1, .int p1)]) dX1_harmlessDeeds_15 rfl (by decide) (fun _ => rfl) rfl (fun v6 => ?_)
  refine qs_iconst (0 : Int32) dX1_harmlessDeeds_16 (by decide) rfl ?_
  refine qs_istore (fun v7 => [(4, .int v7), (3, .int v6), (2, .int v5), (0, .ref r0), (1, .int p1)]) dX1_harmlessDeeds_17 (by decide) (fun _ => rfl) rfl (fun v7 => ?_)
  exact qs_sub [3, 4, 2, 1, 0] rfl (lX1_harmlessDeeds_L19 h0 qs_F p1 v5 v6 v7 D2)
def fX1_heldSpots_L13 (r0 r2 : Nat) : Nat → Int32 → Int32 → Int32 → qs_D → Option (Int32 × qs_D)
  | 0, _, _, _, _ => none
  | n + 1, w1, w3, w4, D => (if w3 ≤ w4 then (some (w1, D)) else (qs_g w4 10 (qs_let (D r2 w4.toNatClampNeg) (fun v6 => (if v6 < 0 then (qs_let (w4 + (1 : Int32)) (fun v8 => (fX1_heldSpots_L13 r0 r2 n w1 w3 v8 D))) else (qs_let (w1 + (1 : Int32)) (fun v9 => (qs_let (w4 + (1 : Int32)) (fun v10 => (fX1_heldSpots_L13 r0 r2 n v9 w3 v10 D))))))))))
set_option maxRecDepth 20000 in
theorem lX1_heldSpots_L13 {l : Launch} {E : qs_E} {A : Nat → Prop} {r0 r2 : Nat} (h0 : qs_isK r0) (h2 : shX[r2]? = some (.inr (0, 10, fun _ => none))) : ∀ (n : Nat) (w1 : Int32) (w3 : Int32) (w4 : Int32) (D : qs_D), qs_VO l E A shX mX1_heldSpots 0 qs_ri 13 [(0, .ref r0), (1, .int w1), (2, .ref r2), (3, .int w3), (4, .int w4)] [] D (fX1_heldSpots_L13 r0 r2 n w1 w3 w4 D) := by
  intro n
  induction n with
  | zero => intro w1 w3 w4 D; exact qs_none
  | succ n ih =>
    intro w1 w3 w4 D
    unfold fX1_heldSpots_L13
    refine qs_iload dX1_heldSpots_13 rfl rfl ?_
    refine qs_iload_n dX1_heldSpots_15 rfl rfl rfl ?_
    refine qs_icmp_ge (tgt := 39) dX1_heldSpots_16 (by decide) rfl (fun g4 => ?_) (fun g4 => ?_)
    · refine qs_iload_n dX1_heldSpots_39 rfl rfl rfl ?_
      exact qs_iret rfl dX1_heldSpots_40
    · refine qs_aload_n dX1_heldSpots_19 rfl rfl rfl ?_
      refine qs_iload dX1_heldSpots_20 rfl rfl ?_
      refine qs_iald h2 (by decide) dX1_heldSpots_22 rfl (fun g5 => ?_)
      refine qs_istore (fun v6 => [(5, .int v6), (0, .ref r0), (1, .int w1), (2, .ref r2), (3, .int w3), (4, .int w4)]) dX1_heldSpots_23 (by decide) (fun _ => rfl) rfl (fun v6 => ?_)
      refine qs_iload dX1_heldSpots_25 rfl rfl ?_
      refine qs_if_lt (tgt := 33) dX1_heldSpots_27 (by decide) rfl (fun g7 => ?_) (fun g7 => ?_)
      · refine qs_iinc (fun v8 => [(4, .int v8), (5, .int v6), (0, .ref r0), (1, .int w1), (2, .ref r2), (3, .int w3)]) (1 : Int32) dX1_heldSpots_33 rfl (by decide) (by decide) (fun _ => rfl) rfl (fun v8 => ?_)
        refine qs_goto (tgt := 13) dX1_heldSpots_36 (by decide) ?_
        exact qs_sub [2, 3, 4, 5, 0] rfl (ih w1 w3 v8 D)
      · refine qs_iinc (fun v9 => [(1, .int v9), (5, .int v6), (0, .ref r0), (2, .ref r2), (3, .int w3), (4, .int w4)]) (1 : Int32) dX1_heldSpots_30 rfl (by decide) (by decide) (fun _ => rfl) rfl (fun v9 => ?_)
        refine qs_iinc (fun v10 => [(4, .int v10), (1, .int v9), (5, .int v6), (0, .ref r0), (2, .ref r2), (3, .int w3)]) (1 : Int32) dX1_heldSpots_33 rfl (by decide) (by decide) (fun _ => rfl) rfl (fun v10 => ?_)
        refine qs_goto (tgt := 13) dX1_heldSpots_36 (by decide) ?_
        exact qs_sub [3, 1, 4, 5, 0] rfl (ih v9 w3 v10 D)
def fX1_heldSpots (r0 : Nat) (D : qs_D) : Option (Int32 × qs_D) := (qs_let (0 : Int32) (fun v1 => (qs_let (Int32.ofNat 10) (fun v2 => (qs_let (0 : Int32) (fun v3 => (fX1_heldSpots_L13 r0 (r0 + 2) qs_F v1 v2 v3 D)))))))
set_option maxRecDepth 20000 in
theorem kX1_heldSpots {l : Launch} {E : qs_E} {A : Nat → Prop} {r0 : Nat} {D : qs_D} {X : Int32 × qs_D} (h0 : qs_isK r0) (hX : fX1_heldSpots r0 D = some X) : qs_Ctr l E A shX yX1_heldSpots mX1_heldSpots 0 qs_ri [.ref r0] D X := by
  refine qs_enter (plainFor_of_name (by decide)) rfl (Nat.le_of_ble_eq_true rfl) ?_ hX
  show qs_VO l E A shX mX1_heldSpots 0 qs_ri 0 [(0, .ref r0)] [] D (fX1_heldSpots r0 D)
  unfold fX1_heldSpots
  refine qs_iconst (0 : Int32) dX1_heldSpots_0 (by decide) rfl ?_
  refine qs_istore_n (fun v1 => [(1, .int v1), (0, .ref r0)]) dX1_heldSpots_1 rfl (by decide) (fun _ => rfl) rfl (fun v1 => ?_)
  refine qs_aload_n dX1_heldSpots_2 rfl rfl rfl ?_
  refine qs_getR ffX1_34 (qs_k0 h0) rfl dX1_heldSpots_3 rfl ?_
  refine qs_astore_n [(2, .ref (r0 + 2)), (1, .int v1), (0, .ref r0)] dX1_heldSpots_6 rfl (by decide) rfl rfl ?_
  refine qs_aload_n dX1_heldSpots_7 rfl rfl rfl ?_
  refine qs_alen (qs_kS h0) dX1_heldSpots_8 rfl ?_
  refine qs_istore_n (fun v2 => [(3, .int v2), (2, .ref (r0 + 2)), (1, .int v1), (0, .ref r0)]) dX1_heldSpots_9 rfl (by decide) (fun _ => rfl) rfl (fun v2 => ?_)
  refine qs_iconst (0 : Int32) dX1_heldSpots_10 (by decide) rfl ?_
  refine qs_istore (fun v3 => [(4, .int v3), (3, .int v2), (2, .ref (r0 + 2)), (1, .int v1), (0, .ref r0)]) dX1_heldSpots_11 (by decide) (fun _ => rfl) rfl (fun v3 => ?_)
  exact qs_sub [4, 3, 2, 1, 0] rfl (lX1_heldSpots_L13 h0 (qs_kS h0) qs_F v1 v2 v3 D)
def fX2_isMissing (r0 : Nat) (D : qs_D) : Option (Int32 × qs_D) := (if (D r0 0) = 0 then (some ((1 : Int32), D)) else (some ((0 : Int32), D)))
set_option maxRecDepth 20000 in
theorem kX2_isMissing {l : Launch} {E : qs_E} {A : Nat → Prop} {r0 : Nat} {D : qs_D} {X : Int32 × qs_D} (h0 : qs_isS r0) (hX : fX2_isMissing r0 D = some X) : qs_Ctr l E A shX yX2_isMissing mX2_isMissing 0 qs_ri [.ref r0] D X := by
  refine qs_enter (plainFor_of_name (by decide)) rfl (Nat.le_of_ble_eq_true rfl) ?_ hX
  show qs_VO l E A shX mX2_isMissing 0 qs_ri 0 [(0, .ref r0)] [] D (fX2_isMissing r0 D)
  unfold fX2_isMissing
  refine qs_aload_n dX2_isMissing_0 rfl rfl rfl ?_
  refine qs_getI ffX2_9 (h0).1 rfl dX2_isMissing_1 rfl ?_
  refine qs_if_ne (tgt := 11) dX2_isMissing_4 (by decide) rfl (fun g1 => ?_) (fun g1 => ?_)
  · refine qs_iconst (1 : Int32) dX2_isMissing_7 (by decide) rfl ?_
    refine qs_goto (tgt := 12) dX2_isMissing_8 (by decide) ?_
    exact qs_zret (Or.inr rfl) rfl dX2_isMissing_12
  · refine qs_iconst (0 : Int32) dX2_isMissing_11 (by decide) rfl ?_
    exact qs_zret (Or.inl rfl) rfl dX2_isMissing_12
def fJ7_fill_53178_L5 (r0 n0 : Nat) : Nat → Int32 → Int32 → Int32 → qs_D → Option (Unit × qs_D)
  | 0, _, _, _, _ => none
  | n + 1, w1, w2, w3, D => (if w3 ≤ w2 then (some ((), D)) else (qs_g w2 n0 (qs_let (qs_u D r0 w2.toNatClampNeg w1) (fun D4 => (qs_let (w2 + (1 : Int32)) (fun v5 => (fJ7_fill_53178_L5 r0 n0 n w1 v5 w3 D4)))))))
set_option maxRecDepth 20000 in
theorem lJ7_fill_53178_L5 {l : Launch} {E : qs_E} {A : Nat → Prop} {r0 n0 : Nat} (hn0 : n0 < 2 ^ 31) (h0 : shX[r0]? = some (.inr (0, n0, fun _ => none))) : ∀ (n : Nat) (w1 : Int32) (w2 : Int32) (w3 : Int32) (D : qs_D), qs_VO l E A shX mJ7_fill_53178 0 qs_rv 5 [(0, .ref r0), (1, .int w1), (2, .int w2), (3, .int w3)] [] D (fJ7_fill_53178_L5 r0 n0 n w1 w2 w3 D) := by
  intro n
  induction n with
  | zero => intro w1 w2 w3 D; exact qs_none
  | succ n ih =>
    intro w1 w2 w3 D
    unfold fJ7_fill_53178_L5
    refine qs_iload_n dJ7_fill_53178_5 rfl rfl rfl ?_
    refine qs_iload_n dJ7_fill_53178_6 rfl rfl rfl ?_
    refine qs_icmp_ge (tgt := 20) dJ7_fill_53178_7 (by decide) rfl (fun g3 => ?_) (fun g3 => ?_)
    · exact qs_vret rfl dJ7_fill_53178_20
    · refine qs_aload_n dJ7_fill_53178_10 rfl rfl rfl ?_
      refine qs_iload_n dJ7_fill_53178_11 rfl rfl rfl ?_
      refine qs_iload_n dJ7_fill_53178_12 rfl rfl rfl ?_
      refine qs_iast h0 hn0 dJ7_fill_53178_13 rfl (fun D4 => ?_)
      refine qs_iinc (fun v5 => [(2, .int v5), (0, .ref r0), (1, .int w1), (3, .int w3)]) (1 : Int32) dJ7_fill_53178_14 rfl (by decide) (by decide) (fun _ => rfl) rfl (fun v5 => ?_)
      refine qs_goto (tgt := 5) dJ7_fill_53178_17 (by decide) ?_
      exact qs_sub [1, 2, 0, 3] rfl (ih w1 v5 w3 D4)
def fJ7_fill_53178 (r0 : Nat) (n0 : Nat) (p1 : Int32) (D : qs_D) : Option (Unit × qs_D) := (qs_let (0 : Int32) (fun v1 => (qs_let (Int32.ofNat n0) (fun v2 => (fJ7_fill_53178_L5 r0 n0 qs_F p1 v1 v2 D)))))
set_option maxRecDepth 20000 in
theorem kJ7_fill_53178 {l : Launch} {E : qs_E} {A : Nat → Prop} {r0 : Nat} {n0 : Nat} {p1 : Int32} {D : qs_D} {X : Unit × qs_D} (hn0 : n0 < 2 ^ 31) (h0 : shX[r0]? = some (.inr (0, n0, fun _ => none))) (hX : fJ7_fill_53178 r0 n0 p1 D = some X) : qs_Ctr l E A shX yJ7_fill_53178 mJ7_fill_53178 0 qs_rv [.ref r0, .int p1] D X := by
  refine qs_enter (by decide +kernel) rfl (Nat.le_of_ble_eq_true rfl) ?_ hX
  show qs_VO l E A shX mJ7_fill_53178 0 qs_rv 0 [(0, .ref r0), (1, .int p1)] [] D (fJ7_fill_53178 r0 n0 p1 D)
  unfold fJ7_fill_53178
  refine qs_iconst (0 : Int32) dJ7_fill_53178_0 (by decide) rfl ?_
  refine qs_istore_n (fun v1 => [(2, .int v1), (0, .ref r0), (1, .int p1)]) dJ7_fill_53178_1 rfl (by decide) (fun _ => rfl) rfl (fun v1 => ?_)
  refine qs_aload_n dJ7_fill_53178_2 rfl rfl rfl ?_
  refine qs_alen h0 dJ7_fill_53178_3 rfl ?_
  refine qs_istore_n (fun v2 => [(3, .int v2), (2, .int v1), (0, .ref r0), (1, .int p1)]) dJ7_fill_53178_4 rfl (by decide) (fun _ => rfl) rfl (fun v2 => ?_)
  exact qs_sub [2, 3, 1, 0] rfl (lJ7_fill_53178_L5 hn0 h0 qs_F p1 v1 v2 D)
def fX2_renew (r0 : Nat) (p1 : Int32) (p2 : Int32) (D : qs_D) : Option (Unit × qs_D) := (qs_let (qs_u D r0 0 p1) (fun D1 => (qs_let (qs_u D1 r0 1 p2) (fun D2 => (qs_bind (fJ7_fill_53178 (r0 + 1) 40 (0 : Int32) D2) (fun x4 D3 => (some ((), D3))))))))
set_option maxRecDepth 20000 in
theorem kX2_renew {l : Launch} {E : qs_E} {A : Nat → Prop} {r0 : Nat} {p1 : Int32} {p2 : Int32} {D : qs_D} {X : Unit × qs_D} (h0 : qs_isS r0) (hX : fX2_renew r0 p1 p2 D = some X) : qs_Ctr l E A shX yX2_renew mX2_renew 1 qs_rv [.ref r0, .int p1, .int p2] D X := by
  refine qs_enter (plainFor_of_name (by decide)) rfl (Nat.le_of_ble_eq_true rfl) ?_ hX
  show qs_VO l E A shX mX2_renew 1 qs_rv 0 [(0, .ref r0), (1, .int p1), (2, .int p2)] [] D (fX2_renew r0 p1 p2 D)
  unfold fX2_renew
  refine qs_aload_n dX2_renew_0 rfl rfl rfl ?_
  refine qs_iload_n dX2_renew_1 rfl rfl rfl ?_
  refine qs_putI fwX2_9 (h0).1 rfl dX2_renew_2 rfl (fun D1 => ?_)
  refine qs_aload_n dX2_renew_5 rfl rfl rfl ?_
  refine qs_iload_n dX2_renew_6 rfl rfl rfl ?_
  refine qs_putI fwX2_15 (h0).1 rfl dX2_renew_7 rfl (fun D2 => ?_)
  refine qs_aload_n dX2_renew_10 rfl rfl rfl ?_
  refine qs_getR ffX2_18 (h0).1 rfl dX2_renew_11 rfl ?_
  refine qs_iconst (0 : Int32) dX2_renew_14 (by decide) rfl ?_
  refine qs_cS2v cfX2_22 (Nat.le_of_ble_eq_true rfl) (fun Y hY => kJ7_fill_53178 (by decide) (h0).2 hY) (Nat.le_of_ble_eq_true rfl) dX2_renew_15 rfl (fun x4 D3 g5 => ?_)
  exact qs_vret rfl dX2_renew_18
def fX2_put (r0 : Nat) (p1 : Int32) (p2 : Int32) (D : qs_D) : Option (Unit × qs_D) := (if (D r0 0) = (8 : Int32) then (qs_g p1 40 (qs_let (qs_u D (r0 + 1) p1.toNatClampNeg p2.toInt8.toInt32) (fun D5 => (some ((), D5))))) else (if (D r0 0) = (16 : Int32) then (qs_g p1 40 (qs_let (qs_u D (r0 + 1) p1.toNatClampNeg p2.toInt16.toInt32) (fun D4 => (some ((), D4))))) else (qs_g p1 40 (qs_let (qs_u D (r0 + 1) p1.toNatClampNeg p2) (fun D3 => (some ((), D3)))))))
set_option maxRecDepth 20000 in
theorem kX2_put {l : Launch} {E : qs_E} {A : Nat → Prop} {r0 : Nat} {p1 : Int32} {p2 : Int32} {D : qs_D} {X : Unit × qs_D} (h0 : qs_isS r0) (hX : fX2_put r0 p1 p2 D = some X) : qs_Ctr l E A shX yX2_put mX2_put 0 qs_rv [.ref r0, .int p1, .int p2] D X := by
  refine qs_enter (plainFor_of_name (by decide)) rfl (Nat.le_of_ble_eq_true rfl) ?_ hX
  show qs_VO l E A shX mX2_put 0 qs_rv 0 [(0, .ref r0), (1, .int p1), (2, .int p2)] [] D (fX2_put r0 p1 p2 D)
  unfold fX2_put
  refine qs_aload_n dX2_put_0 rfl rfl rfl ?_
  refine qs_getI ffX2_9 (h0).1 rfl dX2_put_1 rfl ?_
  refine qs_bipush (8 : Int32) dX2_put_4 (by decide) rfl ?_
  refine qs_icmp_ne (tgt := 20) dX2_put_6 (by decide) rfl (fun g1 => ?_) (fun g1 => ?_)
  · refine qs_aload_n dX2_put_9 rfl rfl rfl ?_
    refine qs_getR ffX2_18 (h0).1 rfl dX2_put_10 rfl ?_
    refine qs_iload_n dX2_put_13 rfl rfl rfl ?_
    refine qs_iload_n dX2_put_14 rfl rfl rfl ?_
    refine qs_i2b dX2_put_15 rfl ?_
    refine qs_iast (h0).2 (by decide) dX2_put_16 rfl (fun D5 => ?_)
    refine qs_goto (tgt := 47) dX2_put_17 (by decide) ?_
    exact qs_vret rfl dX2_put_47
  · refine qs_aload_n dX2_put_20 rfl rfl rfl ?_
    refine qs_getI ffX2_9 (h0).1 rfl dX2_put_21 rfl ?_
    refine qs_bipush (16 : Int32) dX2_put_24 (by decide) rfl ?_
    refine qs_icmp_ne (tgt := 40) dX2_put_26 (by decide) rfl (fun g2 => ?_) (fun g2 => ?_)
    · refine qs_aload_n dX2_put_29 rfl rfl rfl ?_
      refine qs_getR ffX2_18 (h0).1 rfl dX2_put_30 rfl ?_
      refine qs_iload_n dX2_put_33 rfl rfl rfl ?_
      refine qs_iload_n dX2_put_34 rfl rfl rfl ?_
      refine qs_i2s dX2_put_35 rfl ?_
      refine qs_iast (h0).2 (by decide) dX2_put_36 rfl (fun D4 => ?_)
      refine qs_goto (tgt := 47) dX2_put_37 (by decide) ?_
      exact qs_vret rfl dX2_put_47
    · refine qs_aload_n dX2_put_40 rfl rfl rfl ?_
      refine qs_getR ffX2_18 (h0).1 rfl dX2_put_41 rfl ?_
      refine qs_iload_n dX2_put_44 rfl rfl rfl ?_
      refine qs_iload_n dX2_put_45 rfl rfl rfl ?_
      refine qs_iast (h0).2 (by decide) dX2_put_46 rfl (fun D3 => ?_)
      exact qs_vret rfl dX2_put_47
def fX2_hasPart (r0 : Nat) (p1 : Int32) (p2 : Int32) (D : qs_D) : Option (Int32 × qs_D) := (if p1 < 0 then (some ((0 : Int32), D)) else (if p2 < 0 then (some ((0 : Int32), D)) else (if (D r0 1) < p2 then (some ((0 : Int32), D)) else (if ((D r0 1) - p2) < p1 then (some ((0 : Int32), D)) else (some ((1 : Int32), D))))))
set_option maxRecDepth 20000 in
theorem kX2_hasPart {l : Launch} {E : qs_E} {A : Nat → Prop} {r0 : Nat} {p1 : Int32} {p2 : Int32} {D : qs_D} {X : Int32 × qs_D} (h0 : qs_isS r0) (hX : fX2_hasPart r0 p1 p2 D = some X) : qs_Ctr l E A shX yX2_hasPart mX2_hasPart 0 qs_ri [.ref r0, .int p1, .int p2] D X := by
  refine qs_enter (plainFor_of_name (by decide)) rfl (Nat.le_of_ble_eq_true rfl) ?_ hX
  show qs_VO l E A shX mX2_hasPart 0 qs_ri 0 [(0, .ref r0), (1, .int p1), (2, .int p2)] [] D (fX2_hasPart r0 p1 p2 D)
  unfold fX2_hasPart
  refine qs_iload_n dX2_hasPart_0 rfl rfl rfl ?_
  refine qs_if_lt (tgt := 30) dX2_hasPart_1 (by decide) rfl (fun g1 => ?_) (fun g1 => ?_)
  · refine qs_iconst (0 : Int32) dX2_hasPart_30 (by decide) rfl ?_
    exact qs_zret (Or.inl rfl) rfl dX2_hasPart_31
  · refine qs_iload_n dX2_hasPart_4 rfl rfl rfl ?_
    refine qs_if_lt (tgt := 30) dX2_hasPart_5 (by decide) rfl (fun g2 => ?_) (fun g2 => ?_)
    · refine qs_iconst (0 : Int32) dX2_hasPart_30 (by decide) rfl ?_
      exact qs_zret (Or.inl rfl) rfl dX2_hasPart_31
    · refine qs_iload_n dX2_hasPart_8 rfl rfl rfl ?_
      refine qs_aload_n dX2_hasPart_9 rfl rfl rfl ?_
      refine qs_getI ffX2_15 (h0).1 rfl dX2_hasPart_10 rfl ?_
      refine qs_icmp_gt (tgt := 30) dX2_hasPart_13 (by decide) rfl (fun g3 => ?_) (fun g3 => ?_)
      · refine qs_iconst (0 : Int32) dX2_hasPart_30 (by decide) rfl ?_
        exact qs_zret (Or.inl rfl) rfl dX2_hasPart_31
      · refine qs_iload_n dX2_hasPart_16 rfl rfl rfl ?_
        refine qs_aload_n dX2_hasPart_17 rfl rfl rfl ?_
        refine qs_getI ffX2_15 (h0).1 rfl dX2_hasPart_18 rfl ?_
        refine qs_iload_n dX2_hasPart_21 rfl rfl rfl ?_
        refine qs_isub dX2_hasPart_22 rfl ?_
        refine qs_icmp_gt (tgt := 30) dX2_hasPart_23 (by decide) rfl (fun g4 => ?_) (fun g4 => ?_)
        · refine qs_iconst (0 : Int32) dX2_hasPart_30 (by decide) rfl ?_
          exact qs_zret (Or.inl rfl) rfl dX2_hasPart_31
        · refine qs_iconst (1 : Int32) dX2_hasPart_26 (by decide) rfl ?_
          refine qs_goto (tgt := 31) dX2_hasPart_27 (by decide) ?_
          exact qs_zret (Or.inr rfl) rfl dX2_hasPart_31
def fX3_append_L4 : Nat → Int32 → Int32 → Int32 → qs_D → Option (Unit × qs_D)
  | 0, _, _, _, _ => none
  | n + 1, w1, w2, w3, D => (if w3 < 0 then (some ((), D)) else (qs_g (D 37 1) 120 (qs_let (qs_u D 38 (D 37 1).toNatClampNeg ((w1.toUInt32 >>> (((8 : Int32) * w3).toUInt32 &&& Int32.toUInt32 31)).toInt32).toInt8.toInt32.toInt8.toInt32) (fun D3 => (qs_let (qs_u D3 37 1 ((D3 37 1) + (1 : Int32))) (fun D4 => (qs_let (w3 + (-1 : Int32)) (fun v5 => (fX3_append_L4 n w1 w2 v5 D4)))))))))
set_option maxRecDepth 20000 in
theorem lX3_append_L4 {l : Launch} {E : qs_E} {A : Nat → Prop}  : ∀ (n : Nat) (w1 : Int32) (w2 : Int32) (w3 : Int32) (D : qs_D), qs_VO l E A shX mX3_append 0 qs_rv 4 [(0, .ref 37), (1, .int w1), (2, .int w2), (3, .int w3)] [] D (fX3_append_L4 n w1 w2 w3 D) := by
  intro n
  induction n with
  | zero => intro w1 w2 w3 D; exact qs_none
  | succ n ih =>
    intro w1 w2 w3 D
    unfold fX3_append_L4
    refine qs_iload_n dX3_append_4 rfl rfl rfl ?_
    refine qs_if_lt (tgt := 40) dX3_append_5 (by decide) rfl (fun g2 => ?_) (fun g2 => ?_)
    · exact qs_vret rfl dX3_append_40
    · refine qs_aload_n dX3_append_8 rfl rfl rfl ?_
      refine qs_getR ffX3_9 rfl rfl dX3_append_9 rfl ?_
      refine qs_aload_n dX3_append_12 rfl rfl rfl ?_
      refine qs_getI ffX3_15 rfl rfl dX3_append_13 rfl ?_
      refine qs_iload_n dX3_append_16 rfl rfl rfl ?_
      refine qs_bipush (8 : Int32) dX3_append_17 (by decide) rfl ?_
      refine qs_iload_n dX3_append_19 rfl rfl rfl ?_
      refine qs_imul dX3_append_20 rfl ?_
      refine qs_iushr dX3_append_21 rfl ?_
      refine qs_i2b dX3_append_22 rfl ?_
      refine qs_bast rfl (by decide) dX3_append_23 rfl (fun D3 => ?_)
      refine qs_aload_n dX3_append_24 rfl rfl rfl ?_
      refine qs_dup dX3_append_25 rfl rfl ?_
      refine qs_getI ffX3_15 rfl rfl dX3_append_26 rfl ?_
      refine qs_iconst (1 : Int32) dX3_append_29 (by decide) rfl ?_
      refine qs_iadd dX3_append_30 rfl ?_
      refine qs_putI fwX3_15 rfl rfl dX3_append_31 rfl (fun D4 => ?_)
      refine qs_iinc (fun v5 => [(3, .int v5), (0, .ref 37), (1, .int w1), (2, .int w2)]) (-1 : Int32) dX3_append_34 rfl (by decide) (by decide) (fun _ => rfl) rfl (fun v5 => ?_)
      refine qs_goto (tgt := 4) dX3_append_37 (by decide) ?_
      exact qs_sub [1, 2, 3, 0] rfl (ih w1 w2 v5 D4)
def fX3_append (p1 : Int32) (p2 : Int32) (D : qs_D) : Option (Unit × qs_D) := (qs_let (p2 - (1 : Int32)) (fun v1 => (fX3_append_L4 qs_F p1 p2 v1 D)))
set_option maxRecDepth 20000 in
theorem kX3_append {l : Launch} {E : qs_E} {A : Nat → Prop} {p1 : Int32} {p2 : Int32} {D : qs_D} {X : Unit × qs_D}  (hX : fX3_append p1 p2 D = some X) : qs_Ctr l E A shX yX3_append mX3_append 0 qs_rv [.ref 37, .int p1, .int p2] D X := by
  refine qs_enter (plainFor_of_name (by decide)) rfl (Nat.le_of_ble_eq_true rfl) ?_ hX
  show qs_VO l E A shX mX3_append 0 qs_rv 0 [(0, .ref 37), (1, .int p1), (2, .int p2)] [] D (fX3_append p1 p2 D)
  unfold fX3_append
  refine qs_iload_n dX3_append_0 rfl rfl rfl ?_
  refine qs_iconst (1 : Int32) dX3_append_1 (by decide) rfl ?_
  refine qs_isub dX3_append_2 rfl ?_
  refine qs_istore_n (fun v1 => [(3, .int v1), (0, .ref 37), (1, .int p1), (2, .int p2)]) dX3_append_3 rfl (by decide) (fun _ => rfl) rfl (fun v1 => ?_)
  exact qs_sub [1, 2, 3, 0] rfl (lX3_append_L4 qs_F p1 p2 v1 D)
def fX3_sortOf (p0 : Int32) (D : qs_D) : Option (Int32 × qs_D) := (if p0 < (97 : Int32) then (if p0 < (48 : Int32) then (if p0 = (59 : Int32) then (some ((2 : Int32), D)) else (some ((4 : Int32), D))) else (if (57 : Int32) < p0 then (if p0 = (59 : Int32) then (some ((2 : Int32), D)) else (some ((4 : Int32), D))) else (some ((1 : Int32), D)))) else (if (122 : Int32) < p0 then (if p0 < (48 : Int32) then (if p0 = (59 : Int32) then (some ((2 : Int32), D)) else (some ((4 : Int32), D))) else (if (57 : Int32) < p0 then (if p0 = (59 : Int32) then (some ((2 : Int32), D)) else (some ((4 : Int32), D))) else (some ((1 : Int32), D)))) else (some ((0 : Int32), D))))
set_option maxRecDepth 20000 in
theorem kX3_sortOf {l : Launch} {E : qs_E} {A : Nat → Prop} {p0 : Int32} {D : qs_D} {X : Int32 × qs_D}  (hX : fX3_sortOf p0 D = some X) : qs_Ctr l E A shX yX3_sortOf mX3_sortOf 0 qs_ri [.int p0] D X := by
  refine qs_enter (plainFor_of_name (by decide)) rfl (Nat.le_of_ble_eq_true rfl) ?_ hX
  show qs_VO l E A shX mX3_sortOf 0 qs_ri 0 [(0, .int p0)] [] D (fX3_sortOf p0 D)
  unfold fX3_sortOf
  refine qs_iload_n dX3_sortOf_0 rfl rfl rfl ?_
  refine qs_bipush (97 : Int32) dX3_sortOf_1 (by decide) rfl ?_
  refine qs_icmp_lt (tgt := 14) dX3_sortOf_3 (by decide) rfl (fun g1 => ?_) (fun g1 => ?_)
  · refine qs_iload_n dX3_sortOf_14 rfl rfl rfl ?_
    refine qs_bipush (48 : Int32) dX3_sortOf_15 (by decide) rfl ?_
    refine qs_icmp_lt (tgt := 28) dX3_sortOf_17 (by decide) rfl (fun g2 => ?_) (fun g2 => ?_)
    · refine qs_iload_n dX3_sortOf_28 rfl rfl rfl ?_
      refine qs_bipush (59 : Int32) dX3_sortOf_29 (by decide) rfl ?_
      refine qs_icmp_ne (tgt := 38) dX3_sortOf_31 (by decide) rfl (fun g3 => ?_) (fun g3 => ?_)
      · refine qs_iconst (2 : Int32) dX3_sortOf_34 (by decide) rfl ?_
        refine qs_goto (tgt := 39) dX3_sortOf_35 (by decide) ?_
        exact qs_iret rfl dX3_sortOf_39
      · refine qs_iconst (4 : Int32) dX3_sortOf_38 (by decide) rfl ?_
        exact qs_iret rfl dX3_sortOf_39
    · refine qs_iload_n dX3_sortOf_20 rfl rfl rfl ?_
      refine qs_bipush (57 : Int32) dX3_sortOf_21 (by decide) rfl ?_
      refine qs_icmp_gt (tgt := 28) dX3_sortOf_23 (by decide) rfl (fun g4 => ?_) (fun g4 => ?_)
      · refine qs_iload_n dX3_sortOf_28 rfl rfl rfl ?_
        refine qs_bipush (59 : Int32) dX3_sortOf_29 (by decide) rfl ?_
        refine qs_icmp_ne (tgt := 38) dX3_sortOf_31 (by decide) rfl (fun g5 => ?_) (fun g5 => ?_)
        · refine qs_iconst (2 : Int32) dX3_sortOf_34 (by decide) rfl ?_
          refine qs_goto (tgt := 39) dX3_sortOf_35 (by decide) ?_
          exact qs_iret rfl dX3_sortOf_39
        · refine qs_iconst (4 : Int32) dX3_sortOf_38 (by decide) rfl ?_
          exact qs_iret rfl dX3_sortOf_39
      · refine qs_iconst (1 : Int32) dX3_sortOf_26 (by decide) rfl ?_
        exact qs_iret rfl dX3_sortOf_27
  · refine qs_iload_n dX3_sortOf_6 rfl rfl rfl ?_
    refine qs_bipush (122 : Int32) dX3_sortOf_7 (by decide) rfl ?_
    refine qs_icmp_gt (tgt := 14) dX3_sortOf_9 (by decide) rfl (fun g6 => ?_) (fun g6 => ?_)
    · refine qs_iload_n dX3_sortOf_14 rfl rfl rfl ?_
      refine qs_bipush (48 : Int32) dX3_sortOf_15 (by decide) rfl ?_
      refine qs_icmp_lt (tgt := 28) dX3_sortOf_17 (by decide) rfl (fun g7 => ?_) (fun g7 => ?_)
      · refine qs_iload_n dX3_sortOf_28 rfl rfl rfl ?_
        refine qs_bipush (59 : Int32) dX3_sortOf_29 (by decide) rfl ?_
        refine qs_icmp_ne (tgt := 38) dX3_sortOf_31 (by decide) rfl (fun g8 => ?_) (fun g8 => ?_)
        · refine qs_iconst (2 : Int32) dX3_sortOf_34 (by decide) rfl ?_
          refine qs_goto (tgt := 39) dX3_sortOf_35 (by decide) ?_
          exact qs_iret rfl dX3_sortOf_39
        · refine qs_iconst (4 : Int32) dX3_sortOf_38 (by decide) rfl ?_
          exact qs_iret rfl dX3_sortOf_39
      · refine qs_iload_n dX3_sortOf_20 rfl rfl rfl ?_
        refine qs_bipush (57 : Int32) dX3_sortOf_21 (by decide) rfl ?_
        refine qs_icmp_gt (tgt := 28) dX3_sortOf_23 (by decide) rfl (fun g9 => ?_) (fun g9 => ?_)
        · refine qs_iload_n dX3_sortOf_28 rfl rfl rfl ?_
          refine qs_bipush (59 : Int32) dX3_sortOf_29 (by decide) rfl ?_
          refine qs_icmp_ne (tgt := 38) dX3_sortOf_31 (by decide) rfl (fun g10 => ?_) (fun g10 => ?_)
          · refine qs_iconst (2 : Int32) dX3_sortOf_34 (by decide) rfl ?_
            refine qs_goto (tgt := 39) dX3_sortOf_35 (by decide) ?_
            exact qs_iret rfl dX3_sortOf_39
          · refine qs_iconst (4 : Int32) dX3_sortOf_38 (by decide) rfl ?_
            exact qs_iret rfl dX3_sortOf_39
        · refine qs_iconst (1 : Int32) dX3_sortOf_26 (by decide) rfl ?_
          exact qs_iret rfl dX3_sortOf_27
    · refine qs_iconst (0 : Int32) dX3_sortOf_12 (by decide) rfl ?_
      exact qs_iret rfl dX3_sortOf_13
def fX3_nextToken_L118 : Nat → Int32 → qs_D → Option (Unit × qs_D)
  | 0, _, _ => none
  | n + 1, w1, D => (if w1 = 0 then (some ((), D)) else (if (D 37 1) ≤ (D 37 4) then (some ((), D)) else (qs_g (D 37 4) 120 (qs_bind (fX3_sortOf (D 38 (D 37 4).toNatClampNeg) D) (fun x16 D15 => (if x16 = (D15 37 2) then (qs_let (qs_u D15 37 4 ((D15 37 4) + (1 : Int32))) (fun D19 => (fX3_nextToken_L118 n w1 D19))) else (some ((), D15))))))))
set_option maxRecDepth 20000 in
theorem lX3_nextToken_L118 {l : Launch} {E : qs_E} {A : Nat → Prop}  : ∀ (n : Nat) (w1 : Int32) (D : qs_D), qs_VO l E A shX mX3_nextToken 1 qs_rv 118 [(0, .ref 37), (1, .int w1)] [] D (fX3_nextToken_L118 n w1 D) := by
  intro n
  induction n with
  | zero => intro w1 D; exact qs_none
  | succ n ih =>
    intro w1 D
    unfold fX3_nextToken_L118
    refine qs_iload_n dX3_nextToken_118 rfl rfl rfl ?_
    refine qs_if_eq (tgt := 165) dX3_nextToken_119 (by decide) rfl (fun g12 => ?_) (fun g12 => ?_)
    · exact qs_vret rfl dX3_nextToken_165
    · refine qs_aload_n dX3_nextToken_122 rfl rfl rfl ?_
      refine qs_getI ffX3_25 rfl rfl dX3_nextToken_123 rfl ?_
      refine qs_aload_n dX3_nextToken_126 rfl rfl rfl ?_
      refine qs_getI ffX3_15 rfl rfl dX3_nextToken_127 rfl ?_
      refine qs_icmp_ge (tgt := 165) dX3_nextToken_130 (by decide) rfl (fun g13 => ?_) (fun g13 => ?_)
      · exact qs_vret rfl dX3_nextToken_165
      · refine qs_aload_n dX3_nextToken_133 rfl rfl rfl ?_
        refine qs_getR ffX3_9 rfl rfl dX3_nextToken_134 rfl ?_
        refine qs_aload_n dX3_nextToken_137 rfl rfl rfl ?_
        refine qs_getI ffX3_25 rfl rfl dX3_nextToken_138 rfl ?_
        refine qs_bald rfl (by decide) dX3_nextToken_141 rfl (fun g14 => ?_)
        refine qs_cS1i cfX3_123 (Nat.le_of_ble_eq_true rfl) (fun Y hY => kX3_sortOf  hY) (Nat.le_of_ble_eq_true rfl) dX3_nextToken_142 rfl (fun x16 D15 g17 => ?_)
        refine qs_aload_n dX3_nextToken_145 rfl rfl rfl ?_
        refine qs_getI ffX3_19 rfl rfl dX3_nextToken_146 rfl ?_
        refine qs_icmp_ne (tgt := 165) dX3_nextToken_149 (by decide) rfl (fun g18 => ?_) (fun g18 => ?_)
        · refine qs_aload_n dX3_nextToken_152 rfl rfl rfl ?_
          refine qs_dup dX3_nextToken_153 rfl rfl ?_
          refine qs_getI ffX3_25 rfl rfl dX3_nextToken_154 rfl ?_
          refine qs_iconst (1 : Int32) dX3_nextToken_157 (by decide) rfl ?_
          refine qs_iadd dX3_nextToken_158 rfl ?_
          refine qs_putI fwX3_25 rfl rfl dX3_nextToken_159 rfl (fun D19 => ?_)
          refine qs_goto (tgt := 118) dX3_nextToken_162 (by decide) ?_
          exact qs_sub [0, 1] rfl (ih w1 D19)
        · exact qs_vret rfl dX3_nextToken_165
def fX3_nextToken_L8 : Nat → qs_D → Option (Unit × qs_D)
  | 0, _ => none
  | n + 1, D => (if (D 37 1) ≤ (D 37 3) then (if (D 37 3) < (D 37 1) then (qs_g (D 37 3) 120 (qs_bind (fX3_sortOf (D 38 (D 37 3).toNatClampNeg) D) (fun x6 D5 => (qs_let (qs_u D5 37 2 x6) (fun D8 => (qs_let (qs_u D8 37 4 ((D8 37 3) + (1 : Int32))) (fun D9 => (if (D9 37 2) = 0 then (qs_let (1 : Int32) (fun v11 => (fX3_nextToken_L118 qs_F v11 D9))) else (if (D9 37 2) = (1 : Int32) then (qs_let (1 : Int32) (fun v22 => (fX3_nextToken_L118 qs_F v22 D9))) else (qs_let (0 : Int32) (fun v21 => (fX3_nextToken_L118 qs_F v21 D9)))))))))))) else (qs_let (qs_u D 37 2 (3 : Int32)) (fun D23 => (qs_let (qs_u D23 37 4 (D23 37 3)) (fun D24 => (some ((), D24))))))) else (qs_g (D 37 3) 120 (if (D 38 (D 37 3).toNatClampNeg) = (32 : Int32) then (qs_let (qs_u D 37 3 ((D 37 3) + (1 : Int32))) (fun D41 => (fX3_nextToken_L8 n D41))) else (if (D 37 3) < (D 37 1) then (qs_g (D 37 3) 120 (qs_bind (fX3_sortOf (D 38 (D 37 3).toNatClampNeg) D) (fun x30 D29 => (qs_let (qs_u D29 37 2 x30) (fun D32 => (qs_let (qs_u D32 37 4 ((D32 37 3) + (1 : Int32))) (fun D33 => (if (D33 37 2) = 0 then (qs_let (1 : Int32) (fun v35 => (fX3_nextToken_L118 qs_F v35 D33))) else (if (D33 37 2) = (1 : Int32) then (qs_let (1 : Int32) (fun v38 => (fX3_nextToken_L118 qs_F v38 D33))) else (qs_let (0 : Int32) (fun v37 => (fX3_nextToken_L118 qs_F v37 D33)))))))))))) else (qs_let (qs_u D 37 2 (3 : Int32)) (fun D39 => (qs_let (qs_u D39 37 4 (D39 37 3)) (fun D40 => (some ((), D40))))))))))
set_option maxRecDepth 20000 in
theorem lX3_nextToken_L8 {l : Launch} {E : qs_E} {A : Nat → Prop}  : ∀ (n : Nat)  (D : qs_D), qs_VO l E A shX mX3_nextToken 1 qs_rv 8 [(0, .ref 37)] [] D (fX3_nextToken_L8 n D) := by
  intro n
  induction n with
  | zero => intro D; exact qs_none
  | succ n ih =>
    intro D
    unfold fX3_nextToken_L8
    refine qs_aload_n dX3_nextToken_8 rfl rfl rfl ?_
    refine qs_getI ffX3_22 rfl rfl dX3_nextToken_9 rfl ?_
    refine qs_aload_n dX3_nextToken_12 rfl rfl rfl ?_
    refine qs_getI ffX3_15 rfl rfl dX3_nextToken_13 rfl ?_
    refine qs_icmp_ge (tgt := 46) dX3_nextToken_16 (by decide) rfl (fun g2 => ?_) (fun g2 => ?_)
    · refine qs_aload_n dX3_nextToken_46 rfl rfl rfl ?_
      refine qs_getI ffX3_22 rfl rfl dX3_nextToken_47 rfl ?_
      refine qs_aload_n dX3_nextToken_50 rfl rfl rfl ?_
      refine qs_getI ffX3_15 rfl rfl dX3_nextToken_51 rfl ?_
      refine qs_icmp_lt (tgt := 71) dX3_nextToken_54 (by decide) rfl (fun g3 => ?_) (fun g3 => ?_)
      · refine qs_aload_n dX3_nextToken_71 rfl rfl rfl ?_
        refine qs_aload_n dX3_nextToken_72 rfl rfl rfl ?_
        refine qs_getR ffX3_9 rfl rfl dX3_nextToken_73 rfl ?_
        refine qs_aload_n dX3_nextToken_76 rfl rfl rfl ?_
        refine qs_getI ffX3_22 rfl rfl dX3_nextToken_77 rfl ?_
        refine qs_bald rfl (by decide) dX3_nextToken_80 rfl (fun g4 => ?_)
        refine qs_cS1i cfX3_123 (Nat.le_of_ble_eq_true rfl) (fun Y hY => kX3_sortOf  hY) (Nat.le_of_ble_eq_true rfl) dX3_nextToken_81 rfl (fun x6 D5 g7 => ?_)
        refine qs_putI fwX3_19 rfl rfl dX3_nextToken_84 rfl (fun D8 => ?_)
        refine qs_aload_n dX3_nextToken_87 rfl rfl rfl ?_
        refine qs_aload_n dX3_nextToken_88 rfl rfl rfl ?_
        refine qs_getI ffX3_22 rfl rfl dX3_nextToken_89 rfl ?_
        refine qs_iconst (1 : Int32) dX3_nextToken_92 (by decide) rfl ?_
        refine qs_iadd dX3_nextToken_93 rfl ?_
        refine qs_putI fwX3_25 rfl rfl dX3_nextToken_94 rfl (fun D9 => ?_)
        refine qs_aload_n dX3_nextToken_97 rfl rfl rfl ?_
        refine qs_getI ffX3_19 rfl rfl dX3_nextToken_98 rfl ?_
        refine qs_if_eq (tgt := 112) dX3_nextToken_101 (by decide) rfl (fun g10 => ?_) (fun g10 => ?_)
        · refine qs_iconst (1 : Int32) dX3_nextToken_112 (by decide) rfl ?_
          refine qs_goto (tgt := 117) dX3_nextToken_113 (by decide) ?_
          refine qs_istore_n (fun v11 => [(1, .int v11), (0, .ref 37)]) dX3_nextToken_117 rfl (by decide) (fun _ => rfl) rfl (fun v11 => ?_)
          exact qs_sub [1, 0] rfl (lX3_nextToken_L118 qs_F v11 D9)
        · refine qs_aload_n dX3_nextToken_104 rfl rfl rfl ?_
          refine qs_getI ffX3_19 rfl rfl dX3_nextToken_105 rfl ?_
          refine qs_iconst (1 : Int32) dX3_nextToken_108 (by decide) rfl ?_
          refine qs_icmp_ne (tgt := 116) dX3_nextToken_109 (by decide) rfl (fun g20 => ?_) (fun g20 => ?_)
          · refine qs_iconst (1 : Int32) dX3_nextToken_112 (by decide) rfl ?_
            refine qs_goto (tgt := 117) dX3_nextToken_113 (by decide) ?_
            refine qs_istore_n (fun v22 => [(1, .int v22), (0, .ref 37)]) dX3_nextToken_117 rfl (by decide) (fun _ => rfl) rfl (fun v22 => ?_)
            exact qs_sub [1, 0] rfl (lX3_nextToken_L118 qs_F v22 D9)
          · refine qs_iconst (0 : Int32) dX3_nextToken_116 (by decide) rfl ?_
            refine qs_istore_n (fun v21 => [(1, .int v21), (0, .ref 37)]) dX3_nextToken_117 rfl (by decide) (fun _ => rfl) rfl (fun v21 => ?_)
            exact qs_sub [1, 0] rfl (lX3_nextToken_L118 qs_F v21 D9)
      · refine qs_aload_n dX3_nextToken_57 rfl rfl rfl ?_
        refine qs_iconst (3 : Int32) dX3_nextToken_58 (by decide) rfl ?_
        refine qs_putI fwX3_19 rfl rfl dX3_nextToken_59 rfl (fun D23 => ?_)
        refine qs_aload_n dX3_nextToken_62 rfl rfl rfl ?_
        refine qs_aload_n dX3_nextToken_63 rfl rfl rfl ?_
        refine qs_getI ffX3_22 rfl rfl dX3_nextToken_64 rfl ?_
        refine qs_putI fwX3_25 rfl rfl dX3_nextToken_67 rfl (fun D24 => ?_)
        exact qs_vret rfl dX3_nextToken_70
    · refine qs_aload_n dX3_nextToken_19 rfl rfl rfl ?_
      refine qs_getR ffX3_9 rfl rfl dX3_nextToken_20 rfl ?_
      refine qs_aload_n dX3_nextToken_23 rfl rfl rfl ?_
      refine qs_getI ffX3_22 rfl rfl dX3_nextToken_24 rfl ?_
      refine qs_bald rfl (by decide) dX3_nextToken_27 rfl (fun g25 => ?_)
      refine qs_bipush (32 : Int32) dX3_nextToken_28 (by decide) rfl ?_
      refine qs_icmp_ne (tgt := 46) dX3_nextToken_30 (by decide) rfl (fun g26 => ?_) (fun g26 => ?_)
      · refine qs_aload_n dX3_nextToken_33 rfl rfl rfl ?_
        refine qs_dup dX3_nextToken_34 rfl rfl ?_
        refine qs_getI ffX3_22 rfl rfl dX3_nextToken_35 rfl ?_
        refine qs_iconst (1 : Int32) dX3_nextToken_38 (by decide) rfl ?_
        refine qs_iadd dX3_nextToken_39 rfl ?_
        refine qs_putI fwX3_22 rfl rfl dX3_nextToken_40 rfl (fun D41 => ?_)
        refine qs_goto (tgt := 8) dX3_nextToken_43 (by decide) ?_
        exact qs_sub [0] rfl (ih D41)
      · refine qs_aload_n dX3_nextToken_46 rfl rfl rfl ?_
        refine qs_getI ffX3_22 rfl rfl dX3_nextToken_47 rfl ?_
        refine qs_aload_n dX3_nextToken_50 rfl rfl rfl ?_
        refine qs_getI ffX3_15 rfl rfl dX3_nextToken_51 rfl ?_
        refine qs_icmp_lt (tgt := 71) dX3_nextToken_54 (by decide) rfl (fun g27 => ?_) (fun g27 => ?_)
        · refine qs_aload_n dX3_nextToken_71 rfl rfl rfl ?_
          refine qs_aload_n dX3_nextToken_72 rfl rfl rfl ?_
          refine qs_getR ffX3_9 rfl rfl dX3_nextToken_73 rfl ?_
          refine qs_aload_n dX3_nextToken_76 rfl rfl rfl ?_
          refine qs_getI ffX3_22 rfl rfl dX3_nextToken_77 rfl ?_
          refine qs_bald rfl (by decide) dX3_nextToken_80 rfl (fun g28 => ?_)
          refine qs_cS1i cfX3_123 (Nat.le_of_ble_eq_true rfl) (fun Y hY => kX3_sortOf  hY) (Nat.le_of_ble_eq_true rfl) dX3_nextToken_81 rfl (fun x30 D29 g31 => ?_)
          refine qs_putI fwX3_19 rfl rfl dX3_nextToken_84 rfl (fun D32 => ?_)
          refine qs_aload_n dX3_nextToken_87 rfl rfl rfl ?_
          refine qs_aload_n dX3_nextToken_88 rfl rfl rfl ?_
          refine qs_getI ffX3_22 rfl rfl dX3_nextToken_89 rfl ?_
          refine qs_iconst (1 : Int32) dX3_nextToken_92 (by decide) rfl ?_
          refine qs_iadd dX3_nextToken_93 rfl ?_
          refine qs_putI fwX3_25 rfl rfl dX3_nextToken_94 rfl (fun D33 => ?_)
          refine qs_aload_n dX3_nextToken_97 rfl rfl rfl ?_
          refine qs_getI ffX3_19 rfl rfl dX3_nextToken_98 rfl ?_
          refine qs_if_eq (tgt := 112) dX3_nextToken_101 (by decide) rfl (fun g34 => ?_) (fun g34 => ?_)
          · refine qs_iconst (1 : Int32) dX3_nextToken_112 (by decide) rfl ?_
            refine qs_goto (tgt := 117) dX3_nextToken_113 (by decide) ?_
            refine qs_istore_n (fun v35 => [(1, .int v35), (0, .ref 37)]) dX3_nextToken_117 rfl (by decide) (fun _ => rfl) rfl (fun v35 => ?_)
            exact qs_sub [1, 0] rfl (lX3_nextToken_L118 qs_F v35 D33)
          · refine qs_aload_n dX3_nextToken_104 rfl rfl rfl ?_
            refine qs_getI ffX3_19 rfl rfl dX3_nextToken_105 rfl ?_
            refine qs_iconst (1 : Int32) dX3_nextToken_108 (by decide) rfl ?_
            refine qs_icmp_ne (tgt := 116) dX3_nextToken_109 (by decide) rfl (fun g36 => ?_) (fun g36 => ?_)
            · refine qs_iconst (1 : Int32) dX3_nextToken_112 (by decide) rfl ?_
              refine qs_goto (tgt := 117) dX3_nextToken_113 (by decide) ?_
              refine qs_istore_n (fun v38 => [(1, .int v38), (0, .ref 37)]) dX3_nextToken_117 rfl (by decide) (fun _ => rfl) rfl (fun v38 => ?_)
              exact qs_sub [1, 0] rfl (lX3_nextToken_L118 qs_F v38 D33)
            · refine qs_iconst (0 : Int32) dX3_nextToken_116 (by decide) rfl ?_
              refine qs_istore_n (fun v37 => [(1, .int v37), (0, .ref 37)]) dX3_nextToken_117 rfl (by decide) (fun _ => rfl) rfl (fun v37 => ?_)
              exact qs_sub [1, 0] rfl (lX3_nextToken_L118 qs_F v37 D33)
        · refine qs_aload_n dX3_nextToken_57 rfl rfl rfl ?_
          refine qs_iconst (3 : Int32) dX3_nextToken_58 (by decide) rfl ?_
          refine qs_putI fwX3_19 rfl rfl dX3_nextToken_59 rfl (fun D39 => ?_)
          refine qs_aload_n dX3_nextToken_62 rfl rfl rfl ?_
          refine qs_aload_n dX3_nextToken_63 rfl rfl rfl ?_
          refine qs_getI ffX3_22 rfl rfl dX3_nextToken_64 rfl ?_
          refine qs_putI fwX3_25 rfl rfl dX3_nextToken_67 rfl (fun D40 => ?_)
          exact qs_vret rfl dX3_nextToken_70
def fX3_nextToken (D : qs_D) : Option (Unit × qs_D) := (qs_let (qs_u D 37 3 (D 37 4)) (fun D1 => (fX3_nextToken_L8 qs_F D1)))
set_option maxRecDepth 20000 in
theorem kX3_nextToken {l : Launch} {E : qs_E} {A : Nat → Prop} {D : qs_D} {X : Unit × qs_D}  (hX : fX3_nextToken  D = some X) : qs_Ctr l E A shX yX3_nextToken mX3_nextToken 1 qs_rv [.ref 37] D X := by
  refine qs_enter (plainFor_of_name (by decide)) rfl (Nat.le_of_ble_eq_true rfl) ?_ hX
  show qs_VO l E A shX mX3_nextToken 1 qs_rv 0 [(0, .ref 37)] [] D (fX3_nextToken  D)
  unfold fX3_nextToken
  refine qs_aload_n dX3_nextToken_0 rfl rfl rfl ?_
  refine qs_aload_n dX3_nextToken_1 rfl rfl rfl ?_
  refine qs_getI ffX3_25 rfl rfl dX3_nextToken_2 rfl ?_
  refine qs_putI fwX3_22 rfl rfl dX3_nextToken_5 rfl (fun D1 => ?_)
  exact qs_sub [0] rfl (lX3_nextToken_L8 qs_F D1)
def fX3_isWord_L27 (r1 : Nat) : Nat → Int32 → qs_D → Option (Int32 × qs_D)
  | 0, _, _ => none
  | n + 1, w2, D => (if (qs_sl r1) ≤ w2 then (some ((1 : Int32), D)) else (qs_g ((D 37 3) + w2) 120 (qs_gs w2 r1 (if (D 38 ((D 37 3) + w2).toNatClampNeg) = (qs_sc r1 w2) then (qs_let (w2 + (1 : Int32)) (fun v8 => (fX3_isWord_L27 r1 n v8 D))) else (some ((0 : Int32), D))))))
set_option maxRecDepth 20000 in
theorem lX3_isWord_L27 {l : Launch} {E : qs_E} {A : Nat → Prop} {r1 : Nat} (h1 : qs_isW r1) : ∀ (n : Nat) (w2 : Int32) (D : qs_D), qs_VO l E A shX mX3_isWord 4 qs_ri 27 [(0, .ref 37), (1, .ref r1), (2, .int w2)] [] D (fX3_isWord_L27 r1 n w2 D) := by
  intro n
  induction n with
  | zero => intro w2 D; exact qs_none
  | succ n ih =>
    intro w2 D
    unfold fX3_isWord_L27
    refine qs_iload_n dX3_isWord_27 rfl rfl rfl ?_
    refine qs_aload_n dX3_isWord_28 rfl rfl rfl ?_
    refine qs_strlen cfX3_115 h1 (Nat.le_of_ble_eq_true rfl) (Nat.le_of_ble_eq_true rfl) dX3_isWord_29 rfl ?_
    refine qs_icmp_ge (tgt := 62) dX3_isWord_32 (by decide) rfl (fun g4 => ?_) (fun g4 => ?_)
    · refine qs_iconst (1 : Int32) dX3_isWord_62 (by decide) rfl ?_
      exact qs_zret (Or.inr rfl) rfl dX3_isWord_63
    · refine qs_aload_n dX3_isWord_35 rfl rfl rfl ?_
      refine qs_getR ffX3_9 rfl rfl dX3_isWord_36 rfl ?_
      refine qs_aload_n dX3_isWord_39 rfl rfl rfl ?_
      refine qs_getI ffX3_22 rfl rfl dX3_isWord_40 rfl ?_
      refine qs_iload_n dX3_isWord_43 rfl rfl rfl ?_
      refine qs_iadd dX3_isWord_44 rfl ?_
      refine qs_bald rfl (by decide) dX3_isWord_45 rfl (fun g5 => ?_)
      refine qs_aload_n dX3_isWord_46 rfl rfl rfl ?_
      refine qs_iload_n dX3_isWord_47 rfl rfl rfl ?_
      refine qs_charat cfX3_119 h1 (Nat.le_of_ble_eq_true rfl) (Nat.le_of_ble_eq_true rfl) dX3_isWord_48 rfl (fun g6 => ?_)
      refine qs_icmp_eq (tgt := 56) dX3_isWord_51 (by decide) rfl (fun g7 => ?_) (fun g7 => ?_)
      · refine qs_iinc (fun v8 => [(2, .int v8), (0, .ref 37), (1, .ref r1)]) (1 : Int32) dX3_isWord_56 rfl (by decide) (by decide) (fun _ => rfl) rfl (fun v8 => ?_)
        refine qs_goto (tgt := 27) dX3_isWord_59 (by decide) ?_
        exact qs_sub [1, 2, 0] rfl (ih v8 D)
      · refine qs_iconst (0 : Int32) dX3_isWord_54 (by decide) rfl ?_
        exact qs_zret (Or.inl rfl) rfl dX3_isWord_55
def fX3_isWord (r1 : Nat) (D : qs_D) : Option (Int32 × qs_D) := (if (D 37 2) = 0 then (if ((D 37 4) - (D 37 3)) = (qs_sl r1) then (qs_let (0 : Int32) (fun v3 => (fX3_isWord_L27 r1 qs_F v3 D))) else (some ((0 : Int32), D))) else (some ((0 : Int32), D)))
set_option maxRecDepth 20000 in
theorem kX3_isWord {l : Launch} {E : qs_E} {A : Nat → Prop} {r1 : Nat} {D : qs_D} {X : Int32 × qs_D} (h1 : qs_isW r1) (hX : fX3_isWord r1 D = some X) : qs_Ctr l E A shX yX3_isWord mX3_isWord 4 qs_ri [.ref 37, .ref r1] D X := by
  refine qs_enter (plainFor_of_name (by decide)) rfl (Nat.le_of_ble_eq_true rfl) ?_ hX
  show qs_VO l E A shX mX3_isWord 4 qs_ri 0 [(0, .ref 37), (1, .ref r1)] [] D (fX3_isWord r1 D)
  unfold fX3_isWord
  refine qs_aload_n dX3_isWord_0 rfl rfl rfl ?_
  refine qs_getI ffX3_19 rfl rfl dX3_isWord_1 rfl ?_
  refine qs_if_ne (tgt := 23) dX3_isWord_4 (by decide) rfl (fun g1 => ?_) (fun g1 => ?_)
  · refine qs_aload_n dX3_isWord_7 rfl rfl rfl ?_
    refine qs_getI ffX3_25 rfl rfl dX3_isWord_8 rfl ?_
    refine qs_aload_n dX3_isWord_11 rfl rfl rfl ?_
    refine qs_getI ffX3_22 rfl rfl dX3_isWord_12 rfl ?_
    refine qs_isub dX3_isWord_15 rfl ?_
    refine qs_aload_n dX3_isWord_16 rfl rfl rfl ?_
    refine qs_strlen cfX3_115 h1 (Nat.le_of_ble_eq_true rfl) (Nat.le_of_ble_eq_true rfl) dX3_isWord_17 rfl ?_
    refine qs_icmp_eq (tgt := 25) dX3_isWord_20 (by decide) rfl (fun g2 => ?_) (fun g2 => ?_)
    · refine qs_iconst (0 : Int32) dX3_isWord_25 (by decide) rfl ?_
      refine qs_istore_n (fun v3 => [(2, .int v3), (0, .ref 37), (1, .ref r1)]) dX3_isWord_26 rfl (by decide) (fun _ => rfl) rfl (fun v3 => ?_)
      exact qs_sub [1, 2, 0] rfl (lX3_isWord_L27 h1 qs_F v3 D)
    · refine qs_iconst (0 : Int32) dX3_isWord_23 (by decide) rfl ?_
      exact qs_zret (Or.inl rfl) rfl dX3_isWord_24
  · refine qs_iconst (0 : Int32) dX3_isWord_23 (by decide) rfl ?_
    exact qs_zret (Or.inl rfl) rfl dX3_isWord_24
def fX3_kindNamed (D : qs_D) : Option (Int32 × qs_D) := (qs_bind (fX3_isWord (1000 + 0) D) (fun x2 D1 => (if x2 = 0 then (qs_bind (fX3_isWord (1000 + 1) D1) (fun x6 D5 => (if x6 = 0 then (qs_bind (fX3_isWord (1000 + 2) D5) (fun x10 D9 => (if x10 = 0 then (qs_bind (fX3_isWord (1000 + 3) D9) (fun x14 D13 => (if x14 = 0 then (qs_bind (fX3_isWord (1000 + 4) D13) (fun x18 D17 => (if x18 = 0 then (qs_bind (fX3_isWord (1000 + 5) D17) (fun x22 D21 => (if x22 = 0 then (qs_bind (fX3_isWord (1000 + 6) D21) (fun x26 D25 => (if x26 = 0 then (some ((-1 : Int32), D25)) else (some ((6 : Int32), D25))))) else (some ((5 : Int32), D21))))) else (some ((4 : Int32), D17))))) else (some ((3 : Int32), D13))))) else (some ((2 : Int32), D9))))) else (some ((1 : Int32), D5))))) else (some ((0 : Int32), D1)))))
set_option maxRecDepth 20000 in
theorem kX3_kindNamed {l : Launch} {E : qs_E} {A : Nat → Prop} {D : qs_D} {X : Int32 × qs_D}  (hX : fX3_kindNamed  D = some X) : qs_Ctr l E A shX yX3_kindNamed mX3_kindNamed 5 qs_ri [.ref 37] D X := by
  refine qs_enter (plainFor_of_name (by decide)) rfl (Nat.le_of_ble_eq_true rfl) ?_ hX
  show qs_VO l E A shX mX3_kindNamed 5 qs_ri 0 [(0, .ref 37)] [] D (fX3_kindNamed  D)
  unfold fX3_kindNamed
  refine qs_aload_n dX3_kindNamed_0 rfl rfl rfl ?_
  refine qs_ldcS (k0 := 0) rfl rfl dX3_kindNamed_1 rfl ?_
  refine qs_cV1i cfX3_98 (Nat.le_of_ble_eq_true rfl) rfl rfl (fun Y hY => kX3_isWord (qs_w0 0 (by decide)) hY) (Nat.le_of_ble_eq_true rfl) dX3_kindNamed_3 rfl (fun x2 D1 g3 => ?_)
  refine qs_if_eq (tgt := 11) dX3_kindNamed_6 (by decide) rfl (fun g4 => ?_) (fun g4 => ?_)
  · refine qs_aload_n dX3_kindNamed_11 rfl rfl rfl ?_
    refine qs_ldcS (k0 := 1) rfl rfl dX3_kindNamed_12 rfl ?_
    refine qs_cV1i cfX3_98 (Nat.le_of_ble_eq_true rfl) rfl rfl (fun Y hY => kX3_isWord (qs_w0 1 (by decide)) hY) (Nat.le_of_ble_eq_true rfl) dX3_kindNamed_14 rfl (fun x6 D5 g7 => ?_)
    refine qs_if_eq (tgt := 22) dX3_kindNamed_17 (by decide) rfl (fun g8 => ?_) (fun g8 => ?_)
    · refine qs_aload_n dX3_kindNamed_22 rfl rfl rfl ?_
      refine qs_ldcS (k0 := 2) rfl rfl dX3_kindNamed_23 rfl ?_
      refine qs_cV1i cfX3_98 (Nat.le_of_ble_eq_true rfl) rfl rfl (fun Y hY => kX3_isWord (qs_w0 2 (by decide)) hY) (Nat.le_of_ble_eq_true rfl) dX3_kindNamed_25 rfl (fun x10 D9 g11 => ?_)
      refine qs_if_eq (tgt := 33) dX3_kindNamed_28 (by decide) rfl (fun g12 => ?_) (fun g12 => ?_)
      · refine qs_aload_n dX3_kindNamed_33 rfl rfl rfl ?_
        refine qs_ldcS (k0 := 3) rfl rfl dX3_kindNamed_34 rfl ?_
        refine qs_cV1i cfX3_98 (Nat.le_of_ble_eq_true rfl) rfl rfl (fun Y hY => kX3_isWord (qs_w0 3 (by decide)) hY) (Nat.le_of_ble_eq_true rfl) dX3_kindNamed_36 rfl (fun x14 D13 g15 => ?_)
        refine qs_if_eq (tgt := 44) dX3_kindNamed_39 (by decide) rfl (fun g16 => ?_) (fun g16 => ?_)
        · refine qs_aload_n dX3_kindNamed_44 rfl rfl rfl ?_
          refine qs_ldcS (k0 := 4) rfl rfl dX3_kindNamed_45 rfl ?_
          refine qs_cV1i cfX3_98 (Nat.le_of_ble_eq_true rfl) rfl rfl (fun Y hY => kX3_isWord (qs_w0 4 (by decide)) hY) (Nat.le_of_ble_eq_true rfl) dX3_kindNamed_47 rfl (fun x18 D17 g19 => ?_)
          refine qs_if_eq (tgt := 55) dX3_kindNamed_50 (by decide) rfl (fun g20 => ?_) (fun g20 => ?_)
          · refine qs_aload_n dX3_kindNamed_55 rfl rfl rfl ?_
            refine qs_ldcS (k0 := 5) rfl rfl dX3_kindNamed_56 rfl ?_
            refine qs_cV1i cfX3_98 (Nat.le_of_ble_eq_true rfl) rfl rfl (fun Y hY => kX3_isWord (qs_w0 5 (by decide)) hY) (Nat.le_of_ble_eq_true rfl) dX3_kindNamed_58 rfl (fun x22 D21 g23 => ?_)
            refine qs_if_eq (tgt := 66) dX3_kindNamed_61 (by decide) rfl (fun g24 => ?_) (fun g24 => ?_)
            · refine qs_aload_n dX3_kindNamed_66 rfl rfl rfl ?_
              refine qs_ldcS (k0 := 6) rfl rfl dX3_kindNamed_67 rfl ?_
              refine qs_cV1i cfX3_98 (Nat.le_of_ble_eq_true rfl) rfl rfl (fun Y hY => kX3_isWord (qs_w0 6 (by decide)) hY) (Nat.le_of_ble_eq_true rfl) dX3_kindNamed_69 rfl (fun x26 D25 g27 => ?_)
              refine qs_if_eq (tgt := 80) dX3_kindNamed_72 (by decide) rfl (fun g28 => ?_) (fun g28 => ?_)
              · refine qs_iconst (-1 : Int32) dX3_kindNamed_80 (by decide) rfl ?_
                exact qs_iret rfl dX3_kindNamed_81
              · refine qs_bipush (6 : Int32) dX3_kindNamed_75 (by decide) rfl ?_
                refine qs_goto (tgt := 81) dX3_kindNamed_77 (by decide) ?_
                exact qs_iret rfl dX3_kindNamed_81
            · refine qs_iconst (5 : Int32) dX3_kindNamed_64 (by decide) rfl ?_
              exact qs_iret rfl dX3_kindNamed_65
          · refine qs_iconst (4 : Int32) dX3_kindNamed_53 (by decide) rfl ?_
            exact qs_iret rfl dX3_kindNamed_54
        · refine qs_iconst (3 : Int32) dX3_kindNamed_42 (by decide) rfl ?_
          exact qs_iret rfl dX3_kindNamed_43
      · refine qs_iconst (2 : Int32) dX3_kindNamed_31 (by decide) rfl ?_
        exact qs_iret rfl dX3_kindNamed_32
    · refine qs_iconst (1 : Int32) dX3_kindNamed_20 (by decide) rfl ?_
      exact qs_iret rfl dX3_kindNamed_21
  · refine qs_iconst (0 : Int32) dX3_kindNamed_9 (by decide) rfl ?_
    exact qs_iret rfl dX3_kindNamed_10
def fX3_skipWord (r1 : Nat) (D : qs_D) : Option (Int32 × qs_D) := (qs_bind (fX3_isWord r1 D) (fun x2 D1 => (if x2 = 0 then (some ((0 : Int32), D1)) else (qs_bind (fX3_nextToken D1) (fun x6 D5 => (some ((1 : Int32), D5)))))))
set_option maxRecDepth 20000 in
theorem kX3_skipWord {l : Launch} {E : qs_E} {A : Nat → Prop} {r1 : Nat} {D : qs_D} {X : Int32 × qs_D} (h1 : qs_isW r1) (hX : fX3_skipWord r1 D = some X) : qs_Ctr l E A shX yX3_skipWord mX3_skipWord 5 qs_ri [.ref 37, .ref r1] D X := by
  refine qs_enter (plainFor_of_name (by decide)) rfl (Nat.le_of_ble_eq_true rfl) ?_ hX
  show qs_VO l E A shX mX3_skipWord 5 qs_ri 0 [(0, .ref 37), (1, .ref r1)] [] D (fX3_skipWord r1 D)
  unfold fX3_skipWord
  refine qs_aload_n dX3_skipWord_0 rfl rfl rfl ?_
  refine qs_aload_n dX3_skipWord_1 rfl rfl rfl ?_
  refine qs_cV1i cfX3_98 (Nat.le_of_ble_eq_true rfl) rfl rfl (fun Y hY => kX3_isWord h1 hY) (Nat.le_of_ble_eq_true rfl) dX3_skipWord_2 rfl (fun x2 D1 g3 => ?_)
  refine qs_if_ne (tgt := 10) dX3_skipWord_5 (by decide) rfl (fun g4 => ?_) (fun g4 => ?_)
  · refine qs_iconst (0 : Int32) dX3_skipWord_8 (by decide) rfl ?_
    exact qs_zret (Or.inl rfl) rfl dX3_skipWord_9
  · refine qs_aload_n dX3_skipWord_10 rfl rfl rfl ?_
    refine qs_cV0v cfX3_28 (Nat.le_of_ble_eq_true rfl) rfl rfl (fun Y hY => kX3_nextToken  hY) (Nat.le_of_ble_eq_true rfl) dX3_skipWord_11 rfl (fun x6 D5 g7 => ?_)
    refine qs_iconst (1 : Int32) dX3_skipWord_14 (by decide) rfl ?_
    exact qs_zret (Or.inr rfl) rfl dX3_skipWord_15
def fX3_valueOfToken_L7 : Nat → Int32 → Int32 → qs_D → Option (Int32 × qs_D)
  | 0, _, _, _ => none
  | n + 1, w1, w2, D => (if (D 37 4) ≤ w2 then (some (w1, D)) else (qs_g w2 120 (qs_bind (fJ9_min_7cf53 (1000 : Int32) (((w1 * (10 : Int32)) + (D 38 w2.toNatClampNeg)) - (48 : Int32)) D) (fun x6 D5 => (qs_let x6 (fun v8 => (qs_let (w2 + (1 : Int32)) (fun v9 => (fX3_valueOfToken_L7 n v8 v9 D5)))))))))
set_option maxRecDepth 20000 in
theorem lX3_valueOfToken_L7 {l : Launch} {E : qs_E} {A : Nat → Prop}  : ∀ (n : Nat) (w1 : Int32) (w2 : Int32) (D : qs_D), qs_VO l E A shX mX3_valueOfToken 1 qs_ri 7 [(0, .ref 37), (1, .int w1), (2, .int w2)] [] D (fX3_valueOfToken_L7 n w1 w2 D) := by
  intro n
  induction n with
  | zero => intro w1 w2 D; exact qs_none
  | succ n ih =>
    intro w1 w2 D
    unfold fX3_valueOfToken_L7
    refine qs_iload_n dX3_valueOfToken_7 rfl rfl rfl ?_
    refine qs_aload_n dX3_valueOfToken_8 rfl rfl rfl ?_
    refine qs_getI ffX3_25 rfl rfl dX3_valueOfToken_9 rfl ?_
    refine qs_icmp_ge (tgt := 42) dX3_valueOfToken_12 (by decide) rfl (fun g3 => ?_) (fun g3 => ?_)
    · refine qs_iload_n dX3_valueOfToken_42 rfl rfl rfl ?_
      exact qs_iret rfl dX3_valueOfToken_43
    · refine qs_sipush (1000 : Int32) dX3_valueOfToken_15 (by decide) rfl ?_
      refine qs_iload_n dX3_valueOfToken_18 rfl rfl rfl ?_
      refine qs_bipush (10 : Int32) dX3_valueOfToken_19 (by decide) rfl ?_
      refine qs_imul dX3_valueOfToken_21 rfl ?_
      refine qs_aload_n dX3_valueOfToken_22 rfl rfl rfl ?_
      refine qs_getR ffX3_9 rfl rfl dX3_valueOfToken_23 rfl ?_
      refine qs_iload_n dX3_valueOfToken_26 rfl rfl rfl ?_
      refine qs_bald rfl (by decide) dX3_valueOfToken_27 rfl (fun g4 => ?_)
      refine qs_iadd dX3_valueOfToken_28 rfl ?_
      refine qs_bipush (48 : Int32) dX3_valueOfToken_29 (by decide) rfl ?_
      refine qs_isub dX3_valueOfToken_31 rfl ?_
      refine qs_cS2i cfX3_127 (Nat.le_of_ble_eq_true rfl) (fun Y hY => kJ9_min_7cf53  hY) (Nat.le_of_ble_eq_true rfl) dX3_valueOfToken_32 rfl (fun x6 D5 g7 => ?_)
      refine qs_istore_n (fun v8 => [(1, .int v8), (0, .ref 37), (2, .int w2)]) dX3_valueOfToken_35 rfl (by decide) (fun _ => rfl) rfl (fun v8 => ?_)
      refine qs_iinc (fun v9 => [(2, .int v9), (1, .int v8), (0, .ref 37)]) (1 : Int32) dX3_valueOfToken_36 rfl (by decide) (by decide) (fun _ => rfl) rfl (fun v9 => ?_)
      refine qs_goto (tgt := 7) dX3_valueOfToken_39 (by decide) ?_
      exact qs_sub [2, 1, 0] rfl (ih v8 v9 D5)
def fX3_valueOfToken (D : qs_D) : Option (Int32 × qs_D) := (qs_let (0 : Int32) (fun v1 => (qs_let (D 37 3) (fun v2 => (fX3_valueOfToken_L7 qs_F v1 v2 D)))))
set_option maxRecDepth 20000 in
theorem kX3_valueOfToken {l : Launch} {E : qs_E} {A : Nat → Prop} {D : qs_D} {X : Int32 × qs_D}  (hX : fX3_valueOfToken  D = some X) : qs_Ctr l E A shX yX3_valueOfToken mX3_valueOfToken 1 qs_ri [.ref 37] D X := by
  refine qs_enter (plainFor_of_name (by decide)) rfl (Nat.le_of_ble_eq_true rfl) ?_ hX
  show qs_VO l E A shX mX3_valueOfToken 1 qs_ri 0 [(0, .ref 37)] [] D (fX3_valueOfToken  D)
  unfold fX3_valueOfToken
  refine qs_iconst (0 : Int32) dX3_valueOfToken_0 (by decide) rfl ?_
  refine qs_istore_n (fun v1 => [(1, .int v1), (0, .ref 37)]) dX3_valueOfToken_1 rfl (by decide) (fun _ => rfl) rfl (fun v1 => ?_)
  refine qs_aload_n dX3_valueOfToken_2 rfl rfl rfl ?_
  refine qs_getI ffX3_22 rfl rfl dX3_valueOfToken_3 rfl ?_
  refine qs_istore_n (fun v2 => [(2, .int v2), (1, .int v1), (0, .ref 37)]) dX3_valueOfToken_6 rfl (by decide) (fun _ => rfl) rfl (fun v2 => ?_)
  exact qs_sub [2, 1, 0] rfl (lX3_valueOfToken_L7 qs_F v1 v2 D)
def fX3_readNumber (p1 : Int32) (D : qs_D) : Option (Int32 × qs_D) := (if (D 37 2) = (1 : Int32) then (qs_bind (fX3_valueOfToken D) (fun x3 D2 => (qs_let x3 (fun v5 => (if v5 ≤ p1 then (qs_bind (fX3_nextToken D2) (fun x8 D7 => (some (v5, D7)))) else (some ((-1 : Int32), D2))))))) else (some ((-1 : Int32), D)))
set_option maxRecDepth 20000 in
theorem kX3_readNumber {l : Launch} {E : qs_E} {A : Nat → Prop} {p1 : Int32} {D : qs_D} {X : Int32 × qs_D}  (hX : fX3_readNumber p1 D = some X) : qs_Ctr l E A shX yX3_readNumber mX3_readNumber 2 qs_ri [.ref 37, .int p1] D X := by
  refine qs_enter (plainFor_of_name (by decide)) rfl (Nat.le_of_ble_eq_true rfl) ?_ hX
  show qs_VO l E A shX mX3_readNumber 2 qs_ri 0 [(0, .ref 37), (1, .int p1)] [] D (fX3_readNumber p1 D)
  unfold fX3_readNumber
  refine qs_aload_n dX3_readNumber_0 rfl rfl rfl ?_
  refine qs_getI ffX3_19 rfl rfl dX3_readNumber_1 rfl ?_
  refine qs_iconst (1 : Int32) dX3_readNumber_4 (by decide) rfl ?_
  refine qs_icmp_eq (tgt := 10) dX3_readNumber_5 (by decide) rfl (fun g1 => ?_) (fun g1 => ?_)
  · refine qs_aload_n dX3_readNumber_10 rfl rfl rfl ?_
    refine qs_cV0i cfX3_95 (Nat.le_of_ble_eq_true rfl) rfl rfl (fun Y hY => kX3_valueOfToken  hY) (Nat.le_of_ble_eq_true rfl) dX3_readNumber_11 rfl (fun x3 D2 g4 => ?_)
    refine qs_istore_n (fun v5 => [(2, .int v5), (0, .ref 37), (1, .int p1)]) dX3_readNumber_14 rfl (by decide) (fun _ => rfl) rfl (fun v5 => ?_)
    refine qs_iload_n dX3_readNumber_15 rfl rfl rfl ?_
    refine qs_iload_n dX3_readNumber_16 rfl rfl rfl ?_
    refine qs_icmp_le (tgt := 22) dX3_readNumber_17 (by decide) rfl (fun g6 => ?_) (fun g6 => ?_)
    · refine qs_aload_n dX3_readNumber_22 rfl rfl rfl ?_
      refine qs_cV0v cfX3_28 (Nat.le_of_ble_eq_true rfl) rfl rfl (fun Y hY => kX3_nextToken  hY) (Nat.le_of_ble_eq_true rfl) dX3_readNumber_23 rfl (fun x8 D7 g9 => ?_)
      refine qs_iload_n dX3_readNumber_26 rfl rfl rfl ?_
      exact qs_iret rfl dX3_readNumber_27
    · refine qs_iconst (-1 : Int32) dX3_readNumber_20 (by decide) rfl ?_
      exact qs_iret rfl dX3_readNumber_21
  · refine qs_iconst (-1 : Int32) dX3_readNumber_8 (by decide) rfl ?_
    exact qs_iret rfl dX3_readNumber_9
def fX3_readDish (r1 : Nat) (D : qs_D) : Option (Int32 × qs_D) := (qs_bind (fX3_nextToken D) (fun x2 D1 => (qs_bind (fX3_skipWord (1000 + 7) D1) (fun x5 D4 => (if x5 = 0 then (qs_bind (fX3_skipWord (1000 + 8) D4) (fun x9 D8 => (if x9 = 0 then (qs_bind (fX3_skipWord (1000 + 9) D8) (fun x13 D12 => (if x13 = 0 then (qs_let (qs_u D12 r1 4 (0 : Int32)) (fun D16 => (qs_bind (fX3_skipWord (1000 + 10) D16) (fun x18 D17 => (if x18 = 0 then (qs_let (qs_u D17 r1 3 (0 : Int32)) (fun D21 => (some ((1 : Int32), D21)))) else (qs_let (qs_u D17 r1 3 (1 : Int32)) (fun D22 => (some ((1 : Int32), D22))))))))) else (qs_let (qs_u D12 r1 4 (1 : Int32)) (fun D23 => (qs_bind (fX3_skipWord (1000 + 10) D23) (fun x25 D24 => (if x25 = 0 then (qs_let (qs_u D24 r1 3 (0 : Int32)) (fun D28 => (some ((1 : Int32), D28)))) else (qs_let (qs_u D24 r1 3 (1 : Int32)) (fun D29 => (some ((1 : Int32), D29)))))))))))) else (qs_bind (fX3_readNumber (99 : Int32) D8) (fun x31 D30 => (qs_let (qs_u D30 r1 2 x31) (fun D33 => (if 0 ≤ (D33 r1 2) then (qs_bind (fX3_skipWord (1000 + 9) D33) (fun x36 D35 => (if x36 = 0 then (qs_let (qs_u D35 r1 4 (0 : Int32)) (fun D39 => (qs_bind (fX3_skipWord (1000 + 10) D39) (fun x41 D40 => (if x41 = 0 then (qs_let (qs_u D40 r1 3 (0 : Int32)) (fun D44 => (some ((1 : Int32), D44)))) else (qs_let (qs_u D40 r1 3 (1 : Int32)) (fun D45 => (some ((1 : Int32), D45))))))))) else (qs_let (qs_u D35 r1 4 (1 : Int32)) (fun D46 => (qs_bind (fX3_skipWord (1000 + 10) D46) (fun x48 D47 => (if x48 = 0 then (qs_let (qs_u D47 r1 3 (0 : Int32)) (fun D51 => (some ((1 : Int32), D51)))) else (qs_let (qs_u D47 r1 3 (1 : Int32)) (fun D52 => (some ((1 : Int32), D52)))))))))))) else (some ((0 : Int32), D33)))))))))) else (qs_bind (fX3_readNumber (99 : Int32) D4) (fun x54 D53 => (qs_let (qs_u D53 r1 1 x54) (fun D56 => (if 0 ≤ (D56 r1 1) then (qs_bind (fX3_skipWord (1000 + 8) D56) (fun x59 D58 => (if x59 = 0 then (qs_bind (fX3_skipWord (1000 + 9) D58) (fun x63 D62 => (if x63 = 0 then (qs_let (qs_u D62 r1 4 (0 : Int32)) (fun D66 => (qs_bind (fX3_skipWord (1000 + 10) D66) (fun x68 D67 => (if x68 = 0 then (qs_let (qs_u D67 r1 3 (0 : Int32)) (fun D71 => (some ((1 : Int32), D71)))) else (qs_let (qs_u D67 r1 3 (1 : Int32)) (fun D72 => (some ((1 : Int32), D72))))))))) else (qs_let (qs_u D62 r1 4 (1 : Int32)) (fun D73 => (qs_bind (fX3_skipWord (1000 + 10) D73) (fun x75 D74 => (if x75 = 0 then (qs_let (qs_u D74 r1 3 (0 : Int32)) (fun D78 => (some ((1 : Int32), D78)))) else (qs_let (qs_u D74 r1 3 (1 : Int32)) (fun D79 => (some ((1 : Int32), D79)))))))))))) else (qs_bind (fX3_readNumber (99 : Int32) D58) (fun x81 D80 => (qs_let (qs_u D80 r1 2 x81) (fun D83 => (if 0 ≤ (D83 r1 2) then (qs_bind (fX3_skipWord (1000 + 9) D83) (fun x86 D85 => (if x86 = 0 then (qs_let (qs_u D85 r1 4 (0 : Int32)) (fun D89 => (qs_bind (fX3_skipWord (1000 + 10) D89) (fun x91 D90 => (if x91 = 0 then (qs_let (qs_u D90 r1 3 (0 : Int32)) (fun D94 => (some ((1 : Int32), D94)))) else (qs_let (qs_u D90 r1 3 (1 : Int32)) (fun D95 => (some ((1 : Int32), D95))))))))) else (qs_let (qs_u D85 r1 4 (1 : Int32)) (fun D96 => (qs_bind (fX3_skipWord (1000 + 10) D96) (fun x98 D97 => (if x98 = 0 then (qs_let (qs_u D97 r1 3 (0 : Int32)) (fun D101 => (some ((1 : Int32), D101)))) else (qs_let (qs_u D97 r1 3 (1 : Int32)) (fun D102 => (some ((1 : Int32), D102)))))))))))) else (some ((0 : Int32), D83)))))))))) else (some ((0 : Int32), D56))))))))))))
set_option maxRecDepth 20000 in
theorem kX3_readDish {l : Launch} {E : qs_E} {A : Nat → Prop} {r1 : Nat} {D : qs_D} {X : Int32 × qs_D} (h1 : qs_isD r1) (hX : fX3_readDish r1 D = some X) : qs_Ctr l E A shX yX3_readDish mX3_readDish 6 qs_ri [.ref 37, .ref r1] D X := by
  refine qs_enter (plainFor_of_name (by decide)) rfl (Nat.le_of_ble_eq_true rfl) ?_ hX
  show qs_VO l E A shX mX3_readDish 6 qs_ri 0 [(0, .ref 37), (1, .ref r1)] [] D (fX3_readDish r1 D)
  unfold fX3_readDish
  refine qs_aload_n dX3_readDish_0 rfl rfl rfl ?_
  refine qs_cV0v cfX3_28 (Nat.le_of_ble_eq_true rfl) rfl rfl (fun Y hY => kX3_nextToken  hY) (Nat.le_of_ble_eq_true rfl) dX3_readDish_1 rfl (fun x2 D1 g3 => ?_)
  refine qs_aload_n dX3_readDish_4 rfl rfl rfl ?_
  refine qs_ldcS (k0 := 7) rfl rfl dX3_readDish_5 rfl ?_
  refine qs_cV1i cfX3_54 (Nat.le_of_ble_eq_true rfl) rfl rfl (fun Y hY => kX3_skipWord (qs_w0 7 (by decide)) hY) (Nat.le_of_ble_eq_true rfl) dX3_readDish_7 rfl (fun x5 D4 g6 => ?_)
  refine qs_if_eq (tgt := 32) dX3_readDish_10 (by decide) rfl (fun g7 => ?_) (fun g7 => ?_)
  · refine qs_aload_n dX3_readDish_32 rfl rfl rfl ?_
    refine qs_ldcS (k0 := 8) rfl rfl dX3_readDish_33 rfl ?_
    refine qs_cV1i cfX3_54 (Nat.le_of_ble_eq_true rfl) rfl rfl (fun Y hY => kX3_skipWord (qs_w0 8 (by decide)) hY) (Nat.le_of_ble_eq_true rfl) dX3_readDish_35 rfl (fun x9 D8 g10 => ?_)
    refine qs_if_eq (tgt := 60) dX3_readDish_38 (by decide) rfl (fun g11 => ?_) (fun g11 => ?_)
    · refine qs_aload_n dX3_readDish_60 rfl rfl rfl ?_
      refine qs_aload_n dX3_readDish_61 rfl rfl rfl ?_
      refine qs_ldcS (k0 := 9) rfl rfl dX3_readDish_62 rfl ?_
      refine qs_cV1i cfX3_54 (Nat.le_of_ble_eq_true rfl) rfl rfl (fun Y hY => kX3_skipWord (qs_w0 9 (by decide)) hY) (Nat.le_of_ble_eq_true rfl) dX3_readDish_64 rfl (fun x13 D12 g14 => ?_)
      refine qs_if_eq (tgt := 74) dX3_readDish_67 (by decide) rfl (fun g15 => ?_) (fun g15 => ?_)
      · refine qs_iconst (0 : Int32) dX3_readDish_74 (by decide) rfl ?_
        refine qs_putI fwX3_85 h1 rfl dX3_readDish_75 rfl (fun D16 => ?_)
        refine qs_aload_n dX3_readDish_78 rfl rfl rfl ?_
        refine qs_aload_n dX3_readDish_79 rfl rfl rfl ?_
        refine qs_ldcS (k0 := 10) rfl rfl dX3_readDish_80 rfl ?_
        refine qs_cV1i cfX3_54 (Nat.le_of_ble_eq_true rfl) rfl rfl (fun Y hY => kX3_skipWord (qs_w0 10 (by decide)) hY) (Nat.le_of_ble_eq_true rfl) dX3_readDish_82 rfl (fun x18 D17 g19 => ?_)
        refine qs_if_eq (tgt := 92) dX3_readDish_85 (by decide) rfl (fun g20 => ?_) (fun g20 => ?_)
        · refine qs_iconst (0 : Int32) dX3_readDish_92 (by decide) rfl ?_
          refine qs_putI fwX3_89 h1 rfl dX3_readDish_93 rfl (fun D21 => ?_)
          refine qs_iconst (1 : Int32) dX3_readDish_96 (by decide) rfl ?_
          exact qs_zret (Or.inr rfl) rfl dX3_readDish_97
        · refine qs_iconst (1 : Int32) dX3_readDish_88 (by decide) rfl ?_
          refine qs_goto (tgt := 93) dX3_readDish_89 (by decide) ?_
          refine qs_putI fwX3_89 h1 rfl dX3_readDish_93 rfl (fun D22 => ?_)
          refine qs_iconst (1 : Int32) dX3_readDish_96 (by decide) rfl ?_
          exact qs_zret (Or.inr rfl) rfl dX3_readDish_97
      · refine qs_iconst (1 : Int32) dX3_readDish_70 (by decide) rfl ?_
        refine qs_goto (tgt := 75) dX3_readDish_71 (by decide) ?_
        refine qs_putI fwX3_85 h1 rfl dX3_readDish_75 rfl (fun D23 => ?_)
        refine qs_aload_n dX3_readDish_78 rfl rfl rfl ?_
        refine qs_aload_n dX3_readDish_79 rfl rfl rfl ?_
        refine qs_ldcS (k0 := 10) rfl rfl dX3_readDish_80 rfl ?_
        refine qs_cV1i cfX3_54 (Nat.le_of_ble_eq_true rfl) rfl rfl (fun Y hY => kX3_skipWord (qs_w0 10 (by decide)) hY) (Nat.le_of_ble_eq_true rfl) dX3_readDish_82 rfl (fun x25 D24 g26 => ?_)
        refine qs_if_eq (tgt := 92) dX3_readDish_85 (by decide) rfl (fun g27 => ?_) (fun g27 => ?_)
        · refine qs_iconst (0 : Int32) dX3_readDish_92 (by decide) rfl ?_
          refine qs_putI fwX3_89 h1 rfl dX3_readDish_93 rfl (fun D28 => ?_)
          refine qs_iconst (1 : Int32) dX3_readDish_96 (by decide) rfl ?_
          exact qs_zret (Or.inr rfl) rfl dX3_readDish_97
        · refine qs_iconst (1 : Int32) dX3_readDish_88 (by decide) rfl ?_
          refine qs_goto (tgt := 93) dX3_readDish_89 (by decide) ?_
          refine qs_putI fwX3_89 h1 rfl dX3_readDish_93 rfl (fun D29 => ?_)
          refine qs_iconst (1 : Int32) dX3_readDish_96 (by decide) rfl ?_
          exact qs_zret (Or.inr rfl) rfl dX3_readDish_97
    · refine qs_aload_n dX3_readDish_41 rfl rfl rfl ?_
      refine qs_aload_n dX3_readDish_42 rfl rfl rfl ?_
      refine qs_bipush (99 : Int32) dX3_readDish_43 (by decide) rfl ?_
      refine qs_cV1i cfX3_63 (Nat.le_of_ble_eq_true rfl) rfl rfl (fun Y hY => kX3_readNumber  hY) (Nat.le_of_ble_eq_true rfl) dX3_readDish_45 rfl (fun x31 D30 g32 => ?_)
      refine qs_putI fwX3_81 h1 rfl dX3_readDish_48 rfl (fun D33 => ?_)
      refine qs_aload_n dX3_readDish_51 rfl rfl rfl ?_
      refine qs_getI ffX3_81 h1 rfl dX3_readDish_52 rfl ?_
      refine qs_if_ge (tgt := 60) dX3_readDish_55 (by decide) rfl (fun g34 => ?_) (fun g34 => ?_)
      · refine qs_aload_n dX3_readDish_60 rfl rfl rfl ?_
        refine qs_aload_n dX3_readDish_61 rfl rfl rfl ?_
        refine qs_ldcS (k0 := 9) rfl rfl dX3_readDish_62 rfl ?_
        refine qs_cV1i cfX3_54 (Nat.le_of_ble_eq_true rfl) rfl rfl (fun Y hY => kX3_skipWord (qs_w0 9 (by decide)) hY) (Nat.le_of_ble_eq_true rfl) dX3_readDish_64 rfl (fun x36 D35 g37 => ?_)
        refine qs_if_eq (tgt := 74) dX3_readDish_67 (by decide) rfl (fun g38 => ?_) (fun g38 => ?_)
        · refine qs_iconst (0 : Int32) dX3_readDish_74 (by decide) rfl ?_
          refine qs_putI fwX3_85 h1 rfl dX3_readDish_75 rfl (fun D39 => ?_)
          refine qs_aload_n dX3_readDish_78 rfl rfl rfl ?_
          refine qs_aload_n dX3_readDish_79 rfl rfl rfl ?_
          refine qs_ldcS (k0 := 10) rfl rfl dX3_readDish_80 rfl ?_
          refine qs_cV1i cfX3_54 (Nat.le_of_ble_eq_true rfl) rfl rfl (fun Y hY => kX3_skipWord (qs_w0 10 (by decide)) hY) (Nat.le_of_ble_eq_true rfl) dX3_readDish_82 rfl (fun x41 D40 g42 => ?_)
          refine qs_if_eq (tgt := 92) dX3_readDish_85 (by decide) rfl (fun g43 => ?_) (fun g43 => ?_)
          · refine qs_iconst (0 : Int32) dX3_readDish_92 (by decide) rfl ?_
            refine qs_putI fwX3_89 h1 rfl dX3_readDish_93 rfl (fun D44 => ?_)
            refine qs_iconst (1 : Int32) dX3_readDish_96 (by decide) rfl ?_
            exact qs_zret (Or.inr rfl) rfl dX3_readDish_97
          · refine qs_iconst (1 : Int32) dX3_readDish_88 (by decide) rfl ?_
            refine qs_goto (tgt := 93) dX3_readDish_89 (by decide) ?_
            refine qs_putI fwX3_89 h1 rfl dX3_readDish_93 rfl (fun D45 => ?_)
            refine qs_iconst (1 : Int32) dX3_readDish_96 (by decide) rfl ?_
            exact qs_zret (Or.inr rfl) rfl dX3_readDish_97
        · refine qs_iconst (1 : Int32) dX3_readDish_70 (by decide) rfl ?_
          refine qs_goto (tgt := 75) dX3_readDish_71 (by decide) ?_
          refine qs_putI fwX3_85 h1 rfl dX3_readDish_75 rfl (fun D46 => ?_)
          refine qs_aload_n dX3_readDish_78 rfl rfl rfl ?_
          refine qs_aload_n dX3_readDish_79 rfl rfl rfl ?_
          refine qs_ldcS (k0 := 10) rfl rfl dX3_readDish_80 rfl ?_
          refine qs_cV1i cfX3_54 (Nat.le_of_ble_eq_true rfl) rfl rfl (fun Y hY => kX3_skipWord (qs_w0 10 (by decide)) hY) (Nat.le_of_ble_eq_true rfl) dX3_readDish_82 rfl (fun x48 D47 g49 => ?_)
          refine qs_if_eq (tgt := 92) dX3_readDish_85 (by decide) rfl (fun g50 => ?_) (fun g50 => ?_)
          · refine qs_iconst (0 : Int32) dX3_readDish_92 (by decide) rfl ?_
            refine qs_putI fwX3_89 h1 rfl dX3_readDish_93 rfl (fun D51 => ?_)
            refine qs_iconst (1 : Int32) dX3_readDish_96 (by decide) rfl ?_
            exact qs_zret (Or.inr rfl) rfl dX3_readDish_97
          · refine qs_iconst (1 : Int32) dX3_readDish_88 (by decide) rfl ?_
            refine qs_goto (tgt := 93) dX3_readDish_89 (by decide) ?_
            refine qs_putI fwX3_89 h1 rfl dX3_readDish_93 rfl (fun D52 => ?_)
            refine qs_iconst (1 : Int32) dX3_readDish_96 (by decide) rfl ?_
            exact qs_zret (Or.inr rfl) rfl dX3_readDish_97
      · refine qs_iconst (0 : Int32) dX3_readDish_58 (by decide) rfl ?_
        exact qs_zret (Or.inl rfl) rfl dX3_readDish_59
  · refine qs_aload_n dX3_readDish_13 rfl rfl rfl ?_
    refine qs_aload_n dX3_readDish_14 rfl rfl rfl ?_
    refine qs_bipush (99 : Int32) dX3_readDish_15 (by decide) rfl ?_
    refine qs_cV1i cfX3_63 (Nat.le_of_ble_eq_true rfl) rfl rfl (fun Y hY => kX3_readNumber  hY) (Nat.le_of_ble_eq_true rfl) dX3_readDish_17 rfl (fun x54 D53 g55 => ?_)
    refine qs_putI fwX3_75 h1 rfl dX3_readDish_20 rfl (fun D56 => ?_)
    refine qs_aload_n dX3_readDish_23 rfl rfl rfl ?_
    refine qs_getI ffX3_75 h1 rfl dX3_readDish_24 rfl ?_
    refine qs_if_ge (tgt := 32) dX3_readDish_27 (by decide) rfl (fun g57 => ?_) (fun g57 => ?_)
    · refine qs_aload_n dX3_readDish_32 rfl rfl rfl ?_
      refine qs_ldcS (k0 := 8) rfl rfl dX3_readDish_33 rfl ?_
      refine qs_cV1i cfX3_54 (Nat.le_of_ble_eq_true rfl) rfl rfl (fun Y hY => kX3_skipWord (qs_w0 8 (by decide)) hY) (Nat.le_of_ble_eq_true rfl) dX3_readDish_35 rfl (fun x59 D58 g60 => ?_)
      refine qs_if_eq (tgt := 60) dX3_readDish_38 (by decide) rfl (fun g61 => ?_) (fun g61 => ?_)
      · refine qs_aload_n dX3_readDish_60 rfl rfl rfl ?_
        refine qs_aload_n dX3_readDish_61 rfl rfl rfl ?_
        refine qs_ldcS (k0 := 9) rfl rfl dX3_readDish_62 rfl ?_
        refine qs_cV1i cfX3_54 (Nat.le_of_ble_eq_true rfl) rfl rfl (fun Y hY => kX3_skipWord (qs_w0 9 (by decide)) hY) (Nat.le_of_ble_eq_true rfl) dX3_readDish_64 rfl (fun x63 D62 g64 => ?_)
        refine qs_if_eq (tgt := 74) dX3_readDish_67 (by decide) rfl (fun g65 => ?_) (fun g65 => ?_)
        · refine qs_iconst (0 : Int32) dX3_readDish_74 (by decide) rfl ?_
          refine qs_putI fwX3_85 h1 rfl dX3_readDish_75 rfl (fun D66 => ?_)
          refine qs_aload_n dX3_readDish_78 rfl rfl rfl ?_
          refine qs_aload_n dX3_readDish_79 rfl rfl rfl ?_
          refine qs_ldcS (k0 := 10) rfl rfl dX3_readDish_80 rfl ?_
          refine qs_cV1i cfX3_54 (Nat.le_of_ble_eq_true rfl) rfl rfl (fun Y hY => kX3_skipWord (qs_w0 10 (by decide)) hY) (Nat.le_of_ble_eq_true rfl) dX3_readDish_82 rfl (fun x68 D67 g69 => ?_)
          refine qs_if_eq (tgt := 92) dX3_readDish_85 (by decide) rfl (fun g70 => ?_) (fun g70 => ?_)
          · refine qs_iconst (0 : Int32) dX3_readDish_92 (by decide) rfl ?_
            refine qs_putI fwX3_89 h1 rfl dX3_readDish_93 rfl (fun D71 => ?_)
            refine qs_iconst (1 : Int32) dX3_readDish_96 (by decide) rfl ?_
            exact qs_zret (Or.inr rfl) rfl dX3_readDish_97
          · refine qs_iconst (1 : Int32) dX3_readDish_88 (by decide) rfl ?_
            refine qs_goto (tgt := 93) dX3_readDish_89 (by decide) ?_
            refine qs_putI fwX3_89 h1 rfl dX3_readDish_93 rfl (fun D72 => ?_)
            refine qs_iconst (1 : Int32) dX3_readDish_96 (by decide) rfl ?_
            exact qs_zret (Or.inr rfl) rfl dX3_readDish_97
        · refine qs_iconst (1 : Int32) dX3_readDish_70 (by decide) rfl ?_
          refine qs_goto (tgt := 75) dX3_readDish_71 (by decide) ?_
          refine qs_putI fwX3_85 h1 rfl dX3_readDish_75 rfl (fun D73 => ?_)
          refine qs_aload_n dX3_readDish_78 rfl rfl rfl ?_
          refine qs_aload_n dX3_readDish_79 rfl rfl rfl ?_
          refine qs_ldcS (k0 := 10) rfl rfl dX3_readDish_80 rfl ?_
          refine qs_cV1i cfX3_54 (Nat.le_of_ble_eq_true rfl) rfl rfl (fun Y hY => kX3_skipWord (qs_w0 10 (by decide)) hY) (Nat.le_of_ble_eq_true rfl) dX3_readDish_82 rfl (fun x75 D74 g76 => ?_)
          refine qs_if_eq (tgt := 92) dX3_readDish_85 (by decide) rfl (fun g77 => ?_) (fun g77 => ?_)
          · refine qs_iconst (0 : Int32) dX3_readDish_92 (by decide) rfl ?_
            refine qs_putI fwX3_89 h1 rfl dX3_readDish_93 rfl (fun D78 => ?_)
            refine qs_iconst (1 : Int32) dX3_readDish_96 (by decide) rfl ?_
            exact qs_zret (Or.inr rfl) rfl dX3_readDish_97
          · refine qs_iconst (1 : Int32) dX3_readDish_88 (by decide) rfl ?_
            refine qs_goto (tgt := 93) dX3_readDish_89 (by decide) ?_
            refine qs_putI fwX3_89 h1 rfl dX3_readDish_93 rfl (fun D79 => ?_)
            refine qs_iconst (1 : Int32) dX3_readDish_96 (by decide) rfl ?_
            exact qs_zret (Or.inr rfl) rfl dX3_readDish_97
      · refine qs_aload_n dX3_readDish_41 rfl rfl rfl ?_
        refine qs_aload_n dX3_readDish_42 rfl rfl rfl ?_
        refine qs_bipush (99 : Int32) dX3_readDish_43 (by decide) rfl ?_
        refine qs_cV1i cfX3_63 (Nat.le_of_ble_eq_true rfl) rfl rfl (fun Y hY => kX3_readNumber  hY) (Nat.le_of_ble_eq_true rfl) dX3_readDish_45 rfl (fun x81 D80 g82 => ?_)
        refine qs_putI fwX3_81 h1 rfl dX3_readDish_48 rfl (fun D83 => ?_)
        refine qs_aload_n dX3_readDish_51 rfl rfl rfl ?_
        refine qs_getI ffX3_81 h1 rfl dX3_readDish_52 rfl ?_
        refine qs_if_ge (tgt := 60) dX3_readDish_55 (by decide) rfl (fun g84 => ?_) (fun g84 => ?_)
        · refine qs_aload_n dX3_readDish_60 rfl rfl rfl ?_
          refine qs_aload_n dX3_readDish_61 rfl rfl rfl ?_
          refine qs_ldcS (k0 := 9) rfl rfl dX3_readDish_62 rfl ?_
          refine qs_cV1i cfX3_54 (Nat.le_of_ble_eq_true rfl) rfl rfl (fun Y hY => kX3_skipWord (qs_w0 9 (by decide)) hY) (Nat.le_of_ble_eq_true rfl) dX3_readDish_64 rfl (fun x86 D85 g87 => ?_)
          refine qs_if_eq (tgt := 74) dX3_readDish_67 (by decide) rfl (fun g88 => ?_) (fun g88 => ?_)
          · refine qs_iconst (0 : Int32) dX3_readDish_74 (by decide) rfl ?_
            refine qs_putI fwX3_85 h1 rfl dX3_readDish_75 rfl (fun D89 => ?_)
            refine qs_aload_n dX3_readDish_78 rfl rfl rfl ?_
            refine qs_aload_n dX3_readDish_79 rfl rfl rfl ?_
            refine qs_ldcS (k0 := 10) rfl rfl dX3_readDish_80 rfl ?_
            refine qs_cV1i cfX3_54 (Nat.le_of_ble_eq_true rfl) rfl rfl (fun Y hY => kX3_skipWord (qs_w0 10 (by decide)) hY) (Nat.le_of_ble_eq_true rfl) dX3_readDish_82 rfl (fun x91 D90 g92 => ?_)
            refine qs_if_eq (tgt := 92) dX3_readDish_85 (by decide) rfl (fun g93 => ?_) (fun g93 => ?_)
            · refine qs_iconst (0 : Int32) dX3_readDish_92 (by decide) rfl ?_
              refine qs_putI fwX3_89 h1 rfl dX3_readDish_93 rfl (fun D94 => ?_)
              refine qs_iconst (1 : Int32) dX3_readDish_96 (by decide) rfl ?_
              exact qs_zret (Or.inr rfl) rfl dX3_readDish_97
            · refine qs_iconst (1 : Int32) dX3_readDish_88 (by decide) rfl ?_
              refine qs_goto (tgt := 93) dX3_readDish_89 (by decide) ?_
              refine qs_putI fwX3_89 h1 rfl dX3_readDish_93 rfl (fun D95 => ?_)
              refine qs_iconst (1 : Int32) dX3_readDish_96 (by decide) rfl ?_
              exact qs_zret (Or.inr rfl) rfl dX3_readDish_97
          · refine qs_iconst (1 : Int32) dX3_readDish_70 (by decide) rfl ?_
            refine qs_goto (tgt := 75) dX3_readDish_71 (by decide) ?_
            refine qs_putI fwX3_85 h1 rfl dX3_readDish_75 rfl (fun D96 => ?_)
            refine qs_aload_n dX3_readDish_78 rfl rfl rfl ?_
            refine qs_aload_n dX3_readDish_79 rfl rfl rfl ?_
            refine qs_ldcS (k0 := 10) rfl rfl dX3_readDish_80 rfl ?_
            refine qs_cV1i cfX3_54 (Nat.le_of_ble_eq_true rfl) rfl rfl (fun Y hY => kX3_skipWord (qs_w0 10 (by decide)) hY) (Nat.le_of_ble_eq_true rfl) dX3_readDish_82 rfl (fun x98 D97 g99 => ?_)
            refine qs_if_eq (tgt := 92) dX3_readDish_85 (by decide) rfl (fun g100 => ?_) (fun g100 => ?_)
            · refine qs_iconst (0 : Int32) dX3_readDish_92 (by decide) rfl ?_
              refine qs_putI fwX3_89 h1 rfl dX3_readDish_93 rfl (fun D101 => ?_)
              refine qs_iconst (1 : Int32) dX3_readDish_96 (by decide) rfl ?_
              exact qs_zret (Or.inr rfl) rfl dX3_readDish_97
            · refine qs_iconst (1 : Int32) dX3_readDish_88 (by decide) rfl ?_
              refine qs_goto (tgt := 93) dX3_readDish_89 (by decide) ?_
              refine qs_putI fwX3_89 h1 rfl dX3_readDish_93 rfl (fun D102 => ?_)
              refine qs_iconst (1 : Int32) dX3_readDish_96 (by decide) rfl ?_
              exact qs_zret (Or.inr rfl) rfl dX3_readDish_97
        · refine qs_iconst (0 : Int32) dX3_readDish_58 (by decide) rfl ?_
          exact qs_zret (Or.inl rfl) rfl dX3_readDish_59
    · refine qs_iconst (0 : Int32) dX3_readDish_30 (by decide) rfl ?_
      exact qs_zret (Or.inl rfl) rfl dX3_readDish_31
