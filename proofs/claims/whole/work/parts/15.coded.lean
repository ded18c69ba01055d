abbrev mX4_ready : qs_M := (RX4, cX4_ready, 4, (some FieldType.int))
def fX4_ready_L39 : Nat → Int32 → Int32 → Int32 → qs_D → Option (Int32 × qs_D)
  | 0, _, _, _, _ => none
  | n + 1, w1, w2, w3, D => (if (200 : Int32) < w3 then (qs_bind (fX4_found (3 : Int32) D) (fun x18 D17 => (some (x18, D17)))) else (qs_bind (fX1_given 25 (0 : Int32) D) (fun x21 D20 => (if x21 < w2 then (qs_bind (fX1_passStep 25 D20) (fun x25 D24 => (qs_let (w3 + (1 : Int32)) (fun v27 => (fX4_ready_L39 n w1 w2 v27 D24))))) else (some (w3, D20))))))
set_option maxRecDepth 20000 in
theorem lX4_ready_L39 {l : Launch} {E : qs_E} {A : Nat → Prop}  : ∀ (n : Nat) (w1 : Int32) (w2 : Int32) (w3 : Int32) (D : qs_D), qs_VO l E A shX mX4_ready 3 qs_ri 39 [(0, .ref 0), (1, .int w1), (2, .int w2), (3, .int w3)] [] D (fX4_ready_L39 n w1 w2 w3 D) := by
  intro n
  induction n with
  | zero => intro w1 w2 w3 D; exact qs_none
  | succ n ih =>
    intro w1 w2 w3 D
    unfold fX4_ready_L39
    refine qs_iload_n dX4_ready_39 rfl rfl rfl ?_
    refine qs_sipush (200 : Int32) dX4_ready_40 (by decide) rfl ?_
    refine qs_icmp_gt (tgt := 73) dX4_ready_43 (by decide) rfl (fun g16 => ?_) (fun g16 => ?_)
    · refine qs_aload_n dX4_ready_73 rfl rfl rfl ?_
      refine qs_iconst (3 : Int32) dX4_ready_74 (by decide) rfl ?_
      refine qs_cV1i cfX4_55 (Nat.le_of_ble_eq_true rfl) rfl rfl (fun Y hY => kX4_found  hY) (Nat.le_of_ble_eq_true rfl) dX4_ready_75 rfl (fun x18 D17 g19 => ?_)
      exact qs_iret rfl dX4_ready_78
    · refine qs_aload_n dX4_ready_46 rfl rfl rfl ?_
      refine qs_getR ffX4_19 rfl rfl dX4_ready_47 rfl ?_
      refine qs_iconst (0 : Int32) dX4_ready_50 (by decide) rfl ?_
      refine qs_cV1i cfX4_152 (Nat.le_of_ble_eq_true rfl) rfl rfl (fun Y hY => kX1_given qs_k25 hY) (Nat.le_of_ble_eq_true rfl) dX4_ready_51 rfl (fun x21 D20 g22 => ?_)
      refine qs_iload_n dX4_ready_54 rfl rfl rfl ?_
      refine qs_icmp_lt (tgt := 60) dX4_ready_55 (by decide) rfl (fun g23 => ?_) (fun g23 => ?_)
      · refine qs_aload_n dX4_ready_60 rfl rfl rfl ?_
        refine qs_getR ffX4_19 rfl rfl dX4_ready_61 rfl ?_
        refine qs_cV0v cfX4_149 (Nat.le_of_ble_eq_true rfl) rfl rfl (fun Y hY => kX1_passStep qs_k25 hY) (Nat.le_of_ble_eq_true rfl) dX4_ready_64 rfl (fun x25 D24 g26 => ?_)
        refine qs_iinc (fun v27 => [(3, .int v27), (0, .ref 0), (1, .int w1), (2, .int w2)]) (1 : Int32) dX4_ready_67 rfl (by decide) (by decide) (fun _ => rfl) rfl (fun v27 => ?_)
        refine qs_goto (tgt := 39) dX4_ready_70 (by decide) ?_
        exact qs_sub [1, 2, 3, 0] rfl (ih w1 w2 v27 D24)
      · refine qs_iload_n dX4_ready_58 rfl rfl rfl ?_
        exact qs_iret rfl dX4_ready_59
def fX4_ready (p1 : Int32) (p2 : Int32) (D : qs_D) : Option (Int32 × qs_D) := (qs_bind (fX4_isDish p1 D) (fun x2 D1 => (if x2 = 0 then (qs_bind (fX4_found (0 : Int32) D1) (fun x6 D5 => (some (x6, D5)))) else (qs_bind (fX4_within p2 (0 : Int32) (999 : Int32) D1) (fun x9 D8 => (if x9 = 0 then (qs_bind (fX4_found (0 : Int32) D8) (fun x29 D28 => (some (x29, D28)))) else (qs_bind (fX1_takeOne 25 1 p1 D8) (fun x13 D12 => (qs_let (0 : Int32) (fun v15 => (fX4_ready_L39 qs_F p1 p2 v15 D12)))))))))))
set_option maxRecDepth 20000 in
theorem kX4_ready {l : Launch} {E : qs_E} {A : Nat → Prop} {p1 : Int32} {p2 : Int32} {D : qs_D} {X : Int32 × qs_D}  (hX : fX4_ready p1 p2 D = some X) : qs_Ctr l E A shX yX4_ready mX4_ready 3 qs_ri [.ref 0, .int p1, .int p2] D X := by
  refine qs_enter (plainFor_of_name (by decide)) rfl (Nat.le_of_ble_eq_true rfl) ?_ hX
  show qs_VO l E A shX mX4_ready 3 qs_ri 0 [(0, .ref 0), (1, .int p1), (2, .int p2)] [] D (fX4_ready p1 p2 D)
  unfold fX4_ready
  refine qs_aload_n dX4_ready_0 rfl rfl rfl ?_
  refine qs_iload_n dX4_ready_1 rfl rfl rfl ?_
  refine qs_cV1i cfX4_84 (Nat.le_of_ble_eq_true rfl) rfl rfl (fun Y hY => kX4_isDish  hY) (Nat.le_of_ble_eq_true rfl) dX4_ready_2 rfl (fun x2 D1 g3 => ?_)
  refine qs_if_eq (tgt := 19) dX4_ready_5 (by decide) rfl (fun g4 => ?_) (fun g4 => ?_)
  · refine qs_aload_n dX4_ready_19 rfl rfl rfl ?_
    refine qs_iconst (0 : Int32) dX4_ready_20 (by decide) rfl ?_
    refine qs_cV1i cfX4_55 (Nat.le_of_ble_eq_true rfl) rfl rfl (fun Y hY => kX4_found  hY) (Nat.le_of_ble_eq_true rfl) dX4_ready_21 rfl (fun x6 D5 g7 => ?_)
    exact qs_iret rfl dX4_ready_24
  · refine qs_iload_n dX4_ready_8 rfl rfl rfl ?_
    refine qs_iconst (0 : Int32) dX4_ready_9 (by decide) rfl ?_
    refine qs_sipush (999 : Int32) dX4_ready_10 (by decide) rfl ?_
    refine qs_cS3i cfX4_44 (Nat.le_of_ble_eq_true rfl) (fun Y hY => kX4_within  hY) (Nat.le_of_ble_eq_true rfl) dX4_ready_13 rfl (fun x9 D8 g10 => ?_)
    refine qs_if_ne (tgt := 25) dX4_ready_16 (by decide) rfl (fun g11 => ?_) (fun g11 => ?_)
    · refine qs_aload_n dX4_ready_19 rfl rfl rfl ?_
      refine qs_iconst (0 : Int32) dX4_ready_20 (by decide) rfl ?_
      refine qs_cV1i cfX4_55 (Nat.le_of_ble_eq_true rfl) rfl rfl (fun Y hY => kX4_found  hY) (Nat.le_of_ble_eq_true rfl) dX4_ready_21 rfl (fun x29 D28 g30 => ?_)
      exact qs_iret rfl dX4_ready_24
    · refine qs_aload_n dX4_ready_25 rfl rfl rfl ?_
      refine qs_getR ffX4_19 rfl rfl dX4_ready_26 rfl ?_
      refine qs_aload_n dX4_ready_29 rfl rfl rfl ?_
      refine qs_getR ffX4_10 rfl rfl dX4_ready_30 rfl ?_
      refine qs_iload_n dX4_ready_33 rfl rfl rfl ?_
      refine qs_cV2v cfX4_138 (Nat.le_of_ble_eq_true rfl) rfl rfl (fun Y hY => kX1_takeOne qs_k25 qs_k1 hY) (Nat.le_of_ble_eq_true rfl) dX4_ready_34 rfl (fun x13 D12 g14 => ?_)
      refine qs_iconst (0 : Int32) dX4_ready_37 (by decide) rfl ?_
      refine qs_istore_n (fun v15 => [(3, .int v15), (0, .ref 0), (1, .int p1), (2, .int p2)]) dX4_ready_38 rfl (by decide) (fun _ => rfl) rfl (fun v15 => ?_)
      exact qs_sub [1, 2, 3, 0] rfl (lX4_ready_L39 qs_F p1 p2 v15 D12)
abbrev mX4_peace : qs_M := (RX4, cX4_peace, 3, (some FieldType.int))
def fX4_peace_L29 : Nat → Int32 → Int32 → qs_D → Option (Int32 × qs_D)
  | 0, _, _, _ => none
  | n + 1, w1, w2, D => (if (200 : Int32) < w2 then (qs_bind (fX4_found (3 : Int32) D) (fun x11 D10 => (some (x11, D10)))) else (if w1 < (D 25 0) then (qs_bind (fX1_passStep 25 D) (fun x15 D14 => (qs_let (w2 + (1 : Int32)) (fun v17 => (fX4_peace_L29 n w1 v17 D14))))) else (some (w2, D))))
set_option maxRecDepth 20000 in
theorem lX4_peace_L29 {l : Launch} {E : qs_E} {A : Nat → Prop}  : ∀ (n : Nat) (w1 : Int32) (w2 : Int32) (D : qs_D), qs_VO l E A shX mX4_peace 3 qs_ri 29 [(0, .ref 0), (1, .int w1), (2, .int w2)] [] D (fX4_peace_L29 n w1 w2 D) := by
  intro n
  induction n with
  | zero => intro w1 w2 D; exact qs_none
  | succ n ih =>
    intro w1 w2 D
    unfold fX4_peace_L29
    refine qs_iload_n dX4_peace_29 rfl rfl rfl ?_
    refine qs_sipush (200 : Int32) dX4_peace_30 (by decide) rfl ?_
    refine qs_icmp_gt (tgt := 62) dX4_peace_33 (by decide) rfl (fun g9 => ?_) (fun g9 => ?_)
    · refine qs_aload_n dX4_peace_62 rfl rfl rfl ?_
      refine qs_iconst (3 : Int32) dX4_peace_63 (by decide) rfl ?_
      refine qs_cV1i cfX4_55 (Nat.le_of_ble_eq_true rfl) rfl rfl (fun Y hY => kX4_found  hY) (Nat.le_of_ble_eq_true rfl) dX4_peace_64 rfl (fun x11 D10 g12 => ?_)
      exact qs_iret rfl dX4_peace_67
    · refine qs_aload_n dX4_peace_36 rfl rfl rfl ?_
      refine qs_getR ffX4_19 rfl rfl dX4_peace_37 rfl ?_
      refine qs_getI ffX4_48 rfl rfl dX4_peace_40 rfl ?_
      refine qs_iload_n dX4_peace_43 rfl rfl rfl ?_
      refine qs_icmp_gt (tgt := 49) dX4_peace_44 (by decide) rfl (fun g13 => ?_) (fun g13 => ?_)
      · refine qs_aload_n dX4_peace_49 rfl rfl rfl ?_
        refine qs_getR ffX4_19 rfl rfl dX4_peace_50 rfl ?_
        refine qs_cV0v cfX4_149 (Nat.le_of_ble_eq_true rfl) rfl rfl (fun Y hY => kX1_passStep qs_k25 hY) (Nat.le_of_ble_eq_true rfl) dX4_peace_53 rfl (fun x15 D14 g16 => ?_)
        refine qs_iinc (fun v17 => [(2, .int v17), (0, .ref 0), (1, .int w1)]) (1 : Int32) dX4_peace_56 rfl (by decide) (by decide) (fun _ => rfl) rfl (fun v17 => ?_)
        refine qs_goto (tgt := 29) dX4_peace_59 (by decide) ?_
        exact qs_sub [1, 2, 0] rfl (ih w1 v17 D14)
      · refine qs_iload_n dX4_peace_47 rfl rfl rfl ?_
        exact qs_iret rfl dX4_peace_48
def fX4_peace (p1 : Int32) (D : qs_D) : Option (Int32 × qs_D) := (qs_bind (fX4_within p1 (0 : Int32) (99 : Int32) D) (fun x2 D1 => (if x2 = 0 then (qs_bind (fX4_found (0 : Int32) D1) (fun x19 D18 => (some (x19, D18)))) else (qs_bind (fX1_takeMood 25 1 D1) (fun x6 D5 => (qs_let (0 : Int32) (fun v8 => (fX4_peace_L29 qs_F p1 v8 D5))))))))
set_option maxRecDepth 20000 in
theorem kX4_peace {l : Launch} {E : qs_E} {A : Nat → Prop} {p1 : Int32} {D : qs_D} {X : Int32 × qs_D}  (hX : fX4_peace p1 D = some X) : qs_Ctr l E A shX yX4_peace mX4_peace 3 qs_ri [.ref 0, .int p1] D X := by
  refine qs_enter (plainFor_of_name (by decide)) rfl (Nat.le_of_ble_eq_true rfl) ?_ hX
  show qs_VO l E A shX mX4_peace 3 qs_ri 0 [(0, .ref 0), (1, .int p1)] [] D (fX4_peace p1 D)
  unfold fX4_peace
  refine qs_iload_n dX4_peace_0 rfl rfl rfl ?_
  refine qs_iconst (0 : Int32) dX4_peace_1 (by decide) rfl ?_
  refine qs_bipush (99 : Int32) dX4_peace_2 (by decide) rfl ?_
  refine qs_cS3i cfX4_44 (Nat.le_of_ble_eq_true rfl) (fun Y hY => kX4_within  hY) (Nat.le_of_ble_eq_true rfl) dX4_peace_4 rfl (fun x2 D1 g3 => ?_)
  refine qs_if_ne (tgt := 16) dX4_peace_7 (by decide) rfl (fun g4 => ?_) (fun g4 => ?_)
  · refine qs_aload_n dX4_peace_10 rfl rfl rfl ?_
    refine qs_iconst (0 : Int32) dX4_peace_11 (by decide) rfl ?_
    refine qs_cV1i cfX4_55 (Nat.le_of_ble_eq_true rfl) rfl rfl (fun Y hY => kX4_found  hY) (Nat.le_of_ble_eq_true rfl) dX4_peace_12 rfl (fun x19 D18 g20 => ?_)
    exact qs_iret rfl dX4_peace_15
  · refine qs_aload_n dX4_peace_16 rfl rfl rfl ?_
    refine qs_getR ffX4_19 rfl rfl dX4_peace_17 rfl ?_
    refine qs_aload_n dX4_peace_20 rfl rfl rfl ?_
    refine qs_getR ffX4_10 rfl rfl dX4_peace_21 rfl ?_
    refine qs_cV1v cfX4_142 (Nat.le_of_ble_eq_true rfl) rfl rfl (fun Y hY => kX1_takeMood qs_k25 qs_k1 hY) (Nat.le_of_ble_eq_true rfl) dX4_peace_24 rfl (fun x6 D5 g7 => ?_)
    refine qs_iconst (0 : Int32) dX4_peace_27 (by decide) rfl ?_
    refine qs_istore_n (fun v8 => [(2, .int v8), (0, .ref 0), (1, .int p1)]) dX4_peace_28 rfl (by decide) (fun _ => rfl) rfl (fun v8 => ?_)
    exact qs_sub [1, 2, 0] rfl (lX4_peace_L29 qs_F p1 v8 D5)
abbrev mX4_deedFor : qs_M := (RX4, cX4_deedFor, 7, (some FieldType.int))
def fX4_deedFor_L31 : Nat → Int32 → Int32 → Int32 → Int32 → Int32 → qs_D → Option (Int32 × qs_D)
  | 0, _, _, _, _, _, _ => none
  | n + 1, w1, w2, w3, w4, w5, D => (if (12 : Int32) ≤ w5 then (some (w3, D)) else (qs_bind (fX1_takeAll 25 1 D) (fun x17 D16 => (qs_g w1 6 (qs_let (qs_u D16 (25 + 1) w1.toNatClampNeg w5) (fun D19 => (qs_bind (fX1_passSteps 25 w2 D19) (fun x21 D20 => (qs_bind (fX1_givenForAll 25 D20) (fun x24 D23 => (qs_let x24 (fun v26 => (if v26 ≤ w4 then (qs_let (w5 + (1 : Int32)) (fun v28 => (fX4_deedFor_L31 n w1 w2 w3 w4 v28 D23))) else (qs_let v26 (fun v29 => (qs_let w5 (fun v30 => (qs_let (w5 + (1 : Int32)) (fun v31 => (fX4_deedFor_L31 n w1 w2 v30 v29 v31 D23))))))))))))))))))))
set_option maxRecDepth 20000 in
theorem lX4_deedFor_L31 {l : Launch} {E : qs_E} {A : Nat → Prop}  : ∀ (n : Nat) (w1 : Int32) (w2 : Int32) (w3 : Int32) (w4 : Int32) (w5 : Int32) (D : qs_D), qs_VO l E A shX mX4_deedFor 4 qs_ri 31 [(0, .ref 0), (1, .int w1), (2, .int w2), (3, .int w3), (4, .int w4), (5, .int w5)] [] D (fX4_deedFor_L31 n w1 w2 w3 w4 w5 D) := by
  intro n
  induction n with
  | zero => intro w1 w2 w3 w4 w5 D; exact qs_none
  | succ n ih =>
    intro w1 w2 w3 w4 w5 D
    unfold fX4_deedFor_L31
    refine qs_iload dX4_deedFor_31 rfl rfl ?_
    refine qs_bipush (12 : Int32) dX4_deedFor_33 (by decide) rfl ?_
    refine qs_icmp_ge (tgt := 97) dX4_deedFor_35 (by decide) rfl (fun g15 => ?_) (fun g15 => ?_)
    · refine qs_iload_n dX4_deedFor_97 rfl rfl rfl ?_
      exact qs_iret rfl dX4_deedFor_98
    · refine qs_aload_n dX4_deedFor_38 rfl rfl rfl ?_
      refine qs_getR ffX4_19 rfl rfl dX4_deedFor_39 rfl ?_
      refine qs_aload_n dX4_deedFor_42 rfl rfl rfl ?_
      refine qs_getR ffX4_10 rfl rfl dX4_deedFor_43 rfl ?_
      refine qs_cV1v cfX4_155 (Nat.le_of_ble_eq_true rfl) rfl rfl (fun Y hY => kX1_takeAll qs_k25 qs_k1 hY) (Nat.le_of_ble_eq_true rfl) dX4_deedFor_46 rfl (fun x17 D16 g18 => ?_)
      refine qs_aload_n dX4_deedFor_49 rfl rfl rfl ?_
      refine qs_getR ffX4_19 rfl rfl dX4_deedFor_50 rfl ?_
      refine qs_getR ffX4_66 rfl rfl dX4_deedFor_53 rfl ?_
      refine qs_iload_n dX4_deedFor_56 rfl rfl rfl ?_
      refine qs_iload dX4_deedFor_57 rfl rfl ?_
      refine qs_iast (qs_kL qs_k25) (by decide) dX4_deedFor_59 rfl (fun D19 => ?_)
      refine qs_aload_n dX4_deedFor_60 rfl rfl rfl ?_
      refine qs_getR ffX4_19 rfl rfl dX4_deedFor_61 rfl ?_
      refine qs_iload_n dX4_deedFor_64 rfl rfl rfl ?_
      refine qs_cV1v cfX4_115 (Nat.le_of_ble_eq_true rfl) rfl rfl (fun Y hY => kX1_passSteps qs_k25 hY) (Nat.le_of_ble_eq_true rfl) dX4_deedFor_65 rfl (fun x21 D20 g22 => ?_)
      refine qs_aload_n dX4_deedFor_68 rfl rfl rfl ?_
      refine qs_getR ffX4_19 rfl rfl dX4_deedFor_69 rfl ?_
      refine qs_cV0i cfX4_132 (Nat.le_of_ble_eq_true rfl) rfl rfl (fun Y hY => kX1_givenForAll qs_k25 hY) (Nat.le_of_ble_eq_true rfl) dX4_deedFor_72 rfl (fun x24 D23 g25 => ?_)
      refine qs_istore (fun v26 => [(6, .int v26), (0, .ref 0), (1, .int w1), (2, .int w2), (3, .int w3), (4, .int w4), (5, .int w5)]) dX4_deedFor_75 (by decide) (fun _ => rfl) rfl (fun v26 => ?_)
      refine qs_iload dX4_deedFor_77 rfl rfl ?_
      refine qs_iload dX4_deedFor_79 rfl rfl ?_
      refine qs_icmp_le (tgt := 91) dX4_deedFor_81 (by decide) rfl (fun g27 => ?_) (fun g27 => ?_)
      · refine qs_iinc (fun v28 => [(5, .int v28), (6, .int v26), (0, .ref 0), (1, .int w1), (2, .int w2), (3, .int w3), (4, .int w4)]) (1 : Int32) dX4_deedFor_91 rfl (by decide) (by decide) (fun _ => rfl) rfl (fun v28 => ?_)
        refine qs_goto (tgt := 31) dX4_deedFor_94 (by decide) ?_
        exact qs_sub [2, 3, 4, 5, 6, 0] rfl (ih w1 w2 w3 w4 v28 D23)
      · refine qs_iload dX4_deedFor_84 rfl rfl ?_
        refine qs_istore (fun v29 => [(4, .int v29), (6, .int v26), (0, .ref 0), (1, .int w1), (2, .int w2), (3, .int w3), (5, .int w5)]) dX4_deedFor_86 (by decide) (fun _ => rfl) rfl (fun v29 => ?_)
        refine qs_iload dX4_deedFor_88 rfl rfl ?_
        refine qs_istore_n (fun v30 => [(3, .int v30), (4, .int v29), (6, .int v26), (0, .ref 0), (1, .int w1), (2, .int w2), (5, .int w5)]) dX4_deedFor_90 rfl (by decide) (fun _ => rfl) rfl (fun v30 => ?_)
        refine qs_iinc (fun v31 => [(5, .int v31), (3, .int v30), (4, .int v29), (6, .int v26), (0, .ref 0), (1, .int w1), (2, .int w2)]) (1 : Int32) dX4_deedFor_91 rfl (by decide) (by decide) (fun _ => rfl) rfl (fun v31 => ?_)
        refine qs_goto (tgt := 31) dX4_deedFor_94 (by decide) ?_
        exact qs_sub [4, 5, 6, 1, 2, 0] rfl (ih w1 w2 v30 v29 v31 D23)
def fX4_deedFor (p1 : Int32) (p2 : Int32) (D : qs_D) : Option (Int32 × qs_D) := (qs_bind (fX4_isPlace p1 D) (fun x2 D1 => (if x2 = 0 then (qs_bind (fX4_found (0 : Int32) D1) (fun x6 D5 => (some (x6, D5)))) else (qs_bind (fX4_within p2 (0 : Int32) (60 : Int32) D1) (fun x9 D8 => (if x9 = 0 then (qs_bind (fX4_found (0 : Int32) D8) (fun x33 D32 => (some (x33, D32)))) else (qs_let (0 : Int32) (fun v12 => (qs_let (-1 : Int32) (fun v13 => (qs_let (0 : Int32) (fun v14 => (fX4_deedFor_L31 qs_F p1 p2 v12 v13 v14 D8)))))))))))))
set_option maxRecDepth 20000 in
theorem kX4_deedFor {l : Launch} {E : qs_E} {A : Nat → Prop} {p1 : Int32} {p2 : Int32} {D : qs_D} {X : Int32 × qs_D}  (hX : fX4_deedFor p1 p2 D = some X) : qs_Ctr l E A shX yX4_deedFor mX4_deedFor 4 qs_ri [.ref 0, .int p1, .int p2] D X := by
  refine qs_enter (plainFor_of_name (by decide)) rfl (Nat.le_of_ble_eq_true rfl) ?_ hX
  show qs_VO l E A shX mX4_deedFor 4 qs_ri 0 [(0, .ref 0), (1, .int p1), (2, .int p2)] [] D (fX4_deedFor p1 p2 D)
  unfold fX4_deedFor
  refine qs_iload_n dX4_deedFor_0 rfl rfl rfl ?_
  refine qs_cS1i cfX4_59 (Nat.le_of_ble_eq_true rfl) (fun Y hY => kX4_isPlace  hY) (Nat.le_of_ble_eq_true rfl) dX4_deedFor_1 rfl (fun x2 D1 g3 => ?_)
  refine qs_if_eq (tgt := 17) dX4_deedFor_4 (by decide) rfl (fun g4 => ?_) (fun g4 => ?_)
  · refine qs_aload_n dX4_deedFor_17 rfl rfl rfl ?_
    refine qs_iconst (0 : Int32) dX4_deedFor_18 (by decide) rfl ?_
    refine qs_cV1i cfX4_55 (Nat.le_of_ble_eq_true rfl) rfl rfl (fun Y hY => kX4_found  hY) (Nat.le_of_ble_eq_true rfl) dX4_deedFor_19 rfl (fun x6 D5 g7 => ?_)
    exact qs_iret rfl dX4_deedFor_22
  · refine qs_iload_n dX4_deedFor_7 rfl rfl rfl ?_
    refine qs_iconst (0 : Int32) dX4_deedFor_8 (by decide) rfl ?_
    refine qs_bipush (60 : Int32) dX4_deedFor_9 (by decide) rfl ?_
    refine qs_cS3i cfX4_44 (Nat.le_of_ble_eq_true rfl) (fun Y hY => kX4_within  hY) (Nat.le_of_ble_eq_true rfl) dX4_deedFor_11 rfl (fun x9 D8 g10 => ?_)
    refine qs_if_ne (tgt := 23) dX4_deedFor_14 (by decide) rfl (fun g11 => ?_) (fun g11 => ?_)
    · refine qs_aload_n dX4_deedFor_17 rfl rfl rfl ?_
      refine qs_iconst (0 : Int32) dX4_deedFor_18 (by decide) rfl ?_
      refine qs_cV1i cfX4_55 (Nat.le_of_ble_eq_true rfl) rfl rfl (fun Y hY => kX4_found  hY) (Nat.le_of_ble_eq_true rfl) dX4_deedFor_19 rfl (fun x33 D32 g34 => ?_)
      exact qs_iret rfl dX4_deedFor_22
    · refine qs_iconst (0 : Int32) dX4_deedFor_23 (by decide) rfl ?_
      refine qs_istore_n (fun v12 => [(3, .int v12), (0, .ref 0), (1, .int p1), (2, .int p2)]) dX4_deedFor_24 rfl (by decide) (fun _ => rfl) rfl (fun v12 => ?_)
      refine qs_iconst (-1 : Int32) dX4_deedFor_25 (by decide) rfl ?_
      refine qs_istore (fun v13 => [(4, .int v13), (3, .int v12), (0, .ref 0), (1, .int p1), (2, .int p2)]) dX4_deedFor_26 (by decide) (fun _ => rfl) rfl (fun v13 => ?_)
      refine qs_iconst (0 : Int32) dX4_deedFor_28 (by decide) rfl ?_
      refine qs_istore (fun v14 => [(5, .int v14), (4, .int v13), (3, .int v12), (0, .ref 0), (1, .int p1), (2, .int p2)]) dX4_deedFor_29 (by decide) (fun _ => rfl) rfl (fun v14 => ?_)
      exact qs_sub [3, 4, 5, 2, 1, 0] rfl (lX4_deedFor_L31 qs_F p1 p2 v12 v13 v14 D8)
abbrev mX4_grudgeFor : qs_M := (RX4, cX4_grudgeFor, 4, (some FieldType.int))
def fX4_grudgeFor_L26 : Nat → Int32 → Int32 → Int32 → qs_D → Option (Int32 × qs_D)
  | 0, _, _, _, _ => none
  | n + 1, w1, w2, w3, D => (if (99 : Int32) < w3 then (qs_bind (fX4_found (3 : Int32) D) (fun x15 D14 => (some (x15, D14)))) else (qs_bind (fX1_takeOne 25 1 w1 D) (fun x18 D17 => (qs_let (qs_u D17 25 0 w3) (fun D20 => (qs_bind (fX1_passSteps 25 w2 D20) (fun x22 D21 => (qs_g (0 : Int32) 8 (if (D21 (25 + 4 + (0 : Int32).toNatClampNeg) 3) = 0 then (some (w3, D21)) else (qs_let (w3 + (1 : Int32)) (fun v26 => (fX4_grudgeFor_L26 n w1 w2 v26 D21))))))))))))
set_option maxRecDepth 20000 in
theorem lX4_grudgeFor_L26 {l : Launch} {E : qs_E} {A : Nat → Prop}  : ∀ (n : Nat) (w1 : Int32) (w2 : Int32) (w3 : Int32) (D : qs_D), qs_VO l E A shX mX4_grudgeFor 4 qs_ri 26 [(0, .ref 0), (1, .int w1), (2, .int w2), (3, .int w3)] [] D (fX4_grudgeFor_L26 n w1 w2 w3 D) := by
  intro n
  induction n with
  | zero => intro w1 w2 w3 D; exact qs_none
  | succ n ih =>
    intro w1 w2 w3 D
    unfold fX4_grudgeFor_L26
    refine qs_iload_n dX4_grudgeFor_26 rfl rfl rfl ?_
    refine qs_bipush (99 : Int32) dX4_grudgeFor_27 (by decide) rfl ?_
    refine qs_icmp_gt (tgt := 83) dX4_grudgeFor_29 (by decide) rfl (fun g13 => ?_) (fun g13 => ?_)
    · refine qs_aload_n dX4_grudgeFor_83 rfl rfl rfl ?_
      refine qs_iconst (3 : Int32) dX4_grudgeFor_84 (by decide) rfl ?_
      refine qs_cV1i cfX4_55 (Nat.le_of_ble_eq_true rfl) rfl rfl (fun Y hY => kX4_found  hY) (Nat.le_of_ble_eq_true rfl) dX4_grudgeFor_85 rfl (fun x15 D14 g16 => ?_)
      exact qs_iret rfl dX4_grudgeFor_88
    · refine qs_aload_n dX4_grudgeFor_32 rfl rfl rfl ?_
      refine qs_getR ffX4_19 rfl rfl dX4_grudgeFor_33 rfl ?_
      refine qs_aload_n dX4_grudgeFor_36 rfl rfl rfl ?_
      refine qs_getR ffX4_10 rfl rfl dX4_grudgeFor_37 rfl ?_
      refine qs_iload_n dX4_grudgeFor_40 rfl rfl rfl ?_
      refine qs_cV2v cfX4_138 (Nat.le_of_ble_eq_true rfl) rfl rfl (fun Y hY => kX1_takeOne qs_k25 qs_k1 hY) (Nat.le_of_ble_eq_true rfl) dX4_grudgeFor_41 rfl (fun x18 D17 g19 => ?_)
      refine qs_aload_n dX4_grudgeFor_44 rfl rfl rfl ?_
      refine qs_getR ffX4_19 rfl rfl dX4_grudgeFor_45 rfl ?_
      refine qs_iload_n dX4_grudgeFor_48 rfl rfl rfl ?_
      refine qs_putI fwX4_48 rfl rfl dX4_grudgeFor_49 rfl (fun D20 => ?_)
      refine qs_aload_n dX4_grudgeFor_52 rfl rfl rfl ?_
      refine qs_getR ffX4_19 rfl rfl dX4_grudgeFor_53 rfl ?_
      refine qs_iload_n dX4_grudgeFor_56 rfl rfl rfl ?_
      refine qs_cV1v cfX4_115 (Nat.le_of_ble_eq_true rfl) rfl rfl (fun Y hY => kX1_passSteps qs_k25 hY) (Nat.le_of_ble_eq_true rfl) dX4_grudgeFor_57 rfl (fun x22 D21 g23 => ?_)
      refine qs_aload_n dX4_grudgeFor_60 rfl rfl rfl ?_
      refine qs_getR ffX4_19 rfl rfl dX4_grudgeFor_61 rfl ?_
      refine qs_getR ffX4_94 rfl rfl dX4_grudgeFor_64 rfl ?_
      refine qs_iconst (0 : Int32) dX4_grudgeFor_67 (by decide) rfl ?_
      refine qs_aald (kd := 2) (C := RX0) (g := fun j => 25 + 4 + j) rfl (by decide) (qs_kA qs_k25) (by decide) dX4_grudgeFor_68 rfl (fun g24 => ?_)
      refine qs_getI ffX4_146 (qs_kd qs_k25 g24) rfl dX4_grudgeFor_69 rfl ?_
      refine qs_if_ne (tgt := 77) dX4_grudgeFor_72 (by decide) rfl (fun g25 => ?_) (fun g25 => ?_)
      · refine qs_iload_n dX4_grudgeFor_75 rfl rfl rfl ?_
        exact qs_iret rfl dX4_grudgeFor_76
      · refine qs_iinc (fun v26 => [(3, .int v26), (0, .ref 0), (1, .int w1), (2, .int w2)]) (1 : Int32) dX4_grudgeFor_77 rfl (by decide) (by decide) (fun _ => rfl) rfl (fun v26 => ?_)
        refine qs_goto (tgt := 26) dX4_grudgeFor_80 (by decide) ?_
        exact qs_sub [1, 2, 3, 0] rfl (ih w1 w2 v26 D21)
def fX4_grudgeFor (p1 : Int32) (p2 : Int32) (D : qs_D) : Option (Int32 × qs_D) := (qs_bind (fX4_isDish p1 D) (fun x2 D1 => (if x2 = 0 then (qs_bind (fX4_found (0 : Int32) D1) (fun x6 D5 => (some (x6, D5)))) else (qs_bind (fX4_within p2 (0 : Int32) (60 : Int32) D1) (fun x9 D8 => (if x9 = 0 then (qs_bind (fX4_found (0 : Int32) D8) (fun x28 D27 => (some (x28, D27)))) else (qs_let (0 : Int32) (fun v12 => (fX4_grudgeFor_L26 qs_F p1 p2 v12 D8)))))))))
set_option maxRecDepth 20000 in
theorem kX4_grudgeFor {l : Launch} {E : qs_E} {A : Nat → Prop} {p1 : Int32} {p2 : Int32} {D : qs_D} {X : Int32 × qs_D}  (hX : fX4_grudgeFor p1 p2 D = some X) : qs_Ctr l E A shX yX4_grudgeFor mX4_grudgeFor 4 qs_ri [.ref 0, .int p1, .int p2] D X := by
  refine qs_enter (plainFor_of_name (by decide)) rfl (Nat.le_of_ble_eq_true rfl) ?_ hX
  show qs_VO l E A shX mX4_grudgeFor 4 qs_ri 0 [(0, .ref 0), (1, .int p1), (2, .int p2)] [] D (fX4_grudgeFor p1 p2 D)
  unfold fX4_grudgeFor
  refine qs_aload_n dX4_grudgeFor_0 rfl rfl rfl ?_
  refine qs_iload_n dX4_grudgeFor_1 rfl rfl rfl ?_
  refine qs_cV1i cfX4_84 (Nat.le_of_ble_eq_true rfl) rfl rfl (fun Y hY => kX4_isDish  hY) (Nat.le_of_ble_eq_true rfl) dX4_grudgeFor_2 rfl (fun x2 D1 g3 => ?_)
  refine qs_if_eq (tgt := 18) dX4_grudgeFor_5 (by decide) rfl (fun g4 => ?_) (fun g4 => ?_)
  · refine qs_aload_n dX4_grudgeFor_18 rfl rfl rfl ?_
    refine qs_iconst (0 : Int32) dX4_grudgeFor_19 (by decide) rfl ?_
    refine qs_cV1i cfX4_55 (Nat.le_of_ble_eq_true rfl) rfl rfl (fun Y hY => kX4_found  hY) (Nat.le_of_ble_eq_true rfl) dX4_grudgeFor_20 rfl (fun x6 D5 g7 => ?_)
    exact qs_iret rfl dX4_grudgeFor_23
  · refine qs_iload_n dX4_grudgeFor_8 rfl rfl rfl ?_
    refine qs_iconst (0 : Int32) dX4_grudgeFor_9 (by decide) rfl ?_
    refine qs_bipush (60 : Int32) dX4_grudgeFor_10 (by decide) rfl ?_
    refine qs_cS3i cfX4_44 (Nat.le_of_ble_eq_true rfl) (fun Y hY => kX4_within  hY) (Nat.le_of_ble_eq_true rfl) dX4_grudgeFor_12 rfl (fun x9 D8 g10 => ?_)
    refine qs_if_ne (tgt := 24) dX4_grudgeFor_15 (by decide) rfl (fun g11 => ?_) (fun g11 => ?_)
    · refine qs_aload_n dX4_grudgeFor_18 rfl rfl rfl ?_
      refine qs_iconst (0 : Int32) dX4_grudgeFor_19 (by decide) rfl ?_
      refine qs_cV1i cfX4_55 (Nat.le_of_ble_eq_true rfl) rfl rfl (fun Y hY => kX4_found  hY) (Nat.le_of_ble_eq_true rfl) dX4_grudgeFor_20 rfl (fun x28 D27 g29 => ?_)
      exact qs_iret rfl dX4_grudgeFor_23
    · refine qs_iconst (0 : Int32) dX4_grudgeFor_24 (by decide) rfl ?_
      refine qs_istore_n (fun v12 => [(3, .int v12), (0, .ref 0), (1, .int p1), (2, .int p2)]) dX4_grudgeFor_25 rfl (by decide) (fun _ => rfl) rfl (fun v12 => ?_)
      exact qs_sub [1, 2, 3, 0] rfl (lX4_grudgeFor_L26 qs_F p1 p2 v12 D8)
abbrev mX4_kindFor : qs_M := (RX4, cX4_kindFor, 7, (some FieldType.int))
def fX4_kindFor_L32 : Nat → Int32 → Int32 → Int32 → Int32 → Int32 → qs_D → Option (Int32 × qs_D)
  | 0, _, _, _, _, _, _ => none
  | n + 1, w1, w2, w3, w4, w5, D => (if (7 : Int32) ≤ w5 then (some (w3, D)) else (qs_bind (fX1_takeOne 25 1 w1 D) (fun x17 D16 => (qs_g (0 : Int32) 8 (qs_let (qs_u D16 (25 + 4 + (0 : Int32).toNatClampNeg) 0 w5) (fun D20 => (qs_bind (fX1_passSteps 25 w2 D20) (fun x22 D21 => (qs_bind (fX1_given 25 (0 : Int32) D21) (fun x25 D24 => (qs_let x25 (fun v27 => (if v27 ≤ w4 then (qs_let (w5 + (1 : Int32)) (fun v29 => (fX4_kindFor_L32 n w1 w2 w3 w4 v29 D24))) else (qs_let v27 (fun v30 => (qs_let w5 (fun v31 => (qs_let (w5 + (1 : Int32)) (fun v32 => (fX4_kindFor_L32 n w1 w2 v31 v30 v32 D24))))))))))))))))))))
set_option maxRecDepth 20000 in
theorem lX4_kindFor_L32 {l : Launch} {E : qs_E} {A : Nat → Prop}  : ∀ (n : Nat) (w1 : Int32) (w2 : Int32) (w3 : Int32) (w4 : Int32) (w5 : Int32) (D : qs_D), qs_VO l E A shX mX4_kindFor 4 qs_ri 32 [(0, .ref 0), (1, .int w1), (2, .int w2), (3, .int w3), (4, .int w4), (5, .int w5)] [] D (fX4_kindFor_L32 n w1 w2 w3 w4 w5 D) := by
  intro n
  induction n with
  | zero => intro w1 w2 w3 w4 w5 D; exact qs_none
  | succ n ih =>
    intro w1 w2 w3 w4 w5 D
    unfold fX4_kindFor_L32
    refine qs_iload dX4_kindFor_32 rfl rfl ?_
    refine qs_bipush (7 : Int32) dX4_kindFor_34 (by decide) rfl ?_
    refine qs_icmp_ge (tgt := 103) dX4_kindFor_36 (by decide) rfl (fun g15 => ?_) (fun g15 => ?_)
    · refine qs_iload_n dX4_kindFor_103 rfl rfl rfl ?_
      exact qs_iret rfl dX4_kindFor_104
    · refine qs_aload_n dX4_kindFor_39 rfl rfl rfl ?_
      refine qs_getR ffX4_19 rfl rfl dX4_kindFor_40 rfl ?_
      refine qs_aload_n dX4_kindFor_43 rfl rfl rfl ?_
      refine qs_getR ffX4_10 rfl rfl dX4_kindFor_44 rfl ?_
      refine qs_iload_n dX4_kindFor_47 rfl rfl rfl ?_
      refine qs_cV2v cfX4_138 (Nat.le_of_ble_eq_true rfl) rfl rfl (fun Y hY => kX1_takeOne qs_k25 qs_k1 hY) (Nat.le_of_ble_eq_true rfl) dX4_kindFor_48 rfl (fun x17 D16 g18 => ?_)
      refine qs_aload_n dX4_kindFor_51 rfl rfl rfl ?_
      refine qs_getR ffX4_19 rfl rfl dX4_kindFor_52 rfl ?_
      refine qs_getR ffX4_94 rfl rfl dX4_kindFor_55 rfl ?_
      refine qs_iconst (0 : Int32) dX4_kindFor_58 (by decide) rfl ?_
      refine qs_aald (kd := 2) (C := RX0) (g := fun j => 25 + 4 + j) rfl (by decide) (qs_kA qs_k25) (by decide) dX4_kindFor_59 rfl (fun g19 => ?_)
      refine qs_iload dX4_kindFor_60 rfl rfl ?_
      refine qs_putI fwX4_158 (qs_kd qs_k25 g19) rfl dX4_kindFor_62 rfl (fun D20 => ?_)
      refine qs_aload_n dX4_kindFor_65 rfl rfl rfl ?_
      refine qs_getR ffX4_19 rfl rfl dX4_kindFor_66 rfl ?_
      refine qs_iload_n dX4_kindFor_69 rfl rfl rfl ?_
      refine qs_cV1v cfX4_115 (Nat.le_of_ble_eq_true rfl) rfl rfl (fun Y hY => kX1_passSteps qs_k25 hY) (Nat.le_of_ble_eq_true rfl) dX4_kindFor_70 rfl (fun x22 D21 g23 => ?_)
      refine qs_aload_n dX4_kindFor_73 rfl rfl rfl ?_
      refine qs_getR ffX4_19 rfl rfl dX4_kindFor_74 rfl ?_
      refine qs_iconst (0 : Int32) dX4_kindFor_77 (by decide) rfl ?_
      refine qs_cV1i cfX4_152 (Nat.le_of_ble_eq_true rfl) rfl rfl (fun Y hY => kX1_given qs_k25 hY) (Nat.le_of_ble_eq_true rfl) dX4_kindFor_78 rfl (fun x25 D24 g26 => ?_)
      refine qs_istore (fun v27 => [(6, .int v27), (0, .ref 0), (1, .int w1), (2, .int w2), (3, .int w3), (4, .int w4), (5, .int w5)]) dX4_kindFor_81 (by decide) (fun _ => rfl) rfl (fun v27 => ?_)
      refine qs_iload dX4_kindFor_83 rfl rfl ?_
      refine qs_iload dX4_kindFor_85 rfl rfl ?_
      refine qs_icmp_le (tgt := 97) dX4_kindFor_87 (by decide) rfl (fun g28 => ?_) (fun g28 => ?_)
      · refine qs_iinc (fun v29 => [(5, .int v29), (6, .int v27), (0, .ref 0), (1, .int w1), (2, .int w2), (3, .int w3), (4, .int w4)]) (1 : Int32) dX4_kindFor_97 rfl (by decide) (by decide) (fun _ => rfl) rfl (fun v29 => ?_)
        refine qs_goto (tgt := 32) dX4_kindFor_100 (by decide) ?_
        exact qs_sub [2, 3, 4, 5, 6, 0] rfl (ih w1 w2 w3 w4 v29 D24)
      · refine qs_iload dX4_kindFor_90 rfl rfl ?_
        refine qs_istore (fun v30 => [(4, .int v30), (6, .int v27), (0, .ref 0), (1, .int w1), (2, .int w2), (3, .int w3), (5, .int w5)]) dX4_kindFor_92 (by decide) (fun _ => rfl) rfl (fun v30 => ?_)
        refine qs_iload dX4_kindFor_94 rfl rfl ?_
        refine qs_istore_n (fun v31 => [(3, .int v31), (4, .int v30), (6, .int v27), (0, .ref 0), (1, .int w1), (2, .int w2), (5, .int w5)]) dX4_kindFor_96 rfl (by decide) (fun _ => rfl) rfl (fun v31 => ?_)
        refine qs_iinc (fun v32 => [(5, .int v32), (3, .int v31), (4, .int v30), (6, .int v27), (0, .ref 0), (1, .int w1), (2, .int w2)]) (1 : Int32) dX4_kindFor_97 rfl (by decide) (by decide) (fun _ => rfl) rfl (fun v32 => ?_)
        refine qs_goto (tgt := 32) dX4_kindFor_100 (by decide) ?_
        exact qs_sub [4, 5, 6, 1, 2, 0] rfl (ih w1 w2 v31 v30 v32 D24)
def fX4_kindFor (p1 : Int32) (p2 : Int32) (D : qs_D) : Option (Int32 × qs_D) := (qs_bind (fX4_isDish p1 D) (fun x2 D1 => (if x2 = 0 then (qs_bind (fX4_found (0 : Int32) D1) (fun x6 D5 => (some (x6, D5)))) else (qs_bind (fX4_within p2 (0 : Int32) (60 : Int32) D1) (fun x9 D8 => (if x9 = 0 then (qs_bind (fX4_found (0 : Int32) D8) (fun x34 D33 => (some (x34, D33)))) else (qs_let (0 : Int32) (fun v12 => (qs_let (-1 : Int32) (fun v13 => (qs_let (0 : Int32) (fun v14 => (fX4_kindFor_L32 qs_F p1 p2 v12 v13 v14 D8)))))))))))))
set_option maxRecDepth 20000 in
theorem kX4_kindFor {l : Launch} {E : qs_E} {A : Nat → Prop} {p1 : Int32} {p2 : Int32} {D : qs_D} {X : Int32 × qs_D}  (hX : fX4_kindFor p1 p2 D = some X) : qs_Ctr l E A shX yX4_kindFor mX4_kindFor 4 qs_ri [.ref 0, .int p1, .int p2] D X := by
  refine qs_enter (plainFor_of_name (by decide)) rfl (Nat.le_of_ble_eq_true rfl) ?_ hX
  show qs_VO l E A shX mX4_kindFor 4 qs_ri 0 [(0, .ref 0), (1, .int p1), (2, .int p2)] [] D (fX4_kindFor p1 p2 D)
  unfold fX4_kindFor
  refine qs_aload_n dX4_kindFor_0 rfl rfl rfl ?_
  refine qs_iload_n dX4_kindFor_1 rfl rfl rfl ?_
  refine qs_cV1i cfX4_84 (Nat.le_of_ble_eq_true rfl) rfl rfl (fun Y hY => kX4_isDish  hY) (Nat.le_of_ble_eq_true rfl) dX4_kindFor_2 rfl (fun x2 D1 g3 => ?_)
  refine qs_if_eq (tgt := 18) dX4_kindFor_5 (by decide) rfl (fun g4 => ?_) (fun g4 => ?_)
  · refine qs_aload_n dX4_kindFor_18 rfl rfl rfl ?_
    refine qs_iconst (0 : Int32) dX4_kindFor_19 (by decide) rfl ?_
    refine qs_cV1i cfX4_55 (Nat.le_of_ble_eq_true rfl) rfl rfl (fun Y hY => kX4_found  hY) (Nat.le_of_ble_eq_true rfl) dX4_kindFor_20 rfl (fun x6 D5 g7 => ?_)
    exact qs_iret rfl dX4_kindFor_23
  · refine qs_iload_n dX4_kindFor_8 rfl rfl rfl ?_
    refine qs_iconst (0 : Int32) dX4_kindFor_9 (by decide) rfl ?_
    refine qs_bipush (60 : Int32) dX4_kindFor_10 (by decide) rfl ?_
    refine qs_cS3i cfX4_44 (Nat.le_of_ble_eq_true rfl) (fun Y hY => kX4_within  hY) (Nat.le_of_ble_eq_true rfl) dX4_kindFor_12 rfl (fun x9 D8 g10 => ?_)
    refine qs_if_ne (tgt := 24) dX4_kindFor_15 (by decide) rfl (fun g11 => ?_) (fun g11 => ?_)
    · refine qs_aload_n dX4_kindFor_18 rfl rfl rfl ?_
      refine qs_iconst (0 : Int32) dX4_kindFor_19 (by decide) rfl ?_
      refine qs_cV1i cfX4_55 (Nat.le_of_ble_eq_true rfl) rfl rfl (fun Y hY => kX4_found  hY) (Nat.le_of_ble_eq_true rfl) dX4_kindFor_20 rfl (fun x34 D33 g35 => ?_)
      exact qs_iret rfl dX4_kindFor_23
    · refine qs_iconst (0 : Int32) dX4_kindFor_24 (by decide) rfl ?_
      refine qs_istore_n (fun v12 => [(3, .int v12), (0, .ref 0), (1, .int p1), (2, .int p2)]) dX4_kindFor_25 rfl (by decide) (fun _ => rfl) rfl (fun v12 => ?_)
      refine qs_iconst (-1 : Int32) dX4_kindFor_26 (by decide) rfl ?_
      refine qs_istore (fun v13 => [(4, .int v13), (3, .int v12), (0, .ref 0), (1, .int p1), (2, .int p2)]) dX4_kindFor_27 (by decide) (fun _ => rfl) rfl (fun v13 => ?_)
      refine qs_iconst (0 : Int32) dX4_kindFor_29 (by decide) rfl ?_
      refine qs_istore (fun v14 => [(5, .int v14), (4, .int v13), (3, .int v12), (0, .ref 0), (1, .int p1), (2, .int p2)]) dX4_kindFor_30 (by decide) (fun _ => rfl) rfl (fun v14 => ?_)
      exact qs_sub [3, 4, 5, 2, 1, 0] rfl (lX4_kindFor_L32 qs_F p1 p2 v12 v13 v14 D8)
abbrev mX4_best : qs_M := (RX4, cX4_best, 6, (some FieldType.int))
def fX4_best_L40 : Nat → Int32 → Int32 → Int32 → Int32 → qs_D → Option (Int32 × qs_D)
  | 0, _, _, _, _, _ => none
  | n + 1, w1, w2, w3, w4, D => (if (60 : Int32) < w4 then (some (w2, D)) else (qs_bind (fX1_passStep 25 D) (fun x16 D15 => (qs_bind (fX1_given 25 (0 : Int32) D15) (fun x19 D18 => (qs_let x19 (fun v21 => (if v21 ≤ w3 then (qs_let (w4 + (1 : Int32)) (fun v23 => (fX4_best_L40 n w1 w2 w3 v23 D18))) else (qs_let v21 (fun v24 => (qs_let w4 (fun v25 => (qs_let (w4 + (1 : Int32)) (fun v26 => (fX4_best_L40 n w1 v25 v24 v26 D18)))))))))))))))
set_option maxRecDepth 20000 in
theorem lX4_best_L40 {l : Launch} {E : qs_E} {A : Nat → Prop}  : ∀ (n : Nat) (w1 : Int32) (w2 : Int32) (w3 : Int32) (w4 : Int32) (D : qs_D), qs_VO l E A shX mX4_best 3 qs_ri 40 [(0, .ref 0), (1, .int w1), (2, .int w2), (3, .int w3), (4, .int w4)] [] D (fX4_best_L40 n w1 w2 w3 w4 D) := by
  intro n
  induction n with
  | zero => intro w1 w2 w3 w4 D; exact qs_none
  | succ n ih =>
    intro w1 w2 w3 w4 D
    unfold fX4_best_L40
    refine qs_iload dX4_best_40 rfl rfl ?_
    refine qs_bipush (60 : Int32) dX4_best_42 (by decide) rfl ?_
    refine qs_icmp_gt (tgt := 82) dX4_best_44 (by decide) rfl (fun g14 => ?_) (fun g14 => ?_)
    · refine qs_iload_n dX4_best_82 rfl rfl rfl ?_
      exact qs_iret rfl dX4_best_83
    · refine qs_aload_n dX4_best_47 rfl rfl rfl ?_
      refine qs_getR ffX4_19 rfl rfl dX4_best_48 rfl ?_
      refine qs_cV0v cfX4_149 (Nat.le_of_ble_eq_true rfl) rfl rfl (fun Y hY => kX1_passStep qs_k25 hY) (Nat.le_of_ble_eq_true rfl) dX4_best_51 rfl (fun x16 D15 g17 => ?_)
      refine qs_aload_n dX4_best_54 rfl rfl rfl ?_
      refine qs_getR ffX4_19 rfl rfl dX4_best_55 rfl ?_
      refine qs_iconst (0 : Int32) dX4_best_58 (by decide) rfl ?_
      refine qs_cV1i cfX4_152 (Nat.le_of_ble_eq_true rfl) rfl rfl (fun Y hY => kX1_given qs_k25 hY) (Nat.le_of_ble_eq_true rfl) dX4_best_59 rfl (fun x19 D18 g20 => ?_)
      refine qs_istore (fun v21 => [(5, .int v21), (0, .ref 0), (1, .int w1), (2, .int w2), (3, .int w3), (4, .int w4)]) dX4_best_62 (by decide) (fun _ => rfl) rfl (fun v21 => ?_)
      refine qs_iload dX4_best_64 rfl rfl ?_
      refine qs_iload_n dX4_best_66 rfl rfl rfl ?_
      refine qs_icmp_le (tgt := 76) dX4_best_67 (by decide) rfl (fun g22 => ?_) (fun g22 => ?_)
      · refine qs_iinc (fun v23 => [(4, .int v23), (5, .int v21), (0, .ref 0), (1, .int w1), (2, .int w2), (3, .int w3)]) (1 : Int32) dX4_best_76 rfl (by decide) (by decide) (fun _ => rfl) rfl (fun v23 => ?_)
        refine qs_goto (tgt := 40) dX4_best_79 (by decide) ?_
        exact qs_sub [2, 3, 4, 5, 0] rfl (ih w1 w2 w3 v23 D18)
      · refine qs_iload dX4_best_70 rfl rfl ?_
        refine qs_istore_n (fun v24 => [(3, .int v24), (5, .int v21), (0, .ref 0), (1, .int w1), (2, .int w2), (4, .int w4)]) dX4_best_72 rfl (by decide) (fun _ => rfl) rfl (fun v24 => ?_)
        refine qs_iload dX4_best_73 rfl rfl ?_
        refine qs_istore_n (fun v25 => [(2, .int v25), (3, .int v24), (5, .int v21), (0, .ref 0), (1, .int w1), (4, .int w4)]) dX4_best_75 rfl (by decide) (fun _ => rfl) rfl (fun v25 => ?_)
        refine qs_iinc (fun v26 => [(4, .int v26), (2, .int v25), (3, .int v24), (5, .int v21), (0, .ref 0), (1, .int w1)]) (1 : Int32) dX4_best_76 rfl (by decide) (by decide) (fun _ => rfl) rfl (fun v26 => ?_)
        refine qs_goto (tgt := 40) dX4_best_79 (by decide) ?_
        exact qs_sub [4, 5, 1, 2, 0] rfl (ih w1 v25 v24 v26 D18)
def fX4_best (p1 : Int32) (D : qs_D) : Option (Int32 × qs_D) := (qs_bind (fX4_isDish p1 D) (fun x2 D1 => (if x2 = 0 then (qs_bind (fX4_found (0 : Int32) D1) (fun x28 D27 => (some (x28, D27)))) else (qs_bind (fX1_takeOne 25 1 p1 D1) (fun x6 D5 => (qs_let (0 : Int32) (fun v8 => (qs_bind (fX1_given 25 (0 : Int32) D5) (fun x10 D9 => (qs_let x10 (fun v12 => (qs_let (1 : Int32) (fun v13 => (fX4_best_L40 qs_F p1 v8 v12 v13 D9))))))))))))))
set_option maxRecDepth 20000 in
theorem kX4_best {l : Launch} {E : qs_E} {A : Nat → Prop} {p1 : Int32} {D : qs_D} {X : Int32 × qs_D}  (hX : fX4_best p1 D = some X) : qs_Ctr l E A shX yX4_best mX4_best 3 qs_ri [.ref 0, .int p1] D X := by
  refine qs_enter (plainFor_of_name (by decide)) rfl (Nat.le_of_ble_eq_true rfl) ?_ hX
  show qs_VO l E A shX mX4_best 3 qs_ri 0 [(0, .ref 0), (1, .int p1)] [] D (fX4_best p1 D)
  unfold fX4_best
  refine qs_aload_n dX4_best_0 rfl rfl rfl ?_
  refine qs_iload_n dX4_best_1 rfl rfl rfl ?_
  refine qs_cV1i cfX4_84 (Nat.le_of_ble_eq_true rfl) rfl rfl (fun Y hY => kX4_isDish  hY) (Nat.le_of_ble_eq_true rfl) dX4_best_2 rfl (fun x2 D1 g3 => ?_)
  refine qs_if_ne (tgt := 14) dX4_best_5 (by decide) rfl (fun g4 => ?_) (fun g4 => ?_)
  · refine qs_aload_n dX4_best_8 rfl rfl rfl ?_
    refine qs_iconst (0 : Int32) dX4_best_9 (by decide) rfl ?_
    refine qs_cV1i cfX4_55 (Nat.le_of_ble_eq_true rfl) rfl rfl (fun Y hY => kX4_found  hY) (Nat.le_of_ble_eq_true rfl) dX4_best_10 rfl (fun x28 D27 g29 => ?_)
    exact qs_iret rfl dX4_best_13
  · refine qs_aload_n dX4_best_14 rfl rfl rfl ?_
    refine qs_getR ffX4_19 rfl rfl dX4_best_15 rfl ?_
    refine qs_aload_n dX4_best_18 rfl rfl rfl ?_
    refine qs_getR ffX4_10 rfl rfl dX4_best_19 rfl ?_
    refine qs_iload_n dX4_best_22 rfl rfl rfl ?_
    refine qs_cV2v cfX4_138 (Nat.le_of_ble_eq_true rfl) rfl rfl (fun Y hY => kX1_takeOne qs_k25 qs_k1 hY) (Nat.le_of_ble_eq_true rfl) dX4_best_23 rfl (fun x6 D5 g7 => ?_)
    refine qs_iconst (0 : Int32) dX4_best_26 (by decide) rfl ?_
    refine qs_istore_n (fun v8 => [(2, .int v8), (0, .ref 0), (1, .int p1)]) dX4_best_27 rfl (by decide) (fun _ => rfl) rfl (fun v8 => ?_)
    refine qs_aload_n dX4_best_28 rfl rfl rfl ?_
    refine qs_getR ffX4_19 rfl rfl dX4_best_29 rfl ?_
    refine qs_iconst (0 : Int32) dX4_best_32 (by decide) rfl ?_
    refine qs_cV1i cfX4_152 (Nat.le_of_ble_eq_true rfl) rfl rfl (fun Y hY => kX1_given qs_k25 hY) (Nat.le_of_ble_eq_true rfl) dX4_best_33 rfl (fun x10 D9 g11 => ?_)
    refine qs_istore_n (fun v12 => [(3, .int v12), (2, .int v8), (0, .ref 0), (1, .int p1)]) dX4_best_36 rfl (by decide) (fun _ => rfl) rfl (fun v12 => ?_)
    refine qs_iconst (1 : Int32) dX4_best_37 (by decide) rfl ?_
    refine qs_istore (fun v13 => [(4, .int v13), (3, .int v12), (2, .int v8), (0, .ref 0), (1, .int p1)]) dX4_best_38 (by decide) (fun _ => rfl) rfl (fun v13 => ?_)
    exact qs_sub [3, 4, 2, 1, 0] rfl (lX4_best_L40 qs_F p1 v8 v12 v13 D9)
abbrev mX4_takeOff : qs_M := (RX4, cX4_takeOff, 2, (some FieldType.int))
def fX4_takeOff (p1 : Int32) (D : qs_D) : Option (Int32 × qs_D) := (qs_bind (fX4_within p1 (0 : Int32) (20 : Int32) D) (fun x2 D1 => (if x2 = 0 then (qs_bind (fX4_found (0 : Int32) D1) (fun x18 D17 => (some (x18, D17)))) else (qs_bind (fX1_takeAll 25 1 D1) (fun x6 D5 => (qs_bind (fX1_passSteps 25 p1 D5) (fun x9 D8 => (qs_bind (fX1_splitSet 25 D8) (fun x12 D11 => (qs_bind (fX1_splitSet 1 D11) (fun x15 D14 => (some ((x12 &&& (x15 ^^^ (-1 : Int32))), D14)))))))))))))
set_option maxRecDepth 20000 in
theorem kX4_takeOff {l : Launch} {E : qs_E} {A : Nat → Prop} {p1 : Int32} {D : qs_D} {X : Int32 × qs_D}  (hX : fX4_takeOff p1 D = some X) : qs_Ctr l E A shX yX4_takeOff mX4_takeOff 4 qs_ri [.ref 0, .int p1] D X := by
  refine qs_enter (plainFor_of_name (by decide)) rfl (Nat.le_of_ble_eq_true rfl) ?_ hX
  show qs_VO l E A shX mX4_takeOff 4 qs_ri 0 [(0, .ref 0), (1, .int p1)] [] D (fX4_takeOff p1 D)
  unfold fX4_takeOff
  refine qs_iload_n dX4_takeOff_0 rfl rfl rfl ?_
  refine qs_iconst (0 : Int32) dX4_takeOff_1 (by decide) rfl ?_
  refine qs_bipush (20 : Int32) dX4_takeOff_2 (by decide) rfl ?_
  refine qs_cS3i cfX4_44 (Nat.le_of_ble_eq_true rfl) (fun Y hY => kX4_within  hY) (Nat.le_of_ble_eq_true rfl) dX4_takeOff_4 rfl (fun x2 D1 g3 => ?_)
  refine qs_if_ne (tgt := 16) dX4_takeOff_7 (by decide) rfl (fun g4 => ?_) (fun g4 => ?_)
  · refine qs_aload_n dX4_takeOff_10 rfl rfl rfl ?_
    refine qs_iconst (0 : Int32) dX4_takeOff_11 (by decide) rfl ?_
    refine qs_cV1i cfX4_55 (Nat.le_of_ble_eq_true rfl) rfl rfl (fun Y hY => kX4_found  hY) (Nat.le_of_ble_eq_true rfl) dX4_takeOff_12 rfl (fun x18 D17 g19 => ?_)
    exact qs_iret rfl dX4_takeOff_15
  · refine qs_aload_n dX4_takeOff_16 rfl rfl rfl ?_
    refine qs_getR ffX4_19 rfl rfl dX4_takeOff_17 rfl ?_
    refine qs_aload_n dX4_takeOff_20 rfl rfl rfl ?_
    refine qs_getR ffX4_10 rfl rfl dX4_takeOff_21 rfl ?_
    refine qs_cV1v cfX4_155 (Nat.le_of_ble_eq_true rfl) rfl rfl (fun Y hY => kX1_takeAll qs_k25 qs_k1 hY) (Nat.le_of_ble_eq_true rfl) dX4_takeOff_24 rfl (fun x6 D5 g7 => ?_)
    refine qs_aload_n dX4_takeOff_27 rfl rfl rfl ?_
    refine qs_getR ffX4_19 rfl rfl dX4_takeOff_28 rfl ?_
    refine qs_iload_n dX4_takeOff_31 rfl rfl rfl ?_
    refine qs_cV1v cfX4_115 (Nat.le_of_ble_eq_true rfl) rfl rfl (fun Y hY => kX1_passSteps qs_k25 hY) (Nat.le_of_ble_eq_true rfl) dX4_takeOff_32 rfl (fun x9 D8 g10 => ?_)
    refine qs_aload_n dX4_takeOff_35 rfl rfl rfl ?_
    refine qs_getR ffX4_19 rfl rfl dX4_takeOff_36 rfl ?_
    refine qs_cV0i cfX4_122 (Nat.le_of_ble_eq_true rfl) rfl rfl (fun Y hY => kX1_splitSet qs_k25 hY) (Nat.le_of_ble_eq_true rfl) dX4_takeOff_39 rfl (fun x12 D11 g13 => ?_)
    refine qs_aload_n dX4_takeOff_42 rfl rfl rfl ?_
    refine qs_getR ffX4_10 rfl rfl dX4_takeOff_43 rfl ?_
    refine qs_cV0i cfX4_122 (Nat.le_of_ble_eq_true rfl) rfl rfl (fun Y hY => kX1_splitSet qs_k1 hY) (Nat.le_of_ble_eq_true rfl) dX4_takeOff_46 rfl (fun x15 D14 g16 => ?_)
    refine qs_iconst (-1 : Int32) dX4_takeOff_49 (by decide) rfl ?_
    refine qs_ixor dX4_takeOff_50 rfl ?_
    refine qs_iand dX4_takeOff_51 rfl ?_
    exact qs_iret rfl dX4_takeOff_52
def fX4_isSheet (p0 : Int32) (D : qs_D) : Option (Int32 × qs_D) := (qs_bind (fX4_within p0 (0 : Int32) (3 : Int32) D) (fun x2 D1 => (qs_gb x2 (some (x2, D1)))))
set_option maxRecDepth 20000 in
theorem kX4_isSheet {l : Launch} {E : qs_E} {A : Nat → Prop} {p0 : Int32} {D : qs_D} {X : Int32 × qs_D}  (hX : fX4_isSheet p0 D = some X) : qs_Ctr l E A shX yX4_isSheet mX4_isSheet 1 qs_ri [.int p0] D X := by
  refine qs_enter (plainFor_of_name (by decide)) rfl (Nat.le_of_ble_eq_true rfl) ?_ hX
  show qs_VO l E A shX mX4_isSheet 1 qs_ri 0 [(0, .int p0)] [] D (fX4_isSheet p0 D)
  unfold fX4_isSheet
  refine qs_iload_n dX4_isSheet_0 rfl rfl rfl ?_
  refine qs_iconst (0 : Int32) dX4_isSheet_1 (by decide) rfl ?_
  refine qs_iconst (3 : Int32) dX4_isSheet_2 (by decide) rfl ?_
  refine qs_cS3i cfX4_44 (Nat.le_of_ble_eq_true rfl) (fun Y hY => kX4_within  hY) (Nat.le_of_ble_eq_true rfl) dX4_isSheet_3 rfl (fun x2 D1 g3 => ?_)
  exact qs_zretB rfl dX4_isSheet_6
def fX4_faultOfSheet (p1 : Int32) (D : qs_D) : Option (Int32 × qs_D) := (qs_bind (fX4_isSheet p1 D) (fun x2 D1 => (if x2 = 0 then (some ((0 : Int32), D1)) else (qs_g p1 4 (qs_bind (fX2_isMissing (41 + 2 * p1.toNatClampNeg) D1) (fun x7 D6 => (if x7 = 0 then (some ((-1 : Int32), D6)) else (some ((5 : Int32), D6)))))))))
set_option maxRecDepth 20000 in
theorem kX4_faultOfSheet {l : Launch} {E : qs_E} {A : Nat → Prop} {p1 : Int32} {D : qs_D} {X : Int32 × qs_D}  (hX : fX4_faultOfSheet p1 D = some X) : qs_Ctr l E A shX yX4_faultOfSheet mX4_faultOfSheet 2 qs_ri [.ref 0, .int p1] D X := by
  refine qs_enter (plainFor_of_name (by decide)) rfl (Nat.le_of_ble_eq_true rfl) ?_ hX
  show qs_VO l E A shX mX4_faultOfSheet 2 qs_ri 0 [(0, .ref 0), (1, .int p1)] [] D (fX4_faultOfSheet p1 D)
  unfold fX4_faultOfSheet
  refine qs_iload_n dX4_faultOfSheet_0 rfl rfl rfl ?_
  refine qs_cS1i cfX4_204 (Nat.le_of_ble_eq_true rfl) (fun Y hY => kX4_isSheet  hY) (Nat.le_of_ble_eq_true rfl) dX4_faultOfSheet_1 rfl (fun x2 D1 g3 => ?_)
  refine qs_if_ne (tgt := 9) dX4_faultOfSheet_4 (by decide) rfl (fun g4 => ?_) (fun g4 => ?_)
  · refine qs_iconst (0 : Int32) dX4_faultOfSheet_7 (by decide) rfl ?_
    exact qs_iret rfl dX4_faultOfSheet_8
  · refine qs_aload_n dX4_faultOfSheet_9 rfl rfl rfl ?_
    refine qs_getR ffX4_31 rfl rfl dX4_faultOfSheet_10 rfl ?_
    refine qs_iload_n dX4_faultOfSheet_13 rfl rfl rfl ?_
    refine qs_aald (kd := 3) (C := RX2) (g := fun j => 41 + 2 * j) rfl (by decide) rfl (by decide) dX4_faultOfSheet_14 rfl (fun g5 => ?_)
    refine qs_cV0i cfX4_215 (Nat.le_of_ble_eq_true rfl) ((qs_ss g5)).1 rfl (fun Y hY => kX2_isMissing (qs_ss g5) hY) (Nat.le_of_ble_eq_true rfl) dX4_faultOfSheet_15 rfl (fun x7 D6 g8 => ?_)
    refine qs_if_eq (tgt := 25) dX4_faultOfSheet_18 (by decide) rfl (fun g9 => ?_) (fun g9 => ?_)
    · refine qs_iconst (-1 : Int32) dX4_faultOfSheet_25 (by decide) rfl ?_
      exact qs_iret rfl dX4_faultOfSheet_26
    · refine qs_iconst (5 : Int32) dX4_faultOfSheet_21 (by decide) rfl ?_
      refine qs_goto (tgt := 26) dX4_faultOfSheet_22 (by decide) ?_
      exact qs_iret rfl dX4_faultOfSheet_26
def fX4_faultOfTold (p1 : Int32) (p2 : Int32) (D : qs_D) : Option (Int32 × qs_D) := (qs_bind (fX4_faultOfSheet p1 D) (fun x2 D1 => (qs_let x2 (fun v4 => (if v4 = (-1 : Int32) then (qs_bind (fX4_isDish p2 D1) (fun x7 D6 => (if x7 = 0 then (some ((0 : Int32), D6)) else (some (v4, D6))))) else (some (v4, D1)))))))
set_option maxRecDepth 20000 in
theorem kX4_faultOfTold {l : Launch} {E : qs_E} {A : Nat → Prop} {p1 : Int32} {p2 : Int32} {D : qs_D} {X : Int32 × qs_D}  (hX : fX4_faultOfTold p1 p2 D = some X) : qs_Ctr l E A shX yX4_faultOfTold mX4_faultOfTold 3 qs_ri [.ref 0, .int p1, .int p2] D X := by
  refine qs_enter (plainFor_of_name (by decide)) rfl (Nat.le_of_ble_eq_true rfl) ?_ hX
  show qs_VO l E A shX mX4_faultOfTold 3 qs_ri 0 [(0, .ref 0), (1, .int p1), (2, .int p2)] [] D (fX4_faultOfTold p1 p2 D)
  unfold fX4_faultOfTold
  refine qs_aload_n dX4_faultOfTold_0 rfl rfl rfl ?_
  refine qs_iload_n dX4_faultOfTold_1 rfl rfl rfl ?_
  refine qs_cV1i cfX4_211 (Nat.le_of_ble_eq_true rfl) rfl rfl (fun Y hY => kX4_faultOfSheet  hY) (Nat.le_of_ble_eq_true rfl) dX4_faultOfTold_2 rfl (fun x2 D1 g3 => ?_)
  refine qs_istore_n (fun v4 => [(3, .int v4), (0, .ref 0), (1, .int p1), (2, .int p2)]) dX4_faultOfTold_5 rfl (by decide) (fun _ => rfl) rfl (fun v4 => ?_)
  refine qs_iload_n dX4_faultOfTold_6 rfl rfl rfl ?_
  refine qs_iconst (-1 : Int32) dX4_faultOfTold_7 (by decide) rfl ?_
  refine qs_icmp_ne (tgt := 21) dX4_faultOfTold_8 (by decide) rfl (fun g5 => ?_) (fun g5 => ?_)
  · refine qs_aload_n dX4_faultOfTold_11 rfl rfl rfl ?_
    refine qs_iload_n dX4_faultOfTold_12 rfl rfl rfl ?_
    refine qs_cV1i cfX4_84 (Nat.le_of_ble_eq_true rfl) rfl rfl (fun Y hY => kX4_isDish  hY) (Nat.le_of_ble_eq_true rfl) dX4_faultOfTold_13 rfl (fun x7 D6 g8 => ?_)
    refine qs_if_ne (tgt := 21) dX4_faultOfTold_16 (by decide) rfl (fun g9 => ?_) (fun g9 => ?_)
    · refine qs_iconst (0 : Int32) dX4_faultOfTold_19 (by decide) rfl ?_
      exact qs_iret rfl dX4_faultOfTold_20
    · refine qs_iload_n dX4_faultOfTold_21 rfl rfl rfl ?_
      exact qs_iret rfl dX4_faultOfTold_22
  · refine qs_iload_n dX4_faultOfTold_21 rfl rfl rfl ?_
    exact qs_iret rfl dX4_faultOfTold_22
def fX4_draftGoesAs_L2 (r1 : Nat) : Nat → Int32 → qs_D → Option (Int32 × qs_D)
  | 0, _, _ => none
  | n + 1, w2, D => (if (D r1 1) ≤ w2 then (some ((1 : Int32), D)) else (if w2 ≤ 0 then (qs_g w2 40 (if (D (r1 + 1) w2.toNatClampNeg) = (-1 : Int32) then (qs_let (w2 + (1 : Int32)) (fun v6 => (fX4_draftGoesAs_L2 r1 n v6 D))) else (qs_g w2 40 (qs_g (0 : Int32) 8 (if (D (r1 + 1) w2.toNatClampNeg) = (D (25 + 4 + (0 : Int32).toNatClampNeg) 1) then (qs_let (w2 + (1 : Int32)) (fun v10 => (fX4_draftGoesAs_L2 r1 n v10 D))) else (some ((0 : Int32), D))))))) else (qs_bind (fX1_passStep 25 D) (fun x12 D11 => (qs_g w2 40 (if (D11 (r1 + 1) w2.toNatClampNeg) = (-1 : Int32) then (qs_let (w2 + (1 : Int32)) (fun v16 => (fX4_draftGoesAs_L2 r1 n v16 D11))) else (qs_g w2 40 (qs_g (0 : Int32) 8 (if (D11 (r1 + 1) w2.toNatClampNeg) = (D11 (25 + 4 + (0 : Int32).toNatClampNeg) 1) then (qs_let (w2 + (1 : Int32)) (fun v20 => (fX4_draftGoesAs_L2 r1 n v20 D11))) else (some ((0 : Int32), D11)))))))))))
set_option maxRecDepth 20000 in
theorem lX4_draftGoesAs_L2 {l : Launch} {E : qs_E} {A : Nat → Prop} {r1 : Nat} (h1 : qs_isS r1) : ∀ (n : Nat) (w2 : Int32) (D : qs_D), qs_VO l E A shX mX4_draftGoesAs 3 qs_ri 2 [(0, .ref 0), (1, .ref r1), (2, .int w2)] [] D (fX4_draftGoesAs_L2 r1 n w2 D) := by
  intro n
  induction n with
  | zero => intro w2 D; exact qs_none
  | succ n ih =>
    intro w2 D
    unfold fX4_draftGoesAs_L2
    refine qs_iload_n dX4_draftGoesAs_2 rfl rfl rfl ?_
    refine qs_aload_n dX4_draftGoesAs_3 rfl rfl rfl ?_
    refine qs_getI ffX4_210 (h1).1 rfl dX4_draftGoesAs_4 rfl ?_
    refine qs_icmp_ge (tgt := 60) dX4_draftGoesAs_7 (by decide) rfl (fun g2 => ?_) (fun g2 => ?_)
    · refine qs_iconst (1 : Int32) dX4_draftGoesAs_60 (by decide) rfl ?_
      exact qs_zret (Or.inr rfl) rfl dX4_draftGoesAs_61
    · refine qs_iload_n dX4_draftGoesAs_10 rfl rfl rfl ?_
      refine qs_if_le (tgt := 21) dX4_draftGoesAs_11 (by decide) rfl (fun g3 => ?_) (fun g3 => ?_)
      · refine qs_aload_n dX4_draftGoesAs_21 rfl rfl rfl ?_
        refine qs_getR ffX4_225 (h1).1 rfl dX4_draftGoesAs_22 rfl ?_
        refine qs_iload_n dX4_draftGoesAs_25 rfl rfl rfl ?_
        refine qs_iald (h1).2 (by decide) dX4_draftGoesAs_26 rfl (fun g4 => ?_)
        refine qs_iconst (-1 : Int32) dX4_draftGoesAs_27 (by decide) rfl ?_
        refine qs_icmp_eq (tgt := 54) dX4_draftGoesAs_28 (by decide) rfl (fun g5 => ?_) (fun g5 => ?_)
        · refine qs_iinc (fun v6 => [(2, .int v6), (0, .ref 0), (1, .ref r1)]) (1 : Int32) dX4_draftGoesAs_54 rfl (by decide) (by decide) (fun _ => rfl) rfl (fun v6 => ?_)
          refine qs_goto (tgt := 2) dX4_draftGoesAs_57 (by decide) ?_
          exact qs_sub [1, 2, 0] rfl (ih v6 D)
        · refine qs_aload_n dX4_draftGoesAs_31 rfl rfl rfl ?_
          refine qs_getR ffX4_225 (h1).1 rfl dX4_draftGoesAs_32 rfl ?_
          refine qs_iload_n dX4_draftGoesAs_35 rfl rfl rfl ?_
          refine qs_iald (h1).2 (by decide) dX4_draftGoesAs_36 rfl (fun g7 => ?_)
          refine qs_aload_n dX4_draftGoesAs_37 rfl rfl rfl ?_
          refine qs_getR ffX4_19 rfl rfl dX4_draftGoesAs_38 rfl ?_
          refine qs_getR ffX4_94 rfl rfl dX4_draftGoesAs_41 rfl ?_
          refine qs_iconst (0 : Int32) dX4_draftGoesAs_44 (by decide) rfl ?_
          refine qs_aald (kd := 2) (C := RX0) (g := fun j => 25 + 4 + j) rfl (by decide) (qs_kA qs_k25) (by decide) dX4_draftGoesAs_45 rfl (fun g8 => ?_)
          refine qs_getI ffX4_79 (qs_kd qs_k25 g8) rfl dX4_draftGoesAs_46 rfl ?_
          refine qs_icmp_eq (tgt := 54) dX4_draftGoesAs_49 (by decide) rfl (fun g9 => ?_) (fun g9 => ?_)
          · refine qs_iinc (fun v10 => [(2, .int v10), (0, .ref 0), (1, .ref r1)]) (1 : Int32) dX4_draftGoesAs_54 rfl (by decide) (by decide) (fun _ => rfl) rfl (fun v10 => ?_)
            refine qs_goto (tgt := 2) dX4_draftGoesAs_57 (by decide) ?_
            exact qs_sub [1, 2, 0] rfl (ih v10 D)
          · refine qs_iconst (0 : Int32) dX4_draftGoesAs_52 (by decide) rfl ?_
            exact qs_zret (Or.inl rfl) rfl dX4_draftGoesAs_53
      · refine qs_aload_n dX4_draftGoesAs_14 rfl rfl rfl ?_
        refine qs_getR ffX4_19 rfl rfl dX4_draftGoesAs_15 rfl ?_
        refine qs_cV0v cfX4_149 (Nat.le_of_ble_eq_true rfl) rfl rfl (fun Y hY => kX1_passStep qs_k25 hY) (Nat.le_of_ble_eq_true rfl) dX4_draftGoesAs_18 rfl (fun x12 D11 g13 => ?_)
        refine qs_aload_n dX4_draftGoesAs_21 rfl rfl rfl ?_
        refine qs_getR ffX4_225 (h1).1 rfl dX4_draftGoesAs_22 rfl ?_
        refine qs_iload_n dX4_draftGoesAs_25 rfl rfl rfl ?_
        refine qs_iald (h1).2 (by decide) dX4_draftGoesAs_26 rfl (fun g14 => ?_)
        refine qs_iconst (-1 : Int32) dX4_draftGoesAs_27 (by decide) rfl ?_
        refine qs_icmp_eq (tgt := 54) dX4_draftGoesAs_28 (by decide) rfl (fun g15 => ?_) (fun g15 => ?_)
        · refine qs_iinc (fun v16 => [(2, .int v16), (0, .ref 0), (1, .ref r1)]) (1 : Int32) dX4_draftGoesAs_54 rfl (by decide) (by decide) (fun _ => rfl) rfl (fun v16 => ?_)
          refine qs_goto (tgt := 2) dX4_draftGoesAs_57 (by decide) ?_
          exact qs_sub [1, 2, 0] rfl (ih v16 D11)
        · refine qs_aload_n dX4_draftGoesAs_31 rfl rfl rfl ?_
          refine qs_getR ffX4_225 (h1).1 rfl dX4_draftGoesAs_32 rfl ?_
          refine qs_iload_n dX4_draftGoesAs_35 rfl rfl rfl ?_
          refine qs_iald (h1).2 (by decide) dX4_draftGoesAs_36 rfl (fun g17 => ?_)
          refine qs_aload_n dX4_draftGoesAs_37 rfl rfl rfl ?_
          refine qs_getR ffX4_19 rfl rfl dX4_draftGoesAs_38 rfl ?_
          refine qs_getR ffX4_94 rfl rfl dX4_draftGoesAs_41 rfl ?_
          refine qs_iconst (0 : Int32) dX4_draftGoesAs_44 (by decide) rfl ?_
          refine qs_aald (kd := 2) (C := RX0) (g := fun j => 25 + 4 + j) rfl (by decide) (qs_kA qs_k25) (by decide) dX4_draftGoesAs_45 rfl (fun g18 => ?_)
          refine qs_getI ffX4_79 (qs_kd qs_k25 g18) rfl dX4_draftGoesAs_46 rfl ?_
          refine qs_icmp_eq (tgt := 54) dX4_draftGoesAs_49 (by decide) rfl (fun g19 => ?_) (fun g19 => ?_)
          · refine qs_iinc (fun v20 => [(2, .int v20), (0, .ref 0), (1, .ref r1)]) (1 : Int32) dX4_draftGoesAs_54 rfl (by decide) (by decide) (fun _ => rfl) rfl (fun v20 => ?_)
            refine qs_goto (tgt := 2) dX4_draftGoesAs_57 (by decide) ?_
            exact qs_sub [1, 2, 0] rfl (ih v20 D11)
          · refine qs_iconst (0 : Int32) dX4_draftGoesAs_52 (by decide) rfl ?_
            exact qs_zret (Or.inl rfl) rfl dX4_draftGoesAs_53
def fX4_draftGoesAs (r1 : Nat) (D : qs_D) : Option (Int32 × qs_D) := (qs_let (0 : Int32) (fun v1 => (fX4_draftGoesAs_L2 r1 qs_F v1 D)))
set_option maxRecDepth 20000 in
theorem kX4_draftGoesAs {l : Launch} {E : qs_E} {A : Nat → Prop} {r1 : Nat} {D : qs_D} {X : Int32 × qs_D} (h1 : qs_isS r1) (hX : fX4_draftGoesAs r1 D = some X) : qs_Ctr l E A shX yX4_draftGoesAs mX4_draftGoesAs 3 qs_ri [.ref 0, .ref r1] D X := by
  refine qs_enter (plainFor_of_name (by decide)) rfl (Nat.le_of_ble_eq_true rfl) ?_ hX
  show qs_VO l E A shX mX4_draftGoesAs 3 qs_ri 0 [(0, .ref 0), (1, .ref r1)] [] D (fX4_draftGoesAs r1 D)
  unfold fX4_draftGoesAs
  refine qs_iconst (0 : Int32) dX4_draftGoesAs_0 (by decide) rfl ?_
  refine qs_istore_n (fun v1 => [(2, .int v1), (0, .ref 0), (1, .ref r1)]) dX4_draftGoesAs_1 rfl (by decide) (fun _ => rfl) rfl (fun v1 => ?_)
  exact qs_sub [1, 2, 0] rfl (lX4_draftGoesAs_L2 h1 qs_F v1 D)
abbrev mX4_fits : qs_M := (RX4, cX4_fits, 6, (some FieldType.int))
def fX4_fits_L24 : Nat → Int32 → Int32 → Int32 → Int32 → Int32 → qs_D → Option (Int32 × qs_D)
  | 0, _, _, _, _, _, _ => none
  | n + 1, w1, w2, w3, w4, w5, D => (if (99 : Int32) < w5 then (some (w4, D)) else (qs_bind (fX1_takeOne 25 1 w2 D) (fun x10 D9 => (qs_let (qs_u D9 25 0 w5) (fun D12 => (qs_g w1 4 (qs_bind (fX4_draftGoesAs (41 + 2 * w1.toNatClampNeg) D12) (fun x15 D14 => (if x15 = 0 then (qs_let (w5 + (1 : Int32)) (fun v18 => (fX4_fits_L24 n w1 w2 w3 w4 v18 D14))) else (qs_let (w4 + (1 : Int32)) (fun v19 => (qs_let (w5 + (1 : Int32)) (fun v20 => (fX4_fits_L24 n w1 w2 w3 v19 v20 D14))))))))))))))
set_option maxRecDepth 20000 in
theorem lX4_fits_L24 {l : Launch} {E : qs_E} {A : Nat → Prop}  : ∀ (n : Nat) (w1 : Int32) (w2 : Int32) (w3 : Int32) (w4 : Int32) (w5 : Int32) (D : qs_D), qs_VO l E A shX mX4_fits 4 qs_ri 24 [(0, .ref 0), (1, .int w1), (2, .int w2), (3, .int w3), (4, .int w4), (5, .int w5)] [] D (fX4_fits_L24 n w1 w2 w3 w4 w5 D) := by
  intro n
  induction n with
  | zero => intro w1 w2 w3 w4 w5 D; exact qs_none
  | succ n ih =>
    intro w1 w2 w3 w4 w5 D
    unfold fX4_fits_L24
    refine qs_iload dX4_fits_24 rfl rfl ?_
    refine qs_bipush (99 : Int32) dX4_fits_26 (by decide) rfl ?_
    refine qs_icmp_gt (tgt := 74) dX4_fits_28 (by decide) rfl (fun g8 => ?_) (fun g8 => ?_)
    · refine qs_iload dX4_fits_74 rfl rfl ?_
      exact qs_iret rfl dX4_fits_76
    · refine qs_aload_n dX4_fits_31 rfl rfl rfl ?_
      refine qs_getR ffX4_19 rfl rfl dX4_fits_32 rfl ?_
      refine qs_aload_n dX4_fits_35 rfl rfl rfl ?_
      refine qs_getR ffX4_10 rfl rfl dX4_fits_36 rfl ?_
      refine qs_iload_n dX4_fits_39 rfl rfl rfl ?_
      refine qs_cV2v cfX4_138 (Nat.le_of_ble_eq_true rfl) rfl rfl (fun Y hY => kX1_takeOne qs_k25 qs_k1 hY) (Nat.le_of_ble_eq_true rfl) dX4_fits_40 rfl (fun x10 D9 g11 => ?_)
      refine qs_aload_n dX4_fits_43 rfl rfl rfl ?_
      refine qs_getR ffX4_19 rfl rfl dX4_fits_44 rfl ?_
      refine qs_iload dX4_fits_47 rfl rfl ?_
      refine qs_putI fwX4_48 rfl rfl dX4_fits_49 rfl (fun D12 => ?_)
      refine qs_aload_n dX4_fits_52 rfl rfl rfl ?_
      refine qs_aload_n dX4_fits_53 rfl rfl rfl ?_
      refine qs_getR ffX4_31 rfl rfl dX4_fits_54 rfl ?_
      refine qs_iload_n dX4_fits_57 rfl rfl rfl ?_
      refine qs_aald (kd := 3) (C := RX2) (g := fun j => 41 + 2 * j) rfl (by decide) rfl (by decide) dX4_fits_58 rfl (fun g13 => ?_)
      refine qs_cV1i cfX4_164 (Nat.le_of_ble_eq_true rfl) rfl rfl (fun Y hY => kX4_draftGoesAs (qs_ss g13) hY) (Nat.le_of_ble_eq_true rfl) dX4_fits_59 rfl (fun x15 D14 g16 => ?_)
      refine qs_if_eq (tgt := 68) dX4_fits_62 (by decide) rfl (fun g17 => ?_) (fun g17 => ?_)
      · refine qs_iinc (fun v18 => [(5, .int v18), (0, .ref 0), (1, .int w1), (2, .int w2), (3, .int w3), (4, .int w4)]) (1 : Int32) dX4_fits_68 rfl (by decide) (by decide) (fun _ => rfl) rfl (fun v18 => ?_)
        refine qs_goto (tgt := 24) dX4_fits_71 (by decide) ?_
        exact qs_sub [1, 2, 3, 4, 5, 0] rfl (ih w1 w2 w3 w4 v18 D14)
      · refine qs_iinc (fun v19 => [(4, .int v19), (0, .ref 0), (1, .int w1), (2, .int w2), (3, .int w3), (5, .int w5)]) (1 : Int32) dX4_fits_65 rfl (by decide) (by decide) (fun _ => rfl) rfl (fun v19 => ?_)
        refine qs_iinc (fun v20 => [(5, .int v20), (4, .int v19), (0, .ref 0), (1, .int w1), (2, .int w2), (3, .int w3)]) (1 : Int32) dX4_fits_68 rfl (by decide) (by decide) (fun _ => rfl) rfl (fun v20 => ?_)
        refine qs_goto (tgt := 24) dX4_fits_71 (by decide) ?_
        exact qs_sub [2, 3, 4, 5, 1, 0] rfl (ih w1 w2 w3 v19 v20 D14)
def fX4_fits (p1 : Int32) (p2 : Int32) (D : qs_D) : Option (Int32 × qs_D) := (qs_bind (fX4_faultOfTold p1 p2 D) (fun x2 D1 => (qs_let x2 (fun v4 => (if v4 = (-1 : Int32) then (qs_let (0 : Int32) (fun v6 => (qs_let (0 : Int32) (fun v7 => (fX4_fits_L24 qs_F p1 p2 v4 v6 v7 D1))))) else (qs_bind (fX4_found v4 D1) (fun x22 D21 => (some (x22, D21)))))))))
set_option maxRecDepth 20000 in
theorem kX4_fits {l : Launch} {E : qs_E} {A : Nat → Prop} {p1 : Int32} {p2 : Int32} {D : qs_D} {X : Int32 × qs_D}  (hX : fX4_fits p1 p2 D = some X) : qs_Ctr l E A shX yX4_fits mX4_fits 4 qs_ri [.ref 0, .int p1, .int p2] D X := by
  refine qs_enter (plainFor_of_name (by decide)) rfl (Nat.le_of_ble_eq_true rfl) ?_ hX
  show qs_VO l E A shX mX4_fits 4 qs_ri 0 [(0, .ref 0), (1, .int p1), (2, .int p2)] [] D (fX4_fits p1 p2 D)
  unfold fX4_fits
  refine qs_aload_n dX4_fits_0 rfl rfl rfl ?_
  refine qs_iload_n dX4_fits_1 rfl rfl rfl ?_
  refine qs_iload_n dX4_fits_2 rfl rfl rfl ?_
  refine qs_cV2i cfX4_161 (Nat.le_of_ble_eq_true rfl) rfl rfl (fun Y hY => kX4_faultOfTold  hY) (Nat.le_of_ble_eq_true rfl) dX4_fits_3 rfl (fun x2 D1 g3 => ?_)
  refine qs_istore_n (fun v4 => [(3, .int v4), (0, .ref 0), (1, .int p1), (2, .int p2)]) dX4_fits_6 rfl (by decide) (fun _ => rfl) rfl (fun v4 => ?_)
  refine qs_iload_n dX4_fits_7 rfl rfl rfl ?_
  refine qs_iconst (-1 : Int32) dX4_fits_8 (by decide) rfl ?_
  refine qs_icmp_eq (tgt := 18) dX4_fits_9 (by decide) rfl (fun g5 => ?_) (fun g5 => ?_)
  · refine qs_iconst (0 : Int32) dX4_fits_18 (by decide) rfl ?_
    refine qs_istore (fun v6 => [(4, .int v6), (3, .int v4), (0, .ref 0), (1, .int p1), (2, .int p2)]) dX4_fits_19 (by decide) (fun _ => rfl) rfl (fun v6 => ?_)
    refine qs_iconst (0 : Int32) dX4_fits_21 (by decide) rfl ?_
    refine qs_istore (fun v7 => [(5, .int v7), (4, .int v6), (3, .int v4), (0, .ref 0), (1, .int p1), (2, .int p2)]) dX4_fits_22 (by decide) (fun _ => rfl) rfl (fun v7 => ?_)
    exact qs_sub [3, 4, 5, 2, 1, 0] rfl (lX4_fits_L24 qs_F p1 p2 v4 v6 v7 D1)
  · refine qs_aload_n dX4_fits_12 rfl rfl rfl ?_
    refine qs_iload_n dX4_fits_13 rfl rfl rfl ?_
    refine qs_cV1i cfX4_55 (Nat.le_of_ble_eq_true rfl) rfl rfl (fun Y hY => kX4_found  hY) (Nat.le_of_ble_eq_true rfl) dX4_fits_14 rfl (fun x22 D21 g23 => ?_)
    exact qs_iret rfl dX4_fits_17
abbrev mX4_kinds : qs_M := (RX4, cX4_kinds, 6, (some FieldType.int))
def fX4_kinds_L24 : Nat → Int32 → Int32 → Int32 → Int32 → Int32 → qs_D → Option (Int32 × qs_D)
  | 0, _, _, _, _, _, _ => none
  | n + 1, w1, w2, w3, w4, w5, D => (if (7 : Int32) ≤ w5 then (some (w4, D)) else (qs_bind (fX1_takeOne 25 1 w2 D) (fun x10 D9 => (qs_g (0 : Int32) 8 (qs_let (qs_u D9 (25 + 4 + (0 : Int32).toNatClampNeg) 0 w5) (fun D13 => (qs_g w1 4 (qs_bind (fX4_draftGoesAs (41 + 2 * w1.toNatClampNeg) D13) (fun x16 D15 => (if x16 = 0 then (qs_let (w5 + (1 : Int32)) (fun v19 => (fX4_kinds_L24 n w1 w2 w3 w4 v19 D15))) else (qs_let (w4 ||| ((1 : Int32) <<< (w5 &&& 31))) (fun v20 => (qs_let (w5 + (1 : Int32)) (fun v21 => (fX4_kinds_L24 n w1 w2 w3 v20 v21 D15)))))))))))))))
set_option maxRecDepth 20000 in
theorem lX4_kinds_L24 {l : Launch} {E : qs_E} {A : Nat → Prop}  : ∀ (n : Nat) (w1 : Int32) (w2 : Int32) (w3 : Int32) (w4 : Int32) (w5 : Int32) (D : qs_D), qs_VO l E A shX mX4_kinds 4 qs_ri 24 [(0, .ref 0), (1, .int w1), (2, .int w2), (3, .int w3), (4, .int w4), (5, .int w5)] [] D (fX4_kinds_L24 n w1 w2 w3 w4 w5 D) := by
  intro n
  induction n with
  | zero => intro w1 w2 w3 w4 w5 D; exact qs_none
  | succ n ih =>
    intro w1 w2 w3 w4 w5 D
    unfold fX4_kinds_L24
    refine qs_iload dX4_kinds_24 rfl rfl ?_
    refine qs_bipush (7 : Int32) dX4_kinds_26 (by decide) rfl ?_
    refine qs_icmp_ge (tgt := 85) dX4_kinds_28 (by decide) rfl (fun g8 => ?_) (fun g8 => ?_)
    · refine qs_iload dX4_kinds_85 rfl rfl ?_
      exact qs_iret rfl dX4_kinds_87
    · refine qs_aload_n dX4_kinds_31 rfl rfl rfl ?_
      refine qs_getR ffX4_19 rfl rfl dX4_kinds_32 rfl ?_
      refine qs_aload_n dX4_kinds_35 rfl rfl rfl ?_
      refine qs_getR ffX4_10 rfl rfl dX4_kinds_36 rfl ?_
      refine qs_iload_n dX4_kinds_39 rfl rfl rfl ?_
      refine qs_cV2v cfX4_138 (Nat.le_of_ble_eq_true rfl) rfl rfl (fun Y hY => kX1_takeOne qs_k25 qs_k1 hY) (Nat.le_of_ble_eq_true rfl) dX4_kinds_40 rfl (fun x10 D9 g11 => ?_)
      refine qs_aload_n dX4_kinds_43 rfl rfl rfl ?_
      refine qs_getR ffX4_19 rfl rfl dX4_kinds_44 rfl ?_
      refine qs_getR ffX4_94 rfl rfl dX4_kinds_47 rfl ?_
      refine qs_iconst (0 : Int32) dX4_kinds_50 (by decide) rfl ?_
      refine qs_aald (kd := 2) (C := RX0) (g := fun j => 25 + 4 + j) rfl (by decide) (qs_kA qs_k25) (by decide) dX4_kinds_51 rfl (fun g12 => ?_)
      refine qs_iload dX4_kinds_52 rfl rfl ?_
      refine qs_putI fwX4_158 (qs_kd qs_k25 g12) rfl dX4_kinds_54 rfl (fun D13 => ?_)
      refine qs_aload_n dX4_kinds_57 rfl rfl rfl ?_
      refine qs_aload_n dX4_kinds_58 rfl rfl rfl ?_
      refine qs_getR ffX4_31 rfl rfl dX4_kinds_59 rfl ?_
      refine qs_iload_n dX4_kinds_62 rfl rfl rfl ?_
      refine qs_aald (kd := 3) (C := RX2) (g := fun j => 41 + 2 * j) rfl (by decide) rfl (by decide) dX4_kinds_63 rfl (fun g14 => ?_)
      refine qs_cV1i cfX4_164 (Nat.le_of_ble_eq_true rfl) rfl rfl (fun Y hY => kX4_draftGoesAs (qs_ss g14) hY) (Nat.le_of_ble_eq_true rfl) dX4_kinds_64 rfl (fun x16 D15 g17 => ?_)
      refine qs_if_eq (tgt := 79) dX4_kinds_67 (by decide) rfl (fun g18 => ?_) (fun g18 => ?_)
      · refine qs_iinc (fun v19 => [(5, .int v19), (0, .ref 0), (1, .int w1), (2, .int w2), (3, .int w3), (4, .int w4)]) (1 : Int32) dX4_kinds_79 rfl (by decide) (by decide) (fun _ => rfl) rfl (fun v19 => ?_)
        refine qs_goto (tgt := 24) dX4_kinds_82 (by decide) ?_
        exact qs_sub [1, 2, 3, 4, 5, 0] rfl (ih w1 w2 w3 w4 v19 D15)
      · refine qs_iload dX4_kinds_70 rfl rfl ?_
        refine qs_iconst (1 : Int32) dX4_kinds_72 (by decide) rfl ?_
        refine qs_iload dX4_kinds_73 rfl rfl ?_
        refine qs_ishl dX4_kinds_75 rfl ?_
        refine qs_ior dX4_kinds_76 rfl ?_
        refine qs_istore (fun v20 => [(4, .int v20), (0, .ref 0), (1, .int w1), (2, .int w2), (3, .int w3), (5, .int w5)]) dX4_kinds_77 (by decide) (fun _ => rfl) rfl (fun v20 => ?_)
        refine qs_iinc (fun v21 => [(5, .int v21), (4, .int v20), (0, .ref 0), (1, .int w1), (2, .int w2), (3, .int w3)]) (1 : Int32) dX4_kinds_79 rfl (by decide) (by decide) (fun _ => rfl) rfl (fun v21 => ?_)
        refine qs_goto (tgt := 24) dX4_kinds_82 (by decide) ?_
        exact qs_sub [2, 3, 4, 5, 1, 0] rfl (ih w1 w2 w3 v20 v21 D15)
def fX4_kinds (p1 : Int32) (p2 : Int32) (D : qs_D) : Option (Int32 × qs_D) := (qs_bind (fX4_faultOfTold p1 p2 D) (fun x2 D1 => (qs_let x2 (fun v4 => (if v4 = (-1 : Int32) then (qs_let (0 : Int32) (fun v6 => (qs_let (0 : Int32) (fun v7 => (fX4_kinds_L24 qs_F p1 p2 v4 v6 v7 D1))))) else (qs_bind (fX4_found v4 D1) (fun x23 D22 => (some (x23, D22)))))))))
set_option maxRecDepth 20000 in
theorem kX4_kinds {l : Launch} {E : qs_E} {A : Nat → Prop} {p1 : Int32} {p2 : Int32} {D : qs_D} {X : Int32 × qs_D}  (hX : fX4_kinds p1 p2 D = some X) : qs_Ctr l E A shX yX4_kinds mX4_kinds 4 qs_ri [.ref 0, .int p1, .int p2] D X := by
  refine qs_enter (plainFor_of_name (by decide)) rfl (Nat.le_of_ble_eq_true rfl) ?_ hX
  show qs_VO l E A shX mX4_kinds 4 qs_ri 0 [(0, .ref 0), (1, .int p1), (2, .int p2)] [] D (fX4_kinds p1 p2 D)
  unfold fX4_kinds
  refine qs_aload_n dX4_kinds_0 rfl rfl rfl ?_
  refine qs_iload_n dX4_kinds_1 rfl rfl rfl ?_
  refine qs_iload_n dX4_kinds_2 rfl rfl rfl ?_
  refine qs_cV2i cfX4_161 (Nat.le_of_ble_eq_true rfl) rfl rfl (fun Y hY => kX4_faultOfTold  hY) (Nat.le_of_ble_eq_true rfl) dX4_kinds_3 rfl (fun x2 D1 g3 => ?_)
  refine qs_istore_n (fun v4 => [(3, .int v4), (0, .ref 0), (1, .int p1), (2, .int p2)]) dX4_kinds_6 rfl (by decide) (fun _ => rfl) rfl (fun v4 => ?_)
  refine qs_iload_n dX4_kinds_7 rfl rfl rfl ?_
  refine qs_iconst (-1 : Int32) dX4_kinds_8 (by decide) rfl ?_
  refine qs_icmp_eq (tgt := 18) dX4_kinds_9 (by decide) rfl (fun g5 => ?_) (fun g5 => ?_)
  · refine qs_iconst (0 : Int32) dX4_kinds_18 (by decide) rfl ?_
    refine qs_istore (fun v6 => [(4, .int v6), (3, .int v4), (0, .ref 0), (1, .int p1), (2, .int p2)]) dX4_kinds_19 (by decide) (fun _ => rfl) rfl (fun v6 => ?_)
    refine qs_iconst (0 : Int32) dX4_kinds_21 (by decide) rfl ?_
    refine qs_istore (fun v7 => [(5, .int v7), (4, .int v6), (3, .int v4), (0, .ref 0), (1, .int p1), (2, .int p2)]) dX4_kinds_22 (by decide) (fun _ => rfl) rfl (fun v7 => ?_)
    exact qs_sub [3, 4, 5, 2, 1, 0] rfl (lX4_kinds_L24 qs_F p1 p2 v4 v6 v7 D1)
  · refine qs_aload_n dX4_kinds_12 rfl rfl rfl ?_
    refine qs_iload_n dX4_kinds_13 rfl rfl rfl ?_
    refine qs_cV1i cfX4_55 (Nat.le_of_ble_eq_true rfl) rfl rfl (fun Y hY => kX4_found  hY) (Nat.le_of_ble_eq_true rfl) dX4_kinds_14 rfl (fun x23 D22 g24 => ?_)
    exact qs_iret rfl dX4_kinds_17
abbrev mX4_service : qs_M := (RX4, cX4_service, 3, (some FieldType.int))
def fX4_service_L38 : Nat → Int32 → Int32 → qs_D → Option (Int32 × qs_D)
  | 0, _, _, _ => none
  | n + 1, w1, w2, D => (if w1 ≤ w2 then (some ((D 1 2), D)) else (qs_bind (fX1_serviceStep 1 D) (fun x9 D8 => (qs_let (w2 + (1 : Int32)) (fun v11 => (fX4_service_L38 n w1 v11 D8))))))
set_option maxRecDepth 20000 in
theorem lX4_service_L38 {l : Launch} {E : qs_E} {A : Nat → Prop}  : ∀ (n : Nat) (w1 : Int32) (w2 : Int32) (D : qs_D), qs_VO l E A shX mX4_service 5 qs_ri 38 [(0, .ref 0), (1, .int w1), (2, .int w2)] [] D (fX4_service_L38 n w1 w2 D) := by
  intro n
  induction n with
  | zero => intro w1 w2 D; exact qs_none
  | succ n ih =>
    intro w1 w2 D
    unfold fX4_service_L38
    refine qs_iload_n dX4_service_38 rfl rfl rfl ?_
    refine qs_iload_n dX4_service_39 rfl rfl rfl ?_
    refine qs_icmp_ge (tgt := 56) dX4_service_40 (by decide) rfl (fun g7 => ?_) (fun g7 => ?_)
    · refine qs_aload_n dX4_service_56 rfl rfl rfl ?_
      refine qs_getR ffX4_10 rfl rfl dX4_service_57 rfl ?_
      refine qs_getI ffX4_119 rfl rfl dX4_service_60 rfl ?_
      exact qs_iret rfl dX4_service_63
    · refine qs_aload_n dX4_service_43 rfl rfl rfl ?_
      refine qs_getR ffX4_10 rfl rfl dX4_service_44 rfl ?_
      refine qs_cV0v cfX4_168 (Nat.le_of_ble_eq_true rfl) rfl rfl (fun Y hY => kX1_serviceStep qs_k1 hY) (Nat.le_of_ble_eq_true rfl) dX4_service_47 rfl (fun x9 D8 g10 => ?_)
      refine qs_iinc (fun v11 => [(2, .int v11), (0, .ref 0), (1, .int w1)]) (1 : Int32) dX4_service_50 rfl (by decide) (by decide) (fun _ => rfl) rfl (fun v11 => ?_)
      refine qs_goto (tgt := 38) dX4_service_53 (by decide) ?_
      exact qs_sub [1, 2, 0] rfl (ih w1 v11 D8)
def fX4_service (p1 : Int32) (D : qs_D) : Option (Int32 × qs_D) := (qs_bind (fX4_within p1 (1 : Int32) (20 : Int32) D) (fun x2 D1 => (if x2 = 0 then (qs_bind (fX4_found (0 : Int32) D1) (fun x16 D15 => (some (x16, D15)))) else (if ((D1 1 3) + p1) ≤ (99999 : Int32) then (qs_let (0 : Int32) (fun v6 => (fX4_service_L38 qs_F p1 v6 D1))) else (qs_bind (fX4_found (4 : Int32) D1) (fun x13 D12 => (some (x13, D12))))))))
set_option maxRecDepth 20000 in
theorem kX4_service {l : Launch} {E : qs_E} {A : Nat → Prop} {p1 : Int32} {D : qs_D} {X : Int32 × qs_D}  (hX : fX4_service p1 D = some X) : qs_Ctr l E A shX yX4_service mX4_service 5 qs_ri [.ref 0, .int p1] D X := by
  refine qs_enter (plainFor_of_name (by decide)) rfl (Nat.le_of_ble_eq_true rfl) ?_ hX
  show qs_VO l E A shX mX4_service 5 qs_ri 0 [(0, .ref 0), (1, .int p1)] [] D (fX4_service p1 D)
  unfold fX4_service
  refine qs_iload_n dX4_service_0 rfl rfl rfl ?_
  refine qs_iconst (1 : Int32) dX4_service_1 (by decide) rfl ?_
  refine qs_bipush (20 : Int32) dX4_service_2 (by decide) rfl ?_
  refine qs_cS3i cfX4_44 (Nat.le_of_ble_eq_true rfl) (fun Y hY => kX4_within  hY) (Nat.le_of_ble_eq_true rfl) dX4_service_4 rfl (fun x2 D1 g3 => ?_)
  refine qs_if_ne (tgt := 16) dX4_service_7 (by decide) rfl (fun g4 => ?_) (fun g4 => ?_)
  · refine qs_aload_n dX4_service_10 rfl rfl rfl ?_
    refine qs_iconst (0 : Int32) dX4_service_11 (by decide) rfl ?_
    refine qs_cV1i cfX4_55 (Nat.le_of_ble_eq_true rfl) rfl rfl (fun Y hY => kX4_found  hY) (Nat.le_of_ble_eq_true rfl) dX4_service_12 rfl (fun x16 D15 g17 => ?_)
    exact qs_iret rfl dX4_service_15
  · refine qs_aload_n dX4_service_16 rfl rfl rfl ?_
    refine qs_getR ffX4_10 rfl rfl dX4_service_17 rfl ?_
    refine qs_getI ffX4_111 rfl rfl dX4_service_20 rfl ?_
    refine qs_iload_n dX4_service_23 rfl rfl rfl ?_
    refine qs_iadd dX4_service_24 rfl ?_
    refine qs_ldc wcX4_114 dX4_service_25 rfl ?_
    refine qs_icmp_le (tgt := 36) dX4_service_27 (by decide) rfl (fun g5 => ?_) (fun g5 => ?_)
    · refine qs_iconst (0 : Int32) dX4_service_36 (by decide) rfl ?_
      refine qs_istore_n (fun v6 => [(2, .int v6), (0, .ref 0), (1, .int p1)]) dX4_service_37 rfl (by decide) (fun _ => rfl) rfl (fun v6 => ?_)
      exact qs_sub [1, 2, 0] rfl (lX4_service_L38 qs_F p1 v6 D1)
    · refine qs_aload_n dX4_service_30 rfl rfl rfl ?_
      refine qs_iconst (4 : Int32) dX4_service_31 (by decide) rfl ?_
      refine qs_cV1i cfX4_55 (Nat.le_of_ble_eq_true rfl) rfl rfl (fun Y hY => kX4_found  hY) (Nat.le_of_ble_eq_true rfl) dX4_service_32 rfl (fun x13 D12 g14 => ?_)
      exact qs_iret rfl dX4_service_35
def fX4_commonDivisor_L2 : Nat → Int32 → Int32 → Int32 → qs_D → Option (Int32 × qs_D)
  | 0, _, _, _, _ => none
  | n + 1, w0, w1, w2, D => (if w2 ≤ (1 : Int32) then (some ((1 : Int32), D)) else (qs_gz w2 (if (w0 - w0 / w2 * w2) = 0 then (qs_gz w2 (if (w1 - w1 / w2 * w2) = 0 then (some (w2, D)) else (qs_let (w2 + (-1 : Int32)) (fun v8 => (fX4_commonDivisor_L2 n w0 w1 v8 D))))) else (qs_let (w2 + (-1 : Int32)) (fun v5 => (fX4_commonDivisor_L2 n w0 w1 v5 D))))))
set_option maxRecDepth 20000 in
theorem lX4_commonDivisor_L2 {l : Launch} {E : qs_E} {A : Nat → Prop}  : ∀ (n : Nat) (w0 : Int32) (w1 : Int32) (w2 : Int32) (D : qs_D), qs_VO l E A shX mX4_commonDivisor 0 qs_ri 2 [(0, .int w0), (1, .int w1), (2, .int w2)] [] D (fX4_commonDivisor_L2 n w0 w1 w2 D) := by
  intro n
  induction n with
  | zero => intro w0 w1 w2 D; exact qs_none
  | succ n ih =>
    intro w0 w1 w2 D
    unfold fX4_commonDivisor_L2
    refine qs_iload_n dX4_commonDivisor_2 rfl rfl rfl ?_
    refine qs_iconst (1 : Int32) dX4_commonDivisor_3 (by decide) rfl ?_
    refine qs_icmp_le (tgt := 27) dX4_commonDivisor_4 (by decide) rfl (fun g2 => ?_) (fun g2 => ?_)
    · refine qs_iconst (1 : Int32) dX4_commonDivisor_27 (by decide) rfl ?_
      exact qs_iret rfl dX4_commonDivisor_28
    · refine qs_iload_n dX4_commonDivisor_7 rfl rfl rfl ?_
      refine qs_iload_n dX4_commonDivisor_8 rfl rfl rfl ?_
      refine qs_iremz dX4_commonDivisor_9 rfl (fun g3 => ?_)
      refine qs_if_ne (tgt := 21) dX4_commonDivisor_10 (by decide) rfl (fun g4 => ?_) (fun g4 => ?_)
      · refine qs_iload_n dX4_commonDivisor_13 rfl rfl rfl ?_
        refine qs_iload_n dX4_commonDivisor_14 rfl rfl rfl ?_
        refine qs_iremz dX4_commonDivisor_15 rfl (fun g6 => ?_)
        refine qs_if_ne (tgt := 21) dX4_commonDivisor_16 (by decide) rfl (fun g7 => ?_) (fun g7 => ?_)
        · refine qs_iload_n dX4_commonDivisor_19 rfl rfl rfl ?_
          exact qs_iret rfl dX4_commonDivisor_20
        · refine qs_iinc (fun v8 => [(2, .int v8), (0, .int w0), (1, .int w1)]) (-1 : Int32) dX4_commonDivisor_21 rfl (by decide) (by decide) (fun _ => rfl) rfl (fun v8 => ?_)
          refine qs_goto (tgt := 2) dX4_commonDivisor_24 (by decide) ?_
          exact qs_sub [1, 2, 0] rfl (ih w0 w1 v8 D)
      · refine qs_iinc (fun v5 => [(2, .int v5), (0, .int w0), (1, .int w1)]) (-1 : Int32) dX4_commonDivisor_21 rfl (by decide) (by decide) (fun _ => rfl) rfl (fun v5 => ?_)
        refine qs_goto (tgt := 2) dX4_commonDivisor_24 (by decide) ?_
        exact qs_sub [1, 2, 0] rfl (ih w0 w1 v5 D)
def fX4_commonDivisor (p0 : Int32) (p1 : Int32) (D : qs_D) : Option (Int32 × qs_D) := (qs_let p1 (fun v1 => (fX4_commonDivisor_L2 qs_F p0 p1 v1 D)))
set_option maxRecDepth 20000 in
theorem kX4_commonDivisor {l : Launch} {E : qs_E} {A : Nat → Prop} {p0 : Int32} {p1 : Int32} {D : qs_D} {X : Int32 × qs_D}  (hX : fX4_commonDivisor p0 p1 D = some X) : qs_Ctr l E A shX yX4_commonDivisor mX4_commonDivisor 0 qs_ri [.int p0, .int p1] D X := by
  refine qs_enter (plainFor_of_name (by decide)) rfl (Nat.le_of_ble_eq_true rfl) ?_ hX
  show qs_VO l E A shX mX4_commonDivisor 0 qs_ri 0 [(0, .int p0), (1, .int p1)] [] D (fX4_commonDivisor p0 p1 D)
  unfold fX4_commonDivisor
  refine qs_iload_n dX4_commonDivisor_0 rfl rfl rfl ?_
  refine qs_istore_n (fun v1 => [(2, .int v1), (0, .int p0), (1, .int p1)]) dX4_commonDivisor_1 rfl (by decide) (fun _ => rfl) rfl (fun v1 => ?_)
  exact qs_sub [1, 2, 0] rfl (lX4_commonDivisor_L2 qs_F p0 p1 v1 D)
def fX4_power_L5 : Nat → Int32 → Int32 → Int64 → Int32 → qs_D → Option (Int64 × qs_D)
  | 0, _, _, _, _, _ => none
  | n + 1, w0, w1, w2, w4, D => (if w1 ≤ w4 then (some (w2, D)) else (qs_let (w2 * w0.toInt64) (fun v4 => (qs_let (w4 + (1 : Int32)) (fun v5 => (fX4_power_L5 n w0 w1 v4 v5 D))))))
set_option maxRecDepth 20000 in
theorem lX4_power_L5 {l : Launch} {E : qs_E} {A : Nat → Prop}  : ∀ (n : Nat) (w0 : Int32) (w1 : Int32) (w2 : Int64) (w4 : Int32) (D : qs_D), qs_VO l E A shX mX4_power 0 qs_rl 5 [(0, .int w0), (1, .int w1), (2, .long w2), (4, .int w4)] [] D (fX4_power_L5 n w0 w1 w2 w4 D) := by
  intro n
  induction n with
  | zero => intro w0 w1 w2 w4 D; exact qs_none
  | succ n ih =>
    intro w0 w1 w2 w4 D
    unfold fX4_power_L5
    refine qs_iload dX4_power_5 rfl rfl ?_
    refine qs_iload_n dX4_power_7 rfl rfl rfl ?_
    refine qs_icmp_ge (tgt := 22) dX4_power_8 (by decide) rfl (fun g3 => ?_) (fun g3 => ?_)
    · refine qs_lload_n dX4_power_22 rfl rfl rfl ?_
      exact qs_lret rfl dX4_power_23
    · refine qs_lload_n dX4_power_11 rfl rfl rfl ?_
      refine qs_iload_n dX4_power_12 rfl rfl rfl ?_
      refine qs_i2l dX4_power_13 rfl ?_
      refine qs_lmul dX4_power_14 rfl ?_
      refine qs_lstore_n (fun v4 => [(2, .long v4), (0, .int w0), (1, .int w1), (4, .int w4)]) dX4_power_15 rfl (by decide) (fun _ => rfl) rfl (fun v4 => ?_)
      refine qs_iinc (fun v5 => [(4, .int v5), (2, .long v4), (0, .int w0), (1, .int w1)]) (1 : Int32) dX4_power_16 rfl (by decide) (by decide) (fun _ => rfl) rfl (fun v5 => ?_)
      refine qs_goto (tgt := 5) dX4_power_19 (by decide) ?_
      exact qs_sub [2, 3, 1, 0] rfl (ih w0 w1 v4 v5 D)
def fX4_power (p0 : Int32) (p1 : Int32) (D : qs_D) : Option (Int64 × qs_D) := (qs_let (1 : Int64) (fun v1 => (qs_let (0 : Int32) (fun v2 => (fX4_power_L5 qs_F p0 p1 v1 v2 D)))))
set_option maxRecDepth 20000 in
theorem kX4_power {l : Launch} {E : qs_E} {A : Nat → Prop} {p0 : Int32} {p1 : Int32} {D : qs_D} {X : Int64 × qs_D}  (hX : fX4_power p0 p1 D = some X) : qs_Ctr l E A shX yX4_power mX4_power 0 qs_rl [.int p0, .int p1] D X := by
  refine qs_enter (plainFor_of_name (by decide)) rfl (Nat.le_of_ble_eq_true rfl) ?_ hX
  show qs_VO l E A shX mX4_power 0 qs_rl 0 [(0, .int p0), (1, .int p1)] [] D (fX4_power p0 p1 D)
  unfold fX4_power
  refine qs_lconst (1 : Int64) dX4_power_0 (by decide) rfl ?_
  refine qs_lstore_n (fun v1 => [(2, .long v1), (0, .int p0), (1, .int p1)]) dX4_power_1 rfl (by decide) (fun _ => rfl) rfl (fun v1 => ?_)
  refine qs_iconst (0 : Int32) dX4_power_2 (by decide) rfl ?_
  refine qs_istore (fun v2 => [(4, .int v2), (2, .long v1), (0, .int p0), (1, .int p1)]) dX4_power_3 (by decide) (fun _ => rfl) rfl (fun v2 => ?_)
  exact qs_sub [2, 3, 1, 0] rfl (lX4_power_L5 qs_F p0 p1 v1 v2 D)
abbrev mX4_odds : qs_M := (RX4, cX4_odds, 6, (some FieldType.long))
def fX4_odds (p1 : Int32) (p2 : Int32) (p3 : Int32) (D : qs_D) : Option (Int64 × qs_D) := (qs_bind (fX4_isDish p1 D) (fun x2 D1 => (if x2 = 0 then (qs_bind (fX4_found (0 : Int32) D1) (fun x6 D5 => (some (x6.toInt64, D5)))) else (qs_bind (fX4_within p2 (0 : Int32) (17 : Int32) D1) (fun x9 D8 => (if x9 = 0 then (qs_bind (fX4_found (0 : Int32) D8) (fun x13 D12 => (some (x13.toInt64, D12)))) else (qs_bind (fX4_within p3 (0 : Int32) (1 : Int32) D8) (fun x16 D15 => (if x16 = 0 then (qs_bind (fX4_found (0 : Int32) D15) (fun x37 D36 => (some (x37.toInt64, D36)))) else (qs_bind (fX1_harmlessDeeds 1 p1 D15) (fun x20 D19 => (qs_let x20 (fun v22 => (qs_bind (fX4_commonDivisor v22 (12 : Int32) D19) (fun x24 D23 => (qs_let x24 (fun v26 => (if p3 = 0 then (qs_gz v26 (qs_bind (fX4_power (v22 / v26) p2 D23) (fun x34 D33 => (some (x34, D33))))) else (qs_gz v26 (qs_bind (fX4_power ((12 : Int32) / v26) p2 D23) (fun x30 D29 => (some (x30, D29)))))))))))))))))))))))
set_option maxRecDepth 20000 in
theorem kX4_odds {l : Launch} {E : qs_E} {A : Nat → Prop} {p1 : Int32} {p2 : Int32} {p3 : Int32} {D : qs_D} {X : Int64 × qs_D}  (hX : fX4_odds p1 p2 p3 D = some X) : qs_Ctr l E A shX yX4_odds mX4_odds 3 qs_rl [.ref 0, .int p1, .int p2, .int p3] D X := by
  refine qs_enter (plainFor_of_name (by decide)) rfl (Nat.le_of_ble_eq_true rfl) ?_ hX
  show qs_VO l E A shX mX4_odds 3 qs_rl 0 [(0, .ref 0), (1, .int p1), (2, .int p2), (3, .int p3)] [] D (fX4_odds p1 p2 p3 D)
  unfold fX4_odds
  refine qs_aload_n dX4_odds_0 rfl rfl rfl ?_
  refine qs_iload_n dX4_odds_1 rfl rfl rfl ?_
  refine qs_cV1i cfX4_84 (Nat.le_of_ble_eq_true rfl) rfl rfl (fun Y hY => kX4_isDish  hY) (Nat.le_of_ble_eq_true rfl) dX4_odds_2 rfl (fun x2 D1 g3 => ?_)
  refine qs_if_eq (tgt := 27) dX4_odds_5 (by decide) rfl (fun g4 => ?_) (fun g4 => ?_)
  · refine qs_aload_n dX4_odds_27 rfl rfl rfl ?_
    refine qs_iconst (0 : Int32) dX4_odds_28 (by decide) rfl ?_
    refine qs_cV1i cfX4_55 (Nat.le_of_ble_eq_true rfl) rfl rfl (fun Y hY => kX4_found  hY) (Nat.le_of_ble_eq_true rfl) dX4_odds_29 rfl (fun x6 D5 g7 => ?_)
    refine qs_i2l dX4_odds_32 rfl ?_
    exact qs_lret rfl dX4_odds_33
  · refine qs_iload_n dX4_odds_8 rfl rfl rfl ?_
    refine qs_iconst (0 : Int32) dX4_odds_9 (by decide) rfl ?_
    refine qs_bipush (17 : Int32) dX4_odds_10 (by decide) rfl ?_
    refine qs_cS3i cfX4_44 (Nat.le_of_ble_eq_true rfl) (fun Y hY => kX4_within  hY) (Nat.le_of_ble_eq_true rfl) dX4_odds_12 rfl (fun x9 D8 g10 => ?_)
    refine qs_if_eq (tgt := 27) dX4_odds_15 (by decide) rfl (fun g11 => ?_) (fun g11 => ?_)
    · refine qs_aload_n dX4_odds_27 rfl rfl rfl ?_
      refine qs_iconst (0 : Int32) dX4_odds_28 (by decide) rfl ?_
      refine qs_cV1i cfX4_55 (Nat.le_of_ble_eq_true rfl) rfl rfl (fun Y hY => kX4_found  hY) (Nat.le_of_ble_eq_true rfl) dX4_odds_29 rfl (fun x13 D12 g14 => ?_)
      refine qs_i2l dX4_odds_32 rfl ?_
      exact qs_lret rfl dX4_odds_33
    · refine qs_iload_n dX4_odds_18 rfl rfl rfl ?_
      refine qs_iconst (0 : Int32) dX4_odds_19 (by decide) rfl ?_
      refine qs_iconst (1 : Int32) dX4_odds_20 (by decide) rfl ?_
      refine qs_cS3i cfX4_44 (Nat.le_of_ble_eq_true rfl) (fun Y hY => kX4_within  hY) (Nat.le_of_ble_eq_true rfl) dX4_odds_21 rfl (fun x16 D15 g17 => ?_)
      refine qs_if_ne (tgt := 34) dX4_odds_24 (by decide) rfl (fun g18 => ?_) (fun g18 => ?_)
      · refine qs_aload_n dX4_odds_27 rfl rfl rfl ?_
        refine qs_iconst (0 : Int32) dX4_odds_28 (by decide) rfl ?_
        refine qs_cV1i cfX4_55 (Nat.le_of_ble_eq_true rfl) rfl rfl (fun Y hY => kX4_found  hY) (Nat.le_of_ble_eq_true rfl) dX4_odds_29 rfl (fun x37 D36 g38 => ?_)
        refine qs_i2l dX4_odds_32 rfl ?_
        exact qs_lret rfl dX4_odds_33
      · refine qs_aload_n dX4_odds_34 rfl rfl rfl ?_
        refine qs_getR ffX4_10 rfl rfl dX4_odds_35 rfl ?_
        refine qs_iload_n dX4_odds_38 rfl rfl rfl ?_
        refine qs_cV1i cfX4_171 (Nat.le_of_ble_eq_true rfl) rfl rfl (fun Y hY => kX1_harmlessDeeds qs_k1 hY) (Nat.le_of_ble_eq_true rfl) dX4_odds_39 rfl (fun x20 D19 g21 => ?_)
        refine qs_istore (fun v22 => [(4, .int v22), (0, .ref 0), (1, .int p1), (2, .int p2), (3, .int p3)]) dX4_odds_42 (by decide) (fun _ => rfl) rfl (fun v22 => ?_)
        refine qs_iload dX4_odds_44 rfl rfl ?_
        refine qs_bipush (12 : Int32) dX4_odds_46 (by decide) rfl ?_
        refine qs_cS2i cfX4_174 (Nat.le_of_ble_eq_true rfl) (fun Y hY => kX4_commonDivisor  hY) (Nat.le_of_ble_eq_true rfl) dX4_odds_48 rfl (fun x24 D23 g25 => ?_)
        refine qs_istore (fun v26 => [(5, .int v26), (4, .int v22), (0, .ref 0), (1, .int p1), (2, .int p2), (3, .int p3)]) dX4_odds_51 (by decide) (fun _ => rfl) rfl (fun v26 => ?_)
        refine qs_iload_n dX4_odds_53 rfl rfl rfl ?_
        refine qs_if_ne (tgt := 62) dX4_odds_54 (by decide) rfl (fun g27 => ?_) (fun g27 => ?_)
        · refine qs_iload dX4_odds_57 rfl rfl ?_
          refine qs_goto (tgt := 64) dX4_odds_59 (by decide) ?_
          refine qs_iload dX4_odds_64 rfl rfl ?_
          refine qs_idivz dX4_odds_66 rfl (fun g32 => ?_)
          refine qs_iload_n dX4_odds_67 rfl rfl rfl ?_
          refine qs_cS2l cfX4_177 (Nat.le_of_ble_eq_true rfl) (fun Y hY => kX4_power  hY) (Nat.le_of_ble_eq_true rfl) dX4_odds_68 rfl (fun x34 D33 g35 => ?_)
          exact qs_lret rfl dX4_odds_71
        · refine qs_bipush (12 : Int32) dX4_odds_62 (by decide) rfl ?_
          refine qs_iload dX4_odds_64 rfl rfl ?_
          refine qs_idivz dX4_odds_66 rfl (fun g28 => ?_)
          refine qs_iload_n dX4_odds_67 rfl rfl rfl ?_
          refine qs_cS2l cfX4_177 (Nat.le_of_ble_eq_true rfl) (fun Y hY => kX4_power  hY) (Nat.le_of_ble_eq_true rfl) dX4_odds_68 rfl (fun x30 D29 g31 => ?_)
          exact qs_lret rfl dX4_odds_71
abbrev mX4_seed : qs_M := (RX4, cX4_seed, 3, (some FieldType.int))
def fX4_seed (p1 : Int32) (D : qs_D) : Option (Int32 × qs_D) := (qs_let (D 1 4) (fun v1 => (qs_let (qs_u D 1 4 p1) (fun D2 => (some (v1, D2))))))
set_option maxRecDepth 20000 in
theorem kX4_seed {l : Launch} {E : qs_E} {A : Nat → Prop} {p1 : Int32} {D : qs_D} {X : Int32 × qs_D}  (hX : fX4_seed p1 D = some X) : qs_Ctr l E A shX yX4_seed mX4_seed 0 qs_ri [.ref 0, .int p1] D X := by
  refine qs_enter (plainFor_of_name (by decide)) rfl (Nat.le_of_ble_eq_true rfl) ?_ hX
  show qs_VO l E A shX mX4_seed 0 qs_ri 0 [(0, .ref 0), (1, .int p1)] [] D (fX4_seed p1 D)
  unfold fX4_seed
  refine qs_aload_n dX4_seed_0 rfl rfl rfl ?_
  refine qs_getR ffX4_10 rfl rfl dX4_seed_1 rfl ?_
  refine qs_getI ffX4_181 rfl rfl dX4_seed_4 rfl ?_
  refine qs_istore_n (fun v1 => [(2, .int v1), (0, .ref 0), (1, .int p1)]) dX4_seed_7 rfl (by decide) (fun _ => rfl) rfl (fun v1 => ?_)
  refine qs_aload_n dX4_seed_8 rfl rfl rfl ?_
  refine qs_getR ffX4_10 rfl rfl dX4_seed_9 rfl ?_
  refine qs_iload_n dX4_seed_12 rfl rfl rfl ?_
  refine qs_putI fwX4_181 rfl rfl dX4_seed_13 rfl (fun D2 => ?_)
  refine qs_iload_n dX4_seed_16 rfl rfl rfl ?_
  exact qs_iret rfl dX4_seed_17
abbrev mX4_feed : qs_M := (RX4, cX4_feed, 3, (some FieldType.int))
def fX4_feed (p1 : Int32) (p2 : Int32) (D : qs_D) : Option (Int32 × qs_D) := (qs_bind (fX4_within p2 (1 : Int32) (4 : Int32) D) (fun x2 D1 => (if x2 = 0 then (qs_bind (fX4_found (0 : Int32) D1) (fun x13 D12 => (some (x13, D12)))) else (if ((D1 37 1) + p2) ≤ (120 : Int32) then (qs_bind (fX3_append p1 p2 D1) (fun x7 D6 => (some ((D6 37 1), D6)))) else (qs_bind (fX4_found (1 : Int32) D1) (fun x10 D9 => (some (x10, D9))))))))
set_option maxRecDepth 20000 in
theorem kX4_feed {l : Launch} {E : qs_E} {A : Nat → Prop} {p1 : Int32} {p2 : Int32} {D : qs_D} {X : Int32 × qs_D}  (hX : fX4_feed p1 p2 D = some X) : qs_Ctr l E A shX yX4_feed mX4_feed 1 qs_ri [.ref 0, .int p1, .int p2] D X := by
  refine qs_enter (plainFor_of_name (by decide)) rfl (Nat.le_of_ble_eq_true rfl) ?_ hX
  show qs_VO l E A shX mX4_feed 1 qs_ri 0 [(0, .ref 0), (1, .int p1), (2, .int p2)] [] D (fX4_feed p1 p2 D)
  unfold fX4_feed
  refine qs_iload_n dX4_feed_0 rfl rfl rfl ?_
  refine qs_iconst (1 : Int32) dX4_feed_1 (by decide) rfl ?_
  refine qs_iconst (4 : Int32) dX4_feed_2 (by decide) rfl ?_
  refine qs_cS3i cfX4_44 (Nat.le_of_ble_eq_true rfl) (fun Y hY => kX4_within  hY) (Nat.le_of_ble_eq_true rfl) dX4_feed_3 rfl (fun x2 D1 g3 => ?_)
  refine qs_if_ne (tgt := 15) dX4_feed_6 (by decide) rfl (fun g4 => ?_) (fun g4 => ?_)
  · refine qs_aload_n dX4_feed_9 rfl rfl rfl ?_
    refine qs_iconst (0 : Int32) dX4_feed_10 (by decide) rfl ?_
    refine qs_cV1i cfX4_55 (Nat.le_of_ble_eq_true rfl) rfl rfl (fun Y hY => kX4_found  hY) (Nat.le_of_ble_eq_true rfl) dX4_feed_11 rfl (fun x13 D12 g14 => ?_)
    exact qs_iret rfl dX4_feed_14
  · refine qs_aload_n dX4_feed_15 rfl rfl rfl ?_
    refine qs_getR ffX4_25 rfl rfl dX4_feed_16 rfl ?_
    refine qs_getI ffX4_184 rfl rfl dX4_feed_19 rfl ?_
    refine qs_iload_n dX4_feed_22 rfl rfl rfl ?_
    refine qs_iadd dX4_feed_23 rfl ?_
    refine qs_bipush (120 : Int32) dX4_feed_24 (by decide) rfl ?_
    refine qs_icmp_le (tgt := 35) dX4_feed_26 (by decide) rfl (fun g5 => ?_) (fun g5 => ?_)
    · refine qs_aload_n dX4_feed_35 rfl rfl rfl ?_
      refine qs_getR ffX4_25 rfl rfl dX4_feed_36 rfl ?_
      refine qs_iload_n dX4_feed_39 rfl rfl rfl ?_
      refine qs_iload_n dX4_feed_40 rfl rfl rfl ?_
      refine qs_cV2v cfX4_187 (Nat.le_of_ble_eq_true rfl) rfl rfl (fun Y hY => kX3_append  hY) (Nat.le_of_ble_eq_true rfl) dX4_feed_41 rfl (fun x7 D6 g8 => ?_)
      refine qs_aload_n dX4_feed_44 rfl rfl rfl ?_
      refine qs_getR ffX4_25 rfl rfl dX4_feed_45 rfl ?_
      refine qs_getI ffX4_184 rfl rfl dX4_feed_48 rfl ?_
      exact qs_iret rfl dX4_feed_51
    · refine qs_aload_n dX4_feed_29 rfl rfl rfl ?_
      refine qs_iconst (1 : Int32) dX4_feed_30 (by decide) rfl ?_
      refine qs_cV1i cfX4_55 (Nat.le_of_ble_eq_true rfl) rfl rfl (fun Y hY => kX4_found  hY) (Nat.le_of_ble_eq_true rfl) dX4_feed_31 rfl (fun x10 D9 g11 => ?_)
      exact qs_iret rfl dX4_feed_34
abbrev mX4_wipe : qs_M := (RX4, cX4_wipe, 2, (some FieldType.int))
def fX4_wipe (D : qs_D) : Option (Int32 × qs_D) := (qs_let (D 37 1) (fun v1 => (qs_let (qs_u D 37 1 (0 : Int32)) (fun D2 => (some (v1, D2))))))
set_option maxRecDepth 20000 in
theorem kX4_wipe {l : Launch} {E : qs_E} {A : Nat → Prop} {D : qs_D} {X : Int32 × qs_D}  (hX : fX4_wipe  D = some X) : qs_Ctr l E A shX yX4_wipe mX4_wipe 0 qs_ri [.ref 0] D X := by
  refine qs_enter (plainFor_of_name (by decide)) rfl (Nat.le_of_ble_eq_true rfl) ?_ hX
  show qs_VO l E A shX mX4_wipe 0 qs_ri 0 [(0, .ref 0)] [] D (fX4_wipe  D)
  unfold fX4_wipe
  refine qs_aload_n dX4_wipe_0 rfl rfl rfl ?_
  refine qs_getR ffX4_25 rfl rfl dX4_wipe_1 rfl ?_
  refine qs_getI ffX4_184 rfl rfl dX4_wipe_4 rfl ?_
  refine qs_istore_n (fun v1 => [(1, .int v1), (0, .ref 0)]) dX4_wipe_7 rfl (by decide) (fun _ => rfl) rfl (fun v1 => ?_)
  refine qs_aload_n dX4_wipe_8 rfl rfl rfl ?_
  refine qs_getR ffX4_25 rfl rfl dX4_wipe_9 rfl ?_
  refine qs_iconst (0 : Int32) dX4_wipe_12 (by decide) rfl ?_
  refine qs_putI fwX4_184 rfl rfl dX4_wipe_13 rfl (fun D2 => ?_)
  refine qs_iload_n dX4_wipe_16 rfl rfl rfl ?_
  exact qs_iret rfl dX4_wipe_17
abbrev mX4_text : qs_M := (RX4, cX4_text, 2, (some FieldType.int))
def fX4_text (D : qs_D) : Option (Int32 × qs_D) := (qs_bind (fX1_takeAll 25 1 D) (fun x2 D1 => (qs_bind (fX3_readText 25 D1) (fun x5 D4 => (qs_let x5 (fun v7 => (qs_let (qs_u D4 37 1 (0 : Int32)) (fun D8 => (if v7 ≤ 0 then (some (v7, D8)) else (qs_bind (fX1_takeAll 1 25 D8) (fun x11 D10 => (some (v7, D10)))))))))))))
set_option maxRecDepth 20000 in
theorem kX4_text {l : Launch} {E : qs_E} {A : Nat → Prop} {D : qs_D} {X : Int32 × qs_D}  (hX : fX4_text  D = some X) : qs_Ctr l E A shX yX4_text mX4_text 9 qs_ri [.ref 0] D X := by
  refine qs_enter (plainFor_of_name (by decide)) rfl (Nat.le_of_ble_eq_true rfl) ?_ hX
  show qs_VO l E A shX mX4_text 9 qs_ri 0 [(0, .ref 0)] [] D (fX4_text  D)
  unfold fX4_text
  refine qs_aload_n dX4_text_0 rfl rfl rfl ?_
  refine qs_getR ffX4_19 rfl rfl dX4_text_1 rfl ?_
  refine qs_aload_n dX4_text_4 rfl rfl rfl ?_
  refine qs_getR ffX4_10 rfl rfl dX4_text_5 rfl ?_
  refine qs_cV1v cfX4_155 (Nat.le_of_ble_eq_true rfl) rfl rfl (fun Y hY => kX1_takeAll qs_k25 qs_k1 hY) (Nat.le_of_ble_eq_true rfl) dX4_text_8 rfl (fun x2 D1 g3 => ?_)
  refine qs_aload_n dX4_text_11 rfl rfl rfl ?_
  refine qs_getR ffX4_25 rfl rfl dX4_text_12 rfl ?_
  refine qs_aload_n dX4_text_15 rfl rfl rfl ?_
  refine qs_getR ffX4_19 rfl rfl dX4_text_16 rfl ?_
  refine qs_cV1i cfX4_190 (Nat.le_of_ble_eq_true rfl) rfl rfl (fun Y hY => kX3_readText qs_k25 hY) (Nat.le_of_ble_eq_true rfl) dX4_text_19 rfl (fun x5 D4 g6 => ?_)
  refine qs_istore_n (fun v7 => [(1, .int v7), (0, .ref 0)]) dX4_text_22 rfl (by decide) (fun _ => rfl) rfl (fun v7 => ?_)
  refine qs_aload_n dX4_text_23 rfl rfl rfl ?_
  refine qs_getR ffX4_25 rfl rfl dX4_text_24 rfl ?_
  refine qs_iconst (0 : Int32) dX4_text_27 (by decide) rfl ?_
  refine qs_putI fwX4_184 rfl rfl dX4_text_28 rfl (fun D8 => ?_)
  refine qs_iload_n dX4_text_31 rfl rfl rfl ?_
  refine qs_if_le (tgt := 46) dX4_text_32 (by decide) rfl (fun g9 => ?_) (fun g9 => ?_)
  · refine qs_iload_n dX4_text_46 rfl rfl rfl ?_
    exact qs_iret rfl dX4_text_47
  · refine qs_aload_n dX4_text_35 rfl rfl rfl ?_
    refine qs_getR ffX4_10 rfl rfl dX4_text_36 rfl ?_
    refine qs_aload_n dX4_text_39 rfl rfl rfl ?_
    refine qs_getR ffX4_19 rfl rfl dX4_text_40 rfl ?_
    refine qs_cV1v cfX4_155 (Nat.le_of_ble_eq_true rfl) rfl rfl (fun Y hY => kX1_takeAll qs_k1 qs_k25 hY) (Nat.le_of_ble_eq_true rfl) dX4_text_43 rfl (fun x11 D10 g12 => ?_)
    refine qs_iload_n dX4_text_46 rfl rfl rfl ?_
    exact qs_iret rfl dX4_text_47
