abbrev mX5_splits : qs_M := (RX5, cX5_splits, 3, (some FieldType.int))
def fX5_splits_L21 : Nat → Int32 → Int32 → qs_D → Option (Int32 × qs_D)
  | 0, _, _, _ => none
  | n + 1, w1, w2, D => (if (200 : Int32) < w2 then (qs_bind (fX5_putsBack D) (fun x11 D10 => (if w2 ≤ (200 : Int32) then (some (w2, D10)) else (qs_bind (fX5_finds (-1000004 : Int32) D10) (fun x15 D14 => (some (x15, D14))))))) else (qs_bind (fX5_it w1 (3 : Int32) D) (fun x18 D17 => (if x18 = 0 then (qs_bind (fX5_goes D17) (fun x29 D28 => (qs_let (w2 + (1 : Int32)) (fun v31 => (fX5_splits_L21 n w1 v31 D28))))) else (qs_bind (fX5_putsBack D17) (fun x22 D21 => (if w2 ≤ (200 : Int32) then (some (w2, D21)) else (qs_bind (fX5_finds (-1000004 : Int32) D21) (fun x26 D25 => (some (x26, D25)))))))))))
set_option maxRecDepth 20000 in
theorem lX5_splits_L21 {l : Launch} {E : qs_E} {A : Nat → Prop}  : ∀ (n : Nat) (w1 : Int32) (w2 : Int32) (D : qs_D), qs_VO l E A shM mX5_splits 4 qs_ri 21 [(0, .ref 0), (1, .int w1), (2, .int w2)] [] D (fX5_splits_L21 n w1 w2 D) := by
  intro n
  induction n with
  | zero => intro w1 w2 D; exact qs_none
  | succ n ih =>
    intro w1 w2 D
    unfold fX5_splits_L21
    refine qs_iload_n dX5_splits_21 rfl rfl rfl ?_
    refine qs_sipush (200 : Int32) dX5_splits_22 (by decide) rfl ?_
    refine qs_icmp_gt (tgt := 47) dX5_splits_25 (by decide) rfl (fun g9 => ?_) (fun g9 => ?_)
    · refine qs_aload_n dX5_splits_47 rfl rfl rfl ?_
      refine qs_cV0v cfX5_136 (Nat.le_of_ble_eq_true rfl) rfl rfl (fun Y hY => kX5_putsBack  hY) (Nat.le_of_ble_eq_true rfl) dX5_splits_48 rfl (fun x11 D10 g12 => ?_)
      refine qs_iload_n dX5_splits_51 rfl rfl rfl ?_
      refine qs_sipush (200 : Int32) dX5_splits_52 (by decide) rfl ?_
      refine qs_icmp_le (tgt := 67) dX5_splits_55 (by decide) rfl (fun g13 => ?_) (fun g13 => ?_)
      · refine qs_iload_n dX5_splits_67 rfl rfl rfl ?_
        exact qs_iret rfl dX5_splits_68
      · refine qs_aload_n dX5_splits_58 rfl rfl rfl ?_
        refine qs_ldc wcX5_35 dX5_splits_59 rfl ?_
        refine qs_cV1i cfX5_36 (Nat.le_of_ble_eq_true rfl) rfl rfl (fun Y hY => kX5_finds  hY) (Nat.le_of_ble_eq_true rfl) dX5_splits_61 rfl (fun x15 D14 g16 => ?_)
        refine qs_goto (tgt := 68) dX5_splits_64 (by decide) ?_
        exact qs_iret rfl dX5_splits_68
    · refine qs_aload_n dX5_splits_28 rfl rfl rfl ?_
      refine qs_iload_n dX5_splits_29 rfl rfl rfl ?_
      refine qs_iconst (3 : Int32) dX5_splits_30 (by decide) rfl ?_
      refine qs_cV2i cfX5_44 (Nat.le_of_ble_eq_true rfl) rfl rfl (fun Y hY => kX5_it  hY) (Nat.le_of_ble_eq_true rfl) dX5_splits_31 rfl (fun x18 D17 g19 => ?_)
      refine qs_if_ne (tgt := 47) dX5_splits_34 (by decide) rfl (fun g20 => ?_) (fun g20 => ?_)
      · refine qs_aload_n dX5_splits_37 rfl rfl rfl ?_
        refine qs_cV0v cfX5_111 (Nat.le_of_ble_eq_true rfl) rfl rfl (fun Y hY => kX5_goes  hY) (Nat.le_of_ble_eq_true rfl) dX5_splits_38 rfl (fun x29 D28 g30 => ?_)
        refine qs_iinc (fun v31 => [(2, .int v31), (0, .ref 0), (1, .int w1)]) (1 : Int32) dX5_splits_41 rfl (by decide) (by decide) (fun _ => rfl) rfl (fun v31 => ?_)
        refine qs_goto (tgt := 21) dX5_splits_44 (by decide) ?_
        exact qs_sub [1, 2, 0] rfl (ih w1 v31 D28)
      · refine qs_aload_n dX5_splits_47 rfl rfl rfl ?_
        refine qs_cV0v cfX5_136 (Nat.le_of_ble_eq_true rfl) rfl rfl (fun Y hY => kX5_putsBack  hY) (Nat.le_of_ble_eq_true rfl) dX5_splits_48 rfl (fun x22 D21 g23 => ?_)
        refine qs_iload_n dX5_splits_51 rfl rfl rfl ?_
        refine qs_sipush (200 : Int32) dX5_splits_52 (by decide) rfl ?_
        refine qs_icmp_le (tgt := 67) dX5_splits_55 (by decide) rfl (fun g24 => ?_) (fun g24 => ?_)
        · refine qs_iload_n dX5_splits_67 rfl rfl rfl ?_
          exact qs_iret rfl dX5_splits_68
        · refine qs_aload_n dX5_splits_58 rfl rfl rfl ?_
          refine qs_ldc wcX5_35 dX5_splits_59 rfl ?_
          refine qs_cV1i cfX5_36 (Nat.le_of_ble_eq_true rfl) rfl rfl (fun Y hY => kX5_finds  hY) (Nat.le_of_ble_eq_true rfl) dX5_splits_61 rfl (fun x26 D25 g27 => ?_)
          refine qs_goto (tgt := 68) dX5_splits_64 (by decide) ?_
          exact qs_iret rfl dX5_splits_68
def fX5_splits (p1 : Int32) (D : qs_D) : Option (Int32 × qs_D) := (qs_bind (fX5_isDish p1 D) (fun x2 D1 => (if x2 = 0 then (qs_bind (fX5_finds (-1000001 : Int32) D1) (fun x33 D32 => (some (x33, D32)))) else (qs_bind (fX5_thinks D1) (fun x6 D5 => (qs_let (0 : Int32) (fun v8 => (fX5_splits_L21 qs_F p1 v8 D5))))))))
set_option maxRecDepth 20000 in
theorem kX5_splits {l : Launch} {E : qs_E} {A : Nat → Prop} {p1 : Int32} {D : qs_D} {X : Int32 × qs_D}  (hX : fX5_splits p1 D = some X) : qs_Ctr l E A shM yX5_splits mX5_splits 4 qs_ri [.ref 0, .int p1] D X := by
  refine qs_enter (plainFor_of_name (by decide)) rfl (Nat.le_of_ble_eq_true rfl) ?_ hX
  show qs_VO l E A shM mX5_splits 4 qs_ri 0 [(0, .ref 0), (1, .int p1)] [] D (fX5_splits p1 D)
  unfold fX5_splits
  refine qs_aload_n dX5_splits_0 rfl rfl rfl ?_
  refine qs_iload_n dX5_splits_1 rfl rfl rfl ?_
  refine qs_cV1i cfX5_68 (Nat.le_of_ble_eq_true rfl) rfl rfl (fun Y hY => kX5_isDish  hY) (Nat.le_of_ble_eq_true rfl) dX5_splits_2 rfl (fun x2 D1 g3 => ?_)
  refine qs_if_ne (tgt := 15) dX5_splits_5 (by decide) rfl (fun g4 => ?_) (fun g4 => ?_)
  · refine qs_aload_n dX5_splits_8 rfl rfl rfl ?_
    refine qs_ldc wcX5_34 dX5_splits_9 rfl ?_
    refine qs_cV1i cfX5_36 (Nat.le_of_ble_eq_true rfl) rfl rfl (fun Y hY => kX5_finds  hY) (Nat.le_of_ble_eq_true rfl) dX5_splits_11 rfl (fun x33 D32 g34 => ?_)
    exact qs_iret rfl dX5_splits_14
  · refine qs_aload_n dX5_splits_15 rfl rfl rfl ?_
    refine qs_cV0v cfX5_133 (Nat.le_of_ble_eq_true rfl) rfl rfl (fun Y hY => kX5_thinks  hY) (Nat.le_of_ble_eq_true rfl) dX5_splits_16 rfl (fun x6 D5 g7 => ?_)
    refine qs_iconst (0 : Int32) dX5_splits_19 (by decide) rfl ?_
    refine qs_istore_n (fun v8 => [(2, .int v8), (0, .ref 0), (1, .int p1)]) dX5_splits_20 rfl (by decide) (fun _ => rfl) rfl (fun v8 => ?_)
    exact qs_sub [1, 2, 0] rfl (lX5_splits_L21 qs_F p1 v8 D5)
abbrev mX5_ready : qs_M := (RX5, cX5_ready, 4, (some FieldType.int))
def fX5_ready_L32 : Nat → Int32 → Int32 → Int32 → qs_D → Option (Int32 × qs_D)
  | 0, _, _, _, _ => none
  | n + 1, w1, w2, w3, D => (if (200 : Int32) < w3 then (qs_bind (fX5_putsBack D) (fun x18 D17 => (if w3 ≤ (200 : Int32) then (some (w3, D17)) else (qs_bind (fX5_finds (-1000004 : Int32) D17) (fun x22 D21 => (some (x22, D21))))))) else (qs_bind (fX5_gives w1 D) (fun x25 D24 => (if w2 ≤ x25 then (qs_bind (fX5_putsBack D24) (fun x29 D28 => (if w3 ≤ (200 : Int32) then (some (w3, D28)) else (qs_bind (fX5_finds (-1000004 : Int32) D28) (fun x33 D32 => (some (x33, D32))))))) else (qs_bind (fX5_goes D24) (fun x36 D35 => (qs_let (w3 + (1 : Int32)) (fun v38 => (fX5_ready_L32 n w1 w2 v38 D35)))))))))
set_option maxRecDepth 20000 in
theorem lX5_ready_L32 {l : Launch} {E : qs_E} {A : Nat → Prop}  : ∀ (n : Nat) (w1 : Int32) (w2 : Int32) (w3 : Int32) (D : qs_D), qs_VO l E A shM mX5_ready 4 qs_ri 32 [(0, .ref 0), (1, .int w1), (2, .int w2), (3, .int w3)] [] D (fX5_ready_L32 n w1 w2 w3 D) := by
  intro n
  induction n with
  | zero => intro w1 w2 w3 D; exact qs_none
  | succ n ih =>
    intro w1 w2 w3 D
    unfold fX5_ready_L32
    refine qs_iload_n dX5_ready_32 rfl rfl rfl ?_
    refine qs_sipush (200 : Int32) dX5_ready_33 (by decide) rfl ?_
    refine qs_icmp_gt (tgt := 58) dX5_ready_36 (by decide) rfl (fun g16 => ?_) (fun g16 => ?_)
    · refine qs_aload_n dX5_ready_58 rfl rfl rfl ?_
      refine qs_cV0v cfX5_136 (Nat.le_of_ble_eq_true rfl) rfl rfl (fun Y hY => kX5_putsBack  hY) (Nat.le_of_ble_eq_true rfl) dX5_ready_59 rfl (fun x18 D17 g19 => ?_)
      refine qs_iload_n dX5_ready_62 rfl rfl rfl ?_
      refine qs_sipush (200 : Int32) dX5_ready_63 (by decide) rfl ?_
      refine qs_icmp_le (tgt := 78) dX5_ready_66 (by decide) rfl (fun g20 => ?_) (fun g20 => ?_)
      · refine qs_iload_n dX5_ready_78 rfl rfl rfl ?_
        exact qs_iret rfl dX5_ready_79
      · refine qs_aload_n dX5_ready_69 rfl rfl rfl ?_
        refine qs_ldc wcX5_35 dX5_ready_70 rfl ?_
        refine qs_cV1i cfX5_36 (Nat.le_of_ble_eq_true rfl) rfl rfl (fun Y hY => kX5_finds  hY) (Nat.le_of_ble_eq_true rfl) dX5_ready_72 rfl (fun x22 D21 g23 => ?_)
        refine qs_goto (tgt := 79) dX5_ready_75 (by decide) ?_
        exact qs_iret rfl dX5_ready_79
    · refine qs_aload_n dX5_ready_39 rfl rfl rfl ?_
      refine qs_iload_n dX5_ready_40 rfl rfl rfl ?_
      refine qs_cV1i cfX5_83 (Nat.le_of_ble_eq_true rfl) rfl rfl (fun Y hY => kX5_gives  hY) (Nat.le_of_ble_eq_true rfl) dX5_ready_41 rfl (fun x25 D24 g26 => ?_)
      refine qs_iload_n dX5_ready_44 rfl rfl rfl ?_
      refine qs_icmp_ge (tgt := 58) dX5_ready_45 (by decide) rfl (fun g27 => ?_) (fun g27 => ?_)
      · refine qs_aload_n dX5_ready_58 rfl rfl rfl ?_
        refine qs_cV0v cfX5_136 (Nat.le_of_ble_eq_true rfl) rfl rfl (fun Y hY => kX5_putsBack  hY) (Nat.le_of_ble_eq_true rfl) dX5_ready_59 rfl (fun x29 D28 g30 => ?_)
        refine qs_iload_n dX5_ready_62 rfl rfl rfl ?_
        refine qs_sipush (200 : Int32) dX5_ready_63 (by decide) rfl ?_
        refine qs_icmp_le (tgt := 78) dX5_ready_66 (by decide) rfl (fun g31 => ?_) (fun g31 => ?_)
        · refine qs_iload_n dX5_ready_78 rfl rfl rfl ?_
          exact qs_iret rfl dX5_ready_79
        · refine qs_aload_n dX5_ready_69 rfl rfl rfl ?_
          refine qs_ldc wcX5_35 dX5_ready_70 rfl ?_
          refine qs_cV1i cfX5_36 (Nat.le_of_ble_eq_true rfl) rfl rfl (fun Y hY => kX5_finds  hY) (Nat.le_of_ble_eq_true rfl) dX5_ready_72 rfl (fun x33 D32 g34 => ?_)
          refine qs_goto (tgt := 79) dX5_ready_75 (by decide) ?_
          exact qs_iret rfl dX5_ready_79
      · refine qs_aload_n dX5_ready_48 rfl rfl rfl ?_
        refine qs_cV0v cfX5_111 (Nat.le_of_ble_eq_true rfl) rfl rfl (fun Y hY => kX5_goes  hY) (Nat.le_of_ble_eq_true rfl) dX5_ready_49 rfl (fun x36 D35 g37 => ?_)
        refine qs_iinc (fun v38 => [(3, .int v38), (0, .ref 0), (1, .int w1), (2, .int w2)]) (1 : Int32) dX5_ready_52 rfl (by decide) (by decide) (fun _ => rfl) rfl (fun v38 => ?_)
        refine qs_goto (tgt := 32) dX5_ready_55 (by decide) ?_
        exact qs_sub [1, 2, 3, 0] rfl (ih w1 w2 v38 D35)
def fX5_ready (p1 : Int32) (p2 : Int32) (D : qs_D) : Option (Int32 × qs_D) := (qs_bind (fX5_isDish p1 D) (fun x2 D1 => (if x2 = 0 then (qs_bind (fX5_finds (-1000001 : Int32) D1) (fun x6 D5 => (some (x6, D5)))) else (qs_bind (fX5_in p2 (0 : Int32) (999 : Int32) D1) (fun x9 D8 => (if x9 = 0 then (qs_bind (fX5_finds (-1000001 : Int32) D8) (fun x40 D39 => (some (x40, D39)))) else (qs_bind (fX5_thinks D8) (fun x13 D12 => (qs_let (0 : Int32) (fun v15 => (fX5_ready_L32 qs_F p1 p2 v15 D12)))))))))))
set_option maxRecDepth 20000 in
theorem kX5_ready {l : Launch} {E : qs_E} {A : Nat → Prop} {p1 : Int32} {p2 : Int32} {D : qs_D} {X : Int32 × qs_D}  (hX : fX5_ready p1 p2 D = some X) : qs_Ctr l E A shM yX5_ready mX5_ready 4 qs_ri [.ref 0, .int p1, .int p2] D X := by
  refine qs_enter (plainFor_of_name (by decide)) rfl (Nat.le_of_ble_eq_true rfl) ?_ hX
  show qs_VO l E A shM mX5_ready 4 qs_ri 0 [(0, .ref 0), (1, .int p1), (2, .int p2)] [] D (fX5_ready p1 p2 D)
  unfold fX5_ready
  refine qs_aload_n dX5_ready_0 rfl rfl rfl ?_
  refine qs_iload_n dX5_ready_1 rfl rfl rfl ?_
  refine qs_cV1i cfX5_68 (Nat.le_of_ble_eq_true rfl) rfl rfl (fun Y hY => kX5_isDish  hY) (Nat.le_of_ble_eq_true rfl) dX5_ready_2 rfl (fun x2 D1 g3 => ?_)
  refine qs_if_eq (tgt := 19) dX5_ready_5 (by decide) rfl (fun g4 => ?_) (fun g4 => ?_)
  · refine qs_aload_n dX5_ready_19 rfl rfl rfl ?_
    refine qs_ldc wcX5_34 dX5_ready_20 rfl ?_
    refine qs_cV1i cfX5_36 (Nat.le_of_ble_eq_true rfl) rfl rfl (fun Y hY => kX5_finds  hY) (Nat.le_of_ble_eq_true rfl) dX5_ready_22 rfl (fun x6 D5 g7 => ?_)
    exact qs_iret rfl dX5_ready_25
  · refine qs_iload_n dX5_ready_8 rfl rfl rfl ?_
    refine qs_iconst (0 : Int32) dX5_ready_9 (by decide) rfl ?_
    refine qs_sipush (999 : Int32) dX5_ready_10 (by decide) rfl ?_
    refine qs_cS3i cfX5_40 (Nat.le_of_ble_eq_true rfl) (fun Y hY => kX5_in  hY) (Nat.le_of_ble_eq_true rfl) dX5_ready_13 rfl (fun x9 D8 g10 => ?_)
    refine qs_if_ne (tgt := 26) dX5_ready_16 (by decide) rfl (fun g11 => ?_) (fun g11 => ?_)
    · refine qs_aload_n dX5_ready_19 rfl rfl rfl ?_
      refine qs_ldc wcX5_34 dX5_ready_20 rfl ?_
      refine qs_cV1i cfX5_36 (Nat.le_of_ble_eq_true rfl) rfl rfl (fun Y hY => kX5_finds  hY) (Nat.le_of_ble_eq_true rfl) dX5_ready_22 rfl (fun x40 D39 g41 => ?_)
      exact qs_iret rfl dX5_ready_25
    · refine qs_aload_n dX5_ready_26 rfl rfl rfl ?_
      refine qs_cV0v cfX5_133 (Nat.le_of_ble_eq_true rfl) rfl rfl (fun Y hY => kX5_thinks  hY) (Nat.le_of_ble_eq_true rfl) dX5_ready_27 rfl (fun x13 D12 g14 => ?_)
      refine qs_iconst (0 : Int32) dX5_ready_30 (by decide) rfl ?_
      refine qs_istore_n (fun v15 => [(3, .int v15), (0, .ref 0), (1, .int p1), (2, .int p2)]) dX5_ready_31 rfl (by decide) (fun _ => rfl) rfl (fun v15 => ?_)
      exact qs_sub [1, 2, 3, 0] rfl (lX5_ready_L32 qs_F p1 p2 v15 D12)
abbrev mX5_peace : qs_M := (RX5, cX5_peace, 3, (some FieldType.int))
def fX5_peace_L23 : Nat → Int32 → Int32 → qs_D → Option (Int32 × qs_D)
  | 0, _, _, _ => none
  | n + 1, w1, w2, D => (if (200 : Int32) < w2 then (qs_bind (fX5_putsBack D) (fun x11 D10 => (if w2 ≤ (200 : Int32) then (some (w2, D10)) else (qs_bind (fX5_finds (-1000004 : Int32) D10) (fun x15 D14 => (some (x15, D14))))))) else (qs_g (1 : Int32) 70 (if (D 1 (1 : Int32).toNatClampNeg) ≤ w1 then (qs_bind (fX5_putsBack D) (fun x20 D19 => (if w2 ≤ (200 : Int32) then (some (w2, D19)) else (qs_bind (fX5_finds (-1000004 : Int32) D19) (fun x24 D23 => (some (x24, D23))))))) else (qs_bind (fX5_goes D) (fun x27 D26 => (qs_let (w2 + (1 : Int32)) (fun v29 => (fX5_peace_L23 n w1 v29 D26))))))))
set_option maxRecDepth 20000 in
theorem lX5_peace_L23 {l : Launch} {E : qs_E} {A : Nat → Prop}  : ∀ (n : Nat) (w1 : Int32) (w2 : Int32) (D : qs_D), qs_VO l E A shM mX5_peace 4 qs_ri 23 [(0, .ref 0), (1, .int w1), (2, .int w2)] [] D (fX5_peace_L23 n w1 w2 D) := by
  intro n
  induction n with
  | zero => intro w1 w2 D; exact qs_none
  | succ n ih =>
    intro w1 w2 D
    unfold fX5_peace_L23
    refine qs_iload_n dX5_peace_23 rfl rfl rfl ?_
    refine qs_sipush (200 : Int32) dX5_peace_24 (by decide) rfl ?_
    refine qs_icmp_gt (tgt := 50) dX5_peace_27 (by decide) rfl (fun g9 => ?_) (fun g9 => ?_)
    · refine qs_aload_n dX5_peace_50 rfl rfl rfl ?_
      refine qs_cV0v cfX5_136 (Nat.le_of_ble_eq_true rfl) rfl rfl (fun Y hY => kX5_putsBack  hY) (Nat.le_of_ble_eq_true rfl) dX5_peace_51 rfl (fun x11 D10 g12 => ?_)
      refine qs_iload_n dX5_peace_54 rfl rfl rfl ?_
      refine qs_sipush (200 : Int32) dX5_peace_55 (by decide) rfl ?_
      refine qs_icmp_le (tgt := 70) dX5_peace_58 (by decide) rfl (fun g13 => ?_) (fun g13 => ?_)
      · refine qs_iload_n dX5_peace_70 rfl rfl rfl ?_
        exact qs_iret rfl dX5_peace_71
      · refine qs_aload_n dX5_peace_61 rfl rfl rfl ?_
        refine qs_ldc wcX5_35 dX5_peace_62 rfl ?_
        refine qs_cV1i cfX5_36 (Nat.le_of_ble_eq_true rfl) rfl rfl (fun Y hY => kX5_finds  hY) (Nat.le_of_ble_eq_true rfl) dX5_peace_64 rfl (fun x15 D14 g16 => ?_)
        refine qs_goto (tgt := 71) dX5_peace_67 (by decide) ?_
        exact qs_iret rfl dX5_peace_71
    · refine qs_aload_n dX5_peace_30 rfl rfl rfl ?_
      refine qs_getR ffX5_9 rfl rfl dX5_peace_31 rfl ?_
      refine qs_iconst (1 : Int32) dX5_peace_34 (by decide) rfl ?_
      refine qs_iald rfl (by decide) dX5_peace_35 rfl (fun g17 => ?_)
      refine qs_iload_n dX5_peace_36 rfl rfl rfl ?_
      refine qs_icmp_le (tgt := 50) dX5_peace_37 (by decide) rfl (fun g18 => ?_) (fun g18 => ?_)
      · refine qs_aload_n dX5_peace_50 rfl rfl rfl ?_
        refine qs_cV0v cfX5_136 (Nat.le_of_ble_eq_true rfl) rfl rfl (fun Y hY => kX5_putsBack  hY) (Nat.le_of_ble_eq_true rfl) dX5_peace_51 rfl (fun x20 D19 g21 => ?_)
        refine qs_iload_n dX5_peace_54 rfl rfl rfl ?_
        refine qs_sipush (200 : Int32) dX5_peace_55 (by decide) rfl ?_
        refine qs_icmp_le (tgt := 70) dX5_peace_58 (by decide) rfl (fun g22 => ?_) (fun g22 => ?_)
        · refine qs_iload_n dX5_peace_70 rfl rfl rfl ?_
          exact qs_iret rfl dX5_peace_71
        · refine qs_aload_n dX5_peace_61 rfl rfl rfl ?_
          refine qs_ldc wcX5_35 dX5_peace_62 rfl ?_
          refine qs_cV1i cfX5_36 (Nat.le_of_ble_eq_true rfl) rfl rfl (fun Y hY => kX5_finds  hY) (Nat.le_of_ble_eq_true rfl) dX5_peace_64 rfl (fun x24 D23 g25 => ?_)
          refine qs_goto (tgt := 71) dX5_peace_67 (by decide) ?_
          exact qs_iret rfl dX5_peace_71
      · refine qs_aload_n dX5_peace_40 rfl rfl rfl ?_
        refine qs_cV0v cfX5_111 (Nat.le_of_ble_eq_true rfl) rfl rfl (fun Y hY => kX5_goes  hY) (Nat.le_of_ble_eq_true rfl) dX5_peace_41 rfl (fun x27 D26 g28 => ?_)
        refine qs_iinc (fun v29 => [(2, .int v29), (0, .ref 0), (1, .int w1)]) (1 : Int32) dX5_peace_44 rfl (by decide) (by decide) (fun _ => rfl) rfl (fun v29 => ?_)
        refine qs_goto (tgt := 23) dX5_peace_47 (by decide) ?_
        exact qs_sub [1, 2, 0] rfl (ih w1 v29 D26)
def fX5_peace (p1 : Int32) (D : qs_D) : Option (Int32 × qs_D) := (qs_bind (fX5_in p1 (0 : Int32) (99 : Int32) D) (fun x2 D1 => (if x2 = 0 then (qs_bind (fX5_finds (-1000001 : Int32) D1) (fun x31 D30 => (some (x31, D30)))) else (qs_bind (fX5_thinks D1) (fun x6 D5 => (qs_let (0 : Int32) (fun v8 => (fX5_peace_L23 qs_F p1 v8 D5))))))))
set_option maxRecDepth 20000 in
theorem kX5_peace {l : Launch} {E : qs_E} {A : Nat → Prop} {p1 : Int32} {D : qs_D} {X : Int32 × qs_D}  (hX : fX5_peace p1 D = some X) : qs_Ctr l E A shM yX5_peace mX5_peace 4 qs_ri [.ref 0, .int p1] D X := by
  refine qs_enter (plainFor_of_name (by decide)) rfl (Nat.le_of_ble_eq_true rfl) ?_ hX
  show qs_VO l E A shM mX5_peace 4 qs_ri 0 [(0, .ref 0), (1, .int p1)] [] D (fX5_peace p1 D)
  unfold fX5_peace
  refine qs_iload_n dX5_peace_0 rfl rfl rfl ?_
  refine qs_iconst (0 : Int32) dX5_peace_1 (by decide) rfl ?_
  refine qs_bipush (99 : Int32) dX5_peace_2 (by decide) rfl ?_
  refine qs_cS3i cfX5_40 (Nat.le_of_ble_eq_true rfl) (fun Y hY => kX5_in  hY) (Nat.le_of_ble_eq_true rfl) dX5_peace_4 rfl (fun x2 D1 g3 => ?_)
  refine qs_if_ne (tgt := 17) dX5_peace_7 (by decide) rfl (fun g4 => ?_) (fun g4 => ?_)
  · refine qs_aload_n dX5_peace_10 rfl rfl rfl ?_
    refine qs_ldc wcX5_34 dX5_peace_11 rfl ?_
    refine qs_cV1i cfX5_36 (Nat.le_of_ble_eq_true rfl) rfl rfl (fun Y hY => kX5_finds  hY) (Nat.le_of_ble_eq_true rfl) dX5_peace_13 rfl (fun x31 D30 g32 => ?_)
    exact qs_iret rfl dX5_peace_16
  · refine qs_aload_n dX5_peace_17 rfl rfl rfl ?_
    refine qs_cV0v cfX5_133 (Nat.le_of_ble_eq_true rfl) rfl rfl (fun Y hY => kX5_thinks  hY) (Nat.le_of_ble_eq_true rfl) dX5_peace_18 rfl (fun x6 D5 g7 => ?_)
    refine qs_iconst (0 : Int32) dX5_peace_21 (by decide) rfl ?_
    refine qs_istore_n (fun v8 => [(2, .int v8), (0, .ref 0), (1, .int p1)]) dX5_peace_22 rfl (by decide) (fun _ => rfl) rfl (fun v8 => ?_)
    exact qs_sub [1, 2, 0] rfl (lX5_peace_L23 qs_F p1 v8 D5)
abbrev mX5_deedFor : qs_M := (RX5, cX5_deedFor, 7, (some FieldType.int))
def fX5_deedFor_L38 : Nat → Int32 → Int32 → Int32 → Int32 → Int32 → qs_D → Option (Int32 × qs_D)
  | 0, _, _, _, _, _, _ => none
  | n + 1, w1, w2, w3, w4, w5, D => (if (12 : Int32) ≤ w5 then (some (w3, D)) else (qs_g ((6 : Int32) + w1) 70 (qs_let (qs_u D 1 ((6 : Int32) + w1).toNatClampNeg w5) (fun D19 => (qs_bind (fX5_goesFor w2 D19) (fun x21 D20 => (qs_bind (fX5_allGive D20) (fun x24 D23 => (qs_let x24 (fun v26 => (qs_bind (fX5_putsBack D23) (fun x28 D27 => (if v26 ≤ w4 then (qs_let w3 (fun v31 => (if v26 ≤ w4 then (qs_let w4 (fun v33 => (qs_let (w5 + (1 : Int32)) (fun v34 => (fX5_deedFor_L38 n w1 w2 v31 v33 v34 D27))))) else (qs_let v26 (fun v35 => (qs_let (w5 + (1 : Int32)) (fun v36 => (fX5_deedFor_L38 n w1 w2 v31 v35 v36 D27)))))))) else (qs_let w5 (fun v37 => (if v26 ≤ w4 then (qs_let w4 (fun v39 => (qs_let (w5 + (1 : Int32)) (fun v40 => (fX5_deedFor_L38 n w1 w2 v37 v39 v40 D27))))) else (qs_let v26 (fun v41 => (qs_let (w5 + (1 : Int32)) (fun v42 => (fX5_deedFor_L38 n w1 w2 v37 v41 v42 D27)))))))))))))))))))))
set_option maxRecDepth 20000 in
theorem lX5_deedFor_L38 {l : Launch} {E : qs_E} {A : Nat → Prop}  : ∀ (n : Nat) (w1 : Int32) (w2 : Int32) (w3 : Int32) (w4 : Int32) (w5 : Int32) (D : qs_D), qs_VO l E A shM mX5_deedFor 5 qs_ri 38 [(0, .ref 0), (1, .int w1), (2, .int w2), (3, .int w3), (4, .int w4), (5, .int w5)] [] D (fX5_deedFor_L38 n w1 w2 w3 w4 w5 D) := by
  intro n
  induction n with
  | zero => intro w1 w2 w3 w4 w5 D; exact qs_none
  | succ n ih =>
    intro w1 w2 w3 w4 w5 D
    unfold fX5_deedFor_L38
    refine qs_iload dX5_deedFor_38 rfl rfl ?_
    refine qs_bipush (12 : Int32) dX5_deedFor_40 (by decide) rfl ?_
    refine qs_icmp_ge (tgt := 107) dX5_deedFor_42 (by decide) rfl (fun g18 => ?_) (fun g18 => ?_)
    · refine qs_iload_n dX5_deedFor_107 rfl rfl rfl ?_
      exact qs_iret rfl dX5_deedFor_108
    · refine qs_aload_n dX5_deedFor_45 rfl rfl rfl ?_
      refine qs_getR ffX5_9 rfl rfl dX5_deedFor_46 rfl ?_
      refine qs_bipush (6 : Int32) dX5_deedFor_49 (by decide) rfl ?_
      refine qs_iload_n dX5_deedFor_51 rfl rfl rfl ?_
      refine qs_iadd dX5_deedFor_52 rfl ?_
      refine qs_iload dX5_deedFor_53 rfl rfl ?_
      refine qs_iast rfl (by decide) dX5_deedFor_55 rfl (fun D19 => ?_)
      refine qs_aload_n dX5_deedFor_56 rfl rfl rfl ?_
      refine qs_iload_n dX5_deedFor_57 rfl rfl rfl ?_
      refine qs_cV1v cfX5_114 (Nat.le_of_ble_eq_true rfl) rfl rfl (fun Y hY => kX5_goesFor  hY) (Nat.le_of_ble_eq_true rfl) dX5_deedFor_58 rfl (fun x21 D20 g22 => ?_)
      refine qs_aload_n dX5_deedFor_61 rfl rfl rfl ?_
      refine qs_cV0i cfX5_123 (Nat.le_of_ble_eq_true rfl) rfl rfl (fun Y hY => kX5_allGive  hY) (Nat.le_of_ble_eq_true rfl) dX5_deedFor_62 rfl (fun x24 D23 g25 => ?_)
      refine qs_istore (fun v26 => [(6, .int v26), (0, .ref 0), (1, .int w1), (2, .int w2), (3, .int w3), (4, .int w4), (5, .int w5)]) dX5_deedFor_65 (by decide) (fun _ => rfl) rfl (fun v26 => ?_)
      refine qs_aload_n dX5_deedFor_67 rfl rfl rfl ?_
      refine qs_cV0v cfX5_136 (Nat.le_of_ble_eq_true rfl) rfl rfl (fun Y hY => kX5_putsBack  hY) (Nat.le_of_ble_eq_true rfl) dX5_deedFor_68 rfl (fun x28 D27 g29 => ?_)
      refine qs_iload dX5_deedFor_71 rfl rfl ?_
      refine qs_iload dX5_deedFor_73 rfl rfl ?_
      refine qs_icmp_le (tgt := 83) dX5_deedFor_75 (by decide) rfl (fun g30 => ?_) (fun g30 => ?_)
      · refine qs_iload_n dX5_deedFor_83 rfl rfl rfl ?_
        refine qs_istore_n (fun v31 => [(3, .int v31), (6, .int v26), (0, .ref 0), (1, .int w1), (2, .int w2), (4, .int w4), (5, .int w5)]) dX5_deedFor_84 rfl (by decide) (fun _ => rfl) rfl (fun v31 => ?_)
        refine qs_iload dX5_deedFor_85 rfl rfl ?_
        refine qs_iload dX5_deedFor_87 rfl rfl ?_
        refine qs_icmp_le (tgt := 97) dX5_deedFor_89 (by decide) rfl (fun g32 => ?_) (fun g32 => ?_)
        · refine qs_iload dX5_deedFor_97 rfl rfl ?_
          refine qs_istore (fun v33 => [(4, .int v33), (3, .int v31), (6, .int v26), (0, .ref 0), (1, .int w1), (2, .int w2), (5, .int w5)]) dX5_deedFor_99 (by decide) (fun _ => rfl) rfl (fun v33 => ?_)
          refine qs_iinc (fun v34 => [(5, .int v34), (4, .int v33), (3, .int v31), (6, .int v26), (0, .ref 0), (1, .int w1), (2, .int w2)]) (1 : Int32) dX5_deedFor_101 rfl (by decide) (by decide) (fun _ => rfl) rfl (fun v34 => ?_)
          refine qs_goto (tgt := 38) dX5_deedFor_104 (by decide) ?_
          exact qs_sub [4, 5, 6, 2, 1, 0] rfl (ih w1 w2 v31 v33 v34 D27)
        · refine qs_iload dX5_deedFor_92 rfl rfl ?_
          refine qs_goto (tgt := 99) dX5_deedFor_94 (by decide) ?_
          refine qs_istore (fun v35 => [(4, .int v35), (3, .int v31), (6, .int v26), (0, .ref 0), (1, .int w1), (2, .int w2), (5, .int w5)]) dX5_deedFor_99 (by decide) (fun _ => rfl) rfl (fun v35 => ?_)
          refine qs_iinc (fun v36 => [(5, .int v36), (4, .int v35), (3, .int v31), (6, .int v26), (0, .ref 0), (1, .int w1), (2, .int w2)]) (1 : Int32) dX5_deedFor_101 rfl (by decide) (by decide) (fun _ => rfl) rfl (fun v36 => ?_)
          refine qs_goto (tgt := 38) dX5_deedFor_104 (by decide) ?_
          exact qs_sub [4, 5, 6, 2, 1, 0] rfl (ih w1 w2 v31 v35 v36 D27)
      · refine qs_iload dX5_deedFor_78 rfl rfl ?_
        refine qs_goto (tgt := 84) dX5_deedFor_80 (by decide) ?_
        refine qs_istore_n (fun v37 => [(3, .int v37), (6, .int v26), (0, .ref 0), (1, .int w1), (2, .int w2), (4, .int w4), (5, .int w5)]) dX5_deedFor_84 rfl (by decide) (fun _ => rfl) rfl (fun v37 => ?_)
        refine qs_iload dX5_deedFor_85 rfl rfl ?_
        refine qs_iload dX5_deedFor_87 rfl rfl ?_
        refine qs_icmp_le (tgt := 97) dX5_deedFor_89 (by decide) rfl (fun g38 => ?_) (fun g38 => ?_)
        · refine qs_iload dX5_deedFor_97 rfl rfl ?_
          refine qs_istore (fun v39 => [(4, .int v39), (3, .int v37), (6, .int v26), (0, .ref 0), (1, .int w1), (2, .int w2), (5, .int w5)]) dX5_deedFor_99 (by decide) (fun _ => rfl) rfl (fun v39 => ?_)
          refine qs_iinc (fun v40 => [(5, .int v40), (4, .int v39), (3, .int v37), (6, .int v26), (0, .ref 0), (1, .int w1), (2, .int w2)]) (1 : Int32) dX5_deedFor_101 rfl (by decide) (by decide) (fun _ => rfl) rfl (fun v40 => ?_)
          refine qs_goto (tgt := 38) dX5_deedFor_104 (by decide) ?_
          exact qs_sub [4, 5, 6, 2, 1, 0] rfl (ih w1 w2 v37 v39 v40 D27)
        · refine qs_iload dX5_deedFor_92 rfl rfl ?_
          refine qs_goto (tgt := 99) dX5_deedFor_94 (by decide) ?_
          refine qs_istore (fun v41 => [(4, .int v41), (3, .int v37), (6, .int v26), (0, .ref 0), (1, .int w1), (2, .int w2), (5, .int w5)]) dX5_deedFor_99 (by decide) (fun _ => rfl) rfl (fun v41 => ?_)
          refine qs_iinc (fun v42 => [(5, .int v42), (4, .int v41), (3, .int v37), (6, .int v26), (0, .ref 0), (1, .int w1), (2, .int w2)]) (1 : Int32) dX5_deedFor_101 rfl (by decide) (by decide) (fun _ => rfl) rfl (fun v42 => ?_)
          refine qs_goto (tgt := 38) dX5_deedFor_104 (by decide) ?_
          exact qs_sub [4, 5, 6, 2, 1, 0] rfl (ih w1 w2 v37 v41 v42 D27)
def fX5_deedFor (p1 : Int32) (p2 : Int32) (D : qs_D) : Option (Int32 × qs_D) := (qs_bind (fX5_in p1 (0 : Int32) (5 : Int32) D) (fun x2 D1 => (if x2 = 0 then (qs_bind (fX5_finds (-1000001 : Int32) D1) (fun x6 D5 => (some (x6, D5)))) else (qs_bind (fX5_in p2 (0 : Int32) (60 : Int32) D1) (fun x9 D8 => (if x9 = 0 then (qs_bind (fX5_finds (-1000001 : Int32) D8) (fun x44 D43 => (some (x44, D43)))) else (qs_bind (fX5_thinks D8) (fun x13 D12 => (qs_let (0 : Int32) (fun v15 => (qs_let (-1 : Int32) (fun v16 => (qs_let (0 : Int32) (fun v17 => (fX5_deedFor_L38 qs_F p1 p2 v15 v16 v17 D12)))))))))))))))
set_option maxRecDepth 20000 in
theorem kX5_deedFor {l : Launch} {E : qs_E} {A : Nat → Prop} {p1 : Int32} {p2 : Int32} {D : qs_D} {X : Int32 × qs_D}  (hX : fX5_deedFor p1 p2 D = some X) : qs_Ctr l E A shM yX5_deedFor mX5_deedFor 5 qs_ri [.ref 0, .int p1, .int p2] D X := by
  refine qs_enter (plainFor_of_name (by decide)) rfl (Nat.le_of_ble_eq_true rfl) ?_ hX
  show qs_VO l E A shM mX5_deedFor 5 qs_ri 0 [(0, .ref 0), (1, .int p1), (2, .int p2)] [] D (fX5_deedFor p1 p2 D)
  unfold fX5_deedFor
  refine qs_iload_n dX5_deedFor_0 rfl rfl rfl ?_
  refine qs_iconst (0 : Int32) dX5_deedFor_1 (by decide) rfl ?_
  refine qs_iconst (5 : Int32) dX5_deedFor_2 (by decide) rfl ?_
  refine qs_cS3i cfX5_40 (Nat.le_of_ble_eq_true rfl) (fun Y hY => kX5_in  hY) (Nat.le_of_ble_eq_true rfl) dX5_deedFor_3 rfl (fun x2 D1 g3 => ?_)
  refine qs_if_eq (tgt := 19) dX5_deedFor_6 (by decide) rfl (fun g4 => ?_) (fun g4 => ?_)
  · refine qs_aload_n dX5_deedFor_19 rfl rfl rfl ?_
    refine qs_ldc wcX5_34 dX5_deedFor_20 rfl ?_
    refine qs_cV1i cfX5_36 (Nat.le_of_ble_eq_true rfl) rfl rfl (fun Y hY => kX5_finds  hY) (Nat.le_of_ble_eq_true rfl) dX5_deedFor_22 rfl (fun x6 D5 g7 => ?_)
    exact qs_iret rfl dX5_deedFor_25
  · refine qs_iload_n dX5_deedFor_9 rfl rfl rfl ?_
    refine qs_iconst (0 : Int32) dX5_deedFor_10 (by decide) rfl ?_
    refine qs_bipush (60 : Int32) dX5_deedFor_11 (by decide) rfl ?_
    refine qs_cS3i cfX5_40 (Nat.le_of_ble_eq_true rfl) (fun Y hY => kX5_in  hY) (Nat.le_of_ble_eq_true rfl) dX5_deedFor_13 rfl (fun x9 D8 g10 => ?_)
    refine qs_if_ne (tgt := 26) dX5_deedFor_16 (by decide) rfl (fun g11 => ?_) (fun g11 => ?_)
    · refine qs_aload_n dX5_deedFor_19 rfl rfl rfl ?_
      refine qs_ldc wcX5_34 dX5_deedFor_20 rfl ?_
      refine qs_cV1i cfX5_36 (Nat.le_of_ble_eq_true rfl) rfl rfl (fun Y hY => kX5_finds  hY) (Nat.le_of_ble_eq_true rfl) dX5_deedFor_22 rfl (fun x44 D43 g45 => ?_)
      exact qs_iret rfl dX5_deedFor_25
    · refine qs_aload_n dX5_deedFor_26 rfl rfl rfl ?_
      refine qs_cV0v cfX5_133 (Nat.le_of_ble_eq_true rfl) rfl rfl (fun Y hY => kX5_thinks  hY) (Nat.le_of_ble_eq_true rfl) dX5_deedFor_27 rfl (fun x13 D12 g14 => ?_)
      refine qs_iconst (0 : Int32) dX5_deedFor_30 (by decide) rfl ?_
      refine qs_istore_n (fun v15 => [(3, .int v15), (0, .ref 0), (1, .int p1), (2, .int p2)]) dX5_deedFor_31 rfl (by decide) (fun _ => rfl) rfl (fun v15 => ?_)
      refine qs_iconst (-1 : Int32) dX5_deedFor_32 (by decide) rfl ?_
      refine qs_istore (fun v16 => [(4, .int v16), (3, .int v15), (0, .ref 0), (1, .int p1), (2, .int p2)]) dX5_deedFor_33 (by decide) (fun _ => rfl) rfl (fun v16 => ?_)
      refine qs_iconst (0 : Int32) dX5_deedFor_35 (by decide) rfl ?_
      refine qs_istore (fun v17 => [(5, .int v17), (4, .int v16), (3, .int v15), (0, .ref 0), (1, .int p1), (2, .int p2)]) dX5_deedFor_36 (by decide) (fun _ => rfl) rfl (fun v17 => ?_)
      exact qs_sub [3, 4, 5, 2, 1, 0] rfl (lX5_deedFor_L38 qs_F p1 p2 v15 v16 v17 D12)
abbrev mX5_grudgeFor : qs_M := (RX5, cX5_grudgeFor, 5, (some FieldType.int))
def fX5_grudgeFor_L34 : Nat → Int32 → Int32 → Int32 → Int32 → qs_D → Option (Int32 × qs_D)
  | 0, _, _, _, _, _ => none
  | n + 1, w1, w2, w3, w4, D => (if (99 : Int32) < w4 then (qs_bind (fX5_orNone w3 D) (fun x19 D18 => (some (x19, D18)))) else (if 0 ≤ w3 then (qs_bind (fX5_orNone w3 D) (fun x23 D22 => (some (x23, D22)))) else (qs_g (1 : Int32) 70 (qs_let (qs_u D 1 (1 : Int32).toNatClampNeg w4) (fun D25 => (qs_bind (fX5_goesFor w2 D25) (fun x27 D26 => (qs_bind (fX5_it w1 (3 : Int32) D26) (fun x30 D29 => (if x30 = 0 then (qs_let w4 (fun v38 => (qs_bind (fX5_putsBack D29) (fun x40 D39 => (qs_let (w4 + (1 : Int32)) (fun v42 => (fX5_grudgeFor_L34 n w1 w2 v38 v42 D39))))))) else (qs_let (-1 : Int32) (fun v33 => (qs_bind (fX5_putsBack D29) (fun x35 D34 => (qs_let (w4 + (1 : Int32)) (fun v37 => (fX5_grudgeFor_L34 n w1 w2 v33 v37 D34)))))))))))))))))
set_option maxRecDepth 20000 in
theorem lX5_grudgeFor_L34 {l : Launch} {E : qs_E} {A : Nat → Prop}  : ∀ (n : Nat) (w1 : Int32) (w2 : Int32) (w3 : Int32) (w4 : Int32) (D : qs_D), qs_VO l E A shM mX5_grudgeFor 5 qs_ri 34 [(0, .ref 0), (1, .int w1), (2, .int w2), (3, .int w3), (4, .int w4)] [] D (fX5_grudgeFor_L34 n w1 w2 w3 w4 D) := by
  intro n
  induction n with
  | zero => intro w1 w2 w3 w4 D; exact qs_none
  | succ n ih =>
    intro w1 w2 w3 w4 D
    unfold fX5_grudgeFor_L34
    refine qs_iload dX5_grudgeFor_34 rfl rfl ?_
    refine qs_bipush (99 : Int32) dX5_grudgeFor_36 (by decide) rfl ?_
    refine qs_icmp_gt (tgt := 84) dX5_grudgeFor_38 (by decide) rfl (fun g17 => ?_) (fun g17 => ?_)
    · refine qs_aload_n dX5_grudgeFor_84 rfl rfl rfl ?_
      refine qs_iload_n dX5_grudgeFor_85 rfl rfl rfl ?_
      refine qs_cV1i cfX5_139 (Nat.le_of_ble_eq_true rfl) rfl rfl (fun Y hY => kX5_orNone  hY) (Nat.le_of_ble_eq_true rfl) dX5_grudgeFor_86 rfl (fun x19 D18 g20 => ?_)
      exact qs_iret rfl dX5_grudgeFor_89
    · refine qs_iload_n dX5_grudgeFor_41 rfl rfl rfl ?_
      refine qs_if_ge (tgt := 84) dX5_grudgeFor_42 (by decide) rfl (fun g21 => ?_) (fun g21 => ?_)
      · refine qs_aload_n dX5_grudgeFor_84 rfl rfl rfl ?_
        refine qs_iload_n dX5_grudgeFor_85 rfl rfl rfl ?_
        refine qs_cV1i cfX5_139 (Nat.le_of_ble_eq_true rfl) rfl rfl (fun Y hY => kX5_orNone  hY) (Nat.le_of_ble_eq_true rfl) dX5_grudgeFor_86 rfl (fun x23 D22 g24 => ?_)
        exact qs_iret rfl dX5_grudgeFor_89
      · refine qs_aload_n dX5_grudgeFor_45 rfl rfl rfl ?_
        refine qs_getR ffX5_9 rfl rfl dX5_grudgeFor_46 rfl ?_
        refine qs_iconst (1 : Int32) dX5_grudgeFor_49 (by decide) rfl ?_
        refine qs_iload dX5_grudgeFor_50 rfl rfl ?_
        refine qs_iast rfl (by decide) dX5_grudgeFor_52 rfl (fun D25 => ?_)
        refine qs_aload_n dX5_grudgeFor_53 rfl rfl rfl ?_
        refine qs_iload_n dX5_grudgeFor_54 rfl rfl rfl ?_
        refine qs_cV1v cfX5_114 (Nat.le_of_ble_eq_true rfl) rfl rfl (fun Y hY => kX5_goesFor  hY) (Nat.le_of_ble_eq_true rfl) dX5_grudgeFor_55 rfl (fun x27 D26 g28 => ?_)
        refine qs_aload_n dX5_grudgeFor_58 rfl rfl rfl ?_
        refine qs_iload_n dX5_grudgeFor_59 rfl rfl rfl ?_
        refine qs_iconst (3 : Int32) dX5_grudgeFor_60 (by decide) rfl ?_
        refine qs_cV2i cfX5_44 (Nat.le_of_ble_eq_true rfl) rfl rfl (fun Y hY => kX5_it  hY) (Nat.le_of_ble_eq_true rfl) dX5_grudgeFor_61 rfl (fun x30 D29 g31 => ?_)
        refine qs_if_ne (tgt := 72) dX5_grudgeFor_64 (by decide) rfl (fun g32 => ?_) (fun g32 => ?_)
        · refine qs_iload dX5_grudgeFor_67 rfl rfl ?_
          refine qs_goto (tgt := 73) dX5_grudgeFor_69 (by decide) ?_
          refine qs_istore_n (fun v38 => [(3, .int v38), (0, .ref 0), (1, .int w1), (2, .int w2), (4, .int w4)]) dX5_grudgeFor_73 rfl (by decide) (fun _ => rfl) rfl (fun v38 => ?_)
          refine qs_aload_n dX5_grudgeFor_74 rfl rfl rfl ?_
          refine qs_cV0v cfX5_136 (Nat.le_of_ble_eq_true rfl) rfl rfl (fun Y hY => kX5_putsBack  hY) (Nat.le_of_ble_eq_true rfl) dX5_grudgeFor_75 rfl (fun x40 D39 g41 => ?_)
          refine qs_iinc (fun v42 => [(4, .int v42), (3, .int v38), (0, .ref 0), (1, .int w1), (2, .int w2)]) (1 : Int32) dX5_grudgeFor_78 rfl (by decide) (by decide) (fun _ => rfl) rfl (fun v42 => ?_)
          refine qs_goto (tgt := 34) dX5_grudgeFor_81 (by decide) ?_
          exact qs_sub [2, 3, 4, 1, 0] rfl (ih w1 w2 v38 v42 D39)
        · refine qs_iconst (-1 : Int32) dX5_grudgeFor_72 (by decide) rfl ?_
          refine qs_istore_n (fun v33 => [(3, .int v33), (0, .ref 0), (1, .int w1), (2, .int w2), (4, .int w4)]) dX5_grudgeFor_73 rfl (by decide) (fun _ => rfl) rfl (fun v33 => ?_)
          refine qs_aload_n dX5_grudgeFor_74 rfl rfl rfl ?_
          refine qs_cV0v cfX5_136 (Nat.le_of_ble_eq_true rfl) rfl rfl (fun Y hY => kX5_putsBack  hY) (Nat.le_of_ble_eq_true rfl) dX5_grudgeFor_75 rfl (fun x35 D34 g36 => ?_)
          refine qs_iinc (fun v37 => [(4, .int v37), (3, .int v33), (0, .ref 0), (1, .int w1), (2, .int w2)]) (1 : Int32) dX5_grudgeFor_78 rfl (by decide) (by decide) (fun _ => rfl) rfl (fun v37 => ?_)
          refine qs_goto (tgt := 34) dX5_grudgeFor_81 (by decide) ?_
          exact qs_sub [2, 3, 4, 1, 0] rfl (ih w1 w2 v33 v37 D34)
def fX5_grudgeFor (p1 : Int32) (p2 : Int32) (D : qs_D) : Option (Int32 × qs_D) := (qs_bind (fX5_isDish p1 D) (fun x2 D1 => (if x2 = 0 then (qs_bind (fX5_finds (-1000001 : Int32) D1) (fun x6 D5 => (some (x6, D5)))) else (qs_bind (fX5_in p2 (0 : Int32) (60 : Int32) D1) (fun x9 D8 => (if x9 = 0 then (qs_bind (fX5_finds (-1000001 : Int32) D8) (fun x44 D43 => (some (x44, D43)))) else (qs_bind (fX5_thinks D8) (fun x13 D12 => (qs_let (-1 : Int32) (fun v15 => (qs_let (0 : Int32) (fun v16 => (fX5_grudgeFor_L34 qs_F p1 p2 v15 v16 D12)))))))))))))
set_option maxRecDepth 20000 in
theorem kX5_grudgeFor {l : Launch} {E : qs_E} {A : Nat → Prop} {p1 : Int32} {p2 : Int32} {D : qs_D} {X : Int32 × qs_D}  (hX : fX5_grudgeFor p1 p2 D = some X) : qs_Ctr l E A shM yX5_grudgeFor mX5_grudgeFor 5 qs_ri [.ref 0, .int p1, .int p2] D X := by
  refine qs_enter (plainFor_of_name (by decide)) rfl (Nat.le_of_ble_eq_true rfl) ?_ hX
  show qs_VO l E A shM mX5_grudgeFor 5 qs_ri 0 [(0, .ref 0), (1, .int p1), (2, .int p2)] [] D (fX5_grudgeFor p1 p2 D)
  unfold fX5_grudgeFor
  refine qs_aload_n dX5_grudgeFor_0 rfl rfl rfl ?_
  refine qs_iload_n dX5_grudgeFor_1 rfl rfl rfl ?_
  refine qs_cV1i cfX5_68 (Nat.le_of_ble_eq_true rfl) rfl rfl (fun Y hY => kX5_isDish  hY) (Nat.le_of_ble_eq_true rfl) dX5_grudgeFor_2 rfl (fun x2 D1 g3 => ?_)
  refine qs_if_eq (tgt := 18) dX5_grudgeFor_5 (by decide) rfl (fun g4 => ?_) (fun g4 => ?_)
  · refine qs_aload_n dX5_grudgeFor_18 rfl rfl rfl ?_
    refine qs_ldc wcX5_34 dX5_grudgeFor_19 rfl ?_
    refine qs_cV1i cfX5_36 (Nat.le_of_ble_eq_true rfl) rfl rfl (fun Y hY => kX5_finds  hY) (Nat.le_of_ble_eq_true rfl) dX5_grudgeFor_21 rfl (fun x6 D5 g7 => ?_)
    exact qs_iret rfl dX5_grudgeFor_24
  · refine qs_iload_n dX5_grudgeFor_8 rfl rfl rfl ?_
    refine qs_iconst (0 : Int32) dX5_grudgeFor_9 (by decide) rfl ?_
    refine qs_bipush (60 : Int32) dX5_grudgeFor_10 (by decide) rfl ?_
    refine qs_cS3i cfX5_40 (Nat.le_of_ble_eq_true rfl) (fun Y hY => kX5_in  hY) (Nat.le_of_ble_eq_true rfl) dX5_grudgeFor_12 rfl (fun x9 D8 g10 => ?_)
    refine qs_if_ne (tgt := 25) dX5_grudgeFor_15 (by decide) rfl (fun g11 => ?_) (fun g11 => ?_)
    · refine qs_aload_n dX5_grudgeFor_18 rfl rfl rfl ?_
      refine qs_ldc wcX5_34 dX5_grudgeFor_19 rfl ?_
      refine qs_cV1i cfX5_36 (Nat.le_of_ble_eq_true rfl) rfl rfl (fun Y hY => kX5_finds  hY) (Nat.le_of_ble_eq_true rfl) dX5_grudgeFor_21 rfl (fun x44 D43 g45 => ?_)
      exact qs_iret rfl dX5_grudgeFor_24
    · refine qs_aload_n dX5_grudgeFor_25 rfl rfl rfl ?_
      refine qs_cV0v cfX5_133 (Nat.le_of_ble_eq_true rfl) rfl rfl (fun Y hY => kX5_thinks  hY) (Nat.le_of_ble_eq_true rfl) dX5_grudgeFor_26 rfl (fun x13 D12 g14 => ?_)
      refine qs_iconst (-1 : Int32) dX5_grudgeFor_29 (by decide) rfl ?_
      refine qs_istore_n (fun v15 => [(3, .int v15), (0, .ref 0), (1, .int p1), (2, .int p2)]) dX5_grudgeFor_30 rfl (by decide) (fun _ => rfl) rfl (fun v15 => ?_)
      refine qs_iconst (0 : Int32) dX5_grudgeFor_31 (by decide) rfl ?_
      refine qs_istore (fun v16 => [(4, .int v16), (3, .int v15), (0, .ref 0), (1, .int p1), (2, .int p2)]) dX5_grudgeFor_32 (by decide) (fun _ => rfl) rfl (fun v16 => ?_)
      exact qs_sub [2, 3, 4, 1, 0] rfl (lX5_grudgeFor_L34 qs_F p1 p2 v15 v16 D12)
abbrev mX5_kindFor : qs_M := (RX5, cX5_kindFor, 7, (some FieldType.int))
def fX5_kindFor_L37 : Nat → Int32 → Int32 → Int32 → Int32 → Int32 → qs_D → Option (Int32 × qs_D)
  | 0, _, _, _, _, _, _ => none
  | n + 1, w1, w2, w3, w4, w5, D => (if (6 : Int32) < w5 then (some (w3, D)) else (qs_bind (fX5_put w1 (0 : Int32) w5 D) (fun x20 D19 => (qs_bind (fX5_goesFor w2 D19) (fun x23 D22 => (qs_bind (fX5_gives w1 D22) (fun x26 D25 => (qs_let x26 (fun v28 => (qs_bind (fX5_putsBack D25) (fun x30 D29 => (if v28 ≤ w4 then (qs_let w3 (fun v33 => (if v28 ≤ w4 then (qs_let w4 (fun v35 => (qs_let (w5 + (1 : Int32)) (fun v36 => (fX5_kindFor_L37 n w1 w2 v33 v35 v36 D29))))) else (qs_let v28 (fun v37 => (qs_let (w5 + (1 : Int32)) (fun v38 => (fX5_kindFor_L37 n w1 w2 v33 v37 v38 D29)))))))) else (qs_let w5 (fun v39 => (if v28 ≤ w4 then (qs_let w4 (fun v41 => (qs_let (w5 + (1 : Int32)) (fun v42 => (fX5_kindFor_L37 n w1 w2 v39 v41 v42 D29))))) else (qs_let v28 (fun v43 => (qs_let (w5 + (1 : Int32)) (fun v44 => (fX5_kindFor_L37 n w1 w2 v39 v43 v44 D29))))))))))))))))))))
set_option maxRecDepth 20000 in
theorem lX5_kindFor_L37 {l : Launch} {E : qs_E} {A : Nat → Prop}  : ∀ (n : Nat) (w1 : Int32) (w2 : Int32) (w3 : Int32) (w4 : Int32) (w5 : Int32) (D : qs_D), qs_VO l E A shM mX5_kindFor 5 qs_ri 37 [(0, .ref 0), (1, .int w1), (2, .int w2), (3, .int w3), (4, .int w4), (5, .int w5)] [] D (fX5_kindFor_L37 n w1 w2 w3 w4 w5 D) := by
  intro n
  induction n with
  | zero => intro w1 w2 w3 w4 w5 D; exact qs_none
  | succ n ih =>
    intro w1 w2 w3 w4 w5 D
    unfold fX5_kindFor_L37
    refine qs_iload dX5_kindFor_37 rfl rfl ?_
    refine qs_bipush (6 : Int32) dX5_kindFor_39 (by decide) rfl ?_
    refine qs_icmp_gt (tgt := 104) dX5_kindFor_41 (by decide) rfl (fun g18 => ?_) (fun g18 => ?_)
    · refine qs_iload_n dX5_kindFor_104 rfl rfl rfl ?_
      exact qs_iret rfl dX5_kindFor_105
    · refine qs_aload_n dX5_kindFor_44 rfl rfl rfl ?_
      refine qs_iload_n dX5_kindFor_45 rfl rfl rfl ?_
      refine qs_iconst (0 : Int32) dX5_kindFor_46 (by decide) rfl ?_
      refine qs_iload dX5_kindFor_47 rfl rfl ?_
      refine qs_cV3v cfX5_59 (Nat.le_of_ble_eq_true rfl) rfl rfl (fun Y hY => kX5_put  hY) (Nat.le_of_ble_eq_true rfl) dX5_kindFor_49 rfl (fun x20 D19 g21 => ?_)
      refine qs_aload_n dX5_kindFor_52 rfl rfl rfl ?_
      refine qs_iload_n dX5_kindFor_53 rfl rfl rfl ?_
      refine qs_cV1v cfX5_114 (Nat.le_of_ble_eq_true rfl) rfl rfl (fun Y hY => kX5_goesFor  hY) (Nat.le_of_ble_eq_true rfl) dX5_kindFor_54 rfl (fun x23 D22 g24 => ?_)
      refine qs_aload_n dX5_kindFor_57 rfl rfl rfl ?_
      refine qs_iload_n dX5_kindFor_58 rfl rfl rfl ?_
      refine qs_cV1i cfX5_83 (Nat.le_of_ble_eq_true rfl) rfl rfl (fun Y hY => kX5_gives  hY) (Nat.le_of_ble_eq_true rfl) dX5_kindFor_59 rfl (fun x26 D25 g27 => ?_)
      refine qs_istore (fun v28 => [(6, .int v28), (0, .ref 0), (1, .int w1), (2, .int w2), (3, .int w3), (4, .int w4), (5, .int w5)]) dX5_kindFor_62 (by decide) (fun _ => rfl) rfl (fun v28 => ?_)
      refine qs_aload_n dX5_kindFor_64 rfl rfl rfl ?_
      refine qs_cV0v cfX5_136 (Nat.le_of_ble_eq_true rfl) rfl rfl (fun Y hY => kX5_putsBack  hY) (Nat.le_of_ble_eq_true rfl) dX5_kindFor_65 rfl (fun x30 D29 g31 => ?_)
      refine qs_iload dX5_kindFor_68 rfl rfl ?_
      refine qs_iload dX5_kindFor_70 rfl rfl ?_
      refine qs_icmp_le (tgt := 80) dX5_kindFor_72 (by decide) rfl (fun g32 => ?_) (fun g32 => ?_)
      · refine qs_iload_n dX5_kindFor_80 rfl rfl rfl ?_
        refine qs_istore_n (fun v33 => [(3, .int v33), (6, .int v28), (0, .ref 0), (1, .int w1), (2, .int w2), (4, .int w4), (5, .int w5)]) dX5_kindFor_81 rfl (by decide) (fun _ => rfl) rfl (fun v33 => ?_)
        refine qs_iload dX5_kindFor_82 rfl rfl ?_
        refine qs_iload dX5_kindFor_84 rfl rfl ?_
        refine qs_icmp_le (tgt := 94) dX5_kindFor_86 (by decide) rfl (fun g34 => ?_) (fun g34 => ?_)
        · refine qs_iload dX5_kindFor_94 rfl rfl ?_
          refine qs_istore (fun v35 => [(4, .int v35), (3, .int v33), (6, .int v28), (0, .ref 0), (1, .int w1), (2, .int w2), (5, .int w5)]) dX5_kindFor_96 (by decide) (fun _ => rfl) rfl (fun v35 => ?_)
          refine qs_iinc (fun v36 => [(5, .int v36), (4, .int v35), (3, .int v33), (6, .int v28), (0, .ref 0), (1, .int w1), (2, .int w2)]) (1 : Int32) dX5_kindFor_98 rfl (by decide) (by decide) (fun _ => rfl) rfl (fun v36 => ?_)
          refine qs_goto (tgt := 37) dX5_kindFor_101 (by decide) ?_
          exact qs_sub [4, 5, 6, 2, 1, 0] rfl (ih w1 w2 v33 v35 v36 D29)
        · refine qs_iload dX5_kindFor_89 rfl rfl ?_
          refine qs_goto (tgt := 96) dX5_kindFor_91 (by decide) ?_
          refine qs_istore (fun v37 => [(4, .int v37), (3, .int v33), (6, .int v28), (0, .ref 0), (1, .int w1), (2, .int w2), (5, .int w5)]) dX5_kindFor_96 (by decide) (fun _ => rfl) rfl (fun v37 => ?_)
          refine qs_iinc (fun v38 => [(5, .int v38), (4, .int v37), (3, .int v33), (6, .int v28), (0, .ref 0), (1, .int w1), (2, .int w2)]) (1 : Int32) dX5_kindFor_98 rfl (by decide) (by decide) (fun _ => rfl) rfl (fun v38 => ?_)
          refine qs_goto (tgt := 37) dX5_kindFor_101 (by decide) ?_
          exact qs_sub [4, 5, 6, 2, 1, 0] rfl (ih w1 w2 v33 v37 v38 D29)
      · refine qs_iload dX5_kindFor_75 rfl rfl ?_
        refine qs_goto (tgt := 81) dX5_kindFor_77 (by decide) ?_
        refine qs_istore_n (fun v39 => [(3, .int v39), (6, .int v28), (0, .ref 0), (1, .int w1), (2, .int w2), (4, .int w4), (5, .int w5)]) dX5_kindFor_81 rfl (by decide) (fun _ => rfl) rfl (fun v39 => ?_)
        refine qs_iload dX5_kindFor_82 rfl rfl ?_
        refine qs_iload dX5_kindFor_84 rfl rfl ?_
        refine qs_icmp_le (tgt := 94) dX5_kindFor_86 (by decide) rfl (fun g40 => ?_) (fun g40 => ?_)
        · refine qs_iload dX5_kindFor_94 rfl rfl ?_
          refine qs_istore (fun v41 => [(4, .int v41), (3, .int v39), (6, .int v28), (0, .ref 0), (1, .int w1), (2, .int w2), (5, .int w5)]) dX5_kindFor_96 (by decide) (fun _ => rfl) rfl (fun v41 => ?_)
          refine qs_iinc (fun v42 => [(5, .int v42), (4, .int v41), (3, .int v39), (6, .int v28), (0, .ref 0), (1, .int w1), (2, .int w2)]) (1 : Int32) dX5_kindFor_98 rfl (by decide) (by decide) (fun _ => rfl) rfl (fun v42 => ?_)
          refine qs_goto (tgt := 37) dX5_kindFor_101 (by decide) ?_
          exact qs_sub [4, 5, 6, 2, 1, 0] rfl (ih w1 w2 v39 v41 v42 D29)
        · refine qs_iload dX5_kindFor_89 rfl rfl ?_
          refine qs_goto (tgt := 96) dX5_kindFor_91 (by decide) ?_
          refine qs_istore (fun v43 => [(4, .int v43), (3, .int v39), (6, .int v28), (0, .ref 0), (1, .int w1), (2, .int w2), (5, .int w5)]) dX5_kindFor_96 (by decide) (fun _ => rfl) rfl (fun v43 => ?_)
          refine qs_iinc (fun v44 => [(5, .int v44), (4, .int v43), (3, .int v39), (6, .int v28), (0, .ref 0), (1, .int w1), (2, .int w2)]) (1 : Int32) dX5_kindFor_98 rfl (by decide) (by decide) (fun _ => rfl) rfl (fun v44 => ?_)
          refine qs_goto (tgt := 37) dX5_kindFor_101 (by decide) ?_
          exact qs_sub [4, 5, 6, 2, 1, 0] rfl (ih w1 w2 v39 v43 v44 D29)
def fX5_kindFor (p1 : Int32) (p2 : Int32) (D : qs_D) : Option (Int32 × qs_D) := (qs_bind (fX5_isDish p1 D) (fun x2 D1 => (if x2 = 0 then (qs_bind (fX5_finds (-1000001 : Int32) D1) (fun x6 D5 => (some (x6, D5)))) else (qs_bind (fX5_in p2 (0 : Int32) (60 : Int32) D1) (fun x9 D8 => (if x9 = 0 then (qs_bind (fX5_finds (-1000001 : Int32) D8) (fun x46 D45 => (some (x46, D45)))) else (qs_bind (fX5_thinks D8) (fun x13 D12 => (qs_let (0 : Int32) (fun v15 => (qs_let (-1 : Int32) (fun v16 => (qs_let (0 : Int32) (fun v17 => (fX5_kindFor_L37 qs_F p1 p2 v15 v16 v17 D12)))))))))))))))
set_option maxRecDepth 20000 in
theorem kX5_kindFor {l : Launch} {E : qs_E} {A : Nat → Prop} {p1 : Int32} {p2 : Int32} {D : qs_D} {X : Int32 × qs_D}  (hX : fX5_kindFor p1 p2 D = some X) : qs_Ctr l E A shM yX5_kindFor mX5_kindFor 5 qs_ri [.ref 0, .int p1, .int p2] D X := by
  refine qs_enter (plainFor_of_name (by decide)) rfl (Nat.le_of_ble_eq_true rfl) ?_ hX
  show qs_VO l E A shM mX5_kindFor 5 qs_ri 0 [(0, .ref 0), (1, .int p1), (2, .int p2)] [] D (fX5_kindFor p1 p2 D)
  unfold fX5_kindFor
  refine qs_aload_n dX5_kindFor_0 rfl rfl rfl ?_
  refine qs_iload_n dX5_kindFor_1 rfl rfl rfl ?_
  refine qs_cV1i cfX5_68 (Nat.le_of_ble_eq_true rfl) rfl rfl (fun Y hY => kX5_isDish  hY) (Nat.le_of_ble_eq_true rfl) dX5_kindFor_2 rfl (fun x2 D1 g3 => ?_)
  refine qs_if_eq (tgt := 18) dX5_kindFor_5 (by decide) rfl (fun g4 => ?_) (fun g4 => ?_)
  · refine qs_aload_n dX5_kindFor_18 rfl rfl rfl ?_
    refine qs_ldc wcX5_34 dX5_kindFor_19 rfl ?_
    refine qs_cV1i cfX5_36 (Nat.le_of_ble_eq_true rfl) rfl rfl (fun Y hY => kX5_finds  hY) (Nat.le_of_ble_eq_true rfl) dX5_kindFor_21 rfl (fun x6 D5 g7 => ?_)
    exact qs_iret rfl dX5_kindFor_24
  · refine qs_iload_n dX5_kindFor_8 rfl rfl rfl ?_
    refine qs_iconst (0 : Int32) dX5_kindFor_9 (by decide) rfl ?_
    refine qs_bipush (60 : Int32) dX5_kindFor_10 (by decide) rfl ?_
    refine qs_cS3i cfX5_40 (Nat.le_of_ble_eq_true rfl) (fun Y hY => kX5_in  hY) (Nat.le_of_ble_eq_true rfl) dX5_kindFor_12 rfl (fun x9 D8 g10 => ?_)
    refine qs_if_ne (tgt := 25) dX5_kindFor_15 (by decide) rfl (fun g11 => ?_) (fun g11 => ?_)
    · refine qs_aload_n dX5_kindFor_18 rfl rfl rfl ?_
      refine qs_ldc wcX5_34 dX5_kindFor_19 rfl ?_
      refine qs_cV1i cfX5_36 (Nat.le_of_ble_eq_true rfl) rfl rfl (fun Y hY => kX5_finds  hY) (Nat.le_of_ble_eq_true rfl) dX5_kindFor_21 rfl (fun x46 D45 g47 => ?_)
      exact qs_iret rfl dX5_kindFor_24
    · refine qs_aload_n dX5_kindFor_25 rfl rfl rfl ?_
      refine qs_cV0v cfX5_133 (Nat.le_of_ble_eq_true rfl) rfl rfl (fun Y hY => kX5_thinks  hY) (Nat.le_of_ble_eq_true rfl) dX5_kindFor_26 rfl (fun x13 D12 g14 => ?_)
      refine qs_iconst (0 : Int32) dX5_kindFor_29 (by decide) rfl ?_
      refine qs_istore_n (fun v15 => [(3, .int v15), (0, .ref 0), (1, .int p1), (2, .int p2)]) dX5_kindFor_30 rfl (by decide) (fun _ => rfl) rfl (fun v15 => ?_)
      refine qs_iconst (-1 : Int32) dX5_kindFor_31 (by decide) rfl ?_
      refine qs_istore (fun v16 => [(4, .int v16), (3, .int v15), (0, .ref 0), (1, .int p1), (2, .int p2)]) dX5_kindFor_32 (by decide) (fun _ => rfl) rfl (fun v16 => ?_)
      refine qs_iconst (0 : Int32) dX5_kindFor_34 (by decide) rfl ?_
      refine qs_istore (fun v17 => [(5, .int v17), (4, .int v16), (3, .int v15), (0, .ref 0), (1, .int p1), (2, .int p2)]) dX5_kindFor_35 (by decide) (fun _ => rfl) rfl (fun v17 => ?_)
      exact qs_sub [3, 4, 5, 2, 1, 0] rfl (lX5_kindFor_L37 qs_F p1 p2 v15 v16 v17 D12)
abbrev mX5_best : qs_M := (RX5, cX5_best, 6, (some FieldType.int))
def fX5_best_L26 : Nat → Int32 → Int32 → Int32 → Int32 → qs_D → Option (Int32 × qs_D)
  | 0, _, _, _, _, _ => none
  | n + 1, w1, w2, w3, w4, D => (if (60 : Int32) < w4 then (qs_bind (fX5_putsBack D) (fun x13 D12 => (some (w2, D12)))) else (qs_bind (fX5_gives w1 D) (fun x16 D15 => (qs_let x16 (fun v18 => (if v18 ≤ w3 then (qs_let w2 (fun v20 => (if v18 ≤ w3 then (qs_let w3 (fun v22 => (qs_bind (fX5_goes D15) (fun x24 D23 => (qs_let (w4 + (1 : Int32)) (fun v26 => (fX5_best_L26 n w1 v20 v22 v26 D23))))))) else (qs_let v18 (fun v27 => (qs_bind (fX5_goes D15) (fun x29 D28 => (qs_let (w4 + (1 : Int32)) (fun v31 => (fX5_best_L26 n w1 v20 v27 v31 D28)))))))))) else (qs_let w4 (fun v32 => (if v18 ≤ w3 then (qs_let w3 (fun v34 => (qs_bind (fX5_goes D15) (fun x36 D35 => (qs_let (w4 + (1 : Int32)) (fun v38 => (fX5_best_L26 n w1 v32 v34 v38 D35))))))) else (qs_let v18 (fun v39 => (qs_bind (fX5_goes D15) (fun x41 D40 => (qs_let (w4 + (1 : Int32)) (fun v43 => (fX5_best_L26 n w1 v32 v39 v43 D40))))))))))))))))
set_option maxRecDepth 20000 in
theorem lX5_best_L26 {l : Launch} {E : qs_E} {A : Nat → Prop}  : ∀ (n : Nat) (w1 : Int32) (w2 : Int32) (w3 : Int32) (w4 : Int32) (D : qs_D), qs_VO l E A shM mX5_best 4 qs_ri 26 [(0, .ref 0), (1, .int w1), (2, .int w2), (3, .int w3), (4, .int w4)] [] D (fX5_best_L26 n w1 w2 w3 w4 D) := by
  intro n
  induction n with
  | zero => intro w1 w2 w3 w4 D; exact qs_none
  | succ n ih =>
    intro w1 w2 w3 w4 D
    unfold fX5_best_L26
    refine qs_iload dX5_best_26 rfl rfl ?_
    refine qs_bipush (60 : Int32) dX5_best_28 (by decide) rfl ?_
    refine qs_icmp_gt (tgt := 76) dX5_best_30 (by decide) rfl (fun g11 => ?_) (fun g11 => ?_)
    · refine qs_aload_n dX5_best_76 rfl rfl rfl ?_
      refine qs_cV0v cfX5_136 (Nat.le_of_ble_eq_true rfl) rfl rfl (fun Y hY => kX5_putsBack  hY) (Nat.le_of_ble_eq_true rfl) dX5_best_77 rfl (fun x13 D12 g14 => ?_)
      refine qs_iload_n dX5_best_80 rfl rfl rfl ?_
      exact qs_iret rfl dX5_best_81
    · refine qs_aload_n dX5_best_33 rfl rfl rfl ?_
      refine qs_iload_n dX5_best_34 rfl rfl rfl ?_
      refine qs_cV1i cfX5_83 (Nat.le_of_ble_eq_true rfl) rfl rfl (fun Y hY => kX5_gives  hY) (Nat.le_of_ble_eq_true rfl) dX5_best_35 rfl (fun x16 D15 g17 => ?_)
      refine qs_istore (fun v18 => [(5, .int v18), (0, .ref 0), (1, .int w1), (2, .int w2), (3, .int w3), (4, .int w4)]) dX5_best_38 (by decide) (fun _ => rfl) rfl (fun v18 => ?_)
      refine qs_iload dX5_best_40 rfl rfl ?_
      refine qs_iload_n dX5_best_42 rfl rfl rfl ?_
      refine qs_icmp_le (tgt := 51) dX5_best_43 (by decide) rfl (fun g19 => ?_) (fun g19 => ?_)
      · refine qs_iload_n dX5_best_51 rfl rfl rfl ?_
        refine qs_istore_n (fun v20 => [(2, .int v20), (5, .int v18), (0, .ref 0), (1, .int w1), (3, .int w3), (4, .int w4)]) dX5_best_52 rfl (by decide) (fun _ => rfl) rfl (fun v20 => ?_)
        refine qs_iload dX5_best_53 rfl rfl ?_
        refine qs_iload_n dX5_best_55 rfl rfl rfl ?_
        refine qs_icmp_le (tgt := 64) dX5_best_56 (by decide) rfl (fun g21 => ?_) (fun g21 => ?_)
        · refine qs_iload_n dX5_best_64 rfl rfl rfl ?_
          refine qs_istore_n (fun v22 => [(3, .int v22), (2, .int v20), (5, .int v18), (0, .ref 0), (1, .int w1), (4, .int w4)]) dX5_best_65 rfl (by decide) (fun _ => rfl) rfl (fun v22 => ?_)
          refine qs_aload_n dX5_best_66 rfl rfl rfl ?_
          refine qs_cV0v cfX5_111 (Nat.le_of_ble_eq_true rfl) rfl rfl (fun Y hY => kX5_goes  hY) (Nat.le_of_ble_eq_true rfl) dX5_best_67 rfl (fun x24 D23 g25 => ?_)
          refine qs_iinc (fun v26 => [(4, .int v26), (3, .int v22), (2, .int v20), (5, .int v18), (0, .ref 0), (1, .int w1)]) (1 : Int32) dX5_best_70 rfl (by decide) (by decide) (fun _ => rfl) rfl (fun v26 => ?_)
          refine qs_goto (tgt := 26) dX5_best_73 (by decide) ?_
          exact qs_sub [4, 5, 2, 1, 0] rfl (ih w1 v20 v22 v26 D23)
        · refine qs_iload dX5_best_59 rfl rfl ?_
          refine qs_goto (tgt := 65) dX5_best_61 (by decide) ?_
          refine qs_istore_n (fun v27 => [(3, .int v27), (2, .int v20), (5, .int v18), (0, .ref 0), (1, .int w1), (4, .int w4)]) dX5_best_65 rfl (by decide) (fun _ => rfl) rfl (fun v27 => ?_)
          refine qs_aload_n dX5_best_66 rfl rfl rfl ?_
          refine qs_cV0v cfX5_111 (Nat.le_of_ble_eq_true rfl) rfl rfl (fun Y hY => kX5_goes  hY) (Nat.le_of_ble_eq_true rfl) dX5_best_67 rfl (fun x29 D28 g30 => ?_)
          refine qs_iinc (fun v31 => [(4, .int v31), (3, .int v27), (2, .int v20), (5, .int v18), (0, .ref 0), (1, .int w1)]) (1 : Int32) dX5_best_70 rfl (by decide) (by decide) (fun _ => rfl) rfl (fun v31 => ?_)
          refine qs_goto (tgt := 26) dX5_best_73 (by decide) ?_
          exact qs_sub [4, 5, 2, 1, 0] rfl (ih w1 v20 v27 v31 D28)
      · refine qs_iload dX5_best_46 rfl rfl ?_
        refine qs_goto (tgt := 52) dX5_best_48 (by decide) ?_
        refine qs_istore_n (fun v32 => [(2, .int v32), (5, .int v18), (0, .ref 0), (1, .int w1), (3, .int w3), (4, .int w4)]) dX5_best_52 rfl (by decide) (fun _ => rfl) rfl (fun v32 => ?_)
        refine qs_iload dX5_best_53 rfl rfl ?_
        refine qs_iload_n dX5_best_55 rfl rfl rfl ?_
        refine qs_icmp_le (tgt := 64) dX5_best_56 (by decide) rfl (fun g33 => ?_) (fun g33 => ?_)
        · refine qs_iload_n dX5_best_64 rfl rfl rfl ?_
          refine qs_istore_n (fun v34 => [(3, .int v34), (2, .int v32), (5, .int v18), (0, .ref 0), (1, .int w1), (4, .int w4)]) dX5_best_65 rfl (by decide) (fun _ => rfl) rfl (fun v34 => ?_)
          refine qs_aload_n dX5_best_66 rfl rfl rfl ?_
          refine qs_cV0v cfX5_111 (Nat.le_of_ble_eq_true rfl) rfl rfl (fun Y hY => kX5_goes  hY) (Nat.le_of_ble_eq_true rfl) dX5_best_67 rfl (fun x36 D35 g37 => ?_)
          refine qs_iinc (fun v38 => [(4, .int v38), (3, .int v34), (2, .int v32), (5, .int v18), (0, .ref 0), (1, .int w1)]) (1 : Int32) dX5_best_70 rfl (by decide) (by decide) (fun _ => rfl) rfl (fun v38 => ?_)
          refine qs_goto (tgt := 26) dX5_best_73 (by decide) ?_
          exact qs_sub [4, 5, 2, 1, 0] rfl (ih w1 v32 v34 v38 D35)
        · refine qs_iload dX5_best_59 rfl rfl ?_
          refine qs_goto (tgt := 65) dX5_best_61 (by decide) ?_
          refine qs_istore_n (fun v39 => [(3, .int v39), (2, .int v32), (5, .int v18), (0, .ref 0), (1, .int w1), (4, .int w4)]) dX5_best_65 rfl (by decide) (fun _ => rfl) rfl (fun v39 => ?_)
          refine qs_aload_n dX5_best_66 rfl rfl rfl ?_
          refine qs_cV0v cfX5_111 (Nat.le_of_ble_eq_true rfl) rfl rfl (fun Y hY => kX5_goes  hY) (Nat.le_of_ble_eq_true rfl) dX5_best_67 rfl (fun x41 D40 g42 => ?_)
          refine qs_iinc (fun v43 => [(4, .int v43), (3, .int v39), (2, .int v32), (5, .int v18), (0, .ref 0), (1, .int w1)]) (1 : Int32) dX5_best_70 rfl (by decide) (by decide) (fun _ => rfl) rfl (fun v43 => ?_)
          refine qs_goto (tgt := 26) dX5_best_73 (by decide) ?_
          exact qs_sub [4, 5, 2, 1, 0] rfl (ih w1 v32 v39 v43 D40)
def fX5_best (p1 : Int32) (D : qs_D) : Option (Int32 × qs_D) := (qs_bind (fX5_isDish p1 D) (fun x2 D1 => (if x2 = 0 then (qs_bind (fX5_finds (-1000001 : Int32) D1) (fun x45 D44 => (some (x45, D44)))) else (qs_bind (fX5_thinks D1) (fun x6 D5 => (qs_let (0 : Int32) (fun v8 => (qs_let (-1 : Int32) (fun v9 => (qs_let (0 : Int32) (fun v10 => (fX5_best_L26 qs_F p1 v8 v9 v10 D5))))))))))))
set_option maxRecDepth 20000 in
theorem kX5_best {l : Launch} {E : qs_E} {A : Nat → Prop} {p1 : Int32} {D : qs_D} {X : Int32 × qs_D}  (hX : fX5_best p1 D = some X) : qs_Ctr l E A shM yX5_best mX5_best 4 qs_ri [.ref 0, .int p1] D X := by
  refine qs_enter (plainFor_of_name (by decide)) rfl (Nat.le_of_ble_eq_true rfl) ?_ hX
  show qs_VO l E A shM mX5_best 4 qs_ri 0 [(0, .ref 0), (1, .int p1)] [] D (fX5_best p1 D)
  unfold fX5_best
  refine qs_aload_n dX5_best_0 rfl rfl rfl ?_
  refine qs_iload_n dX5_best_1 rfl rfl rfl ?_
  refine qs_cV1i cfX5_68 (Nat.le_of_ble_eq_true rfl) rfl rfl (fun Y hY => kX5_isDish  hY) (Nat.le_of_ble_eq_true rfl) dX5_best_2 rfl (fun x2 D1 g3 => ?_)
  refine qs_if_ne (tgt := 15) dX5_best_5 (by decide) rfl (fun g4 => ?_) (fun g4 => ?_)
  · refine qs_aload_n dX5_best_8 rfl rfl rfl ?_
    refine qs_ldc wcX5_34 dX5_best_9 rfl ?_
    refine qs_cV1i cfX5_36 (Nat.le_of_ble_eq_true rfl) rfl rfl (fun Y hY => kX5_finds  hY) (Nat.le_of_ble_eq_true rfl) dX5_best_11 rfl (fun x45 D44 g46 => ?_)
    exact qs_iret rfl dX5_best_14
  · refine qs_aload_n dX5_best_15 rfl rfl rfl ?_
    refine qs_cV0v cfX5_133 (Nat.le_of_ble_eq_true rfl) rfl rfl (fun Y hY => kX5_thinks  hY) (Nat.le_of_ble_eq_true rfl) dX5_best_16 rfl (fun x6 D5 g7 => ?_)
    refine qs_iconst (0 : Int32) dX5_best_19 (by decide) rfl ?_
    refine qs_istore_n (fun v8 => [(2, .int v8), (0, .ref 0), (1, .int p1)]) dX5_best_20 rfl (by decide) (fun _ => rfl) rfl (fun v8 => ?_)
    refine qs_iconst (-1 : Int32) dX5_best_21 (by decide) rfl ?_
    refine qs_istore_n (fun v9 => [(3, .int v9), (2, .int v8), (0, .ref 0), (1, .int p1)]) dX5_best_22 rfl (by decide) (fun _ => rfl) rfl (fun v9 => ?_)
    refine qs_iconst (0 : Int32) dX5_best_23 (by decide) rfl ?_
    refine qs_istore (fun v10 => [(4, .int v10), (3, .int v9), (2, .int v8), (0, .ref 0), (1, .int p1)]) dX5_best_24 (by decide) (fun _ => rfl) rfl (fun v10 => ?_)
    exact qs_sub [3, 4, 2, 1, 0] rfl (lX5_best_L26 qs_F p1 v8 v9 v10 D5)
def fX5_isSafe_L12 : Nat → Int32 → Int32 → Int32 → Int32 → qs_D → Option (Int32 × qs_D)
  | 0, _, _, _, _, _ => none
  | n + 1, w1, w2, w3, w4, D => (qs_g (5 : Int32) 70 (if (D 1 (5 : Int32).toNatClampNeg) ≤ w4 then (qs_bind (fX5_goesFor w2 D) (fun x12 D11 => (qs_bind (fX5_setOf (3 : Int32) D11) (fun x15 D14 => (qs_bind (fX5_bits x15 D14) (fun x18 D17 => (if w3 < x18 then (qs_let (0 : Int32) (fun v21 => (qs_bind (fX5_putsBack D17) (fun x23 D22 => (qs_gb v21 (some (v21, D22))))))) else (qs_let (1 : Int32) (fun v25 => (qs_bind (fX5_putsBack D17) (fun x27 D26 => (qs_gb v25 (some (v25, D26)))))))))))))) else (qs_bind (fX5_it w4 (4 : Int32) D) (fun x30 D29 => (qs_bind (fX5_put w4 (4 : Int32) (x30 ||| ((w1 >>> (w4 &&& 31)) &&& (1 : Int32))) D29) (fun x33 D32 => (qs_let (w4 + (1 : Int32)) (fun v35 => (fX5_isSafe_L12 n w1 w2 w3 v35 D32)))))))))
set_option maxRecDepth 20000 in
theorem lX5_isSafe_L12 {l : Launch} {E : qs_E} {A : Nat → Prop}  : ∀ (n : Nat) (w1 : Int32) (w2 : Int32) (w3 : Int32) (w4 : Int32) (D : qs_D), qs_VO l E A shM mX5_isSafe 5 qs_ri 12 [(0, .ref 0), (1, .int w1), (2, .int w2), (3, .int w3), (4, .int w4)] [] D (fX5_isSafe_L12 n w1 w2 w3 w4 D) := by
  intro n
  induction n with
  | zero => intro w1 w2 w3 w4 D; exact qs_none
  | succ n ih =>
    intro w1 w2 w3 w4 D
    unfold fX5_isSafe_L12
    refine qs_iload dX5_isSafe_12 rfl rfl ?_
    refine qs_aload_n dX5_isSafe_14 rfl rfl rfl ?_
    refine qs_getR ffX5_9 rfl rfl dX5_isSafe_15 rfl ?_
    refine qs_iconst (5 : Int32) dX5_isSafe_18 (by decide) rfl ?_
    refine qs_iald rfl (by decide) dX5_isSafe_19 rfl (fun g9 => ?_)
    refine qs_icmp_ge (tgt := 50) dX5_isSafe_20 (by decide) rfl (fun g10 => ?_) (fun g10 => ?_)
    · refine qs_aload_n dX5_isSafe_50 rfl rfl rfl ?_
      refine qs_iload_n dX5_isSafe_51 rfl rfl rfl ?_
      refine qs_cV1v cfX5_114 (Nat.le_of_ble_eq_true rfl) rfl rfl (fun Y hY => kX5_goesFor  hY) (Nat.le_of_ble_eq_true rfl) dX5_isSafe_52 rfl (fun x12 D11 g13 => ?_)
      refine qs_aload_n dX5_isSafe_55 rfl rfl rfl ?_
      refine qs_iconst (3 : Int32) dX5_isSafe_56 (by decide) rfl ?_
      refine qs_cV1i cfX5_117 (Nat.le_of_ble_eq_true rfl) rfl rfl (fun Y hY => kX5_setOf  hY) (Nat.le_of_ble_eq_true rfl) dX5_isSafe_57 rfl (fun x15 D14 g16 => ?_)
      refine qs_cS1i cfX5_142 (Nat.le_of_ble_eq_true rfl) (fun Y hY => kX5_bits  hY) (Nat.le_of_ble_eq_true rfl) dX5_isSafe_60 rfl (fun x18 D17 g19 => ?_)
      refine qs_iload_n dX5_isSafe_63 rfl rfl rfl ?_
      refine qs_icmp_gt (tgt := 71) dX5_isSafe_64 (by decide) rfl (fun g20 => ?_) (fun g20 => ?_)
      · refine qs_iconst (0 : Int32) dX5_isSafe_71 (by decide) rfl ?_
        refine qs_istore (fun v21 => [(4, .int v21), (0, .ref 0), (1, .int w1), (2, .int w2), (3, .int w3)]) dX5_isSafe_72 (by decide) (fun _ => rfl) rfl (fun v21 => ?_)
        refine qs_aload_n dX5_isSafe_74 rfl rfl rfl ?_
        refine qs_cV0v cfX5_136 (Nat.le_of_ble_eq_true rfl) rfl rfl (fun Y hY => kX5_putsBack  hY) (Nat.le_of_ble_eq_true rfl) dX5_isSafe_75 rfl (fun x23 D22 g24 => ?_)
        refine qs_iload dX5_isSafe_78 rfl rfl ?_
        exact qs_zretB rfl dX5_isSafe_80
      · refine qs_iconst (1 : Int32) dX5_isSafe_67 (by decide) rfl ?_
        refine qs_goto (tgt := 72) dX5_isSafe_68 (by decide) ?_
        refine qs_istore (fun v25 => [(4, .int v25), (0, .ref 0), (1, .int w1), (2, .int w2), (3, .int w3)]) dX5_isSafe_72 (by decide) (fun _ => rfl) rfl (fun v25 => ?_)
        refine qs_aload_n dX5_isSafe_74 rfl rfl rfl ?_
        refine qs_cV0v cfX5_136 (Nat.le_of_ble_eq_true rfl) rfl rfl (fun Y hY => kX5_putsBack  hY) (Nat.le_of_ble_eq_true rfl) dX5_isSafe_75 rfl (fun x27 D26 g28 => ?_)
        refine qs_iload dX5_isSafe_78 rfl rfl ?_
        exact qs_zretB rfl dX5_isSafe_80
    · refine qs_aload_n dX5_isSafe_23 rfl rfl rfl ?_
      refine qs_iload dX5_isSafe_24 rfl rfl ?_
      refine qs_iconst (4 : Int32) dX5_isSafe_26 (by decide) rfl ?_
      refine qs_aload_n dX5_isSafe_27 rfl rfl rfl ?_
      refine qs_iload dX5_isSafe_28 rfl rfl ?_
      refine qs_iconst (4 : Int32) dX5_isSafe_30 (by decide) rfl ?_
      refine qs_cV2i cfX5_44 (Nat.le_of_ble_eq_true rfl) rfl rfl (fun Y hY => kX5_it  hY) (Nat.le_of_ble_eq_true rfl) dX5_isSafe_31 rfl (fun x30 D29 g31 => ?_)
      refine qs_iload_n dX5_isSafe_34 rfl rfl rfl ?_
      refine qs_iload dX5_isSafe_35 rfl rfl ?_
      refine qs_ishr dX5_isSafe_37 rfl ?_
      refine qs_iconst (1 : Int32) dX5_isSafe_38 (by decide) rfl ?_
      refine qs_iand dX5_isSafe_39 rfl ?_
      refine qs_ior dX5_isSafe_40 rfl ?_
      refine qs_cV3v cfX5_59 (Nat.le_of_ble_eq_true rfl) rfl rfl (fun Y hY => kX5_put  hY) (Nat.le_of_ble_eq_true rfl) dX5_isSafe_41 rfl (fun x33 D32 g34 => ?_)
      refine qs_iinc (fun v35 => [(4, .int v35), (0, .ref 0), (1, .int w1), (2, .int w2), (3, .int w3)]) (1 : Int32) dX5_isSafe_44 rfl (by decide) (by decide) (fun _ => rfl) rfl (fun v35 => ?_)
      refine qs_goto (tgt := 12) dX5_isSafe_47 (by decide) ?_
      exact qs_sub [1, 2, 3, 4, 0] rfl (ih w1 w2 w3 v35 D32)
def fX5_isSafe (p1 : Int32) (p2 : Int32) (D : qs_D) : Option (Int32 × qs_D) := (qs_bind (fX5_setOf (3 : Int32) D) (fun x2 D1 => (qs_bind (fX5_bits x2 D1) (fun x5 D4 => (qs_let x5 (fun v7 => (qs_let (0 : Int32) (fun v8 => (fX5_isSafe_L12 qs_F p1 p2 v7 v8 D4)))))))))
set_option maxRecDepth 20000 in
theorem kX5_isSafe {l : Launch} {E : qs_E} {A : Nat → Prop} {p1 : Int32} {p2 : Int32} {D : qs_D} {X : Int32 × qs_D}  (hX : fX5_isSafe p1 p2 D = some X) : qs_Ctr l E A shM yX5_isSafe mX5_isSafe 5 qs_ri [.ref 0, .int p1, .int p2] D X := by
  refine qs_enter (plainFor_of_name (by decide)) rfl (Nat.le_of_ble_eq_true rfl) ?_ hX
  show qs_VO l E A shM mX5_isSafe 5 qs_ri 0 [(0, .ref 0), (1, .int p1), (2, .int p2)] [] D (fX5_isSafe p1 p2 D)
  unfold fX5_isSafe
  refine qs_aload_n dX5_isSafe_0 rfl rfl rfl ?_
  refine qs_iconst (3 : Int32) dX5_isSafe_1 (by decide) rfl ?_
  refine qs_cV1i cfX5_117 (Nat.le_of_ble_eq_true rfl) rfl rfl (fun Y hY => kX5_setOf  hY) (Nat.le_of_ble_eq_true rfl) dX5_isSafe_2 rfl (fun x2 D1 g3 => ?_)
  refine qs_cS1i cfX5_142 (Nat.le_of_ble_eq_true rfl) (fun Y hY => kX5_bits  hY) (Nat.le_of_ble_eq_true rfl) dX5_isSafe_5 rfl (fun x5 D4 g6 => ?_)
  refine qs_istore_n (fun v7 => [(3, .int v7), (0, .ref 0), (1, .int p1), (2, .int p2)]) dX5_isSafe_8 rfl (by decide) (fun _ => rfl) rfl (fun v7 => ?_)
  refine qs_iconst (0 : Int32) dX5_isSafe_9 (by decide) rfl ?_
  refine qs_istore (fun v8 => [(4, .int v8), (3, .int v7), (0, .ref 0), (1, .int p1), (2, .int p2)]) dX5_isSafe_10 (by decide) (fun _ => rfl) rfl (fun v8 => ?_)
  exact qs_sub [2, 3, 4, 1, 0] rfl (lX5_isSafe_L12 qs_F p1 p2 v7 v8 D4)
abbrev mX5_takeOff : qs_M := (RX5, cX5_takeOff, 5, (some FieldType.int))
def fX5_takeOff_L25 : Nat → Int32 → Int32 → Int32 → qs_D → Option (Int32 × qs_D)
  | 0, _, _, _, _ => none
  | n + 1, w1, w2, w3, D => (qs_g (5 : Int32) 70 (if ((1 : Int32) <<< ((D 1 (5 : Int32).toNatClampNeg) &&& 31)) ≤ w3 then (qs_bind (fX5_orNone w2 D) (fun x13 D12 => (some (x13, D12)))) else (if w2 < 0 then (qs_let (1 : Int32) (fun v16 => (if v16 = 0 then (qs_let w2 (fun v18 => (qs_let (w3 + (1 : Int32)) (fun v19 => (fX5_takeOff_L25 n w1 v18 v19 D))))) else (qs_bind (fX5_isSafe w3 w1 D) (fun x21 D20 => (if x21 = 0 then (qs_let w2 (fun v24 => (qs_let (w3 + (1 : Int32)) (fun v25 => (fX5_takeOff_L25 n w1 v24 v25 D20))))) else (qs_let w3 (fun v26 => (qs_let (w3 + (1 : Int32)) (fun v27 => (fX5_takeOff_L25 n w1 v26 v27 D20))))))))))) else (qs_bind (fX5_bits w3 D) (fun x29 D28 => (qs_bind (fX5_bits w2 D28) (fun x32 D31 => (if x32 ≤ x29 then (qs_let (0 : Int32) (fun v35 => (if v35 = 0 then (qs_let w2 (fun v37 => (qs_let (w3 + (1 : Int32)) (fun v38 => (fX5_takeOff_L25 n w1 v37 v38 D31))))) else (qs_bind (fX5_isSafe w3 w1 D31) (fun x40 D39 => (if x40 = 0 then (qs_let w2 (fun v43 => (qs_let (w3 + (1 : Int32)) (fun v44 => (fX5_takeOff_L25 n w1 v43 v44 D39))))) else (qs_let w3 (fun v45 => (qs_let (w3 + (1 : Int32)) (fun v46 => (fX5_takeOff_L25 n w1 v45 v46 D39))))))))))) else (qs_let (1 : Int32) (fun v47 => (if v47 = 0 then (qs_let w2 (fun v49 => (qs_let (w3 + (1 : Int32)) (fun v50 => (fX5_takeOff_L25 n w1 v49 v50 D31))))) else (qs_bind (fX5_isSafe w3 w1 D31) (fun x52 D51 => (if x52 = 0 then (qs_let w2 (fun v55 => (qs_let (w3 + (1 : Int32)) (fun v56 => (fX5_takeOff_L25 n w1 v55 v56 D51))))) else (qs_let w3 (fun v57 => (qs_let (w3 + (1 : Int32)) (fun v58 => (fX5_takeOff_L25 n w1 v57 v58 D51)))))))))))))))))))
set_option maxRecDepth 20000 in
theorem lX5_takeOff_L25 {l : Launch} {E : qs_E} {A : Nat → Prop}  : ∀ (n : Nat) (w1 : Int32) (w2 : Int32) (w3 : Int32) (D : qs_D), qs_VO l E A shM mX5_takeOff 6 qs_ri 25 [(0, .ref 0), (1, .int w1), (2, .int w2), (3, .int w3)] [] D (fX5_takeOff_L25 n w1 w2 w3 D) := by
  intro n
  induction n with
  | zero => intro w1 w2 w3 D; exact qs_none
  | succ n ih =>
    intro w1 w2 w3 D
    unfold fX5_takeOff_L25
    refine qs_iload_n dX5_takeOff_25 rfl rfl rfl ?_
    refine qs_iconst (1 : Int32) dX5_takeOff_26 (by decide) rfl ?_
    refine qs_aload_n dX5_takeOff_27 rfl rfl rfl ?_
    refine qs_getR ffX5_9 rfl rfl dX5_takeOff_28 rfl ?_
    refine qs_iconst (5 : Int32) dX5_takeOff_31 (by decide) rfl ?_
    refine qs_iald rfl (by decide) dX5_takeOff_32 rfl (fun g10 => ?_)
    refine qs_ishl dX5_takeOff_33 rfl ?_
    refine qs_icmp_ge (tgt := 85) dX5_takeOff_34 (by decide) rfl (fun g11 => ?_) (fun g11 => ?_)
    · refine qs_aload_n dX5_takeOff_85 rfl rfl rfl ?_
      refine qs_iload_n dX5_takeOff_86 rfl rfl rfl ?_
      refine qs_cV1i cfX5_139 (Nat.le_of_ble_eq_true rfl) rfl rfl (fun Y hY => kX5_orNone  hY) (Nat.le_of_ble_eq_true rfl) dX5_takeOff_87 rfl (fun x13 D12 g14 => ?_)
      exact qs_iret rfl dX5_takeOff_90
    · refine qs_iload_n dX5_takeOff_37 rfl rfl rfl ?_
      refine qs_if_lt (tgt := 52) dX5_takeOff_38 (by decide) rfl (fun g15 => ?_) (fun g15 => ?_)
      · refine qs_iconst (1 : Int32) dX5_takeOff_52 (by decide) rfl ?_
        refine qs_goto (tgt := 57) dX5_takeOff_53 (by decide) ?_
        refine qs_istore (fun v16 => [(4, .int v16), (0, .ref 0), (1, .int w1), (2, .int w2), (3, .int w3)]) dX5_takeOff_57 (by decide) (fun _ => rfl) rfl (fun v16 => ?_)
        refine qs_iload dX5_takeOff_59 rfl rfl ?_
        refine qs_if_eq (tgt := 77) dX5_takeOff_61 (by decide) rfl (fun g17 => ?_) (fun g17 => ?_)
        · refine qs_iload_n dX5_takeOff_77 rfl rfl rfl ?_
          refine qs_istore_n (fun v18 => [(2, .int v18), (4, .int v16), (0, .ref 0), (1, .int w1), (3, .int w3)]) dX5_takeOff_78 rfl (by decide) (fun _ => rfl) rfl (fun v18 => ?_)
          refine qs_iinc (fun v19 => [(3, .int v19), (2, .int v18), (4, .int v16), (0, .ref 0), (1, .int w1)]) (1 : Int32) dX5_takeOff_79 rfl (by decide) (by decide) (fun _ => rfl) rfl (fun v19 => ?_)
          refine qs_goto (tgt := 25) dX5_takeOff_82 (by decide) ?_
          exact qs_sub [3, 4, 1, 0] rfl (ih w1 v18 v19 D)
        · refine qs_aload_n dX5_takeOff_64 rfl rfl rfl ?_
          refine qs_iload_n dX5_takeOff_65 rfl rfl rfl ?_
          refine qs_iload_n dX5_takeOff_66 rfl rfl rfl ?_
          refine qs_cV2i cfX5_145 (Nat.le_of_ble_eq_true rfl) rfl rfl (fun Y hY => kX5_isSafe  hY) (Nat.le_of_ble_eq_true rfl) dX5_takeOff_67 rfl (fun x21 D20 g22 => ?_)
          refine qs_if_eq (tgt := 77) dX5_takeOff_70 (by decide) rfl (fun g23 => ?_) (fun g23 => ?_)
          · refine qs_iload_n dX5_takeOff_77 rfl rfl rfl ?_
            refine qs_istore_n (fun v24 => [(2, .int v24), (4, .int v16), (0, .ref 0), (1, .int w1), (3, .int w3)]) dX5_takeOff_78 rfl (by decide) (fun _ => rfl) rfl (fun v24 => ?_)
            refine qs_iinc (fun v25 => [(3, .int v25), (2, .int v24), (4, .int v16), (0, .ref 0), (1, .int w1)]) (1 : Int32) dX5_takeOff_79 rfl (by decide) (by decide) (fun _ => rfl) rfl (fun v25 => ?_)
            refine qs_goto (tgt := 25) dX5_takeOff_82 (by decide) ?_
            exact qs_sub [3, 4, 1, 0] rfl (ih w1 v24 v25 D20)
          · refine qs_iload_n dX5_takeOff_73 rfl rfl rfl ?_
            refine qs_goto (tgt := 78) dX5_takeOff_74 (by decide) ?_
            refine qs_istore_n (fun v26 => [(2, .int v26), (4, .int v16), (0, .ref 0), (1, .int w1), (3, .int w3)]) dX5_takeOff_78 rfl (by decide) (fun _ => rfl) rfl (fun v26 => ?_)
            refine qs_iinc (fun v27 => [(3, .int v27), (2, .int v26), (4, .int v16), (0, .ref 0), (1, .int w1)]) (1 : Int32) dX5_takeOff_79 rfl (by decide) (by decide) (fun _ => rfl) rfl (fun v27 => ?_)
            refine qs_goto (tgt := 25) dX5_takeOff_82 (by decide) ?_
            exact qs_sub [3, 4, 1, 0] rfl (ih w1 v26 v27 D20)
      · refine qs_iload_n dX5_takeOff_41 rfl rfl rfl ?_
        refine qs_cS1i cfX5_142 (Nat.le_of_ble_eq_true rfl) (fun Y hY => kX5_bits  hY) (Nat.le_of_ble_eq_true rfl) dX5_takeOff_42 rfl (fun x29 D28 g30 => ?_)
        refine qs_iload_n dX5_takeOff_45 rfl rfl rfl ?_
        refine qs_cS1i cfX5_142 (Nat.le_of_ble_eq_true rfl) (fun Y hY => kX5_bits  hY) (Nat.le_of_ble_eq_true rfl) dX5_takeOff_46 rfl (fun x32 D31 g33 => ?_)
        refine qs_icmp_ge (tgt := 56) dX5_takeOff_49 (by decide) rfl (fun g34 => ?_) (fun g34 => ?_)
        · refine qs_iconst (0 : Int32) dX5_takeOff_56 (by decide) rfl ?_
          refine qs_istore (fun v35 => [(4, .int v35), (0, .ref 0), (1, .int w1), (2, .int w2), (3, .int w3)]) dX5_takeOff_57 (by decide) (fun _ => rfl) rfl (fun v35 => ?_)
          refine qs_iload dX5_takeOff_59 rfl rfl ?_
          refine qs_if_eq (tgt := 77) dX5_takeOff_61 (by decide) rfl (fun g36 => ?_) (fun g36 => ?_)
          · refine qs_iload_n dX5_takeOff_77 rfl rfl rfl ?_
            refine qs_istore_n (fun v37 => [(2, .int v37), (4, .int v35), (0, .ref 0), (1, .int w1), (3, .int w3)]) dX5_takeOff_78 rfl (by decide) (fun _ => rfl) rfl (fun v37 => ?_)
            refine qs_iinc (fun v38 => [(3, .int v38), (2, .int v37), (4, .int v35), (0, .ref 0), (1, .int w1)]) (1 : Int32) dX5_takeOff_79 rfl (by decide) (by decide) (fun _ => rfl) rfl (fun v38 => ?_)
            refine qs_goto (tgt := 25) dX5_takeOff_82 (by decide) ?_
            exact qs_sub [3, 4, 1, 0] rfl (ih w1 v37 v38 D31)
          · refine qs_aload_n dX5_takeOff_64 rfl rfl rfl ?_
            refine qs_iload_n dX5_takeOff_65 rfl rfl rfl ?_
            refine qs_iload_n dX5_takeOff_66 rfl rfl rfl ?_
            refine qs_cV2i cfX5_145 (Nat.le_of_ble_eq_true rfl) rfl rfl (fun Y hY => kX5_isSafe  hY) (Nat.le_of_ble_eq_true rfl) dX5_takeOff_67 rfl (fun x40 D39 g41 => ?_)
            refine qs_if_eq (tgt := 77) dX5_takeOff_70 (by decide) rfl (fun g42 => ?_) (fun g42 => ?_)
            · refine qs_iload_n dX5_takeOff_77 rfl rfl rfl ?_
              refine qs_istore_n (fun v43 => [(2, .int v43), (4, .int v35), (0, .ref 0), (1, .int w1), (3, .int w3)]) dX5_takeOff_78 rfl (by decide) (fun _ => rfl) rfl (fun v43 => ?_)
              refine qs_iinc (fun v44 => [(3, .int v44), (2, .int v43), (4, .int v35), (0, .ref 0), (1, .int w1)]) (1 : Int32) dX5_takeOff_79 rfl (by decide) (by decide) (fun _ => rfl) rfl (fun v44 => ?_)
              refine qs_goto (tgt := 25) dX5_takeOff_82 (by decide) ?_
              exact qs_sub [3, 4, 1, 0] rfl (ih w1 v43 v44 D39)
            · refine qs_iload_n dX5_takeOff_73 rfl rfl rfl ?_
              refine qs_goto (tgt := 78) dX5_takeOff_74 (by decide) ?_
              refine qs_istore_n (fun v45 => [(2, .int v45), (4, .int v35), (0, .ref 0), (1, .int w1), (3, .int w3)]) dX5_takeOff_78 rfl (by decide) (fun _ => rfl) rfl (fun v45 => ?_)
              refine qs_iinc (fun v46 => [(3, .int v46), (2, .int v45), (4, .int v35), (0, .ref 0), (1, .int w1)]) (1 : Int32) dX5_takeOff_79 rfl (by decide) (by decide) (fun _ => rfl) rfl (fun v46 => ?_)
              refine qs_goto (tgt := 25) dX5_takeOff_82 (by decide) ?_
              exact qs_sub [3, 4, 1, 0] rfl (ih w1 v45 v46 D39)
        · refine qs_iconst (1 : Int32) dX5_takeOff_52 (by decide) rfl ?_
          refine qs_goto (tgt := 57) dX5_takeOff_53 (by decide) ?_
          refine qs_istore (fun v47 => [(4, .int v47), (0, .ref 0), (1, .int w1), (2, .int w2), (3, .int w3)]) dX5_takeOff_57 (by decide) (fun _ => rfl) rfl (fun v47 => ?_)
          refine qs_iload dX5_takeOff_59 rfl rfl ?_
          refine qs_if_eq (tgt := 77) dX5_takeOff_61 (by decide) rfl (fun g48 => ?_) (fun g48 => ?_)
          · refine qs_iload_n dX5_takeOff_77 rfl rfl rfl ?_
            refine qs_istore_n (fun v49 => [(2, .int v49), (4, .int v47), (0, .ref 0), (1, .int w1), (3, .int w3)]) dX5_takeOff_78 rfl (by decide) (fun _ => rfl) rfl (fun v49 => ?_)
            refine qs_iinc (fun v50 => [(3, .int v50), (2, .int v49), (4, .int v47), (0, .ref 0), (1, .int w1)]) (1 : Int32) dX5_takeOff_79 rfl (by decide) (by decide) (fun _ => rfl) rfl (fun v50 => ?_)
            refine qs_goto (tgt := 25) dX5_takeOff_82 (by decide) ?_
            exact qs_sub [3, 4, 1, 0] rfl (ih w1 v49 v50 D31)
          · refine qs_aload_n dX5_takeOff_64 rfl rfl rfl ?_
            refine qs_iload_n dX5_takeOff_65 rfl rfl rfl ?_
            refine qs_iload_n dX5_takeOff_66 rfl rfl rfl ?_
            refine qs_cV2i cfX5_145 (Nat.le_of_ble_eq_true rfl) rfl rfl (fun Y hY => kX5_isSafe  hY) (Nat.le_of_ble_eq_true rfl) dX5_takeOff_67 rfl (fun x52 D51 g53 => ?_)
            refine qs_if_eq (tgt := 77) dX5_takeOff_70 (by decide) rfl (fun g54 => ?_) (fun g54 => ?_)
            · refine qs_iload_n dX5_takeOff_77 rfl rfl rfl ?_
              refine qs_istore_n (fun v55 => [(2, .int v55), (4, .int v47), (0, .ref 0), (1, .int w1), (3, .int w3)]) dX5_takeOff_78 rfl (by decide) (fun _ => rfl) rfl (fun v55 => ?_)
              refine qs_iinc (fun v56 => [(3, .int v56), (2, .int v55), (4, .int v47), (0, .ref 0), (1, .int w1)]) (1 : Int32) dX5_takeOff_79 rfl (by decide) (by decide) (fun _ => rfl) rfl (fun v56 => ?_)
              refine qs_goto (tgt := 25) dX5_takeOff_82 (by decide) ?_
              exact qs_sub [3, 4, 1, 0] rfl (ih w1 v55 v56 D51)
            · refine qs_iload_n dX5_takeOff_73 rfl rfl rfl ?_
              refine qs_goto (tgt := 78) dX5_takeOff_74 (by decide) ?_
              refine qs_istore_n (fun v57 => [(2, .int v57), (4, .int v47), (0, .ref 0), (1, .int w1), (3, .int w3)]) dX5_takeOff_78 rfl (by decide) (fun _ => rfl) rfl (fun v57 => ?_)
              refine qs_iinc (fun v58 => [(3, .int v58), (2, .int v57), (4, .int v47), (0, .ref 0), (1, .int w1)]) (1 : Int32) dX5_takeOff_79 rfl (by decide) (by decide) (fun _ => rfl) rfl (fun v58 => ?_)
              refine qs_goto (tgt := 25) dX5_takeOff_82 (by decide) ?_
              exact qs_sub [3, 4, 1, 0] rfl (ih w1 v57 v58 D51)
def fX5_takeOff (p1 : Int32) (D : qs_D) : Option (Int32 × qs_D) := (qs_bind (fX5_in p1 (0 : Int32) (20 : Int32) D) (fun x2 D1 => (if x2 = 0 then (qs_bind (fX5_finds (-1000001 : Int32) D1) (fun x60 D59 => (some (x60, D59)))) else (qs_bind (fX5_thinks D1) (fun x6 D5 => (qs_let (-1 : Int32) (fun v8 => (qs_let (0 : Int32) (fun v9 => (fX5_takeOff_L25 qs_F p1 v8 v9 D5))))))))))
set_option maxRecDepth 20000 in
theorem kX5_takeOff {l : Launch} {E : qs_E} {A : Nat → Prop} {p1 : Int32} {D : qs_D} {X : Int32 × qs_D}  (hX : fX5_takeOff p1 D = some X) : qs_Ctr l E A shM yX5_takeOff mX5_takeOff 6 qs_ri [.ref 0, .int p1] D X := by
  refine qs_enter (plainFor_of_name (by decide)) rfl (Nat.le_of_ble_eq_true rfl) ?_ hX
  show qs_VO l E A shM mX5_takeOff 6 qs_ri 0 [(0, .ref 0), (1, .int p1)] [] D (fX5_takeOff p1 D)
  unfold fX5_takeOff
  refine qs_iload_n dX5_takeOff_0 rfl rfl rfl ?_
  refine qs_iconst (0 : Int32) dX5_takeOff_1 (by decide) rfl ?_
  refine qs_bipush (20 : Int32) dX5_takeOff_2 (by decide) rfl ?_
  refine qs_cS3i cfX5_40 (Nat.le_of_ble_eq_true rfl) (fun Y hY => kX5_in  hY) (Nat.le_of_ble_eq_true rfl) dX5_takeOff_4 rfl (fun x2 D1 g3 => ?_)
  refine qs_if_ne (tgt := 17) dX5_takeOff_7 (by decide) rfl (fun g4 => ?_) (fun g4 => ?_)
  · refine qs_aload_n dX5_takeOff_10 rfl rfl rfl ?_
    refine qs_ldc wcX5_34 dX5_takeOff_11 rfl ?_
    refine qs_cV1i cfX5_36 (Nat.le_of_ble_eq_true rfl) rfl rfl (fun Y hY => kX5_finds  hY) (Nat.le_of_ble_eq_true rfl) dX5_takeOff_13 rfl (fun x60 D59 g61 => ?_)
    exact qs_iret rfl dX5_takeOff_16
  · refine qs_aload_n dX5_takeOff_17 rfl rfl rfl ?_
    refine qs_cV0v cfX5_133 (Nat.le_of_ble_eq_true rfl) rfl rfl (fun Y hY => kX5_thinks  hY) (Nat.le_of_ble_eq_true rfl) dX5_takeOff_18 rfl (fun x6 D5 g7 => ?_)
    refine qs_iconst (-1 : Int32) dX5_takeOff_21 (by decide) rfl ?_
    refine qs_istore_n (fun v8 => [(2, .int v8), (0, .ref 0), (1, .int p1)]) dX5_takeOff_22 rfl (by decide) (fun _ => rfl) rfl (fun v8 => ?_)
    refine qs_iconst (0 : Int32) dX5_takeOff_23 (by decide) rfl ?_
    refine qs_istore_n (fun v9 => [(3, .int v9), (2, .int v8), (0, .ref 0), (1, .int p1)]) dX5_takeOff_24 rfl (by decide) (fun _ => rfl) rfl (fun v9 => ?_)
    exact qs_sub [2, 3, 1, 0] rfl (lX5_takeOff_L25 qs_F p1 v8 v9 D5)
def fX5_isSheet (p0 : Int32) (D : qs_D) : Option (Int32 × qs_D) := (qs_bind (fX5_in p0 (0 : Int32) (3 : Int32) D) (fun x2 D1 => (qs_gb x2 (some (x2, D1)))))
set_option maxRecDepth 20000 in
theorem kX5_isSheet {l : Launch} {E : qs_E} {A : Nat → Prop} {p0 : Int32} {D : qs_D} {X : Int32 × qs_D}  (hX : fX5_isSheet p0 D = some X) : qs_Ctr l E A shM yX5_isSheet mX5_isSheet 1 qs_ri [.int p0] D X := by
  refine qs_enter (plainFor_of_name (by decide)) rfl (Nat.le_of_ble_eq_true rfl) ?_ hX
  show qs_VO l E A shM mX5_isSheet 1 qs_ri 0 [(0, .int p0)] [] D (fX5_isSheet p0 D)
  unfold fX5_isSheet
  refine qs_iload_n dX5_isSheet_0 rfl rfl rfl ?_
  refine qs_iconst (0 : Int32) dX5_isSheet_1 (by decide) rfl ?_
  refine qs_iconst (3 : Int32) dX5_isSheet_2 (by decide) rfl ?_
  refine qs_cS3i cfX5_40 (Nat.le_of_ble_eq_true rfl) (fun Y hY => kX5_in  hY) (Nat.le_of_ble_eq_true rfl) dX5_isSheet_3 rfl (fun x2 D1 g3 => ?_)
  exact qs_zretB rfl dX5_isSheet_6
def fX5_notThere (p1 : Int32) (D : qs_D) : Option (Int32 × qs_D) := (qs_bind (fX5_isSheet p1 D) (fun x2 D1 => (if x2 = 0 then (some ((-1000001 : Int32), D1)) else (qs_g p1 4 (if (D1 5 p1.toNatClampNeg) = 0 then (some ((-1000006 : Int32), D1)) else (some ((0 : Int32), D1)))))))
set_option maxRecDepth 20000 in
theorem kX5_notThere {l : Launch} {E : qs_E} {A : Nat → Prop} {p1 : Int32} {D : qs_D} {X : Int32 × qs_D}  (hX : fX5_notThere p1 D = some X) : qs_Ctr l E A shM yX5_notThere mX5_notThere 2 qs_ri [.ref 0, .int p1] D X := by
  refine qs_enter (plainFor_of_name (by decide)) rfl (Nat.le_of_ble_eq_true rfl) ?_ hX
  show qs_VO l E A shM mX5_notThere 2 qs_ri 0 [(0, .ref 0), (1, .int p1)] [] D (fX5_notThere p1 D)
  unfold fX5_notThere
  refine qs_iload_n dX5_notThere_0 rfl rfl rfl ?_
  refine qs_cS1i cfX5_149 (Nat.le_of_ble_eq_true rfl) (fun Y hY => kX5_isSheet  hY) (Nat.le_of_ble_eq_true rfl) dX5_notThere_1 rfl (fun x2 D1 g3 => ?_)
  refine qs_if_ne (tgt := 12) dX5_notThere_4 (by decide) rfl (fun g4 => ?_) (fun g4 => ?_)
  · refine qs_ldc wcX5_34 dX5_notThere_7 rfl ?_
    refine qs_goto (tgt := 27) dX5_notThere_9 (by decide) ?_
    exact qs_iret rfl dX5_notThere_27
  · refine qs_aload_n dX5_notThere_12 rfl rfl rfl ?_
    refine qs_getR ffX5_22 rfl rfl dX5_notThere_13 rfl ?_
    refine qs_iload_n dX5_notThere_16 rfl rfl rfl ?_
    refine qs_iald rfl (by decide) dX5_notThere_17 rfl (fun g5 => ?_)
    refine qs_if_ne (tgt := 26) dX5_notThere_18 (by decide) rfl (fun g6 => ?_) (fun g6 => ?_)
    · refine qs_ldc wcX5_152 dX5_notThere_21 rfl ?_
      refine qs_goto (tgt := 27) dX5_notThere_23 (by decide) ?_
      exact qs_iret rfl dX5_notThere_27
    · refine qs_iconst (0 : Int32) dX5_notThere_26 (by decide) rfl ?_
      exact qs_iret rfl dX5_notThere_27
def fX5_notAsked (p1 : Int32) (p2 : Int32) (D : qs_D) : Option (Int32 × qs_D) := (qs_bind (fX5_notThere p1 D) (fun x2 D1 => (qs_let x2 (fun v4 => (if v4 = 0 then (qs_bind (fX5_isDish p2 D1) (fun x7 D6 => (if x7 = 0 then (some ((-1000001 : Int32), D6)) else (some (v4, D6))))) else (some (v4, D1)))))))
set_option maxRecDepth 20000 in
theorem kX5_notAsked {l : Launch} {E : qs_E} {A : Nat → Prop} {p1 : Int32} {p2 : Int32} {D : qs_D} {X : Int32 × qs_D}  (hX : fX5_notAsked p1 p2 D = some X) : qs_Ctr l E A shM yX5_notAsked mX5_notAsked 3 qs_ri [.ref 0, .int p1, .int p2] D X := by
  refine qs_enter (plainFor_of_name (by decide)) rfl (Nat.le_of_ble_eq_true rfl) ?_ hX
  show qs_VO l E A shM mX5_notAsked 3 qs_ri 0 [(0, .ref 0), (1, .int p1), (2, .int p2)] [] D (fX5_notAsked p1 p2 D)
  unfold fX5_notAsked
  refine qs_aload_n dX5_notAsked_0 rfl rfl rfl ?_
  refine qs_iload_n dX5_notAsked_1 rfl rfl rfl ?_
  refine qs_cV1i cfX5_153 (Nat.le_of_ble_eq_true rfl) rfl rfl (fun Y hY => kX5_notThere  hY) (Nat.le_of_ble_eq_true rfl) dX5_notAsked_2 rfl (fun x2 D1 g3 => ?_)
  refine qs_istore_n (fun v4 => [(3, .int v4), (0, .ref 0), (1, .int p1), (2, .int p2)]) dX5_notAsked_5 rfl (by decide) (fun _ => rfl) rfl (fun v4 => ?_)
  refine qs_iload_n dX5_notAsked_6 rfl rfl rfl ?_
  refine qs_if_ne (tgt := 23) dX5_notAsked_7 (by decide) rfl (fun g5 => ?_) (fun g5 => ?_)
  · refine qs_aload_n dX5_notAsked_10 rfl rfl rfl ?_
    refine qs_iload_n dX5_notAsked_11 rfl rfl rfl ?_
    refine qs_cV1i cfX5_68 (Nat.le_of_ble_eq_true rfl) rfl rfl (fun Y hY => kX5_isDish  hY) (Nat.le_of_ble_eq_true rfl) dX5_notAsked_12 rfl (fun x7 D6 g8 => ?_)
    refine qs_if_ne (tgt := 23) dX5_notAsked_15 (by decide) rfl (fun g9 => ?_) (fun g9 => ?_)
    · refine qs_ldc wcX5_34 dX5_notAsked_18 rfl ?_
      refine qs_goto (tgt := 24) dX5_notAsked_20 (by decide) ?_
      exact qs_iret rfl dX5_notAsked_24
    · refine qs_iload_n dX5_notAsked_23 rfl rfl rfl ?_
      exact qs_iret rfl dX5_notAsked_24
  · refine qs_iload_n dX5_notAsked_23 rfl rfl rfl ?_
    exact qs_iret rfl dX5_notAsked_24
def fX5_isTold_L5 : Nat → Int32 → Int32 → Int32 → Int32 → qs_D → Option (Int32 × qs_D)
  | 0, _, _, _, _, _ => none
  | n + 1, w1, w2, w3, w4, D => (qs_g w1 4 (if (D 6 w1.toNatClampNeg) ≤ w4 then (qs_bind (fX5_putsBack D) (fun x6 D5 => (qs_gb w3 (some (w3, D5))))) else (if w3 = 0 then (qs_bind (fX5_putsBack D) (fun x10 D9 => (qs_gb w3 (some (w3, D9))))) else (qs_g (((40 : Int32) * w1) + w4) 160 (qs_let (D 7 (((40 : Int32) * w1) + w4).toNatClampNeg) (fun v13 => (if v13 = (-1 : Int32) then (qs_let (1 : Int32) (fun v15 => (qs_bind (fX5_goes D) (fun x17 D16 => (qs_let (w4 + (1 : Int32)) (fun v19 => (fX5_isTold_L5 n w1 w2 v15 v19 D16))))))) else (qs_bind (fX5_it w2 (1 : Int32) D) (fun x21 D20 => (if v13 = x21 then (qs_let (1 : Int32) (fun v29 => (qs_bind (fX5_goes D20) (fun x31 D30 => (qs_let (w4 + (1 : Int32)) (fun v33 => (fX5_isTold_L5 n w1 w2 v29 v33 D30))))))) else (qs_let (0 : Int32) (fun v24 => (qs_bind (fX5_goes D20) (fun x26 D25 => (qs_let (w4 + (1 : Int32)) (fun v28 => (fX5_isTold_L5 n w1 w2 v24 v28 D25)))))))))))))))))
set_option maxRecDepth 20000 in
theorem lX5_isTold_L5 {l : Launch} {E : qs_E} {A : Nat → Prop}  : ∀ (n : Nat) (w1 : Int32) (w2 : Int32) (w3 : Int32) (w4 : Int32) (D : qs_D), qs_VO l E A shM mX5_isTold 4 qs_ri 5 [(0, .ref 0), (1, .int w1), (2, .int w2), (3, .int w3), (4, .int w4)] [] D (fX5_isTold_L5 n w1 w2 w3 w4 D) := by
  intro n
  induction n with
  | zero => intro w1 w2 w3 w4 D; exact qs_none
  | succ n ih =>
    intro w1 w2 w3 w4 D
    unfold fX5_isTold_L5
    refine qs_iload dX5_isTold_5 rfl rfl ?_
    refine qs_aload_n dX5_isTold_7 rfl rfl rfl ?_
    refine qs_getR ffX5_25 rfl rfl dX5_isTold_8 rfl ?_
    refine qs_iload_n dX5_isTold_11 rfl rfl rfl ?_
    refine qs_iald rfl (by decide) dX5_isTold_12 rfl (fun g3 => ?_)
    refine qs_icmp_ge (tgt := 67) dX5_isTold_13 (by decide) rfl (fun g4 => ?_) (fun g4 => ?_)
    · refine qs_aload_n dX5_isTold_67 rfl rfl rfl ?_
      refine qs_cV0v cfX5_136 (Nat.le_of_ble_eq_true rfl) rfl rfl (fun Y hY => kX5_putsBack  hY) (Nat.le_of_ble_eq_true rfl) dX5_isTold_68 rfl (fun x6 D5 g7 => ?_)
      refine qs_iload_n dX5_isTold_71 rfl rfl rfl ?_
      exact qs_zretB rfl dX5_isTold_72
    · refine qs_iload_n dX5_isTold_16 rfl rfl rfl ?_
      refine qs_if_eq (tgt := 67) dX5_isTold_17 (by decide) rfl (fun g8 => ?_) (fun g8 => ?_)
      · refine qs_aload_n dX5_isTold_67 rfl rfl rfl ?_
        refine qs_cV0v cfX5_136 (Nat.le_of_ble_eq_true rfl) rfl rfl (fun Y hY => kX5_putsBack  hY) (Nat.le_of_ble_eq_true rfl) dX5_isTold_68 rfl (fun x10 D9 g11 => ?_)
        refine qs_iload_n dX5_isTold_71 rfl rfl rfl ?_
        exact qs_zretB rfl dX5_isTold_72
      · refine qs_aload_n dX5_isTold_20 rfl rfl rfl ?_
        refine qs_getR ffX5_28 rfl rfl dX5_isTold_21 rfl ?_
        refine qs_bipush (40 : Int32) dX5_isTold_24 (by decide) rfl ?_
        refine qs_iload_n dX5_isTold_26 rfl rfl rfl ?_
        refine qs_imul dX5_isTold_27 rfl ?_
        refine qs_iload dX5_isTold_28 rfl rfl ?_
        refine qs_iadd dX5_isTold_30 rfl ?_
        refine qs_iald rfl (by decide) dX5_isTold_31 rfl (fun g12 => ?_)
        refine qs_istore (fun v13 => [(5, .int v13), (0, .ref 0), (1, .int w1), (2, .int w2), (3, .int w3), (4, .int w4)]) dX5_isTold_32 (by decide) (fun _ => rfl) rfl (fun v13 => ?_)
        refine qs_iload dX5_isTold_34 rfl rfl ?_
        refine qs_iconst (-1 : Int32) dX5_isTold_36 (by decide) rfl ?_
        refine qs_icmp_eq (tgt := 51) dX5_isTold_37 (by decide) rfl (fun g14 => ?_) (fun g14 => ?_)
        · refine qs_iconst (1 : Int32) dX5_isTold_51 (by decide) rfl ?_
          refine qs_goto (tgt := 56) dX5_isTold_52 (by decide) ?_
          refine qs_istore_n (fun v15 => [(3, .int v15), (5, .int v13), (0, .ref 0), (1, .int w1), (2, .int w2), (4, .int w4)]) dX5_isTold_56 rfl (by decide) (fun _ => rfl) rfl (fun v15 => ?_)
          refine qs_aload_n dX5_isTold_57 rfl rfl rfl ?_
          refine qs_cV0v cfX5_111 (Nat.le_of_ble_eq_true rfl) rfl rfl (fun Y hY => kX5_goes  hY) (Nat.le_of_ble_eq_true rfl) dX5_isTold_58 rfl (fun x17 D16 g18 => ?_)
          refine qs_iinc (fun v19 => [(4, .int v19), (3, .int v15), (5, .int v13), (0, .ref 0), (1, .int w1), (2, .int w2)]) (1 : Int32) dX5_isTold_61 rfl (by decide) (by decide) (fun _ => rfl) rfl (fun v19 => ?_)
          refine qs_goto (tgt := 5) dX5_isTold_64 (by decide) ?_
          exact qs_sub [3, 4, 5, 1, 0] rfl (ih w1 w2 v15 v19 D16)
        · refine qs_iload dX5_isTold_40 rfl rfl ?_
          refine qs_aload_n dX5_isTold_42 rfl rfl rfl ?_
          refine qs_iload_n dX5_isTold_43 rfl rfl rfl ?_
          refine qs_iconst (1 : Int32) dX5_isTold_44 (by decide) rfl ?_
          refine qs_cV2i cfX5_44 (Nat.le_of_ble_eq_true rfl) rfl rfl (fun Y hY => kX5_it  hY) (Nat.le_of_ble_eq_true rfl) dX5_isTold_45 rfl (fun x21 D20 g22 => ?_)
          refine qs_icmp_ne (tgt := 55) dX5_isTold_48 (by decide) rfl (fun g23 => ?_) (fun g23 => ?_)
          · refine qs_iconst (1 : Int32) dX5_isTold_51 (by decide) rfl ?_
            refine qs_goto (tgt := 56) dX5_isTold_52 (by decide) ?_
            refine qs_istore_n (fun v29 => [(3, .int v29), (5, .int v13), (0, .ref 0), (1, .int w1), (2, .int w2), (4, .int w4)]) dX5_isTold_56 rfl (by decide) (fun _ => rfl) rfl (fun v29 => ?_)
            refine qs_aload_n dX5_isTold_57 rfl rfl rfl ?_
            refine qs_cV0v cfX5_111 (Nat.le_of_ble_eq_true rfl) rfl rfl (fun Y hY => kX5_goes  hY) (Nat.le_of_ble_eq_true rfl) dX5_isTold_58 rfl (fun x31 D30 g32 => ?_)
            refine qs_iinc (fun v33 => [(4, .int v33), (3, .int v29), (5, .int v13), (0, .ref 0), (1, .int w1), (2, .int w2)]) (1 : Int32) dX5_isTold_61 rfl (by decide) (by decide) (fun _ => rfl) rfl (fun v33 => ?_)
            refine qs_goto (tgt := 5) dX5_isTold_64 (by decide) ?_
            exact qs_sub [3, 4, 5, 1, 0] rfl (ih w1 w2 v29 v33 D30)
          · refine qs_iconst (0 : Int32) dX5_isTold_55 (by decide) rfl ?_
            refine qs_istore_n (fun v24 => [(3, .int v24), (5, .int v13), (0, .ref 0), (1, .int w1), (2, .int w2), (4, .int w4)]) dX5_isTold_56 rfl (by decide) (fun _ => rfl) rfl (fun v24 => ?_)
            refine qs_aload_n dX5_isTold_57 rfl rfl rfl ?_
            refine qs_cV0v cfX5_111 (Nat.le_of_ble_eq_true rfl) rfl rfl (fun Y hY => kX5_goes  hY) (Nat.le_of_ble_eq_true rfl) dX5_isTold_58 rfl (fun x26 D25 g27 => ?_)
            refine qs_iinc (fun v28 => [(4, .int v28), (3, .int v24), (5, .int v13), (0, .ref 0), (1, .int w1), (2, .int w2)]) (1 : Int32) dX5_isTold_61 rfl (by decide) (by decide) (fun _ => rfl) rfl (fun v28 => ?_)
            refine qs_goto (tgt := 5) dX5_isTold_64 (by decide) ?_
            exact qs_sub [3, 4, 5, 1, 0] rfl (ih w1 w2 v24 v28 D25)
def fX5_isTold (p1 : Int32) (p2 : Int32) (D : qs_D) : Option (Int32 × qs_D) := (qs_let (1 : Int32) (fun v1 => (qs_let (0 : Int32) (fun v2 => (fX5_isTold_L5 qs_F p1 p2 v1 v2 D)))))
set_option maxRecDepth 20000 in
theorem kX5_isTold {l : Launch} {E : qs_E} {A : Nat → Prop} {p1 : Int32} {p2 : Int32} {D : qs_D} {X : Int32 × qs_D}  (hX : fX5_isTold p1 p2 D = some X) : qs_Ctr l E A shM yX5_isTold mX5_isTold 4 qs_ri [.ref 0, .int p1, .int p2] D X := by
  refine qs_enter (plainFor_of_name (by decide)) rfl (Nat.le_of_ble_eq_true rfl) ?_ hX
  show qs_VO l E A shM mX5_isTold 4 qs_ri 0 [(0, .ref 0), (1, .int p1), (2, .int p2)] [] D (fX5_isTold p1 p2 D)
  unfold fX5_isTold
  refine qs_iconst (1 : Int32) dX5_isTold_0 (by decide) rfl ?_
  refine qs_istore_n (fun v1 => [(3, .int v1), (0, .ref 0), (1, .int p1), (2, .int p2)]) dX5_isTold_1 rfl (by decide) (fun _ => rfl) rfl (fun v1 => ?_)
  refine qs_iconst (0 : Int32) dX5_isTold_2 (by decide) rfl ?_
  refine qs_istore (fun v2 => [(4, .int v2), (3, .int v1), (0, .ref 0), (1, .int p1), (2, .int p2)]) dX5_isTold_3 (by decide) (fun _ => rfl) rfl (fun v2 => ?_)
  exact qs_sub [2, 3, 4, 1, 0] rfl (lX5_isTold_L5 qs_F p1 p2 v1 v2 D)
abbrev mX5_fits : qs_M := (RX5, cX5_fits, 6, (some FieldType.int))
def fX5_fits_L27 : Nat → Int32 → Int32 → Int32 → Int32 → Int32 → qs_D → Option (Int32 × qs_D)
  | 0, _, _, _, _, _, _ => none
  | n + 1, w1, w2, w3, w4, w5, D => (if (99 : Int32) < w5 then (some (w4, D)) else (qs_g (1 : Int32) 70 (qs_let (qs_u D 1 (1 : Int32).toNatClampNeg w5) (fun D12 => (qs_bind (fX5_isTold w1 w2 D12) (fun x14 D13 => (if x14 = 0 then (qs_let (w4 + (0 : Int32)) (fun v17 => (qs_let (w5 + (1 : Int32)) (fun v18 => (fX5_fits_L27 n w1 w2 w3 v17 v18 D13))))) else (qs_let (w4 + (1 : Int32)) (fun v19 => (qs_let (w5 + (1 : Int32)) (fun v20 => (fX5_fits_L27 n w1 w2 w3 v19 v20 D13))))))))))))
set_option maxRecDepth 20000 in
theorem lX5_fits_L27 {l : Launch} {E : qs_E} {A : Nat → Prop}  : ∀ (n : Nat) (w1 : Int32) (w2 : Int32) (w3 : Int32) (w4 : Int32) (w5 : Int32) (D : qs_D), qs_VO l E A shM mX5_fits 5 qs_ri 27 [(0, .ref 0), (1, .int w1), (2, .int w2), (3, .int w3), (4, .int w4), (5, .int w5)] [] D (fX5_fits_L27 n w1 w2 w3 w4 w5 D) := by
  intro n
  induction n with
  | zero => intro w1 w2 w3 w4 w5 D; exact qs_none
  | succ n ih =>
    intro w1 w2 w3 w4 w5 D
    unfold fX5_fits_L27
    refine qs_iload dX5_fits_27 rfl rfl ?_
    refine qs_bipush (99 : Int32) dX5_fits_29 (by decide) rfl ?_
    refine qs_icmp_gt (tgt := 67) dX5_fits_31 (by decide) rfl (fun g11 => ?_) (fun g11 => ?_)
    · refine qs_iload dX5_fits_67 rfl rfl ?_
      exact qs_iret rfl dX5_fits_69
    · refine qs_aload_n dX5_fits_34 rfl rfl rfl ?_
      refine qs_getR ffX5_9 rfl rfl dX5_fits_35 rfl ?_
      refine qs_iconst (1 : Int32) dX5_fits_38 (by decide) rfl ?_
      refine qs_iload dX5_fits_39 rfl rfl ?_
      refine qs_iast rfl (by decide) dX5_fits_41 rfl (fun D12 => ?_)
      refine qs_iload dX5_fits_42 rfl rfl ?_
      refine qs_aload_n dX5_fits_44 rfl rfl rfl ?_
      refine qs_iload_n dX5_fits_45 rfl rfl rfl ?_
      refine qs_iload_n dX5_fits_46 rfl rfl rfl ?_
      refine qs_cV2i cfX5_159 (Nat.le_of_ble_eq_true rfl) rfl rfl (fun Y hY => kX5_isTold  hY) (Nat.le_of_ble_eq_true rfl) dX5_fits_47 rfl (fun x14 D13 g15 => ?_)
      refine qs_if_eq (tgt := 57) dX5_fits_50 (by decide) rfl (fun g16 => ?_) (fun g16 => ?_)
      · refine qs_iconst (0 : Int32) dX5_fits_57 (by decide) rfl ?_
        refine qs_iadd dX5_fits_58 rfl ?_
        refine qs_istore (fun v17 => [(4, .int v17), (0, .ref 0), (1, .int w1), (2, .int w2), (3, .int w3), (5, .int w5)]) dX5_fits_59 (by decide) (fun _ => rfl) rfl (fun v17 => ?_)
        refine qs_iinc (fun v18 => [(5, .int v18), (4, .int v17), (0, .ref 0), (1, .int w1), (2, .int w2), (3, .int w3)]) (1 : Int32) dX5_fits_61 rfl (by decide) (by decide) (fun _ => rfl) rfl (fun v18 => ?_)
        refine qs_goto (tgt := 27) dX5_fits_64 (by decide) ?_
        exact qs_sub [2, 3, 4, 5, 1, 0] rfl (ih w1 w2 w3 v17 v18 D13)
      · refine qs_iconst (1 : Int32) dX5_fits_53 (by decide) rfl ?_
        refine qs_goto (tgt := 58) dX5_fits_54 (by decide) ?_
        refine qs_iadd dX5_fits_58 rfl ?_
        refine qs_istore (fun v19 => [(4, .int v19), (0, .ref 0), (1, .int w1), (2, .int w2), (3, .int w3), (5, .int w5)]) dX5_fits_59 (by decide) (fun _ => rfl) rfl (fun v19 => ?_)
        refine qs_iinc (fun v20 => [(5, .int v20), (4, .int v19), (0, .ref 0), (1, .int w1), (2, .int w2), (3, .int w3)]) (1 : Int32) dX5_fits_61 rfl (by decide) (by decide) (fun _ => rfl) rfl (fun v20 => ?_)
        refine qs_goto (tgt := 27) dX5_fits_64 (by decide) ?_
        exact qs_sub [2, 3, 4, 5, 1, 0] rfl (ih w1 w2 w3 v19 v20 D13)
def fX5_fits (p1 : Int32) (p2 : Int32) (D : qs_D) : Option (Int32 × qs_D) := (qs_bind (fX5_notAsked p1 p2 D) (fun x2 D1 => (qs_let x2 (fun v4 => (if v4 = 0 then (qs_bind (fX5_thinks D1) (fun x7 D6 => (qs_let (0 : Int32) (fun v9 => (qs_let (0 : Int32) (fun v10 => (fX5_fits_L27 qs_F p1 p2 v4 v9 v10 D6))))))) else (qs_bind (fX5_finds v4 D1) (fun x22 D21 => (some (x22, D21)))))))))
set_option maxRecDepth 20000 in
theorem kX5_fits {l : Launch} {E : qs_E} {A : Nat → Prop} {p1 : Int32} {p2 : Int32} {D : qs_D} {X : Int32 × qs_D}  (hX : fX5_fits p1 p2 D = some X) : qs_Ctr l E A shM yX5_fits mX5_fits 5 qs_ri [.ref 0, .int p1, .int p2] D X := by
  refine qs_enter (plainFor_of_name (by decide)) rfl (Nat.le_of_ble_eq_true rfl) ?_ hX
  show qs_VO l E A shM mX5_fits 5 qs_ri 0 [(0, .ref 0), (1, .int p1), (2, .int p2)] [] D (fX5_fits p1 p2 D)
  unfold fX5_fits
  refine qs_aload_n dX5_fits_0 rfl rfl rfl ?_
  refine qs_iload_n dX5_fits_1 rfl rfl rfl ?_
  refine qs_iload_n dX5_fits_2 rfl rfl rfl ?_
  refine qs_cV2i cfX5_156 (Nat.le_of_ble_eq_true rfl) rfl rfl (fun Y hY => kX5_notAsked  hY) (Nat.le_of_ble_eq_true rfl) dX5_fits_3 rfl (fun x2 D1 g3 => ?_)
  refine qs_istore_n (fun v4 => [(3, .int v4), (0, .ref 0), (1, .int p1), (2, .int p2)]) dX5_fits_6 rfl (by decide) (fun _ => rfl) rfl (fun v4 => ?_)
  refine qs_iload_n dX5_fits_7 rfl rfl rfl ?_
  refine qs_if_eq (tgt := 17) dX5_fits_8 (by decide) rfl (fun g5 => ?_) (fun g5 => ?_)
  · refine qs_aload_n dX5_fits_17 rfl rfl rfl ?_
    refine qs_cV0v cfX5_133 (Nat.le_of_ble_eq_true rfl) rfl rfl (fun Y hY => kX5_thinks  hY) (Nat.le_of_ble_eq_true rfl) dX5_fits_18 rfl (fun x7 D6 g8 => ?_)
    refine qs_iconst (0 : Int32) dX5_fits_21 (by decide) rfl ?_
    refine qs_istore (fun v9 => [(4, .int v9), (3, .int v4), (0, .ref 0), (1, .int p1), (2, .int p2)]) dX5_fits_22 (by decide) (fun _ => rfl) rfl (fun v9 => ?_)
    refine qs_iconst (0 : Int32) dX5_fits_24 (by decide) rfl ?_
    refine qs_istore (fun v10 => [(5, .int v10), (4, .int v9), (3, .int v4), (0, .ref 0), (1, .int p1), (2, .int p2)]) dX5_fits_25 (by decide) (fun _ => rfl) rfl (fun v10 => ?_)
    exact qs_sub [3, 4, 5, 2, 1, 0] rfl (lX5_fits_L27 qs_F p1 p2 v4 v9 v10 D6)
  · refine qs_aload_n dX5_fits_11 rfl rfl rfl ?_
    refine qs_iload_n dX5_fits_12 rfl rfl rfl ?_
    refine qs_cV1i cfX5_36 (Nat.le_of_ble_eq_true rfl) rfl rfl (fun Y hY => kX5_finds  hY) (Nat.le_of_ble_eq_true rfl) dX5_fits_13 rfl (fun x22 D21 g23 => ?_)
    exact qs_iret rfl dX5_fits_16
