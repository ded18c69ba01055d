def fX3_readDeed (r1 : Nat) (D : qs_D) : Option (Int32 × qs_D) := (qs_bind (fX3_readNumber (5 : Int32) D) (fun x2 D1 => (qs_let x2 (fun v4 => (if 0 ≤ v4 then (qs_bind (fX3_readNumber (11 : Int32) D1) (fun x7 D6 => (qs_let x7 (fun v9 => (if 0 ≤ v9 then (qs_g v4 6 (qs_let (qs_u D6 (r1 + 1) v4.toNatClampNeg v9) (fun D11 => (some ((1 : Int32), D11))))) else (some ((0 : Int32), D6))))))) else (some ((0 : Int32), D1)))))))
set_option maxRecDepth 20000 in
theorem kX3_readDeed {l : Launch} {E : qs_E} {A : Nat → Prop} {r1 : Nat} {D : qs_D} {X : Int32 × qs_D} (h1 : qs_isK r1) (hX : fX3_readDeed r1 D = some X) : qs_Ctr l E A shX yX3_readDeed mX3_readDeed 3 qs_ri [.ref 37, .ref r1] D X := by
  refine qs_enter (plainFor_of_name (by decide)) rfl (Nat.le_of_ble_eq_true rfl) ?_ hX
  show qs_VO l E A shX mX3_readDeed 3 qs_ri 0 [(0, .ref 37), (1, .ref r1)] [] D (fX3_readDeed r1 D)
  unfold fX3_readDeed
  refine qs_aload_n dX3_readDeed_0 rfl rfl rfl ?_
  refine qs_iconst (5 : Int32) dX3_readDeed_1 (by decide) rfl ?_
  refine qs_cV1i cfX3_63 (Nat.le_of_ble_eq_true rfl) rfl rfl (fun Y hY => kX3_readNumber  hY) (Nat.le_of_ble_eq_true rfl) dX3_readDeed_2 rfl (fun x2 D1 g3 => ?_)
  refine qs_istore_n (fun v4 => [(2, .int v4), (0, .ref 37), (1, .ref r1)]) dX3_readDeed_5 rfl (by decide) (fun _ => rfl) rfl (fun v4 => ?_)
  refine qs_iload_n dX3_readDeed_6 rfl rfl rfl ?_
  refine qs_if_ge (tgt := 12) dX3_readDeed_7 (by decide) rfl (fun g5 => ?_) (fun g5 => ?_)
  · refine qs_aload_n dX3_readDeed_12 rfl rfl rfl ?_
    refine qs_bipush (11 : Int32) dX3_readDeed_13 (by decide) rfl ?_
    refine qs_cV1i cfX3_63 (Nat.le_of_ble_eq_true rfl) rfl rfl (fun Y hY => kX3_readNumber  hY) (Nat.le_of_ble_eq_true rfl) dX3_readDeed_15 rfl (fun x7 D6 g8 => ?_)
    refine qs_istore_n (fun v9 => [(3, .int v9), (2, .int v4), (0, .ref 37), (1, .ref r1)]) dX3_readDeed_18 rfl (by decide) (fun _ => rfl) rfl (fun v9 => ?_)
    refine qs_iload_n dX3_readDeed_19 rfl rfl rfl ?_
    refine qs_if_ge (tgt := 25) dX3_readDeed_20 (by decide) rfl (fun g10 => ?_) (fun g10 => ?_)
    · refine qs_aload_n dX3_readDeed_25 rfl rfl rfl ?_
      refine qs_getR ffX3_91 (qs_k0 h1) rfl dX3_readDeed_26 rfl ?_
      refine qs_iload_n dX3_readDeed_29 rfl rfl rfl ?_
      refine qs_iload_n dX3_readDeed_30 rfl rfl rfl ?_
      refine qs_iast (qs_kL h1) (by decide) dX3_readDeed_31 rfl (fun D11 => ?_)
      refine qs_iconst (1 : Int32) dX3_readDeed_32 (by decide) rfl ?_
      exact qs_zret (Or.inr rfl) rfl dX3_readDeed_33
    · refine qs_iconst (0 : Int32) dX3_readDeed_23 (by decide) rfl ?_
      exact qs_zret (Or.inl rfl) rfl dX3_readDeed_24
  · refine qs_iconst (0 : Int32) dX3_readDeed_10 (by decide) rfl ?_
    exact qs_zret (Or.inl rfl) rfl dX3_readDeed_11
def fX3_readItem (r1 : Nat) (D : qs_D) : Option (Int32 × qs_D) := (qs_bind (fX3_kindNamed D) (fun x2 D1 => (qs_let x2 (fun v4 => (if v4 < 0 then (qs_bind (fX3_skipWord (1000 + 11) D1) (fun x7 D6 => (if x7 = 0 then (qs_bind (fX3_skipWord (1000 + 12) D6) (fun x11 D10 => (if x11 = 0 then (qs_bind (fX3_skipWord (1000 + 13) D10) (fun x15 D14 => (if x15 = 0 then (some ((0 : Int32), D14)) else (qs_bind (fX3_readNumber (9 : Int32) D14) (fun x19 D18 => (qs_let (qs_u D18 r1 1 x19) (fun D21 => (if (D21 r1 1) < 0 then (some ((0 : Int32), D21)) else (some ((1 : Int32), D21)))))))))) else (qs_bind (fX3_readNumber (99 : Int32) D10) (fun x24 D23 => (qs_let (qs_u D23 r1 0 x24) (fun D26 => (if (D26 r1 0) < 0 then (some ((0 : Int32), D26)) else (some ((1 : Int32), D26)))))))))) else (qs_bind (fX3_readDeed r1 D6) (fun x29 D28 => (qs_gb x29 (some (x29, D28)))))))) else (if (8 : Int32) ≤ (D1 r1 5) then (some ((0 : Int32), D1)) else (qs_bind (fX1_addDish r1 v4 D1) (fun x33 D32 => (qs_bind (fX3_readDish x33 D32) (fun x36 D35 => (if x36 = 0 then (some ((0 : Int32), D35)) else (some ((1 : Int32), D35)))))))))))))
set_option maxRecDepth 20000 in
theorem kX3_readItem {l : Launch} {E : qs_E} {A : Nat → Prop} {r1 : Nat} {D : qs_D} {X : Int32 × qs_D} (h1 : qs_isK r1) (hX : fX3_readItem r1 D = some X) : qs_Ctr l E A shX yX3_readItem mX3_readItem 7 qs_ri [.ref 37, .ref r1] D X := by
  refine qs_enter (plainFor_of_name (by decide)) rfl (Nat.le_of_ble_eq_true rfl) ?_ hX
  show qs_VO l E A shX mX3_readItem 7 qs_ri 0 [(0, .ref 37), (1, .ref r1)] [] D (fX3_readItem r1 D)
  unfold fX3_readItem
  refine qs_aload_n dX3_readItem_0 rfl rfl rfl ?_
  refine qs_cV0i cfX3_35 (Nat.le_of_ble_eq_true rfl) rfl rfl (fun Y hY => kX3_kindNamed  hY) (Nat.le_of_ble_eq_true rfl) dX3_readItem_1 rfl (fun x2 D1 g3 => ?_)
  refine qs_istore_n (fun v4 => [(2, .int v4), (0, .ref 37), (1, .ref r1)]) dX3_readItem_4 rfl (by decide) (fun _ => rfl) rfl (fun v4 => ?_)
  refine qs_iload_n dX3_readItem_5 rfl rfl rfl ?_
  refine qs_if_lt (tgt := 36) dX3_readItem_6 (by decide) rfl (fun g5 => ?_) (fun g5 => ?_)
  · refine qs_aload_n dX3_readItem_36 rfl rfl rfl ?_
    refine qs_ldcS (k0 := 11) rfl rfl dX3_readItem_37 rfl ?_
    refine qs_cV1i cfX3_54 (Nat.le_of_ble_eq_true rfl) rfl rfl (fun Y hY => kX3_skipWord (qs_w0 11 (by decide)) hY) (Nat.le_of_ble_eq_true rfl) dX3_readItem_39 rfl (fun x7 D6 g8 => ?_)
    refine qs_if_eq (tgt := 51) dX3_readItem_42 (by decide) rfl (fun g9 => ?_) (fun g9 => ?_)
    · refine qs_aload_n dX3_readItem_51 rfl rfl rfl ?_
      refine qs_ldcS (k0 := 12) rfl rfl dX3_readItem_52 rfl ?_
      refine qs_cV1i cfX3_54 (Nat.le_of_ble_eq_true rfl) rfl rfl (fun Y hY => kX3_skipWord (qs_w0 12 (by decide)) hY) (Nat.le_of_ble_eq_true rfl) dX3_readItem_54 rfl (fun x11 D10 g12 => ?_)
      refine qs_if_eq (tgt := 83) dX3_readItem_57 (by decide) rfl (fun g13 => ?_) (fun g13 => ?_)
      · refine qs_aload_n dX3_readItem_83 rfl rfl rfl ?_
        refine qs_ldcS (k0 := 13) rfl rfl dX3_readItem_84 rfl ?_
        refine qs_cV1i cfX3_54 (Nat.le_of_ble_eq_true rfl) rfl rfl (fun Y hY => kX3_skipWord (qs_w0 13 (by decide)) hY) (Nat.le_of_ble_eq_true rfl) dX3_readItem_86 rfl (fun x15 D14 g16 => ?_)
        refine qs_if_eq (tgt := 115) dX3_readItem_89 (by decide) rfl (fun g17 => ?_) (fun g17 => ?_)
        · refine qs_iconst (0 : Int32) dX3_readItem_115 (by decide) rfl ?_
          exact qs_zret (Or.inl rfl) rfl dX3_readItem_116
        · refine qs_aload_n dX3_readItem_92 rfl rfl rfl ?_
          refine qs_aload_n dX3_readItem_93 rfl rfl rfl ?_
          refine qs_bipush (9 : Int32) dX3_readItem_94 (by decide) rfl ?_
          refine qs_cV1i cfX3_63 (Nat.le_of_ble_eq_true rfl) rfl rfl (fun Y hY => kX3_readNumber  hY) (Nat.le_of_ble_eq_true rfl) dX3_readItem_96 rfl (fun x19 D18 g20 => ?_)
          refine qs_putI fwX3_71 (qs_k0 h1) rfl dX3_readItem_99 rfl (fun D21 => ?_)
          refine qs_aload_n dX3_readItem_102 rfl rfl rfl ?_
          refine qs_getI ffX3_71 (qs_k0 h1) rfl dX3_readItem_103 rfl ?_
          refine qs_if_lt (tgt := 113) dX3_readItem_106 (by decide) rfl (fun g22 => ?_) (fun g22 => ?_)
          · refine qs_iconst (0 : Int32) dX3_readItem_113 (by decide) rfl ?_
            exact qs_zret (Or.inl rfl) rfl dX3_readItem_114
          · refine qs_iconst (1 : Int32) dX3_readItem_109 (by decide) rfl ?_
            refine qs_goto (tgt := 114) dX3_readItem_110 (by decide) ?_
            exact qs_zret (Or.inr rfl) rfl dX3_readItem_114
      · refine qs_aload_n dX3_readItem_60 rfl rfl rfl ?_
        refine qs_aload_n dX3_readItem_61 rfl rfl rfl ?_
        refine qs_bipush (99 : Int32) dX3_readItem_62 (by decide) rfl ?_
        refine qs_cV1i cfX3_63 (Nat.le_of_ble_eq_true rfl) rfl rfl (fun Y hY => kX3_readNumber  hY) (Nat.le_of_ble_eq_true rfl) dX3_readItem_64 rfl (fun x24 D23 g25 => ?_)
        refine qs_putI fwX3_67 (qs_k0 h1) rfl dX3_readItem_67 rfl (fun D26 => ?_)
        refine qs_aload_n dX3_readItem_70 rfl rfl rfl ?_
        refine qs_getI ffX3_67 (qs_k0 h1) rfl dX3_readItem_71 rfl ?_
        refine qs_if_lt (tgt := 81) dX3_readItem_74 (by decide) rfl (fun g27 => ?_) (fun g27 => ?_)
        · refine qs_iconst (0 : Int32) dX3_readItem_81 (by decide) rfl ?_
          exact qs_zret (Or.inl rfl) rfl dX3_readItem_82
        · refine qs_iconst (1 : Int32) dX3_readItem_77 (by decide) rfl ?_
          refine qs_goto (tgt := 82) dX3_readItem_78 (by decide) ?_
          exact qs_zret (Or.inr rfl) rfl dX3_readItem_82
    · refine qs_aload_n dX3_readItem_45 rfl rfl rfl ?_
      refine qs_aload_n dX3_readItem_46 rfl rfl rfl ?_
      refine qs_cV1i cfX3_58 (Nat.le_of_ble_eq_true rfl) rfl rfl (fun Y hY => kX3_readDeed h1 hY) (Nat.le_of_ble_eq_true rfl) dX3_readItem_47 rfl (fun x29 D28 g30 => ?_)
      exact qs_zretB rfl dX3_readItem_50
  · refine qs_aload_n dX3_readItem_9 rfl rfl rfl ?_
    refine qs_getI ffX3_39 (qs_k0 h1) rfl dX3_readItem_10 rfl ?_
    refine qs_bipush (8 : Int32) dX3_readItem_13 (by decide) rfl ?_
    refine qs_icmp_ge (tgt := 34) dX3_readItem_15 (by decide) rfl (fun g31 => ?_) (fun g31 => ?_)
    · refine qs_iconst (0 : Int32) dX3_readItem_34 (by decide) rfl ?_
      exact qs_zret (Or.inl rfl) rfl dX3_readItem_35
    · refine qs_aload_n dX3_readItem_18 rfl rfl rfl ?_
      refine qs_aload_n dX3_readItem_19 rfl rfl rfl ?_
      refine qs_iload_n dX3_readItem_20 rfl rfl rfl ?_
      refine qs_cV1r cfX3_44 (Nat.le_of_ble_eq_true rfl) (qs_k0 h1) rfl (fun Y hY => kX1_addDish h1 hY) (Nat.le_of_ble_eq_true rfl) dX3_readItem_21 rfl (fun x33 D32 g34 => ?_)
      refine qs_cV1i cfX3_48 (Nat.le_of_ble_eq_true rfl) rfl rfl (fun Y hY => kX3_readDish (qX1_addDish h1 g34) hY) (Nat.le_of_ble_eq_true rfl) dX3_readItem_24 rfl (fun x36 D35 g37 => ?_)
      refine qs_if_eq (tgt := 34) dX3_readItem_27 (by decide) rfl (fun g38 => ?_) (fun g38 => ?_)
      · refine qs_iconst (0 : Int32) dX3_readItem_34 (by decide) rfl ?_
        exact qs_zret (Or.inl rfl) rfl dX3_readItem_35
      · refine qs_iconst (1 : Int32) dX3_readItem_30 (by decide) rfl ?_
        refine qs_goto (tgt := 35) dX3_readItem_31 (by decide) ?_
        exact qs_zret (Or.inr rfl) rfl dX3_readItem_35
def fX3_readText_L11 (r1 : Nat) : Nat → Int32 → qs_D → Option (Int32 × qs_D)
  | 0, _, _ => none
  | n + 1, w2, D => (if (120 : Int32) < w2 then (some (((-1 : Int32) - (D 37 3)), D)) else (qs_bind (fX3_readItem r1 D) (fun x8 D7 => (if x8 = 0 then (some (((-1 : Int32) - (D7 37 3)), D7)) else (if (D7 37 2) = (3 : Int32) then (some (w2, D7)) else (if (D7 37 2) = (2 : Int32) then (qs_bind (fX3_nextToken D7) (fun x14 D13 => (qs_let (w2 + (1 : Int32)) (fun v16 => (fX3_readText_L11 r1 n v16 D13))))) else (some (((-1 : Int32) - (D7 37 3)), D7))))))))
set_option maxRecDepth 20000 in
theorem lX3_readText_L11 {l : Launch} {E : qs_E} {A : Nat → Prop} {r1 : Nat} (h1 : qs_isK r1) : ∀ (n : Nat) (w2 : Int32) (D : qs_D), qs_VO l E A shX mX3_readText 8 qs_ri 11 [(0, .ref 37), (1, .ref r1), (2, .int w2)] [] D (fX3_readText_L11 r1 n w2 D) := by
  intro n
  induction n with
  | zero => intro w2 D; exact qs_none
  | succ n ih =>
    intro w2 D
    unfold fX3_readText_L11
    refine qs_iload_n dX3_readText_11 rfl rfl rfl ?_
    refine qs_bipush (120 : Int32) dX3_readText_12 (by decide) rfl ?_
    refine qs_icmp_gt (tgt := 67) dX3_readText_14 (by decide) rfl (fun g6 => ?_) (fun g6 => ?_)
    · refine qs_iconst (-1 : Int32) dX3_readText_67 (by decide) rfl ?_
      refine qs_aload_n dX3_readText_68 rfl rfl rfl ?_
      refine qs_getI ffX3_22 rfl rfl dX3_readText_69 rfl ?_
      refine qs_isub dX3_readText_72 rfl ?_
      exact qs_iret rfl dX3_readText_73
    · refine qs_aload_n dX3_readText_17 rfl rfl rfl ?_
      refine qs_aload_n dX3_readText_18 rfl rfl rfl ?_
      refine qs_cV1i cfX3_31 (Nat.le_of_ble_eq_true rfl) rfl rfl (fun Y hY => kX3_readItem h1 hY) (Nat.le_of_ble_eq_true rfl) dX3_readText_19 rfl (fun x8 D7 g9 => ?_)
      refine qs_if_ne (tgt := 32) dX3_readText_22 (by decide) rfl (fun g10 => ?_) (fun g10 => ?_)
      · refine qs_iconst (-1 : Int32) dX3_readText_25 (by decide) rfl ?_
        refine qs_aload_n dX3_readText_26 rfl rfl rfl ?_
        refine qs_getI ffX3_22 rfl rfl dX3_readText_27 rfl ?_
        refine qs_isub dX3_readText_30 rfl ?_
        exact qs_iret rfl dX3_readText_31
      · refine qs_aload_n dX3_readText_32 rfl rfl rfl ?_
        refine qs_getI ffX3_19 rfl rfl dX3_readText_33 rfl ?_
        refine qs_iconst (3 : Int32) dX3_readText_36 (by decide) rfl ?_
        refine qs_icmp_ne (tgt := 42) dX3_readText_37 (by decide) rfl (fun g11 => ?_) (fun g11 => ?_)
        · refine qs_iload_n dX3_readText_40 rfl rfl rfl ?_
          exact qs_iret rfl dX3_readText_41
        · refine qs_aload_n dX3_readText_42 rfl rfl rfl ?_
          refine qs_getI ffX3_19 rfl rfl dX3_readText_43 rfl ?_
          refine qs_iconst (2 : Int32) dX3_readText_46 (by decide) rfl ?_
          refine qs_icmp_eq (tgt := 57) dX3_readText_47 (by decide) rfl (fun g12 => ?_) (fun g12 => ?_)
          · refine qs_aload_n dX3_readText_57 rfl rfl rfl ?_
            refine qs_cV0v cfX3_28 (Nat.le_of_ble_eq_true rfl) rfl rfl (fun Y hY => kX3_nextToken  hY) (Nat.le_of_ble_eq_true rfl) dX3_readText_58 rfl (fun x14 D13 g15 => ?_)
            refine qs_iinc (fun v16 => [(2, .int v16), (0, .ref 37), (1, .ref r1)]) (1 : Int32) dX3_readText_61 rfl (by decide) (by decide) (fun _ => rfl) rfl (fun v16 => ?_)
            refine qs_goto (tgt := 11) dX3_readText_64 (by decide) ?_
            exact qs_sub [1, 2, 0] rfl (ih v16 D13)
          · refine qs_iconst (-1 : Int32) dX3_readText_50 (by decide) rfl ?_
            refine qs_aload_n dX3_readText_51 rfl rfl rfl ?_
            refine qs_getI ffX3_22 rfl rfl dX3_readText_52 rfl ?_
            refine qs_isub dX3_readText_55 rfl ?_
            exact qs_iret rfl dX3_readText_56
def fX3_readText (r1 : Nat) (D : qs_D) : Option (Int32 × qs_D) := (qs_let (qs_u D 37 4 (0 : Int32)) (fun D1 => (qs_bind (fX3_nextToken D1) (fun x3 D2 => (qs_let (1 : Int32) (fun v5 => (fX3_readText_L11 r1 qs_F v5 D2)))))))
set_option maxRecDepth 20000 in
theorem kX3_readText {l : Launch} {E : qs_E} {A : Nat → Prop} {r1 : Nat} {D : qs_D} {X : Int32 × qs_D} (h1 : qs_isK r1) (hX : fX3_readText r1 D = some X) : qs_Ctr l E A shX yX3_readText mX3_readText 8 qs_ri [.ref 37, .ref r1] D X := by
  refine qs_enter (plainFor_of_name (by decide)) rfl (Nat.le_of_ble_eq_true rfl) ?_ hX
  show qs_VO l E A shX mX3_readText 8 qs_ri 0 [(0, .ref 37), (1, .ref r1)] [] D (fX3_readText r1 D)
  unfold fX3_readText
  refine qs_aload_n dX3_readText_0 rfl rfl rfl ?_
  refine qs_iconst (0 : Int32) dX3_readText_1 (by decide) rfl ?_
  refine qs_putI fwX3_25 rfl rfl dX3_readText_2 rfl (fun D1 => ?_)
  refine qs_aload_n dX3_readText_5 rfl rfl rfl ?_
  refine qs_cV0v cfX3_28 (Nat.le_of_ble_eq_true rfl) rfl rfl (fun Y hY => kX3_nextToken  hY) (Nat.le_of_ble_eq_true rfl) dX3_readText_6 rfl (fun x3 D2 g4 => ?_)
  refine qs_iconst (1 : Int32) dX3_readText_9 (by decide) rfl ?_
  refine qs_istore_n (fun v5 => [(2, .int v5), (0, .ref 37), (1, .ref r1)]) dX3_readText_10 rfl (by decide) (fun _ => rfl) rfl (fun v5 => ?_)
  exact qs_sub [1, 2, 0] rfl (lX3_readText_L11 h1 qs_F v5 D2)
def fX4_within (p0 : Int32) (p1 : Int32) (p2 : Int32) (D : qs_D) : Option (Int32 × qs_D) := (if p0 < p1 then (some ((0 : Int32), D)) else (if p2 < p0 then (some ((0 : Int32), D)) else (some ((1 : Int32), D))))
set_option maxRecDepth 20000 in
theorem kX4_within {l : Launch} {E : qs_E} {A : Nat → Prop} {p0 : Int32} {p1 : Int32} {p2 : Int32} {D : qs_D} {X : Int32 × qs_D}  (hX : fX4_within p0 p1 p2 D = some X) : qs_Ctr l E A shX yX4_within mX4_within 0 qs_ri [.int p0, .int p1, .int p2] D X := by
  refine qs_enter (plainFor_of_name (by decide)) rfl (Nat.le_of_ble_eq_true rfl) ?_ hX
  show qs_VO l E A shX mX4_within 0 qs_ri 0 [(0, .int p0), (1, .int p1), (2, .int p2)] [] D (fX4_within p0 p1 p2 D)
  unfold fX4_within
  refine qs_iload_n dX4_within_0 rfl rfl rfl ?_
  refine qs_iload_n dX4_within_1 rfl rfl rfl ?_
  refine qs_icmp_lt (tgt := 14) dX4_within_2 (by decide) rfl (fun g1 => ?_) (fun g1 => ?_)
  · refine qs_iconst (0 : Int32) dX4_within_14 (by decide) rfl ?_
    exact qs_zret (Or.inl rfl) rfl dX4_within_15
  · refine qs_iload_n dX4_within_5 rfl rfl rfl ?_
    refine qs_iload_n dX4_within_6 rfl rfl rfl ?_
    refine qs_icmp_gt (tgt := 14) dX4_within_7 (by decide) rfl (fun g2 => ?_) (fun g2 => ?_)
    · refine qs_iconst (0 : Int32) dX4_within_14 (by decide) rfl ?_
      exact qs_zret (Or.inl rfl) rfl dX4_within_15
    · refine qs_iconst (1 : Int32) dX4_within_10 (by decide) rfl ?_
      refine qs_goto (tgt := 15) dX4_within_11 (by decide) ?_
      exact qs_zret (Or.inr rfl) rfl dX4_within_15
def fX4_found (p1 : Int32) (D : qs_D) : Option (Int32 × qs_D) := (qs_g p1 7 (qs_g p1 7 (qs_let (qs_u D 40 p1.toNatClampNeg ((D 40 p1.toNatClampNeg) + (1 : Int32))) (fun D2 => (some (((-1000001 : Int32) - p1), D2))))))
set_option maxRecDepth 20000 in
theorem kX4_found {l : Launch} {E : qs_E} {A : Nat → Prop} {p1 : Int32} {D : qs_D} {X : Int32 × qs_D}  (hX : fX4_found p1 D = some X) : qs_Ctr l E A shX yX4_found mX4_found 0 qs_ri [.ref 0, .int p1] D X := by
  refine qs_enter (plainFor_of_name (by decide)) rfl (Nat.le_of_ble_eq_true rfl) ?_ hX
  show qs_VO l E A shX mX4_found 0 qs_ri 0 [(0, .ref 0), (1, .int p1)] [] D (fX4_found p1 D)
  unfold fX4_found
  refine qs_aload_n dX4_found_0 rfl rfl rfl ?_
  refine qs_getR ffX4_35 rfl rfl dX4_found_1 rfl ?_
  refine qs_iload_n dX4_found_4 rfl rfl rfl ?_
  refine qs_dup2 dX4_found_5 rfl rfl rfl ?_
  refine qs_iald rfl (by decide) dX4_found_6 rfl (fun g1 => ?_)
  refine qs_iconst (1 : Int32) dX4_found_7 (by decide) rfl ?_
  refine qs_iadd dX4_found_8 rfl ?_
  refine qs_iast rfl (by decide) dX4_found_9 rfl (fun D2 => ?_)
  refine qs_ldc wcX4_242 dX4_found_10 rfl ?_
  refine qs_iload_n dX4_found_12 rfl rfl rfl ?_
  refine qs_isub dX4_found_13 rfl ?_
  exact qs_iret rfl dX4_found_14
abbrev mX4_set : qs_M := (RX4, cX4_set, 4, (some FieldType.int))
def fX4_set (p1 : Int32) (p2 : Int32) (D : qs_D) : Option (Int32 × qs_D) := (if p1 = 0 then (qs_bind (fX4_within p2 (0 : Int32) (99 : Int32) D) (fun x16 D15 => (if x16 = 0 then (if p1 = (1 : Int32) then (qs_bind (fX4_within p2 (0 : Int32) (9 : Int32) D15) (fun x24 D23 => (if x24 = 0 then (qs_bind (fX4_found (0 : Int32) D23) (fun x28 D27 => (some (x28, D27)))) else (qs_let (D23 1 1) (fun v30 => (qs_let (qs_u D23 1 1 p2) (fun D31 => (some (v30, D31))))))))) else (qs_bind (fX4_found (0 : Int32) D15) (fun x21 D20 => (some (x21, D20))))) else (qs_let (D15 1 0) (fun v32 => (qs_let (qs_u D15 1 0 p2) (fun D33 => (some (v32, D33))))))))) else (if p1 = (1 : Int32) then (qs_bind (fX4_within p2 (0 : Int32) (9 : Int32) D) (fun x7 D6 => (if x7 = 0 then (qs_bind (fX4_found (0 : Int32) D6) (fun x11 D10 => (some (x11, D10)))) else (qs_let (D6 1 1) (fun v13 => (qs_let (qs_u D6 1 1 p2) (fun D14 => (some (v13, D14))))))))) else (qs_bind (fX4_found (0 : Int32) D) (fun x4 D3 => (some (x4, D3))))))
set_option maxRecDepth 20000 in
theorem kX4_set {l : Launch} {E : qs_E} {A : Nat → Prop} {p1 : Int32} {p2 : Int32} {D : qs_D} {X : Int32 × qs_D}  (hX : fX4_set p1 p2 D = some X) : qs_Ctr l E A shX yX4_set mX4_set 1 qs_ri [.ref 0, .int p1, .int p2] D X := by
  refine qs_enter (plainFor_of_name (by decide)) rfl (Nat.le_of_ble_eq_true rfl) ?_ hX
  show qs_VO l E A shX mX4_set 1 qs_ri 0 [(0, .ref 0), (1, .int p1), (2, .int p2)] [] D (fX4_set p1 p2 D)
  unfold fX4_set
  refine qs_iload_n dX4_set_0 rfl rfl rfl ?_
  refine qs_if_ne (tgt := 32) dX4_set_1 (by decide) rfl (fun g1 => ?_) (fun g1 => ?_)
  · refine qs_iload_n dX4_set_4 rfl rfl rfl ?_
    refine qs_iconst (0 : Int32) dX4_set_5 (by decide) rfl ?_
    refine qs_bipush (99 : Int32) dX4_set_6 (by decide) rfl ?_
    refine qs_cS3i cfX4_44 (Nat.le_of_ble_eq_true rfl) (fun Y hY => kX4_within  hY) (Nat.le_of_ble_eq_true rfl) dX4_set_8 rfl (fun x16 D15 g17 => ?_)
    refine qs_if_eq (tgt := 32) dX4_set_11 (by decide) rfl (fun g18 => ?_) (fun g18 => ?_)
    · refine qs_iload_n dX4_set_32 rfl rfl rfl ?_
      refine qs_iconst (1 : Int32) dX4_set_33 (by decide) rfl ?_
      refine qs_icmp_ne (tgt := 65) dX4_set_34 (by decide) rfl (fun g19 => ?_) (fun g19 => ?_)
      · refine qs_iload_n dX4_set_37 rfl rfl rfl ?_
        refine qs_iconst (0 : Int32) dX4_set_38 (by decide) rfl ?_
        refine qs_bipush (9 : Int32) dX4_set_39 (by decide) rfl ?_
        refine qs_cS3i cfX4_44 (Nat.le_of_ble_eq_true rfl) (fun Y hY => kX4_within  hY) (Nat.le_of_ble_eq_true rfl) dX4_set_41 rfl (fun x24 D23 g25 => ?_)
        refine qs_if_eq (tgt := 65) dX4_set_44 (by decide) rfl (fun g26 => ?_) (fun g26 => ?_)
        · refine qs_aload_n dX4_set_65 rfl rfl rfl ?_
          refine qs_iconst (0 : Int32) dX4_set_66 (by decide) rfl ?_
          refine qs_cV1i cfX4_55 (Nat.le_of_ble_eq_true rfl) rfl rfl (fun Y hY => kX4_found  hY) (Nat.le_of_ble_eq_true rfl) dX4_set_67 rfl (fun x28 D27 g29 => ?_)
          exact qs_iret rfl dX4_set_70
        · refine qs_aload_n dX4_set_47 rfl rfl rfl ?_
          refine qs_getR ffX4_10 rfl rfl dX4_set_48 rfl ?_
          refine qs_getI ffX4_52 rfl rfl dX4_set_51 rfl ?_
          refine qs_istore_n (fun v30 => [(3, .int v30), (0, .ref 0), (1, .int p1), (2, .int p2)]) dX4_set_54 rfl (by decide) (fun _ => rfl) rfl (fun v30 => ?_)
          refine qs_aload_n dX4_set_55 rfl rfl rfl ?_
          refine qs_getR ffX4_10 rfl rfl dX4_set_56 rfl ?_
          refine qs_iload_n dX4_set_59 rfl rfl rfl ?_
          refine qs_putI fwX4_52 rfl rfl dX4_set_60 rfl (fun D31 => ?_)
          refine qs_iload_n dX4_set_63 rfl rfl rfl ?_
          exact qs_iret rfl dX4_set_64
      · refine qs_aload_n dX4_set_65 rfl rfl rfl ?_
        refine qs_iconst (0 : Int32) dX4_set_66 (by decide) rfl ?_
        refine qs_cV1i cfX4_55 (Nat.le_of_ble_eq_true rfl) rfl rfl (fun Y hY => kX4_found  hY) (Nat.le_of_ble_eq_true rfl) dX4_set_67 rfl (fun x21 D20 g22 => ?_)
        exact qs_iret rfl dX4_set_70
    · refine qs_aload_n dX4_set_14 rfl rfl rfl ?_
      refine qs_getR ffX4_10 rfl rfl dX4_set_15 rfl ?_
      refine qs_getI ffX4_48 rfl rfl dX4_set_18 rfl ?_
      refine qs_istore_n (fun v32 => [(3, .int v32), (0, .ref 0), (1, .int p1), (2, .int p2)]) dX4_set_21 rfl (by decide) (fun _ => rfl) rfl (fun v32 => ?_)
      refine qs_aload_n dX4_set_22 rfl rfl rfl ?_
      refine qs_getR ffX4_10 rfl rfl dX4_set_23 rfl ?_
      refine qs_iload_n dX4_set_26 rfl rfl rfl ?_
      refine qs_putI fwX4_48 rfl rfl dX4_set_27 rfl (fun D33 => ?_)
      refine qs_iload_n dX4_set_30 rfl rfl rfl ?_
      exact qs_iret rfl dX4_set_31
  · refine qs_iload_n dX4_set_32 rfl rfl rfl ?_
    refine qs_iconst (1 : Int32) dX4_set_33 (by decide) rfl ?_
    refine qs_icmp_ne (tgt := 65) dX4_set_34 (by decide) rfl (fun g2 => ?_) (fun g2 => ?_)
    · refine qs_iload_n dX4_set_37 rfl rfl rfl ?_
      refine qs_iconst (0 : Int32) dX4_set_38 (by decide) rfl ?_
      refine qs_bipush (9 : Int32) dX4_set_39 (by decide) rfl ?_
      refine qs_cS3i cfX4_44 (Nat.le_of_ble_eq_true rfl) (fun Y hY => kX4_within  hY) (Nat.le_of_ble_eq_true rfl) dX4_set_41 rfl (fun x7 D6 g8 => ?_)
      refine qs_if_eq (tgt := 65) dX4_set_44 (by decide) rfl (fun g9 => ?_) (fun g9 => ?_)
      · refine qs_aload_n dX4_set_65 rfl rfl rfl ?_
        refine qs_iconst (0 : Int32) dX4_set_66 (by decide) rfl ?_
        refine qs_cV1i cfX4_55 (Nat.le_of_ble_eq_true rfl) rfl rfl (fun Y hY => kX4_found  hY) (Nat.le_of_ble_eq_true rfl) dX4_set_67 rfl (fun x11 D10 g12 => ?_)
        exact qs_iret rfl dX4_set_70
      · refine qs_aload_n dX4_set_47 rfl rfl rfl ?_
        refine qs_getR ffX4_10 rfl rfl dX4_set_48 rfl ?_
        refine qs_getI ffX4_52 rfl rfl dX4_set_51 rfl ?_
        refine qs_istore_n (fun v13 => [(3, .int v13), (0, .ref 0), (1, .int p1), (2, .int p2)]) dX4_set_54 rfl (by decide) (fun _ => rfl) rfl (fun v13 => ?_)
        refine qs_aload_n dX4_set_55 rfl rfl rfl ?_
        refine qs_getR ffX4_10 rfl rfl dX4_set_56 rfl ?_
        refine qs_iload_n dX4_set_59 rfl rfl rfl ?_
        refine qs_putI fwX4_52 rfl rfl dX4_set_60 rfl (fun D14 => ?_)
        refine qs_iload_n dX4_set_63 rfl rfl rfl ?_
        exact qs_iret rfl dX4_set_64
    · refine qs_aload_n dX4_set_65 rfl rfl rfl ?_
      refine qs_iconst (0 : Int32) dX4_set_66 (by decide) rfl ?_
      refine qs_cV1i cfX4_55 (Nat.le_of_ble_eq_true rfl) rfl rfl (fun Y hY => kX4_found  hY) (Nat.le_of_ble_eq_true rfl) dX4_set_67 rfl (fun x4 D3 g5 => ?_)
      exact qs_iret rfl dX4_set_70
def fX4_isPlace (p0 : Int32) (D : qs_D) : Option (Int32 × qs_D) := (qs_bind (fX4_within p0 (0 : Int32) (5 : Int32) D) (fun x2 D1 => (qs_gb x2 (some (x2, D1)))))
set_option maxRecDepth 20000 in
theorem kX4_isPlace {l : Launch} {E : qs_E} {A : Nat → Prop} {p0 : Int32} {D : qs_D} {X : Int32 × qs_D}  (hX : fX4_isPlace p0 D = some X) : qs_Ctr l E A shX yX4_isPlace mX4_isPlace 1 qs_ri [.int p0] D X := by
  refine qs_enter (plainFor_of_name (by decide)) rfl (Nat.le_of_ble_eq_true rfl) ?_ hX
  show qs_VO l E A shX mX4_isPlace 1 qs_ri 0 [(0, .int p0)] [] D (fX4_isPlace p0 D)
  unfold fX4_isPlace
  refine qs_iload_n dX4_isPlace_0 rfl rfl rfl ?_
  refine qs_iconst (0 : Int32) dX4_isPlace_1 (by decide) rfl ?_
  refine qs_iconst (5 : Int32) dX4_isPlace_2 (by decide) rfl ?_
  refine qs_cS3i cfX4_44 (Nat.le_of_ble_eq_true rfl) (fun Y hY => kX4_within  hY) (Nat.le_of_ble_eq_true rfl) dX4_isPlace_3 rfl (fun x2 D1 g3 => ?_)
  exact qs_zretB rfl dX4_isPlace_6
def fX4_isDeed (p0 : Int32) (D : qs_D) : Option (Int32 × qs_D) := (qs_bind (fX4_within p0 (0 : Int32) (11 : Int32) D) (fun x2 D1 => (qs_gb x2 (some (x2, D1)))))
set_option maxRecDepth 20000 in
theorem kX4_isDeed {l : Launch} {E : qs_E} {A : Nat → Prop} {p0 : Int32} {D : qs_D} {X : Int32 × qs_D}  (hX : fX4_isDeed p0 D = some X) : qs_Ctr l E A shX yX4_isDeed mX4_isDeed 1 qs_ri [.int p0] D X := by
  refine qs_enter (plainFor_of_name (by decide)) rfl (Nat.le_of_ble_eq_true rfl) ?_ hX
  show qs_VO l E A shX mX4_isDeed 1 qs_ri 0 [(0, .int p0)] [] D (fX4_isDeed p0 D)
  unfold fX4_isDeed
  refine qs_iload_n dX4_isDeed_0 rfl rfl rfl ?_
  refine qs_iconst (0 : Int32) dX4_isDeed_1 (by decide) rfl ?_
  refine qs_bipush (11 : Int32) dX4_isDeed_2 (by decide) rfl ?_
  refine qs_cS3i cfX4_44 (Nat.le_of_ble_eq_true rfl) (fun Y hY => kX4_within  hY) (Nat.le_of_ble_eq_true rfl) dX4_isDeed_4 rfl (fun x2 D1 g3 => ?_)
  exact qs_zretB rfl dX4_isDeed_7
abbrev mX4_deed : qs_M := (RX4, cX4_deed, 4, (some FieldType.int))
def fX4_deed (p1 : Int32) (p2 : Int32) (D : qs_D) : Option (Int32 × qs_D) := (qs_bind (fX4_isPlace p1 D) (fun x2 D1 => (if x2 = 0 then (qs_bind (fX4_found (0 : Int32) D1) (fun x6 D5 => (some (x6, D5)))) else (qs_bind (fX4_isDeed p2 D1) (fun x9 D8 => (if x9 = 0 then (qs_bind (fX4_found (0 : Int32) D8) (fun x16 D15 => (some (x16, D15)))) else (qs_g p1 6 (qs_let (D8 (1 + 1) p1.toNatClampNeg) (fun v13 => (qs_g p1 6 (qs_let (qs_u D8 (1 + 1) p1.toNatClampNeg p2) (fun D14 => (some (v13, D14))))))))))))))
set_option maxRecDepth 20000 in
theorem kX4_deed {l : Launch} {E : qs_E} {A : Nat → Prop} {p1 : Int32} {p2 : Int32} {D : qs_D} {X : Int32 × qs_D}  (hX : fX4_deed p1 p2 D = some X) : qs_Ctr l E A shX yX4_deed mX4_deed 2 qs_ri [.ref 0, .int p1, .int p2] D X := by
  refine qs_enter (plainFor_of_name (by decide)) rfl (Nat.le_of_ble_eq_true rfl) ?_ hX
  show qs_VO l E A shX mX4_deed 2 qs_ri 0 [(0, .ref 0), (1, .int p1), (2, .int p2)] [] D (fX4_deed p1 p2 D)
  unfold fX4_deed
  refine qs_iload_n dX4_deed_0 rfl rfl rfl ?_
  refine qs_cS1i cfX4_59 (Nat.le_of_ble_eq_true rfl) (fun Y hY => kX4_isPlace  hY) (Nat.le_of_ble_eq_true rfl) dX4_deed_1 rfl (fun x2 D1 g3 => ?_)
  refine qs_if_eq (tgt := 14) dX4_deed_4 (by decide) rfl (fun g4 => ?_) (fun g4 => ?_)
  · refine qs_aload_n dX4_deed_14 rfl rfl rfl ?_
    refine qs_iconst (0 : Int32) dX4_deed_15 (by decide) rfl ?_
    refine qs_cV1i cfX4_55 (Nat.le_of_ble_eq_true rfl) rfl rfl (fun Y hY => kX4_found  hY) (Nat.le_of_ble_eq_true rfl) dX4_deed_16 rfl (fun x6 D5 g7 => ?_)
    exact qs_iret rfl dX4_deed_19
  · refine qs_iload_n dX4_deed_7 rfl rfl rfl ?_
    refine qs_cS1i cfX4_63 (Nat.le_of_ble_eq_true rfl) (fun Y hY => kX4_isDeed  hY) (Nat.le_of_ble_eq_true rfl) dX4_deed_8 rfl (fun x9 D8 g10 => ?_)
    refine qs_if_ne (tgt := 20) dX4_deed_11 (by decide) rfl (fun g11 => ?_) (fun g11 => ?_)
    · refine qs_aload_n dX4_deed_14 rfl rfl rfl ?_
      refine qs_iconst (0 : Int32) dX4_deed_15 (by decide) rfl ?_
      refine qs_cV1i cfX4_55 (Nat.le_of_ble_eq_true rfl) rfl rfl (fun Y hY => kX4_found  hY) (Nat.le_of_ble_eq_true rfl) dX4_deed_16 rfl (fun x16 D15 g17 => ?_)
      exact qs_iret rfl dX4_deed_19
    · refine qs_aload_n dX4_deed_20 rfl rfl rfl ?_
      refine qs_getR ffX4_10 rfl rfl dX4_deed_21 rfl ?_
      refine qs_getR ffX4_66 rfl rfl dX4_deed_24 rfl ?_
      refine qs_iload_n dX4_deed_27 rfl rfl rfl ?_
      refine qs_iald (qs_kL qs_k1) (by decide) dX4_deed_28 rfl (fun g12 => ?_)
      refine qs_istore_n (fun v13 => [(3, .int v13), (0, .ref 0), (1, .int p1), (2, .int p2)]) dX4_deed_29 rfl (by decide) (fun _ => rfl) rfl (fun v13 => ?_)
      refine qs_aload_n dX4_deed_30 rfl rfl rfl ?_
      refine qs_getR ffX4_10 rfl rfl dX4_deed_31 rfl ?_
      refine qs_getR ffX4_66 rfl rfl dX4_deed_34 rfl ?_
      refine qs_iload_n dX4_deed_37 rfl rfl rfl ?_
      refine qs_iload_n dX4_deed_38 rfl rfl rfl ?_
      refine qs_iast (qs_kL qs_k1) (by decide) dX4_deed_39 rfl (fun D14 => ?_)
      refine qs_iload_n dX4_deed_40 rfl rfl rfl ?_
      exact qs_iret rfl dX4_deed_41
abbrev mX4_listed : qs_M := (RX4, cX4_listed, 2, (some FieldType.int))
def fX4_listed (p1 : Int32) (D : qs_D) : Option (Int32 × qs_D) := (qs_bind (fX4_isPlace p1 D) (fun x2 D1 => (if x2 = 0 then (qs_bind (fX4_found (0 : Int32) D1) (fun x6 D5 => (some (x6, D5)))) else (qs_g p1 6 (some ((D1 (1 + 1) p1.toNatClampNeg), D1))))))
set_option maxRecDepth 20000 in
theorem kX4_listed {l : Launch} {E : qs_E} {A : Nat → Prop} {p1 : Int32} {D : qs_D} {X : Int32 × qs_D}  (hX : fX4_listed p1 D = some X) : qs_Ctr l E A shX yX4_listed mX4_listed 2 qs_ri [.ref 0, .int p1] D X := by
  refine qs_enter (plainFor_of_name (by decide)) rfl (Nat.le_of_ble_eq_true rfl) ?_ hX
  show qs_VO l E A shX mX4_listed 2 qs_ri 0 [(0, .ref 0), (1, .int p1)] [] D (fX4_listed p1 D)
  unfold fX4_listed
  refine qs_iload_n dX4_listed_0 rfl rfl rfl ?_
  refine qs_cS1i cfX4_59 (Nat.le_of_ble_eq_true rfl) (fun Y hY => kX4_isPlace  hY) (Nat.le_of_ble_eq_true rfl) dX4_listed_1 rfl (fun x2 D1 g3 => ?_)
  refine qs_if_eq (tgt := 19) dX4_listed_4 (by decide) rfl (fun g4 => ?_) (fun g4 => ?_)
  · refine qs_aload_n dX4_listed_19 rfl rfl rfl ?_
    refine qs_iconst (0 : Int32) dX4_listed_20 (by decide) rfl ?_
    refine qs_cV1i cfX4_55 (Nat.le_of_ble_eq_true rfl) rfl rfl (fun Y hY => kX4_found  hY) (Nat.le_of_ble_eq_true rfl) dX4_listed_21 rfl (fun x6 D5 g7 => ?_)
    exact qs_iret rfl dX4_listed_24
  · refine qs_aload_n dX4_listed_7 rfl rfl rfl ?_
    refine qs_getR ffX4_10 rfl rfl dX4_listed_8 rfl ?_
    refine qs_getR ffX4_66 rfl rfl dX4_listed_11 rfl ?_
    refine qs_iload_n dX4_listed_14 rfl rfl rfl ?_
    refine qs_iald (qs_kL qs_k1) (by decide) dX4_listed_15 rfl (fun g8 => ?_)
    refine qs_goto (tgt := 24) dX4_listed_16 (by decide) ?_
    exact qs_iret rfl dX4_listed_24
def fX4_isKind (p0 : Int32) (D : qs_D) : Option (Int32 × qs_D) := (qs_bind (fX4_within p0 (0 : Int32) (6 : Int32) D) (fun x2 D1 => (qs_gb x2 (some (x2, D1)))))
set_option maxRecDepth 20000 in
theorem kX4_isKind {l : Launch} {E : qs_E} {A : Nat → Prop} {p0 : Int32} {D : qs_D} {X : Int32 × qs_D}  (hX : fX4_isKind p0 D = some X) : qs_Ctr l E A shX yX4_isKind mX4_isKind 1 qs_ri [.int p0] D X := by
  refine qs_enter (plainFor_of_name (by decide)) rfl (Nat.le_of_ble_eq_true rfl) ?_ hX
  show qs_VO l E A shX mX4_isKind 1 qs_ri 0 [(0, .int p0)] [] D (fX4_isKind p0 D)
  unfold fX4_isKind
  refine qs_iload_n dX4_isKind_0 rfl rfl rfl ?_
  refine qs_iconst (0 : Int32) dX4_isKind_1 (by decide) rfl ?_
  refine qs_bipush (6 : Int32) dX4_isKind_2 (by decide) rfl ?_
  refine qs_cS3i cfX4_44 (Nat.le_of_ble_eq_true rfl) (fun Y hY => kX4_within  hY) (Nat.le_of_ble_eq_true rfl) dX4_isKind_4 rfl (fun x2 D1 g3 => ?_)
  exact qs_zretB rfl dX4_isKind_7
abbrev mX4_dish : qs_M := (RX4, cX4_dish, 3, (some FieldType.int))
def fX4_dish (p1 : Int32) (p2 : Int32) (D : qs_D) : Option (Int32 × qs_D) := (qs_bind (fX4_isKind p1 D) (fun x2 D1 => (if x2 = 0 then (qs_bind (fX4_found (0 : Int32) D1) (fun x6 D5 => (some (x6, D5)))) else (qs_bind (fX4_within p2 (0 : Int32) (99 : Int32) D1) (fun x9 D8 => (if x9 = 0 then (qs_bind (fX4_found (0 : Int32) D8) (fun x21 D20 => (some (x21, D20)))) else (if (D8 1 5) < (8 : Int32) then (qs_bind (fX1_addDish 1 p1 D8) (fun x14 D13 => (qs_let (qs_u D13 x14 1 p2) (fun D16 => (some (((D16 1 5) - (1 : Int32)), D16)))))) else (qs_bind (fX4_found (1 : Int32) D8) (fun x18 D17 => (some (x18, D17)))))))))))
set_option maxRecDepth 20000 in
theorem kX4_dish {l : Launch} {E : qs_E} {A : Nat → Prop} {p1 : Int32} {p2 : Int32} {D : qs_D} {X : Int32 × qs_D}  (hX : fX4_dish p1 p2 D = some X) : qs_Ctr l E A shX yX4_dish mX4_dish 2 qs_ri [.ref 0, .int p1, .int p2] D X := by
  refine qs_enter (plainFor_of_name (by decide)) rfl (Nat.le_of_ble_eq_true rfl) ?_ hX
  show qs_VO l E A shX mX4_dish 2 qs_ri 0 [(0, .ref 0), (1, .int p1), (2, .int p2)] [] D (fX4_dish p1 p2 D)
  unfold fX4_dish
  refine qs_iload_n dX4_dish_0 rfl rfl rfl ?_
  refine qs_cS1i cfX4_69 (Nat.le_of_ble_eq_true rfl) (fun Y hY => kX4_isKind  hY) (Nat.le_of_ble_eq_true rfl) dX4_dish_1 rfl (fun x2 D1 g3 => ?_)
  refine qs_if_eq (tgt := 17) dX4_dish_4 (by decide) rfl (fun g4 => ?_) (fun g4 => ?_)
  · refine qs_aload_n dX4_dish_17 rfl rfl rfl ?_
    refine qs_iconst (0 : Int32) dX4_dish_18 (by decide) rfl ?_
    refine qs_cV1i cfX4_55 (Nat.le_of_ble_eq_true rfl) rfl rfl (fun Y hY => kX4_found  hY) (Nat.le_of_ble_eq_true rfl) dX4_dish_19 rfl (fun x6 D5 g7 => ?_)
    exact qs_iret rfl dX4_dish_22
  · refine qs_iload_n dX4_dish_7 rfl rfl rfl ?_
    refine qs_iconst (0 : Int32) dX4_dish_8 (by decide) rfl ?_
    refine qs_bipush (99 : Int32) dX4_dish_9 (by decide) rfl ?_
    refine qs_cS3i cfX4_44 (Nat.le_of_ble_eq_true rfl) (fun Y hY => kX4_within  hY) (Nat.le_of_ble_eq_true rfl) dX4_dish_11 rfl (fun x9 D8 g10 => ?_)
    refine qs_if_ne (tgt := 23) dX4_dish_14 (by decide) rfl (fun g11 => ?_) (fun g11 => ?_)
    · refine qs_aload_n dX4_dish_17 rfl rfl rfl ?_
      refine qs_iconst (0 : Int32) dX4_dish_18 (by decide) rfl ?_
      refine qs_cV1i cfX4_55 (Nat.le_of_ble_eq_true rfl) rfl rfl (fun Y hY => kX4_found  hY) (Nat.le_of_ble_eq_true rfl) dX4_dish_19 rfl (fun x21 D20 g22 => ?_)
      exact qs_iret rfl dX4_dish_22
    · refine qs_aload_n dX4_dish_23 rfl rfl rfl ?_
      refine qs_getR ffX4_10 rfl rfl dX4_dish_24 rfl ?_
      refine qs_getI ffX4_72 rfl rfl dX4_dish_27 rfl ?_
      refine qs_bipush (8 : Int32) dX4_dish_30 (by decide) rfl ?_
      refine qs_icmp_lt (tgt := 41) dX4_dish_32 (by decide) rfl (fun g12 => ?_) (fun g12 => ?_)
      · refine qs_aload_n dX4_dish_41 rfl rfl rfl ?_
        refine qs_getR ffX4_10 rfl rfl dX4_dish_42 rfl ?_
        refine qs_iload_n dX4_dish_45 rfl rfl rfl ?_
        refine qs_cV1r cfX4_75 (Nat.le_of_ble_eq_true rfl) rfl rfl (fun Y hY => kX1_addDish qs_k1 hY) (Nat.le_of_ble_eq_true rfl) dX4_dish_46 rfl (fun x14 D13 g15 => ?_)
        refine qs_iload_n dX4_dish_49 rfl rfl rfl ?_
        refine qs_putI fwX4_79 (qX1_addDish qs_k1 g15) rfl dX4_dish_50 rfl (fun D16 => ?_)
        refine qs_aload_n dX4_dish_53 rfl rfl rfl ?_
        refine qs_getR ffX4_10 rfl rfl dX4_dish_54 rfl ?_
        refine qs_getI ffX4_72 rfl rfl dX4_dish_57 rfl ?_
        refine qs_iconst (1 : Int32) dX4_dish_60 (by decide) rfl ?_
        refine qs_isub dX4_dish_61 rfl ?_
        exact qs_iret rfl dX4_dish_62
      · refine qs_aload_n dX4_dish_35 rfl rfl rfl ?_
        refine qs_iconst (1 : Int32) dX4_dish_36 (by decide) rfl ?_
        refine qs_cV1i cfX4_55 (Nat.le_of_ble_eq_true rfl) rfl rfl (fun Y hY => kX4_found  hY) (Nat.le_of_ble_eq_true rfl) dX4_dish_37 rfl (fun x18 D17 g19 => ?_)
        exact qs_iret rfl dX4_dish_40
def fX4_isDish (p1 : Int32) (D : qs_D) : Option (Int32 × qs_D) := (qs_bind (fX4_within p1 (0 : Int32) ((D 1 5) - (1 : Int32)) D) (fun x2 D1 => (qs_gb x2 (some (x2, D1)))))
set_option maxRecDepth 20000 in
theorem kX4_isDish {l : Launch} {E : qs_E} {A : Nat → Prop} {p1 : Int32} {D : qs_D} {X : Int32 × qs_D}  (hX : fX4_isDish p1 D = some X) : qs_Ctr l E A shX yX4_isDish mX4_isDish 1 qs_ri [.ref 0, .int p1] D X := by
  refine qs_enter (plainFor_of_name (by decide)) rfl (Nat.le_of_ble_eq_true rfl) ?_ hX
  show qs_VO l E A shX mX4_isDish 1 qs_ri 0 [(0, .ref 0), (1, .int p1)] [] D (fX4_isDish p1 D)
  unfold fX4_isDish
  refine qs_iload_n dX4_isDish_0 rfl rfl rfl ?_
  refine qs_iconst (0 : Int32) dX4_isDish_1 (by decide) rfl ?_
  refine qs_aload_n dX4_isDish_2 rfl rfl rfl ?_
  refine qs_getR ffX4_10 rfl rfl dX4_isDish_3 rfl ?_
  refine qs_getI ffX4_72 rfl rfl dX4_isDish_6 rfl ?_
  refine qs_iconst (1 : Int32) dX4_isDish_9 (by decide) rfl ?_
  refine qs_isub dX4_isDish_10 rfl ?_
  refine qs_cS3i cfX4_44 (Nat.le_of_ble_eq_true rfl) (fun Y hY => kX4_within  hY) (Nat.le_of_ble_eq_true rfl) dX4_isDish_11 rfl (fun x2 D1 g3 => ?_)
  exact qs_zretB rfl dX4_isDish_14
abbrev mX4_of : qs_M := (RX4, cX4_of, 3, (some FieldType.int))
def fX4_of (p1 : Int32) (p2 : Int32) (D : qs_D) : Option (Int32 × qs_D) := (qs_bind (fX4_isDish p1 D) (fun x2 D1 => (if x2 = 0 then (qs_bind (fX4_found (0 : Int32) D1) (fun x6 D5 => (some (x6, D5)))) else (qs_bind (fX4_within p2 (0 : Int32) (10 : Int32) D1) (fun x9 D8 => (if x9 = 0 then (qs_bind (fX4_found (0 : Int32) D8) (fun x16 D15 => (some (x16, D15)))) else (qs_bind (fX1_told 1 p1 p2 D8) (fun x13 D12 => (some (x13, D12))))))))))
set_option maxRecDepth 20000 in
theorem kX4_of {l : Launch} {E : qs_E} {A : Nat → Prop} {p1 : Int32} {p2 : Int32} {D : qs_D} {X : Int32 × qs_D}  (hX : fX4_of p1 p2 D = some X) : qs_Ctr l E A shX yX4_of mX4_of 3 qs_ri [.ref 0, .int p1, .int p2] D X := by
  refine qs_enter (plainFor_of_name (by decide)) rfl (Nat.le_of_ble_eq_true rfl) ?_ hX
  show qs_VO l E A shX mX4_of 3 qs_ri 0 [(0, .ref 0), (1, .int p1), (2, .int p2)] [] D (fX4_of p1 p2 D)
  unfold fX4_of
  refine qs_aload_n dX4_of_0 rfl rfl rfl ?_
  refine qs_iload_n dX4_of_1 rfl rfl rfl ?_
  refine qs_cV1i cfX4_84 (Nat.le_of_ble_eq_true rfl) rfl rfl (fun Y hY => kX4_isDish  hY) (Nat.le_of_ble_eq_true rfl) dX4_of_2 rfl (fun x2 D1 g3 => ?_)
  refine qs_if_eq (tgt := 18) dX4_of_5 (by decide) rfl (fun g4 => ?_) (fun g4 => ?_)
  · refine qs_aload_n dX4_of_18 rfl rfl rfl ?_
    refine qs_iconst (0 : Int32) dX4_of_19 (by decide) rfl ?_
    refine qs_cV1i cfX4_55 (Nat.le_of_ble_eq_true rfl) rfl rfl (fun Y hY => kX4_found  hY) (Nat.le_of_ble_eq_true rfl) dX4_of_20 rfl (fun x6 D5 g7 => ?_)
    exact qs_iret rfl dX4_of_23
  · refine qs_iload_n dX4_of_8 rfl rfl rfl ?_
    refine qs_iconst (0 : Int32) dX4_of_9 (by decide) rfl ?_
    refine qs_bipush (10 : Int32) dX4_of_10 (by decide) rfl ?_
    refine qs_cS3i cfX4_44 (Nat.le_of_ble_eq_true rfl) (fun Y hY => kX4_within  hY) (Nat.le_of_ble_eq_true rfl) dX4_of_12 rfl (fun x9 D8 g10 => ?_)
    refine qs_if_ne (tgt := 24) dX4_of_15 (by decide) rfl (fun g11 => ?_) (fun g11 => ?_)
    · refine qs_aload_n dX4_of_18 rfl rfl rfl ?_
      refine qs_iconst (0 : Int32) dX4_of_19 (by decide) rfl ?_
      refine qs_cV1i cfX4_55 (Nat.le_of_ble_eq_true rfl) rfl rfl (fun Y hY => kX4_found  hY) (Nat.le_of_ble_eq_true rfl) dX4_of_20 rfl (fun x16 D15 g17 => ?_)
      exact qs_iret rfl dX4_of_23
    · refine qs_aload_n dX4_of_24 rfl rfl rfl ?_
      refine qs_getR ffX4_10 rfl rfl dX4_of_25 rfl ?_
      refine qs_iload_n dX4_of_28 rfl rfl rfl ?_
      refine qs_iload_n dX4_of_29 rfl rfl rfl ?_
      refine qs_cV2i cfX4_87 (Nat.le_of_ble_eq_true rfl) rfl rfl (fun Y hY => kX1_told qs_k1 hY) (Nat.le_of_ble_eq_true rfl) dX4_of_30 rfl (fun x13 D12 g14 => ?_)
      exact qs_iret rfl dX4_of_33
def fX4_mostOf (p0 : Int32) (D : qs_D) : Option (Int32 × qs_D) := (if p0 = (0 : Int32) then (some ((6 : Int32), D)) else (if p0 = (1 : Int32) then (some ((99 : Int32), D)) else (if p0 = (2 : Int32) then (some ((99 : Int32), D)) else (if p0 = (3 : Int32) then (some ((1 : Int32), D)) else (if p0 = (4 : Int32) then (some ((1 : Int32), D)) else (if p0 = (5 : Int32) then (some ((9999 : Int32), D)) else (some ((1 : Int32), D))))))))
set_option maxRecDepth 20000 in
theorem kX4_mostOf {l : Launch} {E : qs_E} {A : Nat → Prop} {p0 : Int32} {D : qs_D} {X : Int32 × qs_D}  (hX : fX4_mostOf p0 D = some X) : qs_Ctr l E A shX yX4_mostOf mX4_mostOf 0 qs_ri [.int p0] D X := by
  refine qs_enter (plainFor_of_name (by decide)) rfl (Nat.le_of_ble_eq_true rfl) ?_ hX
  show qs_VO l E A shX mX4_mostOf 0 qs_ri 0 [(0, .int p0)] [] D (fX4_mostOf p0 D)
  unfold fX4_mostOf
  refine qs_iload_n dX4_mostOf_0 rfl rfl rfl ?_
  refine qs_ite (fun g1 => ?_) (fun g1 => ?_)
  · refine qs_tsIn (off := 39) (tgt := 40) dX4_mostOf_1 (by rw [g1]; decide) (by rw [g1]; decide) (by rw [g1]; rfl) (by decide) ?_
    refine qs_bipush (6 : Int32) dX4_mostOf_40 (by decide) rfl ?_
    exact qs_iret rfl dX4_mostOf_42
  · refine qs_ite (fun g2 => ?_) (fun g2 => ?_)
    · refine qs_tsIn (off := 42) (tgt := 43) dX4_mostOf_1 (by rw [g2]; decide) (by rw [g2]; decide) (by rw [g2]; rfl) (by decide) ?_
      refine qs_bipush (99 : Int32) dX4_mostOf_43 (by decide) rfl ?_
      exact qs_iret rfl dX4_mostOf_45
    · refine qs_ite (fun g3 => ?_) (fun g3 => ?_)
      · refine qs_tsIn (off := 45) (tgt := 46) dX4_mostOf_1 (by rw [g3]; decide) (by rw [g3]; decide) (by rw [g3]; rfl) (by decide) ?_
        refine qs_bipush (99 : Int32) dX4_mostOf_46 (by decide) rfl ?_
        exact qs_iret rfl dX4_mostOf_48
      · refine qs_ite (fun g4 => ?_) (fun g4 => ?_)
        · refine qs_tsIn (off := 52) (tgt := 53) dX4_mostOf_1 (by rw [g4]; decide) (by rw [g4]; decide) (by rw [g4]; rfl) (by decide) ?_
          refine qs_iconst (1 : Int32) dX4_mostOf_53 (by decide) rfl ?_
          exact qs_iret rfl dX4_mostOf_54
        · refine qs_ite (fun g5 => ?_) (fun g5 => ?_)
          · refine qs_tsIn (off := 52) (tgt := 53) dX4_mostOf_1 (by rw [g5]; decide) (by rw [g5]; decide) (by rw [g5]; rfl) (by decide) ?_
            refine qs_iconst (1 : Int32) dX4_mostOf_53 (by decide) rfl ?_
            exact qs_iret rfl dX4_mostOf_54
          · refine qs_ite (fun g6 => ?_) (fun g6 => ?_)
            · refine qs_tsIn (off := 48) (tgt := 49) dX4_mostOf_1 (by rw [g6]; decide) (by rw [g6]; decide) (by rw [g6]; rfl) (by decide) ?_
              refine qs_sipush (9999 : Int32) dX4_mostOf_49 (by decide) rfl ?_
              exact qs_iret rfl dX4_mostOf_52
            · refine qs_tsOut (tgt := 53) dX4_mostOf_1 (by have eg1 := lv_neT (a := 0) g1 rfl; have eg2 := lv_neT (a := 1) g2 rfl; have eg3 := lv_neT (a := 2) g3 rfl; have eg4 := lv_neT (a := 3) g4 rfl; have eg5 := lv_neT (a := 4) g5 rfl; have eg6 := lv_neT (a := 5) g6 rfl; omega) (by decide) ?_
              refine qs_iconst (1 : Int32) dX4_mostOf_53 (by decide) rfl ?_
              exact qs_iret rfl dX4_mostOf_54
abbrev mX4_change : qs_M := (RX4, cX4_change, 5, (some FieldType.int))
def fX4_change (p1 : Int32) (p2 : Int32) (p3 : Int32) (D : qs_D) : Option (Int32 × qs_D) := (qs_bind (fX4_isDish p1 D) (fun x2 D1 => (if x2 = 0 then (qs_bind (fX4_found (0 : Int32) D1) (fun x6 D5 => (some (x6, D5)))) else (qs_bind (fX4_within p2 (0 : Int32) (5 : Int32) D1) (fun x9 D8 => (if x9 = 0 then (qs_bind (fX4_found (0 : Int32) D8) (fun x13 D12 => (some (x13, D12)))) else (qs_bind (fX4_mostOf p2 D8) (fun x16 D15 => (qs_bind (fX4_within p3 (0 : Int32) x16 D15) (fun x19 D18 => (if x19 = 0 then (qs_bind (fX4_found (0 : Int32) D18) (fun x31 D30 => (some (x31, D30)))) else (qs_bind (fX1_told 1 p1 p2 D18) (fun x23 D22 => (qs_let x23 (fun v25 => (qs_g p1 8 (qs_bind (fX0_put (1 + 4 + p1.toNatClampNeg) p2 p3 D22) (fun x28 D27 => (some (v25, D27))))))))))))))))))))
set_option maxRecDepth 20000 in
theorem kX4_change {l : Launch} {E : qs_E} {A : Nat → Prop} {p1 : Int32} {p2 : Int32} {p3 : Int32} {D : qs_D} {X : Int32 × qs_D}  (hX : fX4_change p1 p2 p3 D = some X) : qs_Ctr l E A shX yX4_change mX4_change 3 qs_ri [.ref 0, .int p1, .int p2, .int p3] D X := by
  refine qs_enter (plainFor_of_name (by decide)) rfl (Nat.le_of_ble_eq_true rfl) ?_ hX
  show qs_VO l E A shX mX4_change 3 qs_ri 0 [(0, .ref 0), (1, .int p1), (2, .int p2), (3, .int p3)] [] D (fX4_change p1 p2 p3 D)
  unfold fX4_change
  refine qs_aload_n dX4_change_0 rfl rfl rfl ?_
  refine qs_iload_n dX4_change_1 rfl rfl rfl ?_
  refine qs_cV1i cfX4_84 (Nat.le_of_ble_eq_true rfl) rfl rfl (fun Y hY => kX4_isDish  hY) (Nat.le_of_ble_eq_true rfl) dX4_change_2 rfl (fun x2 D1 g3 => ?_)
  refine qs_if_eq (tgt := 29) dX4_change_5 (by decide) rfl (fun g4 => ?_) (fun g4 => ?_)
  · refine qs_aload_n dX4_change_29 rfl rfl rfl ?_
    refine qs_iconst (0 : Int32) dX4_change_30 (by decide) rfl ?_
    refine qs_cV1i cfX4_55 (Nat.le_of_ble_eq_true rfl) rfl rfl (fun Y hY => kX4_found  hY) (Nat.le_of_ble_eq_true rfl) dX4_change_31 rfl (fun x6 D5 g7 => ?_)
    exact qs_iret rfl dX4_change_34
  · refine qs_iload_n dX4_change_8 rfl rfl rfl ?_
    refine qs_iconst (0 : Int32) dX4_change_9 (by decide) rfl ?_
    refine qs_iconst (5 : Int32) dX4_change_10 (by decide) rfl ?_
    refine qs_cS3i cfX4_44 (Nat.le_of_ble_eq_true rfl) (fun Y hY => kX4_within  hY) (Nat.le_of_ble_eq_true rfl) dX4_change_11 rfl (fun x9 D8 g10 => ?_)
    refine qs_if_eq (tgt := 29) dX4_change_14 (by decide) rfl (fun g11 => ?_) (fun g11 => ?_)
    · refine qs_aload_n dX4_change_29 rfl rfl rfl ?_
      refine qs_iconst (0 : Int32) dX4_change_30 (by decide) rfl ?_
      refine qs_cV1i cfX4_55 (Nat.le_of_ble_eq_true rfl) rfl rfl (fun Y hY => kX4_found  hY) (Nat.le_of_ble_eq_true rfl) dX4_change_31 rfl (fun x13 D12 g14 => ?_)
      exact qs_iret rfl dX4_change_34
    · refine qs_iload_n dX4_change_17 rfl rfl rfl ?_
      refine qs_iconst (0 : Int32) dX4_change_18 (by decide) rfl ?_
      refine qs_iload_n dX4_change_19 rfl rfl rfl ?_
      refine qs_cS1i cfX4_91 (Nat.le_of_ble_eq_true rfl) (fun Y hY => kX4_mostOf  hY) (Nat.le_of_ble_eq_true rfl) dX4_change_20 rfl (fun x16 D15 g17 => ?_)
      refine qs_cS3i cfX4_44 (Nat.le_of_ble_eq_true rfl) (fun Y hY => kX4_within  hY) (Nat.le_of_ble_eq_true rfl) dX4_change_23 rfl (fun x19 D18 g20 => ?_)
      refine qs_if_ne (tgt := 35) dX4_change_26 (by decide) rfl (fun g21 => ?_) (fun g21 => ?_)
      · refine qs_aload_n dX4_change_29 rfl rfl rfl ?_
        refine qs_iconst (0 : Int32) dX4_change_30 (by decide) rfl ?_
        refine qs_cV1i cfX4_55 (Nat.le_of_ble_eq_true rfl) rfl rfl (fun Y hY => kX4_found  hY) (Nat.le_of_ble_eq_true rfl) dX4_change_31 rfl (fun x31 D30 g32 => ?_)
        exact qs_iret rfl dX4_change_34
      · refine qs_aload_n dX4_change_35 rfl rfl rfl ?_
        refine qs_getR ffX4_10 rfl rfl dX4_change_36 rfl ?_
        refine qs_iload_n dX4_change_39 rfl rfl rfl ?_
        refine qs_iload_n dX4_change_40 rfl rfl rfl ?_
        refine qs_cV2i cfX4_87 (Nat.le_of_ble_eq_true rfl) rfl rfl (fun Y hY => kX1_told qs_k1 hY) (Nat.le_of_ble_eq_true rfl) dX4_change_41 rfl (fun x23 D22 g24 => ?_)
        refine qs_istore (fun v25 => [(4, .int v25), (0, .ref 0), (1, .int p1), (2, .int p2), (3, .int p3)]) dX4_change_44 (by decide) (fun _ => rfl) rfl (fun v25 => ?_)
        refine qs_aload_n dX4_change_46 rfl rfl rfl ?_
        refine qs_getR ffX4_10 rfl rfl dX4_change_47 rfl ?_
        refine qs_getR ffX4_94 rfl rfl dX4_change_50 rfl ?_
        refine qs_iload_n dX4_change_53 rfl rfl rfl ?_
        refine qs_aald (kd := 2) (C := RX0) (g := fun j => 1 + 4 + j) rfl (by decide) (qs_kA qs_k1) (by decide) dX4_change_54 rfl (fun g26 => ?_)
        refine qs_iload_n dX4_change_55 rfl rfl rfl ?_
        refine qs_iload_n dX4_change_56 rfl rfl rfl ?_
        refine qs_cV2v cfX4_98 (Nat.le_of_ble_eq_true rfl) (qs_kd qs_k1 g26) rfl (fun Y hY => kX0_put (qs_kd qs_k1 g26) hY) (Nat.le_of_ble_eq_true rfl) dX4_change_57 rfl (fun x28 D27 g29 => ?_)
        refine qs_iload dX4_change_60 rfl rfl ?_
        exact qs_iret rfl dX4_change_62
abbrev mX4_serve : qs_M := (RX4, cX4_serve, 2, (some FieldType.int))
def fX4_serve (p1 : Int32) (D : qs_D) : Option (Int32 × qs_D) := (qs_bind (fX4_isDish p1 D) (fun x2 D1 => (if x2 = 0 then (qs_bind (fX4_found (0 : Int32) D1) (fun x14 D13 => (some (x14, D13)))) else (qs_g p1 8 (if (D1 (1 + 4 + p1.toNatClampNeg) 4) = (1 : Int32) then (qs_bind (fX4_found (4 : Int32) D1) (fun x11 D10 => (some (x11, D10)))) else (qs_bind (fX1_serveDish 1 p1 D1) (fun x8 D7 => (some (x8, D7)))))))))
set_option maxRecDepth 20000 in
theorem kX4_serve {l : Launch} {E : qs_E} {A : Nat → Prop} {p1 : Int32} {D : qs_D} {X : Int32 × qs_D}  (hX : fX4_serve p1 D = some X) : qs_Ctr l E A shX yX4_serve mX4_serve 4 qs_ri [.ref 0, .int p1] D X := by
  refine qs_enter (plainFor_of_name (by decide)) rfl (Nat.le_of_ble_eq_true rfl) ?_ hX
  show qs_VO l E A shX mX4_serve 4 qs_ri 0 [(0, .ref 0), (1, .int p1)] [] D (fX4_serve p1 D)
  unfold fX4_serve
  refine qs_aload_n dX4_serve_0 rfl rfl rfl ?_
  refine qs_iload_n dX4_serve_1 rfl rfl rfl ?_
  refine qs_cV1i cfX4_84 (Nat.le_of_ble_eq_true rfl) rfl rfl (fun Y hY => kX4_isDish  hY) (Nat.le_of_ble_eq_true rfl) dX4_serve_2 rfl (fun x2 D1 g3 => ?_)
  refine qs_if_ne (tgt := 14) dX4_serve_5 (by decide) rfl (fun g4 => ?_) (fun g4 => ?_)
  · refine qs_aload_n dX4_serve_8 rfl rfl rfl ?_
    refine qs_iconst (0 : Int32) dX4_serve_9 (by decide) rfl ?_
    refine qs_cV1i cfX4_55 (Nat.le_of_ble_eq_true rfl) rfl rfl (fun Y hY => kX4_found  hY) (Nat.le_of_ble_eq_true rfl) dX4_serve_10 rfl (fun x14 D13 g15 => ?_)
    exact qs_iret rfl dX4_serve_13
  · refine qs_aload_n dX4_serve_14 rfl rfl rfl ?_
    refine qs_getR ffX4_10 rfl rfl dX4_serve_15 rfl ?_
    refine qs_getR ffX4_94 rfl rfl dX4_serve_18 rfl ?_
    refine qs_iload_n dX4_serve_21 rfl rfl rfl ?_
    refine qs_aald (kd := 2) (C := RX0) (g := fun j => 1 + 4 + j) rfl (by decide) (qs_kA qs_k1) (by decide) dX4_serve_22 rfl (fun g5 => ?_)
    refine qs_getI ffX4_102 (qs_kd qs_k1 g5) rfl dX4_serve_23 rfl ?_
    refine qs_iconst (1 : Int32) dX4_serve_26 (by decide) rfl ?_
    refine qs_icmp_ne (tgt := 36) dX4_serve_27 (by decide) rfl (fun g6 => ?_) (fun g6 => ?_)
    · refine qs_aload_n dX4_serve_30 rfl rfl rfl ?_
      refine qs_iconst (4 : Int32) dX4_serve_31 (by decide) rfl ?_
      refine qs_cV1i cfX4_55 (Nat.le_of_ble_eq_true rfl) rfl rfl (fun Y hY => kX4_found  hY) (Nat.le_of_ble_eq_true rfl) dX4_serve_32 rfl (fun x11 D10 g12 => ?_)
      exact qs_iret rfl dX4_serve_35
    · refine qs_aload_n dX4_serve_36 rfl rfl rfl ?_
      refine qs_getR ffX4_10 rfl rfl dX4_serve_37 rfl ?_
      refine qs_iload_n dX4_serve_40 rfl rfl rfl ?_
      refine qs_cV1i cfX4_105 (Nat.le_of_ble_eq_true rfl) rfl rfl (fun Y hY => kX1_serveDish qs_k1 hY) (Nat.le_of_ble_eq_true rfl) dX4_serve_41 rfl (fun x8 D7 g9 => ?_)
      exact qs_iret rfl dX4_serve_44
abbrev mX4_act : qs_M := (RX4, cX4_act, 2, (some FieldType.int))
def fX4_act (p1 : Int32) (D : qs_D) : Option (Int32 × qs_D) := (qs_bind (fX4_isDeed p1 D) (fun x2 D1 => (if x2 = 0 then (qs_bind (fX4_found (0 : Int32) D1) (fun x10 D9 => (some (x10, D9)))) else (qs_bind (fX4_grudgeAfter (D1 1 0) p1 D1) (fun x6 D5 => (qs_let (qs_u D5 1 0 x6) (fun D8 => (some ((D8 1 0), D8)))))))))
set_option maxRecDepth 20000 in
theorem kX4_act {l : Launch} {E : qs_E} {A : Nat → Prop} {p1 : Int32} {D : qs_D} {X : Int32 × qs_D}  (hX : fX4_act p1 D = some X) : qs_Ctr l E A shX yX4_act mX4_act 2 qs_ri [.ref 0, .int p1] D X := by
  refine qs_enter (plainFor_of_name (by decide)) rfl (Nat.le_of_ble_eq_true rfl) ?_ hX
  show qs_VO l E A shX mX4_act 2 qs_ri 0 [(0, .ref 0), (1, .int p1)] [] D (fX4_act p1 D)
  unfold fX4_act
  refine qs_iload_n dX4_act_0 rfl rfl rfl ?_
  refine qs_cS1i cfX4_63 (Nat.le_of_ble_eq_true rfl) (fun Y hY => kX4_isDeed  hY) (Nat.le_of_ble_eq_true rfl) dX4_act_1 rfl (fun x2 D1 g3 => ?_)
  refine qs_if_ne (tgt := 13) dX4_act_4 (by decide) rfl (fun g4 => ?_) (fun g4 => ?_)
  · refine qs_aload_n dX4_act_7 rfl rfl rfl ?_
    refine qs_iconst (0 : Int32) dX4_act_8 (by decide) rfl ?_
    refine qs_cV1i cfX4_55 (Nat.le_of_ble_eq_true rfl) rfl rfl (fun Y hY => kX4_found  hY) (Nat.le_of_ble_eq_true rfl) dX4_act_9 rfl (fun x10 D9 g11 => ?_)
    exact qs_iret rfl dX4_act_12
  · refine qs_aload_n dX4_act_13 rfl rfl rfl ?_
    refine qs_getR ffX4_10 rfl rfl dX4_act_14 rfl ?_
    refine qs_aload_n dX4_act_17 rfl rfl rfl ?_
    refine qs_getR ffX4_10 rfl rfl dX4_act_18 rfl ?_
    refine qs_getI ffX4_48 rfl rfl dX4_act_21 rfl ?_
    refine qs_iload_n dX4_act_24 rfl rfl rfl ?_
    refine qs_cS2i cfX4_108 (Nat.le_of_ble_eq_true rfl) (fun Y hY => kX4_grudgeAfter  hY) (Nat.le_of_ble_eq_true rfl) dX4_act_25 rfl (fun x6 D5 g7 => ?_)
    refine qs_putI fwX4_48 rfl rfl dX4_act_28 rfl (fun D8 => ?_)
    refine qs_aload_n dX4_act_31 rfl rfl rfl ?_
    refine qs_getR ffX4_10 rfl rfl dX4_act_32 rfl ?_
    refine qs_getI ffX4_48 rfl rfl dX4_act_35 rfl ?_
    exact qs_iret rfl dX4_act_38
abbrev mX4_go : qs_M := (RX4, cX4_go, 2, (some FieldType.int))
def fX4_go (p1 : Int32) (D : qs_D) : Option (Int32 × qs_D) := (qs_bind (fX4_within p1 (1 : Int32) (60 : Int32) D) (fun x2 D1 => (if x2 = 0 then (qs_bind (fX4_found (0 : Int32) D1) (fun x13 D12 => (some (x13, D12)))) else (if ((D1 1 3) + p1) ≤ (99999 : Int32) then (qs_bind (fX1_passSteps 1 p1 D1) (fun x7 D6 => (some ((D6 1 0), D6)))) else (qs_bind (fX4_found (4 : Int32) D1) (fun x10 D9 => (some (x10, D9))))))))
set_option maxRecDepth 20000 in
theorem kX4_go {l : Launch} {E : qs_E} {A : Nat → Prop} {p1 : Int32} {D : qs_D} {X : Int32 × qs_D}  (hX : fX4_go p1 D = some X) : qs_Ctr l E A shX yX4_go mX4_go 4 qs_ri [.ref 0, .int p1] D X := by
  refine qs_enter (plainFor_of_name (by decide)) rfl (Nat.le_of_ble_eq_true rfl) ?_ hX
  show qs_VO l E A shX mX4_go 4 qs_ri 0 [(0, .ref 0), (1, .int p1)] [] D (fX4_go p1 D)
  unfold fX4_go
  refine qs_iload_n dX4_go_0 rfl rfl rfl ?_
  refine qs_iconst (1 : Int32) dX4_go_1 (by decide) rfl ?_
  refine qs_bipush (60 : Int32) dX4_go_2 (by decide) rfl ?_
  refine qs_cS3i cfX4_44 (Nat.le_of_ble_eq_true rfl) (fun Y hY => kX4_within  hY) (Nat.le_of_ble_eq_true rfl) dX4_go_4 rfl (fun x2 D1 g3 => ?_)
  refine qs_if_ne (tgt := 16) dX4_go_7 (by decide) rfl (fun g4 => ?_) (fun g4 => ?_)
  · refine qs_aload_n dX4_go_10 rfl rfl rfl ?_
    refine qs_iconst (0 : Int32) dX4_go_11 (by decide) rfl ?_
    refine qs_cV1i cfX4_55 (Nat.le_of_ble_eq_true rfl) rfl rfl (fun Y hY => kX4_found  hY) (Nat.le_of_ble_eq_true rfl) dX4_go_12 rfl (fun x13 D12 g14 => ?_)
    exact qs_iret rfl dX4_go_15
  · refine qs_aload_n dX4_go_16 rfl rfl rfl ?_
    refine qs_getR ffX4_10 rfl rfl dX4_go_17 rfl ?_
    refine qs_getI ffX4_111 rfl rfl dX4_go_20 rfl ?_
    refine qs_iload_n dX4_go_23 rfl rfl rfl ?_
    refine qs_iadd dX4_go_24 rfl ?_
    refine qs_ldc wcX4_114 dX4_go_25 rfl ?_
    refine qs_icmp_le (tgt := 36) dX4_go_27 (by decide) rfl (fun g5 => ?_) (fun g5 => ?_)
    · refine qs_aload_n dX4_go_36 rfl rfl rfl ?_
      refine qs_getR ffX4_10 rfl rfl dX4_go_37 rfl ?_
      refine qs_iload_n dX4_go_40 rfl rfl rfl ?_
      refine qs_cV1v cfX4_115 (Nat.le_of_ble_eq_true rfl) rfl rfl (fun Y hY => kX1_passSteps qs_k1 hY) (Nat.le_of_ble_eq_true rfl) dX4_go_41 rfl (fun x7 D6 g8 => ?_)
      refine qs_aload_n dX4_go_44 rfl rfl rfl ?_
      refine qs_getR ffX4_10 rfl rfl dX4_go_45 rfl ?_
      refine qs_getI ffX4_48 rfl rfl dX4_go_48 rfl ?_
      exact qs_iret rfl dX4_go_51
    · refine qs_aload_n dX4_go_30 rfl rfl rfl ?_
      refine qs_iconst (4 : Int32) dX4_go_31 (by decide) rfl ?_
      refine qs_cV1i cfX4_55 (Nat.le_of_ble_eq_true rfl) rfl rfl (fun Y hY => kX4_found  hY) (Nat.le_of_ble_eq_true rfl) dX4_go_32 rfl (fun x10 D9 g11 => ?_)
      exact qs_iret rfl dX4_go_35
abbrev mX4_now : qs_M := (RX4, cX4_now, 2, (some FieldType.int))
def fX4_now (p1 : Int32) (D : qs_D) : Option (Int32 × qs_D) := (if p1 = (0 : Int32) then (some ((D 1 3), D)) else (if p1 = (1 : Int32) then (some ((D 1 0), D)) else (if p1 = (2 : Int32) then (some ((D 1 2), D)) else (if p1 = (3 : Int32) then (qs_bind (fX1_splitSet 1 D) (fun x6 D5 => (some (x6, D5)))) else (if p1 = (4 : Int32) then (qs_bind (fX1_offSet 1 D) (fun x10 D9 => (some (x10, D9)))) else (if p1 = (5 : Int32) then (qs_bind (fX1_endangeredSet 1 D) (fun x14 D13 => (some (x14, D13)))) else (if p1 = (6 : Int32) then (qs_bind (fX1_givenForAll 1 D) (fun x18 D17 => (some (x18, D17)))) else (if p1 = (7 : Int32) then (qs_bind (fX1_dearest 1 D) (fun x22 D21 => (some (x22, D21)))) else (qs_bind (fX4_found (0 : Int32) D) (fun x25 D24 => (some (x25, D24))))))))))))
set_option maxRecDepth 20000 in
theorem kX4_now {l : Launch} {E : qs_E} {A : Nat → Prop} {p1 : Int32} {D : qs_D} {X : Int32 × qs_D}  (hX : fX4_now p1 D = some X) : qs_Ctr l E A shX yX4_now mX4_now 4 qs_ri [.ref 0, .int p1] D X := by
  refine qs_enter (plainFor_of_name (by decide)) rfl (Nat.le_of_ble_eq_true rfl) ?_ hX
  show qs_VO l E A shX mX4_now 4 qs_ri 0 [(0, .ref 0), (1, .int p1)] [] D (fX4_now p1 D)
  unfold fX4_now
  refine qs_iload_n dX4_now_0 rfl rfl rfl ?_
  refine qs_ite (fun g1 => ?_) (fun g1 => ?_)
  · refine qs_tsIn (off := 47) (tgt := 48) dX4_now_1 (by rw [g1]; decide) (by rw [g1]; decide) (by rw [g1]; rfl) (by decide) ?_
    refine qs_aload_n dX4_now_48 rfl rfl rfl ?_
    refine qs_getR ffX4_10 rfl rfl dX4_now_49 rfl ?_
    refine qs_getI ffX4_111 rfl rfl dX4_now_52 rfl ?_
    exact qs_iret rfl dX4_now_55
  · refine qs_ite (fun g2 => ?_) (fun g2 => ?_)
    · refine qs_tsIn (off := 55) (tgt := 56) dX4_now_1 (by rw [g2]; decide) (by rw [g2]; decide) (by rw [g2]; rfl) (by decide) ?_
      refine qs_aload_n dX4_now_56 rfl rfl rfl ?_
      refine qs_getR ffX4_10 rfl rfl dX4_now_57 rfl ?_
      refine qs_getI ffX4_48 rfl rfl dX4_now_60 rfl ?_
      exact qs_iret rfl dX4_now_63
    · refine qs_ite (fun g3 => ?_) (fun g3 => ?_)
      · refine qs_tsIn (off := 63) (tgt := 64) dX4_now_1 (by rw [g3]; decide) (by rw [g3]; decide) (by rw [g3]; rfl) (by decide) ?_
        refine qs_aload_n dX4_now_64 rfl rfl rfl ?_
        refine qs_getR ffX4_10 rfl rfl dX4_now_65 rfl ?_
        refine qs_getI ffX4_119 rfl rfl dX4_now_68 rfl ?_
        exact qs_iret rfl dX4_now_71
      · refine qs_ite (fun g4 => ?_) (fun g4 => ?_)
        · refine qs_tsIn (off := 71) (tgt := 72) dX4_now_1 (by rw [g4]; decide) (by rw [g4]; decide) (by rw [g4]; rfl) (by decide) ?_
          refine qs_aload_n dX4_now_72 rfl rfl rfl ?_
          refine qs_getR ffX4_10 rfl rfl dX4_now_73 rfl ?_
          refine qs_cV0i cfX4_122 (Nat.le_of_ble_eq_true rfl) rfl rfl (fun Y hY => kX1_splitSet qs_k1 hY) (Nat.le_of_ble_eq_true rfl) dX4_now_76 rfl (fun x6 D5 g7 => ?_)
          exact qs_iret rfl dX4_now_79
        · refine qs_ite (fun g8 => ?_) (fun g8 => ?_)
          · refine qs_tsIn (off := 79) (tgt := 80) dX4_now_1 (by rw [g8]; decide) (by rw [g8]; decide) (by rw [g8]; rfl) (by decide) ?_
            refine qs_aload_n dX4_now_80 rfl rfl rfl ?_
            refine qs_getR ffX4_10 rfl rfl dX4_now_81 rfl ?_
            refine qs_cV0i cfX4_126 (Nat.le_of_ble_eq_true rfl) rfl rfl (fun Y hY => kX1_offSet qs_k1 hY) (Nat.le_of_ble_eq_true rfl) dX4_now_84 rfl (fun x10 D9 g11 => ?_)
            exact qs_iret rfl dX4_now_87
          · refine qs_ite (fun g12 => ?_) (fun g12 => ?_)
            · refine qs_tsIn (off := 87) (tgt := 88) dX4_now_1 (by rw [g12]; decide) (by rw [g12]; decide) (by rw [g12]; rfl) (by decide) ?_
              refine qs_aload_n dX4_now_88 rfl rfl rfl ?_
              refine qs_getR ffX4_10 rfl rfl dX4_now_89 rfl ?_
              refine qs_cV0i cfX4_129 (Nat.le_of_ble_eq_true rfl) rfl rfl (fun Y hY => kX1_endangeredSet qs_k1 hY) (Nat.le_of_ble_eq_true rfl) dX4_now_92 rfl (fun x14 D13 g15 => ?_)
              exact qs_iret rfl dX4_now_95
            · refine qs_ite (fun g16 => ?_) (fun g16 => ?_)
              · refine qs_tsIn (off := 95) (tgt := 96) dX4_now_1 (by rw [g16]; decide) (by rw [g16]; decide) (by rw [g16]; rfl) (by decide) ?_
                refine qs_aload_n dX4_now_96 rfl rfl rfl ?_
                refine qs_getR ffX4_10 rfl rfl dX4_now_97 rfl ?_
                refine qs_cV0i cfX4_132 (Nat.le_of_ble_eq_true rfl) rfl rfl (fun Y hY => kX1_givenForAll qs_k1 hY) (Nat.le_of_ble_eq_true rfl) dX4_now_100 rfl (fun x18 D17 g19 => ?_)
                exact qs_iret rfl dX4_now_103
              · refine qs_ite (fun g20 => ?_) (fun g20 => ?_)
                · refine qs_tsIn (off := 103) (tgt := 104) dX4_now_1 (by rw [g20]; decide) (by rw [g20]; decide) (by rw [g20]; rfl) (by decide) ?_
                  refine qs_aload_n dX4_now_104 rfl rfl rfl ?_
                  refine qs_getR ffX4_10 rfl rfl dX4_now_105 rfl ?_
                  refine qs_cV0i cfX4_135 (Nat.le_of_ble_eq_true rfl) rfl rfl (fun Y hY => kX1_dearest qs_k1 hY) (Nat.le_of_ble_eq_true rfl) dX4_now_108 rfl (fun x22 D21 g23 => ?_)
                  exact qs_iret rfl dX4_now_111
                · refine qs_tsOut (tgt := 112) dX4_now_1 (by have eg1 := lv_neT (a := 0) g1 rfl; have eg2 := lv_neT (a := 1) g2 rfl; have eg3 := lv_neT (a := 2) g3 rfl; have eg4 := lv_neT (a := 3) g4 rfl; have eg8 := lv_neT (a := 4) g8 rfl; have eg12 := lv_neT (a := 5) g12 rfl; have eg16 := lv_neT (a := 6) g16 rfl; have eg20 := lv_neT (a := 7) g20 rfl; omega) (by decide) ?_
                  refine qs_aload_n dX4_now_112 rfl rfl rfl ?_
                  refine qs_iconst (0 : Int32) dX4_now_113 (by decide) rfl ?_
                  refine qs_cV1i cfX4_55 (Nat.le_of_ble_eq_true rfl) rfl rfl (fun Y hY => kX4_found  hY) (Nat.le_of_ble_eq_true rfl) dX4_now_114 rfl (fun x25 D24 g26 => ?_)
                  exact qs_iret rfl dX4_now_117
abbrev mX4_ahead : qs_M := (RX4, cX4_ahead, 5, (some FieldType.int))
def fX4_ahead (p1 : Int32) (p2 : Int32) (p3 : Int32) (D : qs_D) : Option (Int32 × qs_D) := (qs_bind (fX4_within p2 (1 : Int32) (3 : Int32) D) (fun x2 D1 => (if x2 = 0 then (if p2 = (10 : Int32) then (qs_let (1 : Int32) (fun v62 => (qs_bind (fX4_isDish p1 D1) (fun x64 D63 => (if x64 = 0 then (qs_bind (fX4_found (0 : Int32) D63) (fun x68 D67 => (some (x68, D67)))) else (if v62 = 0 then (qs_bind (fX4_found (0 : Int32) D63) (fun x72 D71 => (some (x72, D71)))) else (qs_bind (fX4_within p3 (0 : Int32) (100 : Int32) D63) (fun x75 D74 => (if x75 = 0 then (qs_bind (fX4_found (0 : Int32) D74) (fun x88 D87 => (some (x88, D87)))) else (qs_bind (fX1_takeOne 25 1 p1 D74) (fun x79 D78 => (qs_bind (fX1_passSteps 25 p3 D78) (fun x82 D81 => (qs_bind (fX1_told 25 (0 : Int32) p2 D81) (fun x85 D84 => (some (x85, D84))))))))))))))))) else (qs_let (0 : Int32) (fun v34 => (qs_bind (fX4_isDish p1 D1) (fun x36 D35 => (if x36 = 0 then (qs_bind (fX4_found (0 : Int32) D35) (fun x40 D39 => (some (x40, D39)))) else (if v34 = 0 then (qs_bind (fX4_found (0 : Int32) D35) (fun x44 D43 => (some (x44, D43)))) else (qs_bind (fX4_within p3 (0 : Int32) (100 : Int32) D35) (fun x47 D46 => (if x47 = 0 then (qs_bind (fX4_found (0 : Int32) D46) (fun x60 D59 => (some (x60, D59)))) else (qs_bind (fX1_takeOne 25 1 p1 D46) (fun x51 D50 => (qs_bind (fX1_passSteps 25 p3 D50) (fun x54 D53 => (qs_bind (fX1_told 25 (0 : Int32) p2 D53) (fun x57 D56 => (some (x57, D56)))))))))))))))))) else (qs_let (1 : Int32) (fun v5 => (qs_bind (fX4_isDish p1 D1) (fun x7 D6 => (if x7 = 0 then (qs_bind (fX4_found (0 : Int32) D6) (fun x11 D10 => (some (x11, D10)))) else (if v5 = 0 then (qs_bind (fX4_found (0 : Int32) D6) (fun x15 D14 => (some (x15, D14)))) else (qs_bind (fX4_within p3 (0 : Int32) (100 : Int32) D6) (fun x18 D17 => (if x18 = 0 then (qs_bind (fX4_found (0 : Int32) D17) (fun x31 D30 => (some (x31, D30)))) else (qs_bind (fX1_takeOne 25 1 p1 D17) (fun x22 D21 => (qs_bind (fX1_passSteps 25 p3 D21) (fun x25 D24 => (qs_bind (fX1_told 25 (0 : Int32) p2 D24) (fun x28 D27 => (some (x28, D27))))))))))))))))))))
set_option maxRecDepth 20000 in
theorem kX4_ahead {l : Launch} {E : qs_E} {A : Nat → Prop} {p1 : Int32} {p2 : Int32} {p3 : Int32} {D : qs_D} {X : Int32 × qs_D}  (hX : fX4_ahead p1 p2 p3 D = some X) : qs_Ctr l E A shX yX4_ahead mX4_ahead 4 qs_ri [.ref 0, .int p1, .int p2, .int p3] D X := by
  refine qs_enter (plainFor_of_name (by decide)) rfl (Nat.le_of_ble_eq_true rfl) ?_ hX
  show qs_VO l E A shX mX4_ahead 4 qs_ri 0 [(0, .ref 0), (1, .int p1), (2, .int p2), (3, .int p3)] [] D (fX4_ahead p1 p2 p3 D)
  unfold fX4_ahead
  refine qs_iload_n dX4_ahead_0 rfl rfl rfl ?_
  refine qs_iconst (1 : Int32) dX4_ahead_1 (by decide) rfl ?_
  refine qs_iconst (3 : Int32) dX4_ahead_2 (by decide) rfl ?_
  refine qs_cS3i cfX4_44 (Nat.le_of_ble_eq_true rfl) (fun Y hY => kX4_within  hY) (Nat.le_of_ble_eq_true rfl) dX4_ahead_3 rfl (fun x2 D1 g3 => ?_)
  refine qs_if_ne (tgt := 15) dX4_ahead_6 (by decide) rfl (fun g4 => ?_) (fun g4 => ?_)
  · refine qs_iload_n dX4_ahead_9 rfl rfl rfl ?_
    refine qs_bipush (10 : Int32) dX4_ahead_10 (by decide) rfl ?_
    refine qs_icmp_ne (tgt := 19) dX4_ahead_12 (by decide) rfl (fun g33 => ?_) (fun g33 => ?_)
    · refine qs_iconst (1 : Int32) dX4_ahead_15 (by decide) rfl ?_
      refine qs_goto (tgt := 20) dX4_ahead_16 (by decide) ?_
      refine qs_istore (fun v62 => [(4, .int v62), (0, .ref 0), (1, .int p1), (2, .int p2), (3, .int p3)]) dX4_ahead_20 (by decide) (fun _ => rfl) rfl (fun v62 => ?_)
      refine qs_aload_n dX4_ahead_22 rfl rfl rfl ?_
      refine qs_iload_n dX4_ahead_23 rfl rfl rfl ?_
      refine qs_cV1i cfX4_84 (Nat.le_of_ble_eq_true rfl) rfl rfl (fun Y hY => kX4_isDish  hY) (Nat.le_of_ble_eq_true rfl) dX4_ahead_24 rfl (fun x64 D63 g65 => ?_)
      refine qs_if_eq (tgt := 45) dX4_ahead_27 (by decide) rfl (fun g66 => ?_) (fun g66 => ?_)
      · refine qs_aload_n dX4_ahead_45 rfl rfl rfl ?_
        refine qs_iconst (0 : Int32) dX4_ahead_46 (by decide) rfl ?_
        refine qs_cV1i cfX4_55 (Nat.le_of_ble_eq_true rfl) rfl rfl (fun Y hY => kX4_found  hY) (Nat.le_of_ble_eq_true rfl) dX4_ahead_47 rfl (fun x68 D67 g69 => ?_)
        exact qs_iret rfl dX4_ahead_50
      · refine qs_iload dX4_ahead_30 rfl rfl ?_
        refine qs_if_eq (tgt := 45) dX4_ahead_32 (by decide) rfl (fun g70 => ?_) (fun g70 => ?_)
        · refine qs_aload_n dX4_ahead_45 rfl rfl rfl ?_
          refine qs_iconst (0 : Int32) dX4_ahead_46 (by decide) rfl ?_
          refine qs_cV1i cfX4_55 (Nat.le_of_ble_eq_true rfl) rfl rfl (fun Y hY => kX4_found  hY) (Nat.le_of_ble_eq_true rfl) dX4_ahead_47 rfl (fun x72 D71 g73 => ?_)
          exact qs_iret rfl dX4_ahead_50
        · refine qs_iload_n dX4_ahead_35 rfl rfl rfl ?_
          refine qs_iconst (0 : Int32) dX4_ahead_36 (by decide) rfl ?_
          refine qs_bipush (100 : Int32) dX4_ahead_37 (by decide) rfl ?_
          refine qs_cS3i cfX4_44 (Nat.le_of_ble_eq_true rfl) (fun Y hY => kX4_within  hY) (Nat.le_of_ble_eq_true rfl) dX4_ahead_39 rfl (fun x75 D74 g76 => ?_)
          refine qs_if_ne (tgt := 51) dX4_ahead_42 (by decide) rfl (fun g77 => ?_) (fun g77 => ?_)
          · refine qs_aload_n dX4_ahead_45 rfl rfl rfl ?_
            refine qs_iconst (0 : Int32) dX4_ahead_46 (by decide) rfl ?_
            refine qs_cV1i cfX4_55 (Nat.le_of_ble_eq_true rfl) rfl rfl (fun Y hY => kX4_found  hY) (Nat.le_of_ble_eq_true rfl) dX4_ahead_47 rfl (fun x88 D87 g89 => ?_)
            exact qs_iret rfl dX4_ahead_50
          · refine qs_aload_n dX4_ahead_51 rfl rfl rfl ?_
            refine qs_getR ffX4_19 rfl rfl dX4_ahead_52 rfl ?_
            refine qs_aload_n dX4_ahead_55 rfl rfl rfl ?_
            refine qs_getR ffX4_10 rfl rfl dX4_ahead_56 rfl ?_
            refine qs_iload_n dX4_ahead_59 rfl rfl rfl ?_
            refine qs_cV2v cfX4_138 (Nat.le_of_ble_eq_true rfl) rfl rfl (fun Y hY => kX1_takeOne qs_k25 qs_k1 hY) (Nat.le_of_ble_eq_true rfl) dX4_ahead_60 rfl (fun x79 D78 g80 => ?_)
            refine qs_aload_n dX4_ahead_63 rfl rfl rfl ?_
            refine qs_getR ffX4_19 rfl rfl dX4_ahead_64 rfl ?_
            refine qs_iload_n dX4_ahead_67 rfl rfl rfl ?_
            refine qs_cV1v cfX4_115 (Nat.le_of_ble_eq_true rfl) rfl rfl (fun Y hY => kX1_passSteps qs_k25 hY) (Nat.le_of_ble_eq_true rfl) dX4_ahead_68 rfl (fun x82 D81 g83 => ?_)
            refine qs_aload_n dX4_ahead_71 rfl rfl rfl ?_
            refine qs_getR ffX4_19 rfl rfl dX4_ahead_72 rfl ?_
            refine qs_iconst (0 : Int32) dX4_ahead_75 (by decide) rfl ?_
            refine qs_iload_n dX4_ahead_76 rfl rfl rfl ?_
            refine qs_cV2i cfX4_87 (Nat.le_of_ble_eq_true rfl) rfl rfl (fun Y hY => kX1_told qs_k25 hY) (Nat.le_of_ble_eq_true rfl) dX4_ahead_77 rfl (fun x85 D84 g86 => ?_)
            exact qs_iret rfl dX4_ahead_80
    · refine qs_iconst (0 : Int32) dX4_ahead_19 (by decide) rfl ?_
      refine qs_istore (fun v34 => [(4, .int v34), (0, .ref 0), (1, .int p1), (2, .int p2), (3, .int p3)]) dX4_ahead_20 (by decide) (fun _ => rfl) rfl (fun v34 => ?_)
      refine qs_aload_n dX4_ahead_22 rfl rfl rfl ?_
      refine qs_iload_n dX4_ahead_23 rfl rfl rfl ?_
      refine qs_cV1i cfX4_84 (Nat.le_of_ble_eq_true rfl) rfl rfl (fun Y hY => kX4_isDish  hY) (Nat.le_of_ble_eq_true rfl) dX4_ahead_24 rfl (fun x36 D35 g37 => ?_)
      refine qs_if_eq (tgt := 45) dX4_ahead_27 (by decide) rfl (fun g38 => ?_) (fun g38 => ?_)
      · refine qs_aload_n dX4_ahead_45 rfl rfl rfl ?_
        refine qs_iconst (0 : Int32) dX4_ahead_46 (by decide) rfl ?_
        refine qs_cV1i cfX4_55 (Nat.le_of_ble_eq_true rfl) rfl rfl (fun Y hY => kX4_found  hY) (Nat.le_of_ble_eq_true rfl) dX4_ahead_47 rfl (fun x40 D39 g41 => ?_)
        exact qs_iret rfl dX4_ahead_50
      · refine qs_iload dX4_ahead_30 rfl rfl ?_
        refine qs_if_eq (tgt := 45) dX4_ahead_32 (by decide) rfl (fun g42 => ?_) (fun g42 => ?_)
        · refine qs_aload_n dX4_ahead_45 rfl rfl rfl ?_
          refine qs_iconst (0 : Int32) dX4_ahead_46 (by decide) rfl ?_
          refine qs_cV1i cfX4_55 (Nat.le_of_ble_eq_true rfl) rfl rfl (fun Y hY => kX4_found  hY) (Nat.le_of_ble_eq_true rfl) dX4_ahead_47 rfl (fun x44 D43 g45 => ?_)
          exact qs_iret rfl dX4_ahead_50
        · refine qs_iload_n dX4_ahead_35 rfl rfl rfl ?_
          refine qs_iconst (0 : Int32) dX4_ahead_36 (by decide) rfl ?_
          refine qs_bipush (100 : Int32) dX4_ahead_37 (by decide) rfl ?_
          refine qs_cS3i cfX4_44 (Nat.le_of_ble_eq_true rfl) (fun Y hY => kX4_within  hY) (Nat.le_of_ble_eq_true rfl) dX4_ahead_39 rfl (fun x47 D46 g48 => ?_)
          refine qs_if_ne (tgt := 51) dX4_ahead_42 (by decide) rfl (fun g49 => ?_) (fun g49 => ?_)
          · refine qs_aload_n dX4_ahead_45 rfl rfl rfl ?_
            refine qs_iconst (0 : Int32) dX4_ahead_46 (by decide) rfl ?_
            refine qs_cV1i cfX4_55 (Nat.le_of_ble_eq_true rfl) rfl rfl (fun Y hY => kX4_found  hY) (Nat.le_of_ble_eq_true rfl) dX4_ahead_47 rfl (fun x60 D59 g61 => ?_)
            exact qs_iret rfl dX4_ahead_50
          · refine qs_aload_n dX4_ahead_51 rfl rfl rfl ?_
            refine qs_getR ffX4_19 rfl rfl dX4_ahead_52 rfl ?_
            refine qs_aload_n dX4_ahead_55 rfl rfl rfl ?_
            refine qs_getR ffX4_10 rfl rfl dX4_ahead_56 rfl ?_
            refine qs_iload_n dX4_ahead_59 rfl rfl rfl ?_
            refine qs_cV2v cfX4_138 (Nat.le_of_ble_eq_true rfl) rfl rfl (fun Y hY => kX1_takeOne qs_k25 qs_k1 hY) (Nat.le_of_ble_eq_true rfl) dX4_ahead_60 rfl (fun x51 D50 g52 => ?_)
            refine qs_aload_n dX4_ahead_63 rfl rfl rfl ?_
            refine qs_getR ffX4_19 rfl rfl dX4_ahead_64 rfl ?_
            refine qs_iload_n dX4_ahead_67 rfl rfl rfl ?_
            refine qs_cV1v cfX4_115 (Nat.le_of_ble_eq_true rfl) rfl rfl (fun Y hY => kX1_passSteps qs_k25 hY) (Nat.le_of_ble_eq_true rfl) dX4_ahead_68 rfl (fun x54 D53 g55 => ?_)
            refine qs_aload_n dX4_ahead_71 rfl rfl rfl ?_
            refine qs_getR ffX4_19 rfl rfl dX4_ahead_72 rfl ?_
            refine qs_iconst (0 : Int32) dX4_ahead_75 (by decide) rfl ?_
            refine qs_iload_n dX4_ahead_76 rfl rfl rfl ?_
            refine qs_cV2i cfX4_87 (Nat.le_of_ble_eq_true rfl) rfl rfl (fun Y hY => kX1_told qs_k25 hY) (Nat.le_of_ble_eq_true rfl) dX4_ahead_77 rfl (fun x57 D56 g58 => ?_)
            exact qs_iret rfl dX4_ahead_80
  · refine qs_iconst (1 : Int32) dX4_ahead_15 (by decide) rfl ?_
    refine qs_goto (tgt := 20) dX4_ahead_16 (by decide) ?_
    refine qs_istore (fun v5 => [(4, .int v5), (0, .ref 0), (1, .int p1), (2, .int p2), (3, .int p3)]) dX4_ahead_20 (by decide) (fun _ => rfl) rfl (fun v5 => ?_)
    refine qs_aload_n dX4_ahead_22 rfl rfl rfl ?_
    refine qs_iload_n dX4_ahead_23 rfl rfl rfl ?_
    refine qs_cV1i cfX4_84 (Nat.le_of_ble_eq_true rfl) rfl rfl (fun Y hY => kX4_isDish  hY) (Nat.le_of_ble_eq_true rfl) dX4_ahead_24 rfl (fun x7 D6 g8 => ?_)
    refine qs_if_eq (tgt := 45) dX4_ahead_27 (by decide) rfl (fun g9 => ?_) (fun g9 => ?_)
    · refine qs_aload_n dX4_ahead_45 rfl rfl rfl ?_
      refine qs_iconst (0 : Int32) dX4_ahead_46 (by decide) rfl ?_
      refine qs_cV1i cfX4_55 (Nat.le_of_ble_eq_true rfl) rfl rfl (fun Y hY => kX4_found  hY) (Nat.le_of_ble_eq_true rfl) dX4_ahead_47 rfl (fun x11 D10 g12 => ?_)
      exact qs_iret rfl dX4_ahead_50
    · refine qs_iload dX4_ahead_30 rfl rfl ?_
      refine qs_if_eq (tgt := 45) dX4_ahead_32 (by decide) rfl (fun g13 => ?_) (fun g13 => ?_)
      · refine qs_aload_n dX4_ahead_45 rfl rfl rfl ?_
        refine qs_iconst (0 : Int32) dX4_ahead_46 (by decide) rfl ?_
        refine qs_cV1i cfX4_55 (Nat.le_of_ble_eq_true rfl) rfl rfl (fun Y hY => kX4_found  hY) (Nat.le_of_ble_eq_true rfl) dX4_ahead_47 rfl (fun x15 D14 g16 => ?_)
        exact qs_iret rfl dX4_ahead_50
      · refine qs_iload_n dX4_ahead_35 rfl rfl rfl ?_
        refine qs_iconst (0 : Int32) dX4_ahead_36 (by decide) rfl ?_
        refine qs_bipush (100 : Int32) dX4_ahead_37 (by decide) rfl ?_
        refine qs_cS3i cfX4_44 (Nat.le_of_ble_eq_true rfl) (fun Y hY => kX4_within  hY) (Nat.le_of_ble_eq_true rfl) dX4_ahead_39 rfl (fun x18 D17 g19 => ?_)
        refine qs_if_ne (tgt := 51) dX4_ahead_42 (by decide) rfl (fun g20 => ?_) (fun g20 => ?_)
        · refine qs_aload_n dX4_ahead_45 rfl rfl rfl ?_
          refine qs_iconst (0 : Int32) dX4_ahead_46 (by decide) rfl ?_
          refine qs_cV1i cfX4_55 (Nat.le_of_ble_eq_true rfl) rfl rfl (fun Y hY => kX4_found  hY) (Nat.le_of_ble_eq_true rfl) dX4_ahead_47 rfl (fun x31 D30 g32 => ?_)
          exact qs_iret rfl dX4_ahead_50
        · refine qs_aload_n dX4_ahead_51 rfl rfl rfl ?_
          refine qs_getR ffX4_19 rfl rfl dX4_ahead_52 rfl ?_
          refine qs_aload_n dX4_ahead_55 rfl rfl rfl ?_
          refine qs_getR ffX4_10 rfl rfl dX4_ahead_56 rfl ?_
          refine qs_iload_n dX4_ahead_59 rfl rfl rfl ?_
          refine qs_cV2v cfX4_138 (Nat.le_of_ble_eq_true rfl) rfl rfl (fun Y hY => kX1_takeOne qs_k25 qs_k1 hY) (Nat.le_of_ble_eq_true rfl) dX4_ahead_60 rfl (fun x22 D21 g23 => ?_)
          refine qs_aload_n dX4_ahead_63 rfl rfl rfl ?_
          refine qs_getR ffX4_19 rfl rfl dX4_ahead_64 rfl ?_
          refine qs_iload_n dX4_ahead_67 rfl rfl rfl ?_
          refine qs_cV1v cfX4_115 (Nat.le_of_ble_eq_true rfl) rfl rfl (fun Y hY => kX1_passSteps qs_k25 hY) (Nat.le_of_ble_eq_true rfl) dX4_ahead_68 rfl (fun x25 D24 g26 => ?_)
          refine qs_aload_n dX4_ahead_71 rfl rfl rfl ?_
          refine qs_getR ffX4_19 rfl rfl dX4_ahead_72 rfl ?_
          refine qs_iconst (0 : Int32) dX4_ahead_75 (by decide) rfl ?_
          refine qs_iload_n dX4_ahead_76 rfl rfl rfl ?_
          refine qs_cV2i cfX4_87 (Nat.le_of_ble_eq_true rfl) rfl rfl (fun Y hY => kX1_told qs_k25 hY) (Nat.le_of_ble_eq_true rfl) dX4_ahead_77 rfl (fun x28 D27 g29 => ?_)
          exact qs_iret rfl dX4_ahead_80
abbrev mX4_mood : qs_M := (RX4, cX4_mood, 2, (some FieldType.int))
def fX4_mood (p1 : Int32) (D : qs_D) : Option (Int32 × qs_D) := (qs_bind (fX4_within p1 (0 : Int32) (100 : Int32) D) (fun x2 D1 => (if x2 = 0 then (qs_bind (fX4_found (0 : Int32) D1) (fun x12 D11 => (some (x12, D11)))) else (qs_bind (fX1_takeMood 25 1 D1) (fun x6 D5 => (qs_bind (fX1_passSteps 25 p1 D5) (fun x9 D8 => (some ((D8 25 0), D8)))))))))
set_option maxRecDepth 20000 in
theorem kX4_mood {l : Launch} {E : qs_E} {A : Nat → Prop} {p1 : Int32} {D : qs_D} {X : Int32 × qs_D}  (hX : fX4_mood p1 D = some X) : qs_Ctr l E A shX yX4_mood mX4_mood 4 qs_ri [.ref 0, .int p1] D X := by
  refine qs_enter (plainFor_of_name (by decide)) rfl (Nat.le_of_ble_eq_true rfl) ?_ hX
  show qs_VO l E A shX mX4_mood 4 qs_ri 0 [(0, .ref 0), (1, .int p1)] [] D (fX4_mood p1 D)
  unfold fX4_mood
  refine qs_iload_n dX4_mood_0 rfl rfl rfl ?_
  refine qs_iconst (0 : Int32) dX4_mood_1 (by decide) rfl ?_
  refine qs_bipush (100 : Int32) dX4_mood_2 (by decide) rfl ?_
  refine qs_cS3i cfX4_44 (Nat.le_of_ble_eq_true rfl) (fun Y hY => kX4_within  hY) (Nat.le_of_ble_eq_true rfl) dX4_mood_4 rfl (fun x2 D1 g3 => ?_)
  refine qs_if_ne (tgt := 16) dX4_mood_7 (by decide) rfl (fun g4 => ?_) (fun g4 => ?_)
  · refine qs_aload_n dX4_mood_10 rfl rfl rfl ?_
    refine qs_iconst (0 : Int32) dX4_mood_11 (by decide) rfl ?_
    refine qs_cV1i cfX4_55 (Nat.le_of_ble_eq_true rfl) rfl rfl (fun Y hY => kX4_found  hY) (Nat.le_of_ble_eq_true rfl) dX4_mood_12 rfl (fun x12 D11 g13 => ?_)
    exact qs_iret rfl dX4_mood_15
  · refine qs_aload_n dX4_mood_16 rfl rfl rfl ?_
    refine qs_getR ffX4_19 rfl rfl dX4_mood_17 rfl ?_
    refine qs_aload_n dX4_mood_20 rfl rfl rfl ?_
    refine qs_getR ffX4_10 rfl rfl dX4_mood_21 rfl ?_
    refine qs_cV1v cfX4_142 (Nat.le_of_ble_eq_true rfl) rfl rfl (fun Y hY => kX1_takeMood qs_k25 qs_k1 hY) (Nat.le_of_ble_eq_true rfl) dX4_mood_24 rfl (fun x6 D5 g7 => ?_)
    refine qs_aload_n dX4_mood_27 rfl rfl rfl ?_
    refine qs_getR ffX4_19 rfl rfl dX4_mood_28 rfl ?_
    refine qs_iload_n dX4_mood_31 rfl rfl rfl ?_
    refine qs_cV1v cfX4_115 (Nat.le_of_ble_eq_true rfl) rfl rfl (fun Y hY => kX1_passSteps qs_k25 hY) (Nat.le_of_ble_eq_true rfl) dX4_mood_32 rfl (fun x9 D8 g10 => ?_)
    refine qs_aload_n dX4_mood_35 rfl rfl rfl ?_
    refine qs_getR ffX4_19 rfl rfl dX4_mood_36 rfl ?_
    refine qs_getI ffX4_48 rfl rfl dX4_mood_39 rfl ?_
    exact qs_iret rfl dX4_mood_42
abbrev mX4_splits : qs_M := (RX4, cX4_splits, 3, (some FieldType.int))
def fX4_splits_L28 : Nat → Int32 → Int32 → qs_D → Option (Int32 × qs_D)
  | 0, _, _, _ => none
  | n + 1, w1, w2, D => (if (200 : Int32) < w2 then (qs_bind (fX4_found (3 : Int32) D) (fun x11 D10 => (some (x11, D10)))) else (qs_g (0 : Int32) 8 (if (D (25 + 4 + (0 : Int32).toNatClampNeg) 3) = (1 : Int32) then (some (w2, D)) else (qs_bind (fX1_passStep 25 D) (fun x16 D15 => (qs_let (w2 + (1 : Int32)) (fun v18 => (fX4_splits_L28 n w1 v18 D15))))))))
set_option maxRecDepth 20000 in
theorem lX4_splits_L28 {l : Launch} {E : qs_E} {A : Nat → Prop}  : ∀ (n : Nat) (w1 : Int32) (w2 : Int32) (D : qs_D), qs_VO l E A shX mX4_splits 3 qs_ri 28 [(0, .ref 0), (1, .int w1), (2, .int w2)] [] D (fX4_splits_L28 n w1 w2 D) := by
  intro n
  induction n with
  | zero => intro w1 w2 D; exact qs_none
  | succ n ih =>
    intro w1 w2 D
    unfold fX4_splits_L28
    refine qs_iload_n dX4_splits_28 rfl rfl rfl ?_
    refine qs_sipush (200 : Int32) dX4_splits_29 (by decide) rfl ?_
    refine qs_icmp_gt (tgt := 66) dX4_splits_32 (by decide) rfl (fun g9 => ?_) (fun g9 => ?_)
    · refine qs_aload_n dX4_splits_66 rfl rfl rfl ?_
      refine qs_iconst (3 : Int32) dX4_splits_67 (by decide) rfl ?_
      refine qs_cV1i cfX4_55 (Nat.le_of_ble_eq_true rfl) rfl rfl (fun Y hY => kX4_found  hY) (Nat.le_of_ble_eq_true rfl) dX4_splits_68 rfl (fun x11 D10 g12 => ?_)
      exact qs_iret rfl dX4_splits_71
    · refine qs_aload_n dX4_splits_35 rfl rfl rfl ?_
      refine qs_getR ffX4_19 rfl rfl dX4_splits_36 rfl ?_
      refine qs_getR ffX4_94 rfl rfl dX4_splits_39 rfl ?_
      refine qs_iconst (0 : Int32) dX4_splits_42 (by decide) rfl ?_
      refine qs_aald (kd := 2) (C := RX0) (g := fun j => 25 + 4 + j) rfl (by decide) (qs_kA qs_k25) (by decide) dX4_splits_43 rfl (fun g13 => ?_)
      refine qs_getI ffX4_146 (qs_kd qs_k25 g13) rfl dX4_splits_44 rfl ?_
      refine qs_iconst (1 : Int32) dX4_splits_47 (by decide) rfl ?_
      refine qs_icmp_ne (tgt := 53) dX4_splits_48 (by decide) rfl (fun g14 => ?_) (fun g14 => ?_)
      · refine qs_iload_n dX4_splits_51 rfl rfl rfl ?_
        exact qs_iret rfl dX4_splits_52
      · refine qs_aload_n dX4_splits_53 rfl rfl rfl ?_
        refine qs_getR ffX4_19 rfl rfl dX4_splits_54 rfl ?_
        refine qs_cV0v cfX4_149 (Nat.le_of_ble_eq_true rfl) rfl rfl (fun Y hY => kX1_passStep qs_k25 hY) (Nat.le_of_ble_eq_true rfl) dX4_splits_57 rfl (fun x16 D15 g17 => ?_)
        refine qs_iinc (fun v18 => [(2, .int v18), (0, .ref 0), (1, .int w1)]) (1 : Int32) dX4_splits_60 rfl (by decide) (by decide) (fun _ => rfl) rfl (fun v18 => ?_)
        refine qs_goto (tgt := 28) dX4_splits_63 (by decide) ?_
        exact qs_sub [1, 2, 0] rfl (ih w1 v18 D15)
def fX4_splits (p1 : Int32) (D : qs_D) : Option (Int32 × qs_D) := (qs_bind (fX4_isDish p1 D) (fun x2 D1 => (if x2 = 0 then (qs_bind (fX4_found (0 : Int32) D1) (fun x20 D19 => (some (x20, D19)))) else (qs_bind (fX1_takeOne 25 1 p1 D1) (fun x6 D5 => (qs_let (0 : Int32) (fun v8 => (fX4_splits_L28 qs_F p1 v8 D5))))))))
set_option maxRecDepth 20000 in
theorem kX4_splits {l : Launch} {E : qs_E} {A : Nat → Prop} {p1 : Int32} {D : qs_D} {X : Int32 × qs_D}  (hX : fX4_splits p1 D = some X) : qs_Ctr l E A shX yX4_splits mX4_splits 3 qs_ri [.ref 0, .int p1] D X := by
  refine qs_enter (plainFor_of_name (by decide)) rfl (Nat.le_of_ble_eq_true rfl) ?_ hX
  show qs_VO l E A shX mX4_splits 3 qs_ri 0 [(0, .ref 0), (1, .int p1)] [] D (fX4_splits p1 D)
  unfold fX4_splits
  refine qs_aload_n dX4_splits_0 rfl rfl rfl ?_
  refine qs_iload_n dX4_splits_1 rfl rfl rfl ?_
  refine qs_cV1i cfX4_84 (Nat.le_of_ble_eq_true rfl) rfl rfl (fun Y hY => kX4_isDish  hY) (Nat.le_of_ble_eq_true rfl) dX4_splits_2 rfl (fun x2 D1 g3 => ?_)
  refine qs_if_ne (tgt := 14) dX4_splits_5 (by decide) rfl (fun g4 => ?_) (fun g4 => ?_)
  · refine qs_aload_n dX4_splits_8 rfl rfl rfl ?_
    refine qs_iconst (0 : Int32) dX4_splits_9 (by decide) rfl ?_
    refine qs_cV1i cfX4_55 (Nat.le_of_ble_eq_true rfl) rfl rfl (fun Y hY => kX4_found  hY) (Nat.le_of_ble_eq_true rfl) dX4_splits_10 rfl (fun x20 D19 g21 => ?_)
    exact qs_iret rfl dX4_splits_13
  · refine qs_aload_n dX4_splits_14 rfl rfl rfl ?_
    refine qs_getR ffX4_19 rfl rfl dX4_splits_15 rfl ?_
    refine qs_aload_n dX4_splits_18 rfl rfl rfl ?_
    refine qs_getR ffX4_10 rfl rfl dX4_splits_19 rfl ?_
    refine qs_iload_n dX4_splits_22 rfl rfl rfl ?_
    refine qs_cV2v cfX4_138 (Nat.le_of_ble_eq_true rfl) rfl rfl (fun Y hY => kX1_takeOne qs_k25 qs_k1 hY) (Nat.le_of_ble_eq_true rfl) dX4_splits_23 rfl (fun x6 D5 g7 => ?_)
    refine qs_iconst (0 : Int32) dX4_splits_26 (by decide) rfl ?_
    refine qs_istore_n (fun v8 => [(2, .int v8), (0, .ref 0), (1, .int p1)]) dX4_splits_27 rfl (by decide) (fun _ => rfl) rfl (fun v8 => ?_)
    exact qs_sub [1, 2, 0] rfl (lX4_splits_L28 qs_F p1 v8 D5)
