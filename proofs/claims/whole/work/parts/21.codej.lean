def fX5_deedItem (D : qs_D) : Option (Unit × qs_D) := (qs_bind (fX5_number (0 : Int32) (5 : Int32) D) (fun x2 D1 => (qs_let x2 (fun v4 => (qs_bind (fX5_number (0 : Int32) (11 : Int32) D1) (fun x6 D5 => (qs_let x6 (fun v8 => (if (D5 0 14) = 0 then (qs_g ((6 : Int32) + v4) 70 (qs_let (qs_u D5 1 ((6 : Int32) + v4).toNatClampNeg v8) (fun D10 => (some ((), D10))))) else (some ((), D5)))))))))))
set_option maxRecDepth 20000 in
theorem kX5_deedItem {l : Launch} {E : qs_E} {A : Nat → Prop} {D : qs_D} {X : Unit × qs_D}  (hX : fX5_deedItem  D = some X) : qs_Ctr l E A shM yX5_deedItem mX5_deedItem 4 qs_rv [.ref 0] D X := by
  refine qs_enter (plainFor_of_name (by decide)) rfl (Nat.le_of_ble_eq_true rfl) ?_ hX
  show qs_VO l E A shM mX5_deedItem 4 qs_rv 0 [(0, .ref 0)] [] D (fX5_deedItem  D)
  unfold fX5_deedItem
  refine qs_aload_n dX5_deedItem_0 rfl rfl rfl ?_
  refine qs_iconst (0 : Int32) dX5_deedItem_1 (by decide) rfl ?_
  refine qs_iconst (5 : Int32) dX5_deedItem_2 (by decide) rfl ?_
  refine qs_cV2i cfX5_204 (Nat.le_of_ble_eq_true rfl) rfl rfl (fun Y hY => kX5_number  hY) (Nat.le_of_ble_eq_true rfl) dX5_deedItem_3 rfl (fun x2 D1 g3 => ?_)
  refine qs_istore_n (fun v4 => [(1, .int v4), (0, .ref 0)]) dX5_deedItem_6 rfl (by decide) (fun _ => rfl) rfl (fun v4 => ?_)
  refine qs_aload_n dX5_deedItem_7 rfl rfl rfl ?_
  refine qs_iconst (0 : Int32) dX5_deedItem_8 (by decide) rfl ?_
  refine qs_bipush (11 : Int32) dX5_deedItem_9 (by decide) rfl ?_
  refine qs_cV2i cfX5_204 (Nat.le_of_ble_eq_true rfl) rfl rfl (fun Y hY => kX5_number  hY) (Nat.le_of_ble_eq_true rfl) dX5_deedItem_11 rfl (fun x6 D5 g7 => ?_)
  refine qs_istore_n (fun v8 => [(2, .int v8), (1, .int v4), (0, .ref 0)]) dX5_deedItem_14 rfl (by decide) (fun _ => rfl) rfl (fun v8 => ?_)
  refine qs_aload_n dX5_deedItem_15 rfl rfl rfl ?_
  refine qs_getI ffX5_194 rfl rfl dX5_deedItem_16 rfl ?_
  refine qs_if_ne (tgt := 32) dX5_deedItem_19 (by decide) rfl (fun g9 => ?_) (fun g9 => ?_)
  · refine qs_aload_n dX5_deedItem_22 rfl rfl rfl ?_
    refine qs_getR ffX5_9 rfl rfl dX5_deedItem_23 rfl ?_
    refine qs_bipush (6 : Int32) dX5_deedItem_26 (by decide) rfl ?_
    refine qs_iload_n dX5_deedItem_28 rfl rfl rfl ?_
    refine qs_iadd dX5_deedItem_29 rfl ?_
    refine qs_iload_n dX5_deedItem_30 rfl rfl rfl ?_
    refine qs_iast rfl (by decide) dX5_deedItem_31 rfl (fun D10 => ?_)
    exact qs_vret rfl dX5_deedItem_32
  · exact qs_vret rfl dX5_deedItem_32
def fX5_item (D : qs_D) : Option (Unit × qs_D) := (if (6 : Int32) < (D 0 10) then (qs_bind (fX5_takes (11 : Int32) D) (fun x3 D2 => (if x3 = 0 then (qs_bind (fX5_takes (12 : Int32) D2) (fun x7 D6 => (if x7 = 0 then (qs_bind (fX5_takes (13 : Int32) D6) (fun x11 D10 => (if x11 = 0 then (qs_let (qs_u D10 0 14 (1 : Int32)) (fun D14 => (some ((), D14)))) else (qs_bind (fX5_number (0 : Int32) (9 : Int32) D10) (fun x16 D15 => (qs_g (2 : Int32) 70 (qs_let (qs_u D15 1 (2 : Int32).toNatClampNeg x16) (fun D18 => (some ((), D18)))))))))) else (qs_bind (fX5_number (0 : Int32) (99 : Int32) D6) (fun x20 D19 => (qs_g (1 : Int32) 70 (qs_let (qs_u D19 1 (1 : Int32).toNatClampNeg x20) (fun D22 => (some ((), D22)))))))))) else (qs_bind (fX5_deedItem D2) (fun x24 D23 => (some ((), D23))))))) else (qs_bind (fX5_dishItem D) (fun x27 D26 => (some ((), D26)))))
set_option maxRecDepth 20000 in
theorem kX5_item {l : Launch} {E : qs_E} {A : Nat → Prop} {D : qs_D} {X : Unit × qs_D}  (hX : fX5_item  D = some X) : qs_Ctr l E A shM yX5_item mX5_item 6 qs_rv [.ref 0] D X := by
  refine qs_enter (plainFor_of_name (by decide)) rfl (Nat.le_of_ble_eq_true rfl) ?_ hX
  show qs_VO l E A shM mX5_item 6 qs_rv 0 [(0, .ref 0)] [] D (fX5_item  D)
  unfold fX5_item
  refine qs_aload_n dX5_item_0 rfl rfl rfl ?_
  refine qs_getI ffX5_188 rfl rfl dX5_item_1 rfl ?_
  refine qs_bipush (6 : Int32) dX5_item_4 (by decide) rfl ?_
  refine qs_icmp_gt (tgt := 16) dX5_item_6 (by decide) rfl (fun g1 => ?_) (fun g1 => ?_)
  · refine qs_aload_n dX5_item_16 rfl rfl rfl ?_
    refine qs_bipush (11 : Int32) dX5_item_17 (by decide) rfl ?_
    refine qs_cV1i cfX5_201 (Nat.le_of_ble_eq_true rfl) rfl rfl (fun Y hY => kX5_takes  hY) (Nat.le_of_ble_eq_true rfl) dX5_item_19 rfl (fun x3 D2 g4 => ?_)
    refine qs_if_eq (tgt := 32) dX5_item_22 (by decide) rfl (fun g5 => ?_) (fun g5 => ?_)
    · refine qs_aload_n dX5_item_32 rfl rfl rfl ?_
      refine qs_bipush (12 : Int32) dX5_item_33 (by decide) rfl ?_
      refine qs_cV1i cfX5_201 (Nat.le_of_ble_eq_true rfl) rfl rfl (fun Y hY => kX5_takes  hY) (Nat.le_of_ble_eq_true rfl) dX5_item_35 rfl (fun x7 D6 g8 => ?_)
      refine qs_if_eq (tgt := 57) dX5_item_38 (by decide) rfl (fun g9 => ?_) (fun g9 => ?_)
      · refine qs_aload_n dX5_item_57 rfl rfl rfl ?_
        refine qs_bipush (13 : Int32) dX5_item_58 (by decide) rfl ?_
        refine qs_cV1i cfX5_201 (Nat.le_of_ble_eq_true rfl) rfl rfl (fun Y hY => kX5_takes  hY) (Nat.le_of_ble_eq_true rfl) dX5_item_60 rfl (fun x11 D10 g12 => ?_)
        refine qs_if_eq (tgt := 82) dX5_item_63 (by decide) rfl (fun g13 => ?_) (fun g13 => ?_)
        · refine qs_aload_n dX5_item_82 rfl rfl rfl ?_
          refine qs_iconst (1 : Int32) dX5_item_83 (by decide) rfl ?_
          refine qs_putZ (Or.inr rfl) fwX5_194 rfl rfl dX5_item_84 rfl (fun D14 => ?_)
          exact qs_vret rfl dX5_item_87
        · refine qs_aload_n dX5_item_66 rfl rfl rfl ?_
          refine qs_getR ffX5_9 rfl rfl dX5_item_67 rfl ?_
          refine qs_iconst (2 : Int32) dX5_item_70 (by decide) rfl ?_
          refine qs_aload_n dX5_item_71 rfl rfl rfl ?_
          refine qs_iconst (0 : Int32) dX5_item_72 (by decide) rfl ?_
          refine qs_bipush (9 : Int32) dX5_item_73 (by decide) rfl ?_
          refine qs_cV2i cfX5_204 (Nat.le_of_ble_eq_true rfl) rfl rfl (fun Y hY => kX5_number  hY) (Nat.le_of_ble_eq_true rfl) dX5_item_75 rfl (fun x16 D15 g17 => ?_)
          refine qs_iast rfl (by decide) dX5_item_78 rfl (fun D18 => ?_)
          refine qs_goto (tgt := 87) dX5_item_79 (by decide) ?_
          exact qs_vret rfl dX5_item_87
      · refine qs_aload_n dX5_item_41 rfl rfl rfl ?_
        refine qs_getR ffX5_9 rfl rfl dX5_item_42 rfl ?_
        refine qs_iconst (1 : Int32) dX5_item_45 (by decide) rfl ?_
        refine qs_aload_n dX5_item_46 rfl rfl rfl ?_
        refine qs_iconst (0 : Int32) dX5_item_47 (by decide) rfl ?_
        refine qs_bipush (99 : Int32) dX5_item_48 (by decide) rfl ?_
        refine qs_cV2i cfX5_204 (Nat.le_of_ble_eq_true rfl) rfl rfl (fun Y hY => kX5_number  hY) (Nat.le_of_ble_eq_true rfl) dX5_item_50 rfl (fun x20 D19 g21 => ?_)
        refine qs_iast rfl (by decide) dX5_item_53 rfl (fun D22 => ?_)
        refine qs_goto (tgt := 87) dX5_item_54 (by decide) ?_
        exact qs_vret rfl dX5_item_87
    · refine qs_aload_n dX5_item_25 rfl rfl rfl ?_
      refine qs_cV0v cfX5_214 (Nat.le_of_ble_eq_true rfl) rfl rfl (fun Y hY => kX5_deedItem  hY) (Nat.le_of_ble_eq_true rfl) dX5_item_26 rfl (fun x24 D23 g25 => ?_)
      refine qs_goto (tgt := 87) dX5_item_29 (by decide) ?_
      exact qs_vret rfl dX5_item_87
  · refine qs_aload_n dX5_item_9 rfl rfl rfl ?_
    refine qs_cV0v cfX5_211 (Nat.le_of_ble_eq_true rfl) rfl rfl (fun Y hY => kX5_dishItem  hY) (Nat.le_of_ble_eq_true rfl) dX5_item_10 rfl (fun x27 D26 g28 => ?_)
    refine qs_goto (tgt := 87) dX5_item_13 (by decide) ?_
    exact qs_vret rfl dX5_item_87
abbrev mX5_text : qs_M := (RX5, cX5_text, 2, (some FieldType.int))
def fX5_text_L24 : Nat → Int32 → qs_D → Option (Int32 × qs_D)
  | 0, _, _ => none
  | n + 1, w1, D => (qs_bind (fX5_takes (21 : Int32) D) (fun x14 D13 => (if x14 = 0 then (if (D13 0 14) = 0 then (if (D13 0 10) = (22 : Int32) then (qs_let (qs_u D13 0 14 (0 : Int32)) (fun D25 => (qs_let (qs_u D25 0 9 (0 : Int32)) (fun D26 => (if (D26 0 14) = 0 then (some (w1, D26)) else (qs_bind (fX5_putsBack D26) (fun x29 D28 => (some (((-1 : Int32) - (D28 0 11)), D28))))))))) else (qs_let (qs_u D13 0 14 (1 : Int32)) (fun D31 => (qs_let (qs_u D31 0 9 (0 : Int32)) (fun D32 => (if (D32 0 14) = 0 then (some (w1, D32)) else (qs_bind (fX5_putsBack D32) (fun x35 D34 => (some (((-1 : Int32) - (D34 0 11)), D34)))))))))) else (qs_let (qs_u D13 0 14 (1 : Int32)) (fun D18 => (qs_let (qs_u D18 0 9 (0 : Int32)) (fun D19 => (if (D19 0 14) = 0 then (some (w1, D19)) else (qs_bind (fX5_putsBack D19) (fun x22 D21 => (some (((-1 : Int32) - (D21 0 11)), D21)))))))))) else (qs_bind (fX5_item D13) (fun x38 D37 => (qs_let (w1 + (1 : Int32)) (fun v40 => (fX5_text_L24 n v40 D37))))))))
set_option maxRecDepth 20000 in
theorem lX5_text_L24 {l : Launch} {E : qs_E} {A : Nat → Prop}  : ∀ (n : Nat) (w1 : Int32) (D : qs_D), qs_VO l E A shM mX5_text 7 qs_ri 24 [(0, .ref 0), (1, .int w1)] [] D (fX5_text_L24 n w1 D) := by
  intro n
  induction n with
  | zero => intro w1 D; exact qs_none
  | succ n ih =>
    intro w1 D
    unfold fX5_text_L24
    refine qs_aload_n dX5_text_24 rfl rfl rfl ?_
    refine qs_bipush (21 : Int32) dX5_text_25 (by decide) rfl ?_
    refine qs_cV1i cfX5_201 (Nat.le_of_ble_eq_true rfl) rfl rfl (fun Y hY => kX5_takes  hY) (Nat.le_of_ble_eq_true rfl) dX5_text_27 rfl (fun x14 D13 g15 => ?_)
    refine qs_if_eq (tgt := 43) dX5_text_30 (by decide) rfl (fun g16 => ?_) (fun g16 => ?_)
    · refine qs_aload_n dX5_text_43 rfl rfl rfl ?_
      refine qs_aload_n dX5_text_44 rfl rfl rfl ?_
      refine qs_getI ffX5_194 rfl rfl dX5_text_45 rfl ?_
      refine qs_if_ne (tgt := 60) dX5_text_48 (by decide) rfl (fun g17 => ?_) (fun g17 => ?_)
      · refine qs_aload_n dX5_text_51 rfl rfl rfl ?_
        refine qs_getI ffX5_188 rfl rfl dX5_text_52 rfl ?_
        refine qs_bipush (22 : Int32) dX5_text_55 (by decide) rfl ?_
        refine qs_icmp_eq (tgt := 64) dX5_text_57 (by decide) rfl (fun g24 => ?_) (fun g24 => ?_)
        · refine qs_iconst (0 : Int32) dX5_text_64 (by decide) rfl ?_
          refine qs_putZ (Or.inl rfl) fwX5_194 rfl rfl dX5_text_65 rfl (fun D25 => ?_)
          refine qs_aload_n dX5_text_68 rfl rfl rfl ?_
          refine qs_iconst (0 : Int32) dX5_text_69 (by decide) rfl ?_
          refine qs_putI fwX5_166 rfl rfl dX5_text_70 rfl (fun D26 => ?_)
          refine qs_aload_n dX5_text_73 rfl rfl rfl ?_
          refine qs_getI ffX5_194 rfl rfl dX5_text_74 rfl ?_
          refine qs_if_ne (tgt := 82) dX5_text_77 (by decide) rfl (fun g27 => ?_) (fun g27 => ?_)
          · refine qs_iload_n dX5_text_80 rfl rfl rfl ?_
            exact qs_iret rfl dX5_text_81
          · refine qs_aload_n dX5_text_82 rfl rfl rfl ?_
            refine qs_cV0v cfX5_136 (Nat.le_of_ble_eq_true rfl) rfl rfl (fun Y hY => kX5_putsBack  hY) (Nat.le_of_ble_eq_true rfl) dX5_text_83 rfl (fun x29 D28 g30 => ?_)
            refine qs_iconst (-1 : Int32) dX5_text_86 (by decide) rfl ?_
            refine qs_aload_n dX5_text_87 rfl rfl rfl ?_
            refine qs_getI ffX5_173 rfl rfl dX5_text_88 rfl ?_
            refine qs_isub dX5_text_91 rfl ?_
            exact qs_iret rfl dX5_text_92
        · refine qs_iconst (1 : Int32) dX5_text_60 (by decide) rfl ?_
          refine qs_goto (tgt := 65) dX5_text_61 (by decide) ?_
          refine qs_putZ (Or.inr rfl) fwX5_194 rfl rfl dX5_text_65 rfl (fun D31 => ?_)
          refine qs_aload_n dX5_text_68 rfl rfl rfl ?_
          refine qs_iconst (0 : Int32) dX5_text_69 (by decide) rfl ?_
          refine qs_putI fwX5_166 rfl rfl dX5_text_70 rfl (fun D32 => ?_)
          refine qs_aload_n dX5_text_73 rfl rfl rfl ?_
          refine qs_getI ffX5_194 rfl rfl dX5_text_74 rfl ?_
          refine qs_if_ne (tgt := 82) dX5_text_77 (by decide) rfl (fun g33 => ?_) (fun g33 => ?_)
          · refine qs_iload_n dX5_text_80 rfl rfl rfl ?_
            exact qs_iret rfl dX5_text_81
          · refine qs_aload_n dX5_text_82 rfl rfl rfl ?_
            refine qs_cV0v cfX5_136 (Nat.le_of_ble_eq_true rfl) rfl rfl (fun Y hY => kX5_putsBack  hY) (Nat.le_of_ble_eq_true rfl) dX5_text_83 rfl (fun x35 D34 g36 => ?_)
            refine qs_iconst (-1 : Int32) dX5_text_86 (by decide) rfl ?_
            refine qs_aload_n dX5_text_87 rfl rfl rfl ?_
            refine qs_getI ffX5_173 rfl rfl dX5_text_88 rfl ?_
            refine qs_isub dX5_text_91 rfl ?_
            exact qs_iret rfl dX5_text_92
      · refine qs_iconst (1 : Int32) dX5_text_60 (by decide) rfl ?_
        refine qs_goto (tgt := 65) dX5_text_61 (by decide) ?_
        refine qs_putZ (Or.inr rfl) fwX5_194 rfl rfl dX5_text_65 rfl (fun D18 => ?_)
        refine qs_aload_n dX5_text_68 rfl rfl rfl ?_
        refine qs_iconst (0 : Int32) dX5_text_69 (by decide) rfl ?_
        refine qs_putI fwX5_166 rfl rfl dX5_text_70 rfl (fun D19 => ?_)
        refine qs_aload_n dX5_text_73 rfl rfl rfl ?_
        refine qs_getI ffX5_194 rfl rfl dX5_text_74 rfl ?_
        refine qs_if_ne (tgt := 82) dX5_text_77 (by decide) rfl (fun g20 => ?_) (fun g20 => ?_)
        · refine qs_iload_n dX5_text_80 rfl rfl rfl ?_
          exact qs_iret rfl dX5_text_81
        · refine qs_aload_n dX5_text_82 rfl rfl rfl ?_
          refine qs_cV0v cfX5_136 (Nat.le_of_ble_eq_true rfl) rfl rfl (fun Y hY => kX5_putsBack  hY) (Nat.le_of_ble_eq_true rfl) dX5_text_83 rfl (fun x22 D21 g23 => ?_)
          refine qs_iconst (-1 : Int32) dX5_text_86 (by decide) rfl ?_
          refine qs_aload_n dX5_text_87 rfl rfl rfl ?_
          refine qs_getI ffX5_173 rfl rfl dX5_text_88 rfl ?_
          refine qs_isub dX5_text_91 rfl ?_
          exact qs_iret rfl dX5_text_92
    · refine qs_aload_n dX5_text_33 rfl rfl rfl ?_
      refine qs_cV0v cfX5_217 (Nat.le_of_ble_eq_true rfl) rfl rfl (fun Y hY => kX5_item  hY) (Nat.le_of_ble_eq_true rfl) dX5_text_34 rfl (fun x38 D37 g39 => ?_)
      refine qs_iinc (fun v40 => [(1, .int v40), (0, .ref 0)]) (1 : Int32) dX5_text_37 rfl (by decide) (by decide) (fun _ => rfl) rfl (fun v40 => ?_)
      refine qs_goto (tgt := 24) dX5_text_40 (by decide) ?_
      exact qs_sub [1, 0] rfl (ih v40 D37)
def fX5_text (D : qs_D) : Option (Int32 × qs_D) := (qs_bind (fX5_thinks D) (fun x2 D1 => (qs_let (qs_u D1 0 12 (0 : Int32)) (fun D4 => (qs_let (qs_u D4 0 14 (0 : Int32)) (fun D5 => (qs_bind (fX5_reads D5) (fun x7 D6 => (qs_bind (fX5_item D6) (fun x10 D9 => (qs_let (1 : Int32) (fun v12 => (fX5_text_L24 qs_F v12 D9)))))))))))))
set_option maxRecDepth 20000 in
theorem kX5_text {l : Launch} {E : qs_E} {A : Nat → Prop} {D : qs_D} {X : Int32 × qs_D}  (hX : fX5_text  D = some X) : qs_Ctr l E A shM yX5_text mX5_text 7 qs_ri [.ref 0] D X := by
  refine qs_enter (plainFor_of_name (by decide)) rfl (Nat.le_of_ble_eq_true rfl) ?_ hX
  show qs_VO l E A shM mX5_text 7 qs_ri 0 [(0, .ref 0)] [] D (fX5_text  D)
  unfold fX5_text
  refine qs_aload_n dX5_text_0 rfl rfl rfl ?_
  refine qs_cV0v cfX5_133 (Nat.le_of_ble_eq_true rfl) rfl rfl (fun Y hY => kX5_thinks  hY) (Nat.le_of_ble_eq_true rfl) dX5_text_1 rfl (fun x2 D1 g3 => ?_)
  refine qs_aload_n dX5_text_4 rfl rfl rfl ?_
  refine qs_iconst (0 : Int32) dX5_text_5 (by decide) rfl ?_
  refine qs_putI fwX5_176 rfl rfl dX5_text_6 rfl (fun D4 => ?_)
  refine qs_aload_n dX5_text_9 rfl rfl rfl ?_
  refine qs_iconst (0 : Int32) dX5_text_10 (by decide) rfl ?_
  refine qs_putZ (Or.inl rfl) fwX5_194 rfl rfl dX5_text_11 rfl (fun D5 => ?_)
  refine qs_aload_n dX5_text_14 rfl rfl rfl ?_
  refine qs_cV0v cfX5_198 (Nat.le_of_ble_eq_true rfl) rfl rfl (fun Y hY => kX5_reads  hY) (Nat.le_of_ble_eq_true rfl) dX5_text_15 rfl (fun x7 D6 g8 => ?_)
  refine qs_aload_n dX5_text_18 rfl rfl rfl ?_
  refine qs_cV0v cfX5_217 (Nat.le_of_ble_eq_true rfl) rfl rfl (fun Y hY => kX5_item  hY) (Nat.le_of_ble_eq_true rfl) dX5_text_19 rfl (fun x10 D9 g11 => ?_)
  refine qs_iconst (1 : Int32) dX5_text_22 (by decide) rfl ?_
  refine qs_istore_n (fun v12 => [(1, .int v12), (0, .ref 0)]) dX5_text_23 rfl (by decide) (fun _ => rfl) rfl (fun v12 => ?_)
  exact qs_sub [1, 0] rfl (lX5_text_L24 qs_F v12 D9)
abbrev mX5_hold : qs_M := (RX5, cX5_hold, 3, (some FieldType.int))
def fX5_hold (p1 : Int32) (p2 : Int32) (D : qs_D) : Option (Int32 × qs_D) := (qs_bind (fX5_in p1 (0 : Int32) (9 : Int32) D) (fun x2 D1 => (if x2 = 0 then (qs_bind (fX5_finds (-1000001 : Int32) D1) (fun x6 D5 => (some (x6, D5)))) else (if p2 = (-1 : Int32) then (qs_g ((60 : Int32) + p1) 70 (qs_let (qs_u D1 1 ((60 : Int32) + p1).toNatClampNeg p2) (fun D9 => (some ((1 : Int32), D9))))) else (qs_bind (fX5_isDish p2 D1) (fun x11 D10 => (if x11 = 0 then (qs_bind (fX5_finds (-1000001 : Int32) D10) (fun x16 D15 => (some (x16, D15)))) else (qs_g ((60 : Int32) + p1) 70 (qs_let (qs_u D10 1 ((60 : Int32) + p1).toNatClampNeg p2) (fun D14 => (some ((1 : Int32), D14))))))))))))
set_option maxRecDepth 20000 in
theorem kX5_hold {l : Launch} {E : qs_E} {A : Nat → Prop} {p1 : Int32} {p2 : Int32} {D : qs_D} {X : Int32 × qs_D}  (hX : fX5_hold p1 p2 D = some X) : qs_Ctr l E A shM yX5_hold mX5_hold 2 qs_ri [.ref 0, .int p1, .int p2] D X := by
  refine qs_enter (plainFor_of_name (by decide)) rfl (Nat.le_of_ble_eq_true rfl) ?_ hX
  show qs_VO l E A shM mX5_hold 2 qs_ri 0 [(0, .ref 0), (1, .int p1), (2, .int p2)] [] D (fX5_hold p1 p2 D)
  unfold fX5_hold
  refine qs_iload_n dX5_hold_0 rfl rfl rfl ?_
  refine qs_iconst (0 : Int32) dX5_hold_1 (by decide) rfl ?_
  refine qs_bipush (9 : Int32) dX5_hold_2 (by decide) rfl ?_
  refine qs_cS3i cfX5_40 (Nat.le_of_ble_eq_true rfl) (fun Y hY => kX5_in  hY) (Nat.le_of_ble_eq_true rfl) dX5_hold_4 rfl (fun x2 D1 g3 => ?_)
  refine qs_if_eq (tgt := 23) dX5_hold_7 (by decide) rfl (fun g4 => ?_) (fun g4 => ?_)
  · refine qs_aload_n dX5_hold_23 rfl rfl rfl ?_
    refine qs_ldc wcX5_34 dX5_hold_24 rfl ?_
    refine qs_cV1i cfX5_36 (Nat.le_of_ble_eq_true rfl) rfl rfl (fun Y hY => kX5_finds  hY) (Nat.le_of_ble_eq_true rfl) dX5_hold_26 rfl (fun x6 D5 g7 => ?_)
    exact qs_iret rfl dX5_hold_29
  · refine qs_iload_n dX5_hold_10 rfl rfl rfl ?_
    refine qs_iconst (-1 : Int32) dX5_hold_11 (by decide) rfl ?_
    refine qs_icmp_eq (tgt := 30) dX5_hold_12 (by decide) rfl (fun g8 => ?_) (fun g8 => ?_)
    · refine qs_aload_n dX5_hold_30 rfl rfl rfl ?_
      refine qs_getR ffX5_9 rfl rfl dX5_hold_31 rfl ?_
      refine qs_bipush (60 : Int32) dX5_hold_34 (by decide) rfl ?_
      refine qs_iload_n dX5_hold_36 rfl rfl rfl ?_
      refine qs_iadd dX5_hold_37 rfl ?_
      refine qs_iload_n dX5_hold_38 rfl rfl rfl ?_
      refine qs_iast rfl (by decide) dX5_hold_39 rfl (fun D9 => ?_)
      refine qs_iconst (1 : Int32) dX5_hold_40 (by decide) rfl ?_
      exact qs_iret rfl dX5_hold_41
    · refine qs_aload_n dX5_hold_15 rfl rfl rfl ?_
      refine qs_iload_n dX5_hold_16 rfl rfl rfl ?_
      refine qs_cV1i cfX5_68 (Nat.le_of_ble_eq_true rfl) rfl rfl (fun Y hY => kX5_isDish  hY) (Nat.le_of_ble_eq_true rfl) dX5_hold_17 rfl (fun x11 D10 g12 => ?_)
      refine qs_if_ne (tgt := 30) dX5_hold_20 (by decide) rfl (fun g13 => ?_) (fun g13 => ?_)
      · refine qs_aload_n dX5_hold_23 rfl rfl rfl ?_
        refine qs_ldc wcX5_34 dX5_hold_24 rfl ?_
        refine qs_cV1i cfX5_36 (Nat.le_of_ble_eq_true rfl) rfl rfl (fun Y hY => kX5_finds  hY) (Nat.le_of_ble_eq_true rfl) dX5_hold_26 rfl (fun x16 D15 g17 => ?_)
        exact qs_iret rfl dX5_hold_29
      · refine qs_aload_n dX5_hold_30 rfl rfl rfl ?_
        refine qs_getR ffX5_9 rfl rfl dX5_hold_31 rfl ?_
        refine qs_bipush (60 : Int32) dX5_hold_34 (by decide) rfl ?_
        refine qs_iload_n dX5_hold_36 rfl rfl rfl ?_
        refine qs_iadd dX5_hold_37 rfl ?_
        refine qs_iload_n dX5_hold_38 rfl rfl rfl ?_
        refine qs_iast rfl (by decide) dX5_hold_39 rfl (fun D14 => ?_)
        refine qs_iconst (1 : Int32) dX5_hold_40 (by decide) rfl ?_
        exact qs_iret rfl dX5_hold_41
def fX5_isUnder (p0 : Int32) (p1 : Int32) (D : qs_D) : Option (Int32 × qs_D) := (if p0 = (3 : Int32) then (qs_let (1 : Int32) (fun v2 => (if p1 = 0 then (some ((1 : Int32), D)) else (if p1 = p0 then (some ((1 : Int32), D)) else (if p1 = (1 : Int32) then (if p0 = (6 : Int32) then (some ((1 : Int32), D)) else (if p1 = (2 : Int32) then (if v2 = 0 then (if p1 = (3 : Int32) then (if p0 = (4 : Int32) then (some ((1 : Int32), D)) else (some ((0 : Int32), D))) else (some ((0 : Int32), D))) else (some ((1 : Int32), D))) else (if p1 = (3 : Int32) then (if p0 = (4 : Int32) then (some ((1 : Int32), D)) else (some ((0 : Int32), D))) else (some ((0 : Int32), D))))) else (if p1 = (2 : Int32) then (if v2 = 0 then (if p1 = (3 : Int32) then (if p0 = (4 : Int32) then (some ((1 : Int32), D)) else (some ((0 : Int32), D))) else (some ((0 : Int32), D))) else (some ((1 : Int32), D))) else (if p1 = (3 : Int32) then (if p0 = (4 : Int32) then (some ((1 : Int32), D)) else (some ((0 : Int32), D))) else (some ((0 : Int32), D))))))))) else (if p0 = (4 : Int32) then (qs_let (1 : Int32) (fun v37 => (if p1 = 0 then (some ((1 : Int32), D)) else (if p1 = p0 then (some ((1 : Int32), D)) else (if p1 = (1 : Int32) then (if p0 = (6 : Int32) then (some ((1 : Int32), D)) else (if p1 = (2 : Int32) then (if v37 = 0 then (if p1 = (3 : Int32) then (if p0 = (4 : Int32) then (some ((1 : Int32), D)) else (some ((0 : Int32), D))) else (some ((0 : Int32), D))) else (some ((1 : Int32), D))) else (if p1 = (3 : Int32) then (if p0 = (4 : Int32) then (some ((1 : Int32), D)) else (some ((0 : Int32), D))) else (some ((0 : Int32), D))))) else (if p1 = (2 : Int32) then (if v37 = 0 then (if p1 = (3 : Int32) then (if p0 = (4 : Int32) then (some ((1 : Int32), D)) else (some ((0 : Int32), D))) else (some ((0 : Int32), D))) else (some ((1 : Int32), D))) else (if p1 = (3 : Int32) then (if p0 = (4 : Int32) then (some ((1 : Int32), D)) else (some ((0 : Int32), D))) else (some ((0 : Int32), D))))))))) else (qs_let (0 : Int32) (fun v20 => (if p1 = 0 then (some ((1 : Int32), D)) else (if p1 = p0 then (some ((1 : Int32), D)) else (if p1 = (1 : Int32) then (if p0 = (6 : Int32) then (some ((1 : Int32), D)) else (if p1 = (2 : Int32) then (if v20 = 0 then (if p1 = (3 : Int32) then (if p0 = (4 : Int32) then (some ((1 : Int32), D)) else (some ((0 : Int32), D))) else (some ((0 : Int32), D))) else (some ((1 : Int32), D))) else (if p1 = (3 : Int32) then (if p0 = (4 : Int32) then (some ((1 : Int32), D)) else (some ((0 : Int32), D))) else (some ((0 : Int32), D))))) else (if p1 = (2 : Int32) then (if v20 = 0 then (if p1 = (3 : Int32) then (if p0 = (4 : Int32) then (some ((1 : Int32), D)) else (some ((0 : Int32), D))) else (some ((0 : Int32), D))) else (some ((1 : Int32), D))) else (if p1 = (3 : Int32) then (if p0 = (4 : Int32) then (some ((1 : Int32), D)) else (some ((0 : Int32), D))) else (some ((0 : Int32), D)))))))))))
set_option maxRecDepth 20000 in
theorem kX5_isUnder {l : Launch} {E : qs_E} {A : Nat → Prop} {p0 : Int32} {p1 : Int32} {D : qs_D} {X : Int32 × qs_D}  (hX : fX5_isUnder p0 p1 D = some X) : qs_Ctr l E A shM yX5_isUnder mX5_isUnder 0 qs_ri [.int p0, .int p1] D X := by
  refine qs_enter (plainFor_of_name (by decide)) rfl (Nat.le_of_ble_eq_true rfl) ?_ hX
  show qs_VO l E A shM mX5_isUnder 0 qs_ri 0 [(0, .int p0), (1, .int p1)] [] D (fX5_isUnder p0 p1 D)
  unfold fX5_isUnder
  refine qs_iload_n dX5_isUnder_0 rfl rfl rfl ?_
  refine qs_iconst (3 : Int32) dX5_isUnder_1 (by decide) rfl ?_
  refine qs_icmp_eq (tgt := 10) dX5_isUnder_2 (by decide) rfl (fun g1 => ?_) (fun g1 => ?_)
  · refine qs_iconst (1 : Int32) dX5_isUnder_10 (by decide) rfl ?_
    refine qs_goto (tgt := 15) dX5_isUnder_11 (by decide) ?_
    refine qs_istore_n (fun v2 => [(2, .int v2), (0, .int p0), (1, .int p1)]) dX5_isUnder_15 rfl (by decide) (fun _ => rfl) rfl (fun v2 => ?_)
    refine qs_iload_n dX5_isUnder_16 rfl rfl rfl ?_
    refine qs_if_eq (tgt := 55) dX5_isUnder_17 (by decide) rfl (fun g3 => ?_) (fun g3 => ?_)
    · refine qs_iconst (1 : Int32) dX5_isUnder_55 (by decide) rfl ?_
      refine qs_goto (tgt := 60) dX5_isUnder_56 (by decide) ?_
      exact qs_zret (Or.inr rfl) rfl dX5_isUnder_60
    · refine qs_iload_n dX5_isUnder_20 rfl rfl rfl ?_
      refine qs_iload_n dX5_isUnder_21 rfl rfl rfl ?_
      refine qs_icmp_eq (tgt := 55) dX5_isUnder_22 (by decide) rfl (fun g4 => ?_) (fun g4 => ?_)
      · refine qs_iconst (1 : Int32) dX5_isUnder_55 (by decide) rfl ?_
        refine qs_goto (tgt := 60) dX5_isUnder_56 (by decide) ?_
        exact qs_zret (Or.inr rfl) rfl dX5_isUnder_60
      · refine qs_iload_n dX5_isUnder_25 rfl rfl rfl ?_
        refine qs_iconst (1 : Int32) dX5_isUnder_26 (by decide) rfl ?_
        refine qs_icmp_ne (tgt := 36) dX5_isUnder_27 (by decide) rfl (fun g5 => ?_) (fun g5 => ?_)
        · refine qs_iload_n dX5_isUnder_30 rfl rfl rfl ?_
          refine qs_bipush (6 : Int32) dX5_isUnder_31 (by decide) rfl ?_
          refine qs_icmp_eq (tgt := 55) dX5_isUnder_33 (by decide) rfl (fun g12 => ?_) (fun g12 => ?_)
          · refine qs_iconst (1 : Int32) dX5_isUnder_55 (by decide) rfl ?_
            refine qs_goto (tgt := 60) dX5_isUnder_56 (by decide) ?_
            exact qs_zret (Or.inr rfl) rfl dX5_isUnder_60
          · refine qs_iload_n dX5_isUnder_36 rfl rfl rfl ?_
            refine qs_iconst (2 : Int32) dX5_isUnder_37 (by decide) rfl ?_
            refine qs_icmp_ne (tgt := 45) dX5_isUnder_38 (by decide) rfl (fun g13 => ?_) (fun g13 => ?_)
            · refine qs_iload_n dX5_isUnder_41 rfl rfl rfl ?_
              refine qs_if_ne (tgt := 55) dX5_isUnder_42 (by decide) rfl (fun g16 => ?_) (fun g16 => ?_)
              · refine qs_iload_n dX5_isUnder_45 rfl rfl rfl ?_
                refine qs_iconst (3 : Int32) dX5_isUnder_46 (by decide) rfl ?_
                refine qs_icmp_ne (tgt := 59) dX5_isUnder_47 (by decide) rfl (fun g17 => ?_) (fun g17 => ?_)
                · refine qs_iload_n dX5_isUnder_50 rfl rfl rfl ?_
                  refine qs_iconst (4 : Int32) dX5_isUnder_51 (by decide) rfl ?_
                  refine qs_icmp_ne (tgt := 59) dX5_isUnder_52 (by decide) rfl (fun g18 => ?_) (fun g18 => ?_)
                  · refine qs_iconst (1 : Int32) dX5_isUnder_55 (by decide) rfl ?_
                    refine qs_goto (tgt := 60) dX5_isUnder_56 (by decide) ?_
                    exact qs_zret (Or.inr rfl) rfl dX5_isUnder_60
                  · refine qs_iconst (0 : Int32) dX5_isUnder_59 (by decide) rfl ?_
                    exact qs_zret (Or.inl rfl) rfl dX5_isUnder_60
                · refine qs_iconst (0 : Int32) dX5_isUnder_59 (by decide) rfl ?_
                  exact qs_zret (Or.inl rfl) rfl dX5_isUnder_60
              · refine qs_iconst (1 : Int32) dX5_isUnder_55 (by decide) rfl ?_
                refine qs_goto (tgt := 60) dX5_isUnder_56 (by decide) ?_
                exact qs_zret (Or.inr rfl) rfl dX5_isUnder_60
            · refine qs_iload_n dX5_isUnder_45 rfl rfl rfl ?_
              refine qs_iconst (3 : Int32) dX5_isUnder_46 (by decide) rfl ?_
              refine qs_icmp_ne (tgt := 59) dX5_isUnder_47 (by decide) rfl (fun g14 => ?_) (fun g14 => ?_)
              · refine qs_iload_n dX5_isUnder_50 rfl rfl rfl ?_
                refine qs_iconst (4 : Int32) dX5_isUnder_51 (by decide) rfl ?_
                refine qs_icmp_ne (tgt := 59) dX5_isUnder_52 (by decide) rfl (fun g15 => ?_) (fun g15 => ?_)
                · refine qs_iconst (1 : Int32) dX5_isUnder_55 (by decide) rfl ?_
                  refine qs_goto (tgt := 60) dX5_isUnder_56 (by decide) ?_
                  exact qs_zret (Or.inr rfl) rfl dX5_isUnder_60
                · refine qs_iconst (0 : Int32) dX5_isUnder_59 (by decide) rfl ?_
                  exact qs_zret (Or.inl rfl) rfl dX5_isUnder_60
              · refine qs_iconst (0 : Int32) dX5_isUnder_59 (by decide) rfl ?_
                exact qs_zret (Or.inl rfl) rfl dX5_isUnder_60
        · refine qs_iload_n dX5_isUnder_36 rfl rfl rfl ?_
          refine qs_iconst (2 : Int32) dX5_isUnder_37 (by decide) rfl ?_
          refine qs_icmp_ne (tgt := 45) dX5_isUnder_38 (by decide) rfl (fun g6 => ?_) (fun g6 => ?_)
          · refine qs_iload_n dX5_isUnder_41 rfl rfl rfl ?_
            refine qs_if_ne (tgt := 55) dX5_isUnder_42 (by decide) rfl (fun g9 => ?_) (fun g9 => ?_)
            · refine qs_iload_n dX5_isUnder_45 rfl rfl rfl ?_
              refine qs_iconst (3 : Int32) dX5_isUnder_46 (by decide) rfl ?_
              refine qs_icmp_ne (tgt := 59) dX5_isUnder_47 (by decide) rfl (fun g10 => ?_) (fun g10 => ?_)
              · refine qs_iload_n dX5_isUnder_50 rfl rfl rfl ?_
                refine qs_iconst (4 : Int32) dX5_isUnder_51 (by decide) rfl ?_
                refine qs_icmp_ne (tgt := 59) dX5_isUnder_52 (by decide) rfl (fun g11 => ?_) (fun g11 => ?_)
                · refine qs_iconst (1 : Int32) dX5_isUnder_55 (by decide) rfl ?_
                  refine qs_goto (tgt := 60) dX5_isUnder_56 (by decide) ?_
                  exact qs_zret (Or.inr rfl) rfl dX5_isUnder_60
                · refine qs_iconst (0 : Int32) dX5_isUnder_59 (by decide) rfl ?_
                  exact qs_zret (Or.inl rfl) rfl dX5_isUnder_60
              · refine qs_iconst (0 : Int32) dX5_isUnder_59 (by decide) rfl ?_
                exact qs_zret (Or.inl rfl) rfl dX5_isUnder_60
            · refine qs_iconst (1 : Int32) dX5_isUnder_55 (by decide) rfl ?_
              refine qs_goto (tgt := 60) dX5_isUnder_56 (by decide) ?_
              exact qs_zret (Or.inr rfl) rfl dX5_isUnder_60
          · refine qs_iload_n dX5_isUnder_45 rfl rfl rfl ?_
            refine qs_iconst (3 : Int32) dX5_isUnder_46 (by decide) rfl ?_
            refine qs_icmp_ne (tgt := 59) dX5_isUnder_47 (by decide) rfl (fun g7 => ?_) (fun g7 => ?_)
            · refine qs_iload_n dX5_isUnder_50 rfl rfl rfl ?_
              refine qs_iconst (4 : Int32) dX5_isUnder_51 (by decide) rfl ?_
              refine qs_icmp_ne (tgt := 59) dX5_isUnder_52 (by decide) rfl (fun g8 => ?_) (fun g8 => ?_)
              · refine qs_iconst (1 : Int32) dX5_isUnder_55 (by decide) rfl ?_
                refine qs_goto (tgt := 60) dX5_isUnder_56 (by decide) ?_
                exact qs_zret (Or.inr rfl) rfl dX5_isUnder_60
              · refine qs_iconst (0 : Int32) dX5_isUnder_59 (by decide) rfl ?_
                exact qs_zret (Or.inl rfl) rfl dX5_isUnder_60
            · refine qs_iconst (0 : Int32) dX5_isUnder_59 (by decide) rfl ?_
              exact qs_zret (Or.inl rfl) rfl dX5_isUnder_60
  · refine qs_iload_n dX5_isUnder_5 rfl rfl rfl ?_
    refine qs_iconst (4 : Int32) dX5_isUnder_6 (by decide) rfl ?_
    refine qs_icmp_ne (tgt := 14) dX5_isUnder_7 (by decide) rfl (fun g19 => ?_) (fun g19 => ?_)
    · refine qs_iconst (1 : Int32) dX5_isUnder_10 (by decide) rfl ?_
      refine qs_goto (tgt := 15) dX5_isUnder_11 (by decide) ?_
      refine qs_istore_n (fun v37 => [(2, .int v37), (0, .int p0), (1, .int p1)]) dX5_isUnder_15 rfl (by decide) (fun _ => rfl) rfl (fun v37 => ?_)
      refine qs_iload_n dX5_isUnder_16 rfl rfl rfl ?_
      refine qs_if_eq (tgt := 55) dX5_isUnder_17 (by decide) rfl (fun g38 => ?_) (fun g38 => ?_)
      · refine qs_iconst (1 : Int32) dX5_isUnder_55 (by decide) rfl ?_
        refine qs_goto (tgt := 60) dX5_isUnder_56 (by decide) ?_
        exact qs_zret (Or.inr rfl) rfl dX5_isUnder_60
      · refine qs_iload_n dX5_isUnder_20 rfl rfl rfl ?_
        refine qs_iload_n dX5_isUnder_21 rfl rfl rfl ?_
        refine qs_icmp_eq (tgt := 55) dX5_isUnder_22 (by decide) rfl (fun g39 => ?_) (fun g39 => ?_)
        · refine qs_iconst (1 : Int32) dX5_isUnder_55 (by decide) rfl ?_
          refine qs_goto (tgt := 60) dX5_isUnder_56 (by decide) ?_
          exact qs_zret (Or.inr rfl) rfl dX5_isUnder_60
        · refine qs_iload_n dX5_isUnder_25 rfl rfl rfl ?_
          refine qs_iconst (1 : Int32) dX5_isUnder_26 (by decide) rfl ?_
          refine qs_icmp_ne (tgt := 36) dX5_isUnder_27 (by decide) rfl (fun g40 => ?_) (fun g40 => ?_)
          · refine qs_iload_n dX5_isUnder_30 rfl rfl rfl ?_
            refine qs_bipush (6 : Int32) dX5_isUnder_31 (by decide) rfl ?_
            refine qs_icmp_eq (tgt := 55) dX5_isUnder_33 (by decide) rfl (fun g47 => ?_) (fun g47 => ?_)
            · refine qs_iconst (1 : Int32) dX5_isUnder_55 (by decide) rfl ?_
              refine qs_goto (tgt := 60) dX5_isUnder_56 (by decide) ?_
              exact qs_zret (Or.inr rfl) rfl dX5_isUnder_60
            · refine qs_iload_n dX5_isUnder_36 rfl rfl rfl ?_
              refine qs_iconst (2 : Int32) dX5_isUnder_37 (by decide) rfl ?_
              refine qs_icmp_ne (tgt := 45) dX5_isUnder_38 (by decide) rfl (fun g48 => ?_) (fun g48 => ?_)
              · refine qs_iload_n dX5_isUnder_41 rfl rfl rfl ?_
                refine qs_if_ne (tgt := 55) dX5_isUnder_42 (by decide) rfl (fun g51 => ?_) (fun g51 => ?_)
                · refine qs_iload_n dX5_isUnder_45 rfl rfl rfl ?_
                  refine qs_iconst (3 : Int32) dX5_isUnder_46 (by decide) rfl ?_
                  refine qs_icmp_ne (tgt := 59) dX5_isUnder_47 (by decide) rfl (fun g52 => ?_) (fun g52 => ?_)
                  · refine qs_iload_n dX5_isUnder_50 rfl rfl rfl ?_
                    refine qs_iconst (4 : Int32) dX5_isUnder_51 (by decide) rfl ?_
                    refine qs_icmp_ne (tgt := 59) dX5_isUnder_52 (by decide) rfl (fun g53 => ?_) (fun g53 => ?_)
                    · refine qs_iconst (1 : Int32) dX5_isUnder_55 (by decide) rfl ?_
                      refine qs_goto (tgt := 60) dX5_isUnder_56 (by decide) ?_
                      exact qs_zret (Or.inr rfl) rfl dX5_isUnder_60
                    · refine qs_iconst (0 : Int32) dX5_isUnder_59 (by decide) rfl ?_
                      exact qs_zret (Or.inl rfl) rfl dX5_isUnder_60
                  · refine qs_iconst (0 : Int32) dX5_isUnder_59 (by decide) rfl ?_
                    exact qs_zret (Or.inl rfl) rfl dX5_isUnder_60
                · refine qs_iconst (1 : Int32) dX5_isUnder_55 (by decide) rfl ?_
                  refine qs_goto (tgt := 60) dX5_isUnder_56 (by decide) ?_
                  exact qs_zret (Or.inr rfl) rfl dX5_isUnder_60
              · refine qs_iload_n dX5_isUnder_45 rfl rfl rfl ?_
                refine qs_iconst (3 : Int32) dX5_isUnder_46 (by decide) rfl ?_
                refine qs_icmp_ne (tgt := 59) dX5_isUnder_47 (by decide) rfl (fun g49 => ?_) (fun g49 => ?_)
                · refine qs_iload_n dX5_isUnder_50 rfl rfl rfl ?_
                  refine qs_iconst (4 : Int32) dX5_isUnder_51 (by decide) rfl ?_
                  refine qs_icmp_ne (tgt := 59) dX5_isUnder_52 (by decide) rfl (fun g50 => ?_) (fun g50 => ?_)
                  · refine qs_iconst (1 : Int32) dX5_isUnder_55 (by decide) rfl ?_
                    refine qs_goto (tgt := 60) dX5_isUnder_56 (by decide) ?_
                    exact qs_zret (Or.inr rfl) rfl dX5_isUnder_60
                  · refine qs_iconst (0 : Int32) dX5_isUnder_59 (by decide) rfl ?_
                    exact qs_zret (Or.inl rfl) rfl dX5_isUnder_60
                · refine qs_iconst (0 : Int32) dX5_isUnder_59 (by decide) rfl ?_
                  exact qs_zret (Or.inl rfl) rfl dX5_isUnder_60
          · refine qs_iload_n dX5_isUnder_36 rfl rfl rfl ?_
            refine qs_iconst (2 : Int32) dX5_isUnder_37 (by decide) rfl ?_
            refine qs_icmp_ne (tgt := 45) dX5_isUnder_38 (by decide) rfl (fun g41 => ?_) (fun g41 => ?_)
            · refine qs_iload_n dX5_isUnder_41 rfl rfl rfl ?_
              refine qs_if_ne (tgt := 55) dX5_isUnder_42 (by decide) rfl (fun g44 => ?_) (fun g44 => ?_)
              · refine qs_iload_n dX5_isUnder_45 rfl rfl rfl ?_
                refine qs_iconst (3 : Int32) dX5_isUnder_46 (by decide) rfl ?_
                refine qs_icmp_ne (tgt := 59) dX5_isUnder_47 (by decide) rfl (fun g45 => ?_) (fun g45 => ?_)
                · refine qs_iload_n dX5_isUnder_50 rfl rfl rfl ?_
                  refine qs_iconst (4 : Int32) dX5_isUnder_51 (by decide) rfl ?_
                  refine qs_icmp_ne (tgt := 59) dX5_isUnder_52 (by decide) rfl (fun g46 => ?_) (fun g46 => ?_)
                  · refine qs_iconst (1 : Int32) dX5_isUnder_55 (by decide) rfl ?_
                    refine qs_goto (tgt := 60) dX5_isUnder_56 (by decide) ?_
                    exact qs_zret (Or.inr rfl) rfl dX5_isUnder_60
                  · refine qs_iconst (0 : Int32) dX5_isUnder_59 (by decide) rfl ?_
                    exact qs_zret (Or.inl rfl) rfl dX5_isUnder_60
                · refine qs_iconst (0 : Int32) dX5_isUnder_59 (by decide) rfl ?_
                  exact qs_zret (Or.inl rfl) rfl dX5_isUnder_60
              · refine qs_iconst (1 : Int32) dX5_isUnder_55 (by decide) rfl ?_
                refine qs_goto (tgt := 60) dX5_isUnder_56 (by decide) ?_
                exact qs_zret (Or.inr rfl) rfl dX5_isUnder_60
            · refine qs_iload_n dX5_isUnder_45 rfl rfl rfl ?_
              refine qs_iconst (3 : Int32) dX5_isUnder_46 (by decide) rfl ?_
              refine qs_icmp_ne (tgt := 59) dX5_isUnder_47 (by decide) rfl (fun g42 => ?_) (fun g42 => ?_)
              · refine qs_iload_n dX5_isUnder_50 rfl rfl rfl ?_
                refine qs_iconst (4 : Int32) dX5_isUnder_51 (by decide) rfl ?_
                refine qs_icmp_ne (tgt := 59) dX5_isUnder_52 (by decide) rfl (fun g43 => ?_) (fun g43 => ?_)
                · refine qs_iconst (1 : Int32) dX5_isUnder_55 (by decide) rfl ?_
                  refine qs_goto (tgt := 60) dX5_isUnder_56 (by decide) ?_
                  exact qs_zret (Or.inr rfl) rfl dX5_isUnder_60
                · refine qs_iconst (0 : Int32) dX5_isUnder_59 (by decide) rfl ?_
                  exact qs_zret (Or.inl rfl) rfl dX5_isUnder_60
              · refine qs_iconst (0 : Int32) dX5_isUnder_59 (by decide) rfl ?_
                exact qs_zret (Or.inl rfl) rfl dX5_isUnder_60
    · refine qs_iconst (0 : Int32) dX5_isUnder_14 (by decide) rfl ?_
      refine qs_istore_n (fun v20 => [(2, .int v20), (0, .int p0), (1, .int p1)]) dX5_isUnder_15 rfl (by decide) (fun _ => rfl) rfl (fun v20 => ?_)
      refine qs_iload_n dX5_isUnder_16 rfl rfl rfl ?_
      refine qs_if_eq (tgt := 55) dX5_isUnder_17 (by decide) rfl (fun g21 => ?_) (fun g21 => ?_)
      · refine qs_iconst (1 : Int32) dX5_isUnder_55 (by decide) rfl ?_
        refine qs_goto (tgt := 60) dX5_isUnder_56 (by decide) ?_
        exact qs_zret (Or.inr rfl) rfl dX5_isUnder_60
      · refine qs_iload_n dX5_isUnder_20 rfl rfl rfl ?_
        refine qs_iload_n dX5_isUnder_21 rfl rfl rfl ?_
        refine qs_icmp_eq (tgt := 55) dX5_isUnder_22 (by decide) rfl (fun g22 => ?_) (fun g22 => ?_)
        · refine qs_iconst (1 : Int32) dX5_isUnder_55 (by decide) rfl ?_
          refine qs_goto (tgt := 60) dX5_isUnder_56 (by decide) ?_
          exact qs_zret (Or.inr rfl) rfl dX5_isUnder_60
        · refine qs_iload_n dX5_isUnder_25 rfl rfl rfl ?_
          refine qs_iconst (1 : Int32) dX5_isUnder_26 (by decide) rfl ?_
          refine qs_icmp_ne (tgt := 36) dX5_isUnder_27 (by decide) rfl (fun g23 => ?_) (fun g23 => ?_)
          · refine qs_iload_n dX5_isUnder_30 rfl rfl rfl ?_
            refine qs_bipush (6 : Int32) dX5_isUnder_31 (by decide) rfl ?_
            refine qs_icmp_eq (tgt := 55) dX5_isUnder_33 (by decide) rfl (fun g30 => ?_) (fun g30 => ?_)
            · refine qs_iconst (1 : Int32) dX5_isUnder_55 (by decide) rfl ?_
              refine qs_goto (tgt := 60) dX5_isUnder_56 (by decide) ?_
              exact qs_zret (Or.inr rfl) rfl dX5_isUnder_60
            · refine qs_iload_n dX5_isUnder_36 rfl rfl rfl ?_
              refine qs_iconst (2 : Int32) dX5_isUnder_37 (by decide) rfl ?_
              refine qs_icmp_ne (tgt := 45) dX5_isUnder_38 (by decide) rfl (fun g31 => ?_) (fun g31 => ?_)
              · refine qs_iload_n dX5_isUnder_41 rfl rfl rfl ?_
                refine qs_if_ne (tgt := 55) dX5_isUnder_42 (by decide) rfl (fun g34 => ?_) (fun g34 => ?_)
                · refine qs_iload_n dX5_isUnder_45 rfl rfl rfl ?_
                  refine qs_iconst (3 : Int32) dX5_isUnder_46 (by decide) rfl ?_
                  refine qs_icmp_ne (tgt := 59) dX5_isUnder_47 (by decide) rfl (fun g35 => ?_) (fun g35 => ?_)
                  · refine qs_iload_n dX5_isUnder_50 rfl rfl rfl ?_
                    refine qs_iconst (4 : Int32) dX5_isUnder_51 (by decide) rfl ?_
                    refine qs_icmp_ne (tgt := 59) dX5_isUnder_52 (by decide) rfl (fun g36 => ?_) (fun g36 => ?_)
                    · refine qs_iconst (1 : Int32) dX5_isUnder_55 (by decide) rfl ?_
                      refine qs_goto (tgt := 60) dX5_isUnder_56 (by decide) ?_
                      exact qs_zret (Or.inr rfl) rfl dX5_isUnder_60
                    · refine qs_iconst (0 : Int32) dX5_isUnder_59 (by decide) rfl ?_
                      exact qs_zret (Or.inl rfl) rfl dX5_isUnder_60
                  · refine qs_iconst (0 : Int32) dX5_isUnder_59 (by decide) rfl ?_
                    exact qs_zret (Or.inl rfl) rfl dX5_isUnder_60
                · refine qs_iconst (1 : Int32) dX5_isUnder_55 (by decide) rfl ?_
                  refine qs_goto (tgt := 60) dX5_isUnder_56 (by decide) ?_
                  exact qs_zret (Or.inr rfl) rfl dX5_isUnder_60
              · refine qs_iload_n dX5_isUnder_45 rfl rfl rfl ?_
                refine qs_iconst (3 : Int32) dX5_isUnder_46 (by decide) rfl ?_
                refine qs_icmp_ne (tgt := 59) dX5_isUnder_47 (by decide) rfl (fun g32 => ?_) (fun g32 => ?_)
                · refine qs_iload_n dX5_isUnder_50 rfl rfl rfl ?_
                  refine qs_iconst (4 : Int32) dX5_isUnder_51 (by decide) rfl ?_
                  refine qs_icmp_ne (tgt := 59) dX5_isUnder_52 (by decide) rfl (fun g33 => ?_) (fun g33 => ?_)
                  · refine qs_iconst (1 : Int32) dX5_isUnder_55 (by decide) rfl ?_
                    refine qs_goto (tgt := 60) dX5_isUnder_56 (by decide) ?_
                    exact qs_zret (Or.inr rfl) rfl dX5_isUnder_60
                  · refine qs_iconst (0 : Int32) dX5_isUnder_59 (by decide) rfl ?_
                    exact qs_zret (Or.inl rfl) rfl dX5_isUnder_60
                · refine qs_iconst (0 : Int32) dX5_isUnder_59 (by decide) rfl ?_
                  exact qs_zret (Or.inl rfl) rfl dX5_isUnder_60
          · refine qs_iload_n dX5_isUnder_36 rfl rfl rfl ?_
            refine qs_iconst (2 : Int32) dX5_isUnder_37 (by decide) rfl ?_
            refine qs_icmp_ne (tgt := 45) dX5_isUnder_38 (by decide) rfl (fun g24 => ?_) (fun g24 => ?_)
            · refine qs_iload_n dX5_isUnder_41 rfl rfl rfl ?_
              refine qs_if_ne (tgt := 55) dX5_isUnder_42 (by decide) rfl (fun g27 => ?_) (fun g27 => ?_)
              · refine qs_iload_n dX5_isUnder_45 rfl rfl rfl ?_
                refine qs_iconst (3 : Int32) dX5_isUnder_46 (by decide) rfl ?_
                refine qs_icmp_ne (tgt := 59) dX5_isUnder_47 (by decide) rfl (fun g28 => ?_) (fun g28 => ?_)
                · refine qs_iload_n dX5_isUnder_50 rfl rfl rfl ?_
                  refine qs_iconst (4 : Int32) dX5_isUnder_51 (by decide) rfl ?_
                  refine qs_icmp_ne (tgt := 59) dX5_isUnder_52 (by decide) rfl (fun g29 => ?_) (fun g29 => ?_)
                  · refine qs_iconst (1 : Int32) dX5_isUnder_55 (by decide) rfl ?_
                    refine qs_goto (tgt := 60) dX5_isUnder_56 (by decide) ?_
                    exact qs_zret (Or.inr rfl) rfl dX5_isUnder_60
                  · refine qs_iconst (0 : Int32) dX5_isUnder_59 (by decide) rfl ?_
                    exact qs_zret (Or.inl rfl) rfl dX5_isUnder_60
                · refine qs_iconst (0 : Int32) dX5_isUnder_59 (by decide) rfl ?_
                  exact qs_zret (Or.inl rfl) rfl dX5_isUnder_60
              · refine qs_iconst (1 : Int32) dX5_isUnder_55 (by decide) rfl ?_
                refine qs_goto (tgt := 60) dX5_isUnder_56 (by decide) ?_
                exact qs_zret (Or.inr rfl) rfl dX5_isUnder_60
            · refine qs_iload_n dX5_isUnder_45 rfl rfl rfl ?_
              refine qs_iconst (3 : Int32) dX5_isUnder_46 (by decide) rfl ?_
              refine qs_icmp_ne (tgt := 59) dX5_isUnder_47 (by decide) rfl (fun g25 => ?_) (fun g25 => ?_)
              · refine qs_iload_n dX5_isUnder_50 rfl rfl rfl ?_
                refine qs_iconst (4 : Int32) dX5_isUnder_51 (by decide) rfl ?_
                refine qs_icmp_ne (tgt := 59) dX5_isUnder_52 (by decide) rfl (fun g26 => ?_) (fun g26 => ?_)
                · refine qs_iconst (1 : Int32) dX5_isUnder_55 (by decide) rfl ?_
                  refine qs_goto (tgt := 60) dX5_isUnder_56 (by decide) ?_
                  exact qs_zret (Or.inr rfl) rfl dX5_isUnder_60
                · refine qs_iconst (0 : Int32) dX5_isUnder_59 (by decide) rfl ?_
                  exact qs_zret (Or.inl rfl) rfl dX5_isUnder_60
              · refine qs_iconst (0 : Int32) dX5_isUnder_59 (by decide) rfl ?_
                exact qs_zret (Or.inl rfl) rfl dX5_isUnder_60
abbrev mX5_as : qs_M := (RX5, cX5_as, 4, (some FieldType.int))
def fX5_as (p1 : Int32) (p2 : Int32) (D : qs_D) : Option (Int32 × qs_D) := (qs_bind (fX5_in p1 (0 : Int32) (9 : Int32) D) (fun x2 D1 => (if x2 = 0 then (qs_bind (fX5_finds (-1000001 : Int32) D1) (fun x6 D5 => (some (x6, D5)))) else (qs_bind (fX5_in p2 (0 : Int32) (6 : Int32) D1) (fun x9 D8 => (if x9 = 0 then (qs_bind (fX5_finds (-1000001 : Int32) D8) (fun x29 D28 => (some (x29, D28)))) else (qs_g ((60 : Int32) + p1) 70 (qs_let (D8 1 ((60 : Int32) + p1).toNatClampNeg) (fun v13 => (if 0 ≤ v13 then (qs_bind (fX5_it v13 (0 : Int32) D8) (fun x16 D15 => (qs_bind (fX5_isUnder x16 p2 D15) (fun x19 D18 => (if x19 = 0 then (qs_bind (fX5_finds (-1000003 : Int32) D18) (fun x23 D22 => (some (x23, D22)))) else (some (v13, D18))))))) else (qs_bind (fX5_finds (-1000006 : Int32) D8) (fun x26 D25 => (some (x26, D25))))))))))))))
set_option maxRecDepth 20000 in
theorem kX5_as {l : Launch} {E : qs_E} {A : Nat → Prop} {p1 : Int32} {p2 : Int32} {D : qs_D} {X : Int32 × qs_D}  (hX : fX5_as p1 p2 D = some X) : qs_Ctr l E A shM yX5_as mX5_as 1 qs_ri [.ref 0, .int p1, .int p2] D X := by
  refine qs_enter (plainFor_of_name (by decide)) rfl (Nat.le_of_ble_eq_true rfl) ?_ hX
  show qs_VO l E A shM mX5_as 1 qs_ri 0 [(0, .ref 0), (1, .int p1), (2, .int p2)] [] D (fX5_as p1 p2 D)
  unfold fX5_as
  refine qs_iload_n dX5_as_0 rfl rfl rfl ?_
  refine qs_iconst (0 : Int32) dX5_as_1 (by decide) rfl ?_
  refine qs_bipush (9 : Int32) dX5_as_2 (by decide) rfl ?_
  refine qs_cS3i cfX5_40 (Nat.le_of_ble_eq_true rfl) (fun Y hY => kX5_in  hY) (Nat.le_of_ble_eq_true rfl) dX5_as_4 rfl (fun x2 D1 g3 => ?_)
  refine qs_if_eq (tgt := 20) dX5_as_7 (by decide) rfl (fun g4 => ?_) (fun g4 => ?_)
  · refine qs_aload_n dX5_as_20 rfl rfl rfl ?_
    refine qs_ldc wcX5_34 dX5_as_21 rfl ?_
    refine qs_cV1i cfX5_36 (Nat.le_of_ble_eq_true rfl) rfl rfl (fun Y hY => kX5_finds  hY) (Nat.le_of_ble_eq_true rfl) dX5_as_23 rfl (fun x6 D5 g7 => ?_)
    exact qs_iret rfl dX5_as_26
  · refine qs_iload_n dX5_as_10 rfl rfl rfl ?_
    refine qs_iconst (0 : Int32) dX5_as_11 (by decide) rfl ?_
    refine qs_bipush (6 : Int32) dX5_as_12 (by decide) rfl ?_
    refine qs_cS3i cfX5_40 (Nat.le_of_ble_eq_true rfl) (fun Y hY => kX5_in  hY) (Nat.le_of_ble_eq_true rfl) dX5_as_14 rfl (fun x9 D8 g10 => ?_)
    refine qs_if_ne (tgt := 27) dX5_as_17 (by decide) rfl (fun g11 => ?_) (fun g11 => ?_)
    · refine qs_aload_n dX5_as_20 rfl rfl rfl ?_
      refine qs_ldc wcX5_34 dX5_as_21 rfl ?_
      refine qs_cV1i cfX5_36 (Nat.le_of_ble_eq_true rfl) rfl rfl (fun Y hY => kX5_finds  hY) (Nat.le_of_ble_eq_true rfl) dX5_as_23 rfl (fun x29 D28 g30 => ?_)
      exact qs_iret rfl dX5_as_26
    · refine qs_aload_n dX5_as_27 rfl rfl rfl ?_
      refine qs_getR ffX5_9 rfl rfl dX5_as_28 rfl ?_
      refine qs_bipush (60 : Int32) dX5_as_31 (by decide) rfl ?_
      refine qs_iload_n dX5_as_33 rfl rfl rfl ?_
      refine qs_iadd dX5_as_34 rfl ?_
      refine qs_iald rfl (by decide) dX5_as_35 rfl (fun g12 => ?_)
      refine qs_istore_n (fun v13 => [(3, .int v13), (0, .ref 0), (1, .int p1), (2, .int p2)]) dX5_as_36 rfl (by decide) (fun _ => rfl) rfl (fun v13 => ?_)
      refine qs_iload_n dX5_as_37 rfl rfl rfl ?_
      refine qs_if_ge (tgt := 48) dX5_as_38 (by decide) rfl (fun g14 => ?_) (fun g14 => ?_)
      · refine qs_aload_n dX5_as_48 rfl rfl rfl ?_
        refine qs_iload_n dX5_as_49 rfl rfl rfl ?_
        refine qs_iconst (0 : Int32) dX5_as_50 (by decide) rfl ?_
        refine qs_cV2i cfX5_44 (Nat.le_of_ble_eq_true rfl) rfl rfl (fun Y hY => kX5_it  hY) (Nat.le_of_ble_eq_true rfl) dX5_as_51 rfl (fun x16 D15 g17 => ?_)
        refine qs_iload_n dX5_as_54 rfl rfl rfl ?_
        refine qs_cS2i cfX5_220 (Nat.le_of_ble_eq_true rfl) (fun Y hY => kX5_isUnder  hY) (Nat.le_of_ble_eq_true rfl) dX5_as_55 rfl (fun x19 D18 g20 => ?_)
        refine qs_if_eq (tgt := 65) dX5_as_58 (by decide) rfl (fun g21 => ?_) (fun g21 => ?_)
        · refine qs_aload_n dX5_as_65 rfl rfl rfl ?_
          refine qs_ldc wcX5_223 dX5_as_66 rfl ?_
          refine qs_cV1i cfX5_36 (Nat.le_of_ble_eq_true rfl) rfl rfl (fun Y hY => kX5_finds  hY) (Nat.le_of_ble_eq_true rfl) dX5_as_68 rfl (fun x23 D22 g24 => ?_)
          exact qs_iret rfl dX5_as_71
        · refine qs_iload_n dX5_as_61 rfl rfl rfl ?_
          refine qs_goto (tgt := 71) dX5_as_62 (by decide) ?_
          exact qs_iret rfl dX5_as_71
      · refine qs_aload_n dX5_as_41 rfl rfl rfl ?_
        refine qs_ldc wcX5_152 dX5_as_42 rfl ?_
        refine qs_cV1i cfX5_36 (Nat.le_of_ble_eq_true rfl) rfl rfl (fun Y hY => kX5_finds  hY) (Nat.le_of_ble_eq_true rfl) dX5_as_44 rfl (fun x26 D25 g27 => ?_)
        exact qs_iret rfl dX5_as_47
abbrev mX5_sheet : qs_M := (RX5, cX5_sheet, 5, (some FieldType.int))
def fX5_sheet_L85 : Nat → Int32 → Int32 → Int32 → Int32 → qs_D → Option (Int32 × qs_D)
  | 0, _, _, _, _, _ => none
  | n + 1, w1, w2, w3, w4, D => (if (40 : Int32) ≤ w4 then (qs_g w1 4 (some ((D 6 w1.toNatClampNeg), D))) else (qs_g (((40 : Int32) * w1) + w4) 160 (qs_let (qs_u D 7 (((40 : Int32) * w1) + w4).toNatClampNeg (0 : Int32)) (fun D17 => (qs_let (w4 + (1 : Int32)) (fun v18 => (fX5_sheet_L85 n w1 w2 w3 v18 D17)))))))
set_option maxRecDepth 20000 in
theorem lX5_sheet_L85 {l : Launch} {E : qs_E} {A : Nat → Prop}  : ∀ (n : Nat) (w1 : Int32) (w2 : Int32) (w3 : Int32) (w4 : Int32) (D : qs_D), qs_VO l E A shM mX5_sheet 2 qs_ri 85 [(0, .ref 0), (1, .int w1), (2, .int w2), (3, .int w3), (4, .int w4)] [] D (fX5_sheet_L85 n w1 w2 w3 w4 D) := by
  intro n
  induction n with
  | zero => intro w1 w2 w3 w4 D; exact qs_none
  | succ n ih =>
    intro w1 w2 w3 w4 D
    unfold fX5_sheet_L85
    refine qs_iload dX5_sheet_85 rfl rfl ?_
    refine qs_bipush (40 : Int32) dX5_sheet_87 (by decide) rfl ?_
    refine qs_icmp_ge (tgt := 111) dX5_sheet_89 (by decide) rfl (fun g15 => ?_) (fun g15 => ?_)
    · refine qs_aload_n dX5_sheet_111 rfl rfl rfl ?_
      refine qs_getR ffX5_25 rfl rfl dX5_sheet_112 rfl ?_
      refine qs_iload_n dX5_sheet_115 rfl rfl rfl ?_
      refine qs_iald rfl (by decide) dX5_sheet_116 rfl (fun g16 => ?_)
      exact qs_iret rfl dX5_sheet_117
    · refine qs_aload_n dX5_sheet_92 rfl rfl rfl ?_
      refine qs_getR ffX5_28 rfl rfl dX5_sheet_93 rfl ?_
      refine qs_bipush (40 : Int32) dX5_sheet_96 (by decide) rfl ?_
      refine qs_iload_n dX5_sheet_98 rfl rfl rfl ?_
      refine qs_imul dX5_sheet_99 rfl ?_
      refine qs_iload dX5_sheet_100 rfl rfl ?_
      refine qs_iadd dX5_sheet_102 rfl ?_
      refine qs_iconst (0 : Int32) dX5_sheet_103 (by decide) rfl ?_
      refine qs_iast rfl (by decide) dX5_sheet_104 rfl (fun D17 => ?_)
      refine qs_iinc (fun v18 => [(4, .int v18), (0, .ref 0), (1, .int w1), (2, .int w2), (3, .int w3)]) (1 : Int32) dX5_sheet_105 rfl (by decide) (by decide) (fun _ => rfl) rfl (fun v18 => ?_)
      refine qs_goto (tgt := 85) dX5_sheet_108 (by decide) ?_
      exact qs_sub [1, 2, 3, 4, 0] rfl (ih w1 w2 w3 v18 D17)
def fX5_sheet (p1 : Int32) (p2 : Int32) (p3 : Int32) (D : qs_D) : Option (Int32 × qs_D) := (qs_bind (fX5_isSheet p1 D) (fun x2 D1 => (if x2 = 0 then (qs_bind (fX5_finds (-1000001 : Int32) D1) (fun x6 D5 => (some (x6, D5)))) else (if p2 = 0 then (if 0 ≤ p3 then (if p3 ≤ (40 : Int32) then (qs_g p1 4 (qs_let (qs_u D1 5 p1.toNatClampNeg p2) (fun D11 => (if p2 = 0 then (qs_g p1 4 (qs_let (qs_u D11 6 p1.toNatClampNeg (0 : Int32)) (fun D19 => (qs_let (0 : Int32) (fun v20 => (fX5_sheet_L85 qs_F p1 p2 p3 v20 D19)))))) else (qs_g p1 4 (qs_let (qs_u D11 6 p1.toNatClampNeg p3) (fun D13 => (qs_let (0 : Int32) (fun v14 => (fX5_sheet_L85 qs_F p1 p2 p3 v14 D13)))))))))) else (qs_bind (fX5_finds (-1000001 : Int32) D1) (fun x22 D21 => (some (x22, D21))))) else (qs_bind (fX5_finds (-1000007 : Int32) D1) (fun x25 D24 => (some (x25, D24))))) else (if p2 = (8 : Int32) then (if 0 ≤ p3 then (if p3 ≤ (40 : Int32) then (qs_g p1 4 (qs_let (qs_u D1 5 p1.toNatClampNeg p2) (fun D30 => (if p2 = 0 then (qs_g p1 4 (qs_let (qs_u D30 6 p1.toNatClampNeg (0 : Int32)) (fun D34 => (qs_let (0 : Int32) (fun v35 => (fX5_sheet_L85 qs_F p1 p2 p3 v35 D34)))))) else (qs_g p1 4 (qs_let (qs_u D30 6 p1.toNatClampNeg p3) (fun D32 => (qs_let (0 : Int32) (fun v33 => (fX5_sheet_L85 qs_F p1 p2 p3 v33 D32)))))))))) else (qs_bind (fX5_finds (-1000001 : Int32) D1) (fun x37 D36 => (some (x37, D36))))) else (qs_bind (fX5_finds (-1000007 : Int32) D1) (fun x40 D39 => (some (x40, D39))))) else (if p2 = (16 : Int32) then (if 0 ≤ p3 then (if p3 ≤ (40 : Int32) then (qs_g p1 4 (qs_let (qs_u D1 5 p1.toNatClampNeg p2) (fun D45 => (if p2 = 0 then (qs_g p1 4 (qs_let (qs_u D45 6 p1.toNatClampNeg (0 : Int32)) (fun D49 => (qs_let (0 : Int32) (fun v50 => (fX5_sheet_L85 qs_F p1 p2 p3 v50 D49)))))) else (qs_g p1 4 (qs_let (qs_u D45 6 p1.toNatClampNeg p3) (fun D47 => (qs_let (0 : Int32) (fun v48 => (fX5_sheet_L85 qs_F p1 p2 p3 v48 D47)))))))))) else (qs_bind (fX5_finds (-1000001 : Int32) D1) (fun x52 D51 => (some (x52, D51))))) else (qs_bind (fX5_finds (-1000007 : Int32) D1) (fun x55 D54 => (some (x55, D54))))) else (if p2 = (32 : Int32) then (if 0 ≤ p3 then (if p3 ≤ (40 : Int32) then (qs_g p1 4 (qs_let (qs_u D1 5 p1.toNatClampNeg p2) (fun D60 => (if p2 = 0 then (qs_g p1 4 (qs_let (qs_u D60 6 p1.toNatClampNeg (0 : Int32)) (fun D64 => (qs_let (0 : Int32) (fun v65 => (fX5_sheet_L85 qs_F p1 p2 p3 v65 D64)))))) else (qs_g p1 4 (qs_let (qs_u D60 6 p1.toNatClampNeg p3) (fun D62 => (qs_let (0 : Int32) (fun v63 => (fX5_sheet_L85 qs_F p1 p2 p3 v63 D62)))))))))) else (qs_bind (fX5_finds (-1000001 : Int32) D1) (fun x67 D66 => (some (x67, D66))))) else (qs_bind (fX5_finds (-1000007 : Int32) D1) (fun x70 D69 => (some (x70, D69))))) else (qs_bind (fX5_finds (-1000001 : Int32) D1) (fun x73 D72 => (some (x73, D72)))))))))))
set_option maxRecDepth 20000 in
theorem kX5_sheet {l : Launch} {E : qs_E} {A : Nat → Prop} {p1 : Int32} {p2 : Int32} {p3 : Int32} {D : qs_D} {X : Int32 × qs_D}  (hX : fX5_sheet p1 p2 p3 D = some X) : qs_Ctr l E A shM yX5_sheet mX5_sheet 2 qs_ri [.ref 0, .int p1, .int p2, .int p3] D X := by
  refine qs_enter (plainFor_of_name (by decide)) rfl (Nat.le_of_ble_eq_true rfl) ?_ hX
  show qs_VO l E A shM mX5_sheet 2 qs_ri 0 [(0, .ref 0), (1, .int p1), (2, .int p2), (3, .int p3)] [] D (fX5_sheet p1 p2 p3 D)
  unfold fX5_sheet
  refine qs_iload_n dX5_sheet_0 rfl rfl rfl ?_
  refine qs_cS1i cfX5_149 (Nat.le_of_ble_eq_true rfl) (fun Y hY => kX5_isSheet  hY) (Nat.le_of_ble_eq_true rfl) dX5_sheet_1 rfl (fun x2 D1 g3 => ?_)
  refine qs_if_eq (tgt := 29) dX5_sheet_4 (by decide) rfl (fun g4 => ?_) (fun g4 => ?_)
  · refine qs_aload_n dX5_sheet_29 rfl rfl rfl ?_
    refine qs_ldc wcX5_34 dX5_sheet_30 rfl ?_
    refine qs_cV1i cfX5_36 (Nat.le_of_ble_eq_true rfl) rfl rfl (fun Y hY => kX5_finds  hY) (Nat.le_of_ble_eq_true rfl) dX5_sheet_32 rfl (fun x6 D5 g7 => ?_)
    exact qs_iret rfl dX5_sheet_35
  · refine qs_iload_n dX5_sheet_7 rfl rfl rfl ?_
    refine qs_if_eq (tgt := 36) dX5_sheet_8 (by decide) rfl (fun g8 => ?_) (fun g8 => ?_)
    · refine qs_iload_n dX5_sheet_36 rfl rfl rfl ?_
      refine qs_if_ge (tgt := 47) dX5_sheet_37 (by decide) rfl (fun g9 => ?_) (fun g9 => ?_)
      · refine qs_iload_n dX5_sheet_47 rfl rfl rfl ?_
        refine qs_bipush (40 : Int32) dX5_sheet_48 (by decide) rfl ?_
        refine qs_icmp_le (tgt := 60) dX5_sheet_50 (by decide) rfl (fun g10 => ?_) (fun g10 => ?_)
        · refine qs_aload_n dX5_sheet_60 rfl rfl rfl ?_
          refine qs_getR ffX5_22 rfl rfl dX5_sheet_61 rfl ?_
          refine qs_iload_n dX5_sheet_64 rfl rfl rfl ?_
          refine qs_iload_n dX5_sheet_65 rfl rfl rfl ?_
          refine qs_iast rfl (by decide) dX5_sheet_66 rfl (fun D11 => ?_)
          refine qs_aload_n dX5_sheet_67 rfl rfl rfl ?_
          refine qs_getR ffX5_25 rfl rfl dX5_sheet_68 rfl ?_
          refine qs_iload_n dX5_sheet_71 rfl rfl rfl ?_
          refine qs_iload_n dX5_sheet_72 rfl rfl rfl ?_
          refine qs_if_ne (tgt := 80) dX5_sheet_73 (by decide) rfl (fun g12 => ?_) (fun g12 => ?_)
          · refine qs_iconst (0 : Int32) dX5_sheet_76 (by decide) rfl ?_
            refine qs_goto (tgt := 81) dX5_sheet_77 (by decide) ?_
            refine qs_iast rfl (by decide) dX5_sheet_81 rfl (fun D19 => ?_)
            refine qs_iconst (0 : Int32) dX5_sheet_82 (by decide) rfl ?_
            refine qs_istore (fun v20 => [(4, .int v20), (0, .ref 0), (1, .int p1), (2, .int p2), (3, .int p3)]) dX5_sheet_83 (by decide) (fun _ => rfl) rfl (fun v20 => ?_)
            exact qs_sub [1, 2, 3, 4, 0] rfl (lX5_sheet_L85 qs_F p1 p2 p3 v20 D19)
          · refine qs_iload_n dX5_sheet_80 rfl rfl rfl ?_
            refine qs_iast rfl (by decide) dX5_sheet_81 rfl (fun D13 => ?_)
            refine qs_iconst (0 : Int32) dX5_sheet_82 (by decide) rfl ?_
            refine qs_istore (fun v14 => [(4, .int v14), (0, .ref 0), (1, .int p1), (2, .int p2), (3, .int p3)]) dX5_sheet_83 (by decide) (fun _ => rfl) rfl (fun v14 => ?_)
            exact qs_sub [1, 2, 3, 4, 0] rfl (lX5_sheet_L85 qs_F p1 p2 p3 v14 D13)
        · refine qs_aload_n dX5_sheet_53 rfl rfl rfl ?_
          refine qs_ldc wcX5_34 dX5_sheet_54 rfl ?_
          refine qs_cV1i cfX5_36 (Nat.le_of_ble_eq_true rfl) rfl rfl (fun Y hY => kX5_finds  hY) (Nat.le_of_ble_eq_true rfl) dX5_sheet_56 rfl (fun x22 D21 g23 => ?_)
          exact qs_iret rfl dX5_sheet_59
      · refine qs_aload_n dX5_sheet_40 rfl rfl rfl ?_
        refine qs_ldc wcX5_224 dX5_sheet_41 rfl ?_
        refine qs_cV1i cfX5_36 (Nat.le_of_ble_eq_true rfl) rfl rfl (fun Y hY => kX5_finds  hY) (Nat.le_of_ble_eq_true rfl) dX5_sheet_43 rfl (fun x25 D24 g26 => ?_)
        exact qs_iret rfl dX5_sheet_46
    · refine qs_iload_n dX5_sheet_11 rfl rfl rfl ?_
      refine qs_bipush (8 : Int32) dX5_sheet_12 (by decide) rfl ?_
      refine qs_icmp_eq (tgt := 36) dX5_sheet_14 (by decide) rfl (fun g27 => ?_) (fun g27 => ?_)
      · refine qs_iload_n dX5_sheet_36 rfl rfl rfl ?_
        refine qs_if_ge (tgt := 47) dX5_sheet_37 (by decide) rfl (fun g28 => ?_) (fun g28 => ?_)
        · refine qs_iload_n dX5_sheet_47 rfl rfl rfl ?_
          refine qs_bipush (40 : Int32) dX5_sheet_48 (by decide) rfl ?_
          refine qs_icmp_le (tgt := 60) dX5_sheet_50 (by decide) rfl (fun g29 => ?_) (fun g29 => ?_)
          · refine qs_aload_n dX5_sheet_60 rfl rfl rfl ?_
            refine qs_getR ffX5_22 rfl rfl dX5_sheet_61 rfl ?_
            refine qs_iload_n dX5_sheet_64 rfl rfl rfl ?_
            refine qs_iload_n dX5_sheet_65 rfl rfl rfl ?_
            refine qs_iast rfl (by decide) dX5_sheet_66 rfl (fun D30 => ?_)
            refine qs_aload_n dX5_sheet_67 rfl rfl rfl ?_
            refine qs_getR ffX5_25 rfl rfl dX5_sheet_68 rfl ?_
            refine qs_iload_n dX5_sheet_71 rfl rfl rfl ?_
            refine qs_iload_n dX5_sheet_72 rfl rfl rfl ?_
            refine qs_if_ne (tgt := 80) dX5_sheet_73 (by decide) rfl (fun g31 => ?_) (fun g31 => ?_)
            · refine qs_iconst (0 : Int32) dX5_sheet_76 (by decide) rfl ?_
              refine qs_goto (tgt := 81) dX5_sheet_77 (by decide) ?_
              refine qs_iast rfl (by decide) dX5_sheet_81 rfl (fun D34 => ?_)
              refine qs_iconst (0 : Int32) dX5_sheet_82 (by decide) rfl ?_
              refine qs_istore (fun v35 => [(4, .int v35), (0, .ref 0), (1, .int p1), (2, .int p2), (3, .int p3)]) dX5_sheet_83 (by decide) (fun _ => rfl) rfl (fun v35 => ?_)
              exact qs_sub [1, 2, 3, 4, 0] rfl (lX5_sheet_L85 qs_F p1 p2 p3 v35 D34)
            · refine qs_iload_n dX5_sheet_80 rfl rfl rfl ?_
              refine qs_iast rfl (by decide) dX5_sheet_81 rfl (fun D32 => ?_)
              refine qs_iconst (0 : Int32) dX5_sheet_82 (by decide) rfl ?_
              refine qs_istore (fun v33 => [(4, .int v33), (0, .ref 0), (1, .int p1), (2, .int p2), (3, .int p3)]) dX5_sheet_83 (by decide) (fun _ => rfl) rfl (fun v33 => ?_)
              exact qs_sub [1, 2, 3, 4, 0] rfl (lX5_sheet_L85 qs_F p1 p2 p3 v33 D32)
          · refine qs_aload_n dX5_sheet_53 rfl rfl rfl ?_
            refine qs_ldc wcX5_34 dX5_sheet_54 rfl ?_
            refine qs_cV1i cfX5_36 (Nat.le_of_ble_eq_true rfl) rfl rfl (fun Y hY => kX5_finds  hY) (Nat.le_of_ble_eq_true rfl) dX5_sheet_56 rfl (fun x37 D36 g38 => ?_)
            exact qs_iret rfl dX5_sheet_59
        · refine qs_aload_n dX5_sheet_40 rfl rfl rfl ?_
          refine qs_ldc wcX5_224 dX5_sheet_41 rfl ?_
          refine qs_cV1i cfX5_36 (Nat.le_of_ble_eq_true rfl) rfl rfl (fun Y hY => kX5_finds  hY) (Nat.le_of_ble_eq_true rfl) dX5_sheet_43 rfl (fun x40 D39 g41 => ?_)
          exact qs_iret rfl dX5_sheet_46
      · refine qs_iload_n dX5_sheet_17 rfl rfl rfl ?_
        refine qs_bipush (16 : Int32) dX5_sheet_18 (by decide) rfl ?_
        refine qs_icmp_eq (tgt := 36) dX5_sheet_20 (by decide) rfl (fun g42 => ?_) (fun g42 => ?_)
        · refine qs_iload_n dX5_sheet_36 rfl rfl rfl ?_
          refine qs_if_ge (tgt := 47) dX5_sheet_37 (by decide) rfl (fun g43 => ?_) (fun g43 => ?_)
          · refine qs_iload_n dX5_sheet_47 rfl rfl rfl ?_
            refine qs_bipush (40 : Int32) dX5_sheet_48 (by decide) rfl ?_
            refine qs_icmp_le (tgt := 60) dX5_sheet_50 (by decide) rfl (fun g44 => ?_) (fun g44 => ?_)
            · refine qs_aload_n dX5_sheet_60 rfl rfl rfl ?_
              refine qs_getR ffX5_22 rfl rfl dX5_sheet_61 rfl ?_
              refine qs_iload_n dX5_sheet_64 rfl rfl rfl ?_
              refine qs_iload_n dX5_sheet_65 rfl rfl rfl ?_
              refine qs_iast rfl (by decide) dX5_sheet_66 rfl (fun D45 => ?_)
              refine qs_aload_n dX5_sheet_67 rfl rfl rfl ?_
              refine qs_getR ffX5_25 rfl rfl dX5_sheet_68 rfl ?_
              refine qs_iload_n dX5_sheet_71 rfl rfl rfl ?_
              refine qs_iload_n dX5_sheet_72 rfl rfl rfl ?_
              refine qs_if_ne (tgt := 80) dX5_sheet_73 (by decide) rfl (fun g46 => ?_) (fun g46 => ?_)
              · refine qs_iconst (0 : Int32) dX5_sheet_76 (by decide) rfl ?_
                refine qs_goto (tgt := 81) dX5_sheet_77 (by decide) ?_
                refine qs_iast rfl (by decide) dX5_sheet_81 rfl (fun D49 => ?_)
                refine qs_iconst (0 : Int32) dX5_sheet_82 (by decide) rfl ?_
                refine qs_istore (fun v50 => [(4, .int v50), (0, .ref 0), (1, .int p1), (2, .int p2), (3, .int p3)]) dX5_sheet_83 (by decide) (fun _ => rfl) rfl (fun v50 => ?_)
                exact qs_sub [1, 2, 3, 4, 0] rfl (lX5_sheet_L85 qs_F p1 p2 p3 v50 D49)
              · refine qs_iload_n dX5_sheet_80 rfl rfl rfl ?_
                refine qs_iast rfl (by decide) dX5_sheet_81 rfl (fun D47 => ?_)
                refine qs_iconst (0 : Int32) dX5_sheet_82 (by decide) rfl ?_
                refine qs_istore (fun v48 => [(4, .int v48), (0, .ref 0), (1, .int p1), (2, .int p2), (3, .int p3)]) dX5_sheet_83 (by decide) (fun _ => rfl) rfl (fun v48 => ?_)
                exact qs_sub [1, 2, 3, 4, 0] rfl (lX5_sheet_L85 qs_F p1 p2 p3 v48 D47)
            · refine qs_aload_n dX5_sheet_53 rfl rfl rfl ?_
              refine qs_ldc wcX5_34 dX5_sheet_54 rfl ?_
              refine qs_cV1i cfX5_36 (Nat.le_of_ble_eq_true rfl) rfl rfl (fun Y hY => kX5_finds  hY) (Nat.le_of_ble_eq_true rfl) dX5_sheet_56 rfl (fun x52 D51 g53 => ?_)
              exact qs_iret rfl dX5_sheet_59
          · refine qs_aload_n dX5_sheet_40 rfl rfl rfl ?_
            refine qs_ldc wcX5_224 dX5_sheet_41 rfl ?_
            refine qs_cV1i cfX5_36 (Nat.le_of_ble_eq_true rfl) rfl rfl (fun Y hY => kX5_finds  hY) (Nat.le_of_ble_eq_true rfl) dX5_sheet_43 rfl (fun x55 D54 g56 => ?_)
            exact qs_iret rfl dX5_sheet_46
        · refine qs_iload_n dX5_sheet_23 rfl rfl rfl ?_
          refine qs_bipush (32 : Int32) dX5_sheet_24 (by decide) rfl ?_
          refine qs_icmp_eq (tgt := 36) dX5_sheet_26 (by decide) rfl (fun g57 => ?_) (fun g57 => ?_)
          · refine qs_iload_n dX5_sheet_36 rfl rfl rfl ?_
            refine qs_if_ge (tgt := 47) dX5_sheet_37 (by decide) rfl (fun g58 => ?_) (fun g58 => ?_)
            · refine qs_iload_n dX5_sheet_47 rfl rfl rfl ?_
              refine qs_bipush (40 : Int32) dX5_sheet_48 (by decide) rfl ?_
              refine qs_icmp_le (tgt := 60) dX5_sheet_50 (by decide) rfl (fun g59 => ?_) (fun g59 => ?_)
              · refine qs_aload_n dX5_sheet_60 rfl rfl rfl ?_
                refine qs_getR ffX5_22 rfl rfl dX5_sheet_61 rfl ?_
                refine qs_iload_n dX5_sheet_64 rfl rfl rfl ?_
                refine qs_iload_n dX5_sheet_65 rfl rfl rfl ?_
                refine qs_iast rfl (by decide) dX5_sheet_66 rfl (fun D60 => ?_)
                refine qs_aload_n dX5_sheet_67 rfl rfl rfl ?_
                refine qs_getR ffX5_25 rfl rfl dX5_sheet_68 rfl ?_
                refine qs_iload_n dX5_sheet_71 rfl rfl rfl ?_
                refine qs_iload_n dX5_sheet_72 rfl rfl rfl ?_
                refine qs_if_ne (tgt := 80) dX5_sheet_73 (by decide) rfl (fun g61 => ?_) (fun g61 => ?_)
                · refine qs_iconst (0 : Int32) dX5_sheet_76 (by decide) rfl ?_
                  refine qs_goto (tgt := 81) dX5_sheet_77 (by decide) ?_
                  refine qs_iast rfl (by decide) dX5_sheet_81 rfl (fun D64 => ?_)
                  refine qs_iconst (0 : Int32) dX5_sheet_82 (by decide) rfl ?_
                  refine qs_istore (fun v65 => [(4, .int v65), (0, .ref 0), (1, .int p1), (2, .int p2), (3, .int p3)]) dX5_sheet_83 (by decide) (fun _ => rfl) rfl (fun v65 => ?_)
                  exact qs_sub [1, 2, 3, 4, 0] rfl (lX5_sheet_L85 qs_F p1 p2 p3 v65 D64)
                · refine qs_iload_n dX5_sheet_80 rfl rfl rfl ?_
                  refine qs_iast rfl (by decide) dX5_sheet_81 rfl (fun D62 => ?_)
                  refine qs_iconst (0 : Int32) dX5_sheet_82 (by decide) rfl ?_
                  refine qs_istore (fun v63 => [(4, .int v63), (0, .ref 0), (1, .int p1), (2, .int p2), (3, .int p3)]) dX5_sheet_83 (by decide) (fun _ => rfl) rfl (fun v63 => ?_)
                  exact qs_sub [1, 2, 3, 4, 0] rfl (lX5_sheet_L85 qs_F p1 p2 p3 v63 D62)
              · refine qs_aload_n dX5_sheet_53 rfl rfl rfl ?_
                refine qs_ldc wcX5_34 dX5_sheet_54 rfl ?_
                refine qs_cV1i cfX5_36 (Nat.le_of_ble_eq_true rfl) rfl rfl (fun Y hY => kX5_finds  hY) (Nat.le_of_ble_eq_true rfl) dX5_sheet_56 rfl (fun x67 D66 g68 => ?_)
                exact qs_iret rfl dX5_sheet_59
            · refine qs_aload_n dX5_sheet_40 rfl rfl rfl ?_
              refine qs_ldc wcX5_224 dX5_sheet_41 rfl ?_
              refine qs_cV1i cfX5_36 (Nat.le_of_ble_eq_true rfl) rfl rfl (fun Y hY => kX5_finds  hY) (Nat.le_of_ble_eq_true rfl) dX5_sheet_43 rfl (fun x70 D69 g71 => ?_)
              exact qs_iret rfl dX5_sheet_46
          · refine qs_aload_n dX5_sheet_29 rfl rfl rfl ?_
            refine qs_ldc wcX5_34 dX5_sheet_30 rfl ?_
            refine qs_cV1i cfX5_36 (Nat.le_of_ble_eq_true rfl) rfl rfl (fun Y hY => kX5_finds  hY) (Nat.le_of_ble_eq_true rfl) dX5_sheet_32 rfl (fun x73 D72 g74 => ?_)
            exact qs_iret rfl dX5_sheet_35
abbrev mX5_write : qs_M := (RX5, cX5_write, 5, (some FieldType.int))
def fX5_write (p1 : Int32) (p2 : Int32) (p3 : Int32) (D : qs_D) : Option (Int32 × qs_D) := (qs_bind (fX5_notThere p1 D) (fun x2 D1 => (qs_let x2 (fun v4 => (if v4 = 0 then (qs_g p1 4 (qs_bind (fX5_in p2 (0 : Int32) ((D1 6 p1.toNatClampNeg) - (1 : Int32)) D1) (fun x20 D19 => (if x20 = 0 then (qs_let (-1000001 : Int32) (fun v35 => (if v35 = 0 then (qs_g p1 4 (if (D19 5 p1.toNatClampNeg) = (8 : Int32) then (qs_g (((40 : Int32) * p1) + p2) 160 (qs_let (qs_u D19 7 (((40 : Int32) * p1) + p2).toNatClampNeg p3.toInt8.toInt32) (fun D43 => (some ((1 : Int32), D43))))) else (qs_g p1 4 (if (D19 5 p1.toNatClampNeg) = (16 : Int32) then (qs_g (((40 : Int32) * p1) + p2) 160 (qs_let (qs_u D19 7 (((40 : Int32) * p1) + p2).toNatClampNeg p3.toInt16.toInt32) (fun D42 => (some ((1 : Int32), D42))))) else (qs_g (((40 : Int32) * p1) + p2) 160 (qs_let (qs_u D19 7 (((40 : Int32) * p1) + p2).toNatClampNeg p3) (fun D41 => (some ((1 : Int32), D41))))))))) else (qs_bind (fX5_finds v35 D19) (fun x45 D44 => (some (x45, D44))))))) else (qs_let v4 (fun v23 => (if v23 = 0 then (qs_g p1 4 (if (D19 5 p1.toNatClampNeg) = (8 : Int32) then (qs_g (((40 : Int32) * p1) + p2) 160 (qs_let (qs_u D19 7 (((40 : Int32) * p1) + p2).toNatClampNeg p3.toInt8.toInt32) (fun D31 => (some ((1 : Int32), D31))))) else (qs_g p1 4 (if (D19 5 p1.toNatClampNeg) = (16 : Int32) then (qs_g (((40 : Int32) * p1) + p2) 160 (qs_let (qs_u D19 7 (((40 : Int32) * p1) + p2).toNatClampNeg p3.toInt16.toInt32) (fun D30 => (some ((1 : Int32), D30))))) else (qs_g (((40 : Int32) * p1) + p2) 160 (qs_let (qs_u D19 7 (((40 : Int32) * p1) + p2).toNatClampNeg p3) (fun D29 => (some ((1 : Int32), D29))))))))) else (qs_bind (fX5_finds v23 D19) (fun x33 D32 => (some (x33, D32))))))))))) else (qs_let v4 (fun v6 => (if v6 = 0 then (qs_g p1 4 (if (D1 5 p1.toNatClampNeg) = (8 : Int32) then (qs_g (((40 : Int32) * p1) + p2) 160 (qs_let (qs_u D1 7 (((40 : Int32) * p1) + p2).toNatClampNeg p3.toInt8.toInt32) (fun D14 => (some ((1 : Int32), D14))))) else (qs_g p1 4 (if (D1 5 p1.toNatClampNeg) = (16 : Int32) then (qs_g (((40 : Int32) * p1) + p2) 160 (qs_let (qs_u D1 7 (((40 : Int32) * p1) + p2).toNatClampNeg p3.toInt16.toInt32) (fun D13 => (some ((1 : Int32), D13))))) else (qs_g (((40 : Int32) * p1) + p2) 160 (qs_let (qs_u D1 7 (((40 : Int32) * p1) + p2).toNatClampNeg p3) (fun D12 => (some ((1 : Int32), D12))))))))) else (qs_bind (fX5_finds v6 D1) (fun x16 D15 => (some (x16, D15))))))))))))
set_option maxRecDepth 20000 in
theorem kX5_write {l : Launch} {E : qs_E} {A : Nat → Prop} {p1 : Int32} {p2 : Int32} {p3 : Int32} {D : qs_D} {X : Int32 × qs_D}  (hX : fX5_write p1 p2 p3 D = some X) : qs_Ctr l E A shM yX5_write mX5_write 3 qs_ri [.ref 0, .int p1, .int p2, .int p3] D X := by
  refine qs_enter (plainFor_of_name (by decide)) rfl (Nat.le_of_ble_eq_true rfl) ?_ hX
  show qs_VO l E A shM mX5_write 3 qs_ri 0 [(0, .ref 0), (1, .int p1), (2, .int p2), (3, .int p3)] [] D (fX5_write p1 p2 p3 D)
  unfold fX5_write
  refine qs_aload_n dX5_write_0 rfl rfl rfl ?_
  refine qs_iload_n dX5_write_1 rfl rfl rfl ?_
  refine qs_cV1i cfX5_153 (Nat.le_of_ble_eq_true rfl) rfl rfl (fun Y hY => kX5_notThere  hY) (Nat.le_of_ble_eq_true rfl) dX5_write_2 rfl (fun x2 D1 g3 => ?_)
  refine qs_istore (fun v4 => [(4, .int v4), (0, .ref 0), (1, .int p1), (2, .int p2), (3, .int p3)]) dX5_write_5 (by decide) (fun _ => rfl) rfl (fun v4 => ?_)
  refine qs_iload dX5_write_7 rfl rfl ?_
  refine qs_if_ne (tgt := 33) dX5_write_9 (by decide) rfl (fun g5 => ?_) (fun g5 => ?_)
  · refine qs_iload_n dX5_write_12 rfl rfl rfl ?_
    refine qs_iconst (0 : Int32) dX5_write_13 (by decide) rfl ?_
    refine qs_aload_n dX5_write_14 rfl rfl rfl ?_
    refine qs_getR ffX5_25 rfl rfl dX5_write_15 rfl ?_
    refine qs_iload_n dX5_write_18 rfl rfl rfl ?_
    refine qs_iald rfl (by decide) dX5_write_19 rfl (fun g18 => ?_)
    refine qs_iconst (1 : Int32) dX5_write_20 (by decide) rfl ?_
    refine qs_isub dX5_write_21 rfl ?_
    refine qs_cS3i cfX5_40 (Nat.le_of_ble_eq_true rfl) (fun Y hY => kX5_in  hY) (Nat.le_of_ble_eq_true rfl) dX5_write_22 rfl (fun x20 D19 g21 => ?_)
    refine qs_if_ne (tgt := 33) dX5_write_25 (by decide) rfl (fun g22 => ?_) (fun g22 => ?_)
    · refine qs_ldc wcX5_34 dX5_write_28 rfl ?_
      refine qs_goto (tgt := 35) dX5_write_30 (by decide) ?_
      refine qs_istore (fun v35 => [(4, .int v35), (0, .ref 0), (1, .int p1), (2, .int p2), (3, .int p3)]) dX5_write_35 (by decide) (fun _ => rfl) rfl (fun v35 => ?_)
      refine qs_iload dX5_write_37 rfl rfl ?_
      refine qs_if_eq (tgt := 49) dX5_write_39 (by decide) rfl (fun g36 => ?_) (fun g36 => ?_)
      · refine qs_aload_n dX5_write_49 rfl rfl rfl ?_
        refine qs_getR ffX5_28 rfl rfl dX5_write_50 rfl ?_
        refine qs_bipush (40 : Int32) dX5_write_53 (by decide) rfl ?_
        refine qs_iload_n dX5_write_55 rfl rfl rfl ?_
        refine qs_imul dX5_write_56 rfl ?_
        refine qs_iload_n dX5_write_57 rfl rfl rfl ?_
        refine qs_iadd dX5_write_58 rfl ?_
        refine qs_aload_n dX5_write_59 rfl rfl rfl ?_
        refine qs_getR ffX5_22 rfl rfl dX5_write_60 rfl ?_
        refine qs_iload_n dX5_write_63 rfl rfl rfl ?_
        refine qs_iald rfl (by decide) dX5_write_64 rfl (fun g37 => ?_)
        refine qs_bipush (8 : Int32) dX5_write_65 (by decide) rfl ?_
        refine qs_icmp_ne (tgt := 75) dX5_write_67 (by decide) rfl (fun g38 => ?_) (fun g38 => ?_)
        · refine qs_iload_n dX5_write_70 rfl rfl rfl ?_
          refine qs_i2b dX5_write_71 rfl ?_
          refine qs_goto (tgt := 92) dX5_write_72 (by decide) ?_
          refine qs_iast rfl (by decide) dX5_write_92 rfl (fun D43 => ?_)
          refine qs_iconst (1 : Int32) dX5_write_93 (by decide) rfl ?_
          exact qs_iret rfl dX5_write_94
        · refine qs_aload_n dX5_write_75 rfl rfl rfl ?_
          refine qs_getR ffX5_22 rfl rfl dX5_write_76 rfl ?_
          refine qs_iload_n dX5_write_79 rfl rfl rfl ?_
          refine qs_iald rfl (by decide) dX5_write_80 rfl (fun g39 => ?_)
          refine qs_bipush (16 : Int32) dX5_write_81 (by decide) rfl ?_
          refine qs_icmp_ne (tgt := 91) dX5_write_83 (by decide) rfl (fun g40 => ?_) (fun g40 => ?_)
          · refine qs_iload_n dX5_write_86 rfl rfl rfl ?_
            refine qs_i2s dX5_write_87 rfl ?_
            refine qs_goto (tgt := 92) dX5_write_88 (by decide) ?_
            refine qs_iast rfl (by decide) dX5_write_92 rfl (fun D42 => ?_)
            refine qs_iconst (1 : Int32) dX5_write_93 (by decide) rfl ?_
            exact qs_iret rfl dX5_write_94
          · refine qs_iload_n dX5_write_91 rfl rfl rfl ?_
            refine qs_iast rfl (by decide) dX5_write_92 rfl (fun D41 => ?_)
            refine qs_iconst (1 : Int32) dX5_write_93 (by decide) rfl ?_
            exact qs_iret rfl dX5_write_94
      · refine qs_aload_n dX5_write_42 rfl rfl rfl ?_
        refine qs_iload dX5_write_43 rfl rfl ?_
        refine qs_cV1i cfX5_36 (Nat.le_of_ble_eq_true rfl) rfl rfl (fun Y hY => kX5_finds  hY) (Nat.le_of_ble_eq_true rfl) dX5_write_45 rfl (fun x45 D44 g46 => ?_)
        exact qs_iret rfl dX5_write_48
    · refine qs_iload dX5_write_33 rfl rfl ?_
      refine qs_istore (fun v23 => [(4, .int v23), (0, .ref 0), (1, .int p1), (2, .int p2), (3, .int p3)]) dX5_write_35 (by decide) (fun _ => rfl) rfl (fun v23 => ?_)
      refine qs_iload dX5_write_37 rfl rfl ?_
      refine qs_if_eq (tgt := 49) dX5_write_39 (by decide) rfl (fun g24 => ?_) (fun g24 => ?_)
      · refine qs_aload_n dX5_write_49 rfl rfl rfl ?_
        refine qs_getR ffX5_28 rfl rfl dX5_write_50 rfl ?_
        refine qs_bipush (40 : Int32) dX5_write_53 (by decide) rfl ?_
        refine qs_iload_n dX5_write_55 rfl rfl rfl ?_
        refine qs_imul dX5_write_56 rfl ?_
        refine qs_iload_n dX5_write_57 rfl rfl rfl ?_
        refine qs_iadd dX5_write_58 rfl ?_
        refine qs_aload_n dX5_write_59 rfl rfl rfl ?_
        refine qs_getR ffX5_22 rfl rfl dX5_write_60 rfl ?_
        refine qs_iload_n dX5_write_63 rfl rfl rfl ?_
        refine qs_iald rfl (by decide) dX5_write_64 rfl (fun g25 => ?_)
        refine qs_bipush (8 : Int32) dX5_write_65 (by decide) rfl ?_
        refine qs_icmp_ne (tgt := 75) dX5_write_67 (by decide) rfl (fun g26 => ?_) (fun g26 => ?_)
        · refine qs_iload_n dX5_write_70 rfl rfl rfl ?_
          refine qs_i2b dX5_write_71 rfl ?_
          refine qs_goto (tgt := 92) dX5_write_72 (by decide) ?_
          refine qs_iast rfl (by decide) dX5_write_92 rfl (fun D31 => ?_)
          refine qs_iconst (1 : Int32) dX5_write_93 (by decide) rfl ?_
          exact qs_iret rfl dX5_write_94
        · refine qs_aload_n dX5_write_75 rfl rfl rfl ?_
          refine qs_getR ffX5_22 rfl rfl dX5_write_76 rfl ?_
          refine qs_iload_n dX5_write_79 rfl rfl rfl ?_
          refine qs_iald rfl (by decide) dX5_write_80 rfl (fun g27 => ?_)
          refine qs_bipush (16 : Int32) dX5_write_81 (by decide) rfl ?_
          refine qs_icmp_ne (tgt := 91) dX5_write_83 (by decide) rfl (fun g28 => ?_) (fun g28 => ?_)
          · refine qs_iload_n dX5_write_86 rfl rfl rfl ?_
            refine qs_i2s dX5_write_87 rfl ?_
            refine qs_goto (tgt := 92) dX5_write_88 (by decide) ?_
            refine qs_iast rfl (by decide) dX5_write_92 rfl (fun D30 => ?_)
            refine qs_iconst (1 : Int32) dX5_write_93 (by decide) rfl ?_
            exact qs_iret rfl dX5_write_94
          · refine qs_iload_n dX5_write_91 rfl rfl rfl ?_
            refine qs_iast rfl (by decide) dX5_write_92 rfl (fun D29 => ?_)
            refine qs_iconst (1 : Int32) dX5_write_93 (by decide) rfl ?_
            exact qs_iret rfl dX5_write_94
      · refine qs_aload_n dX5_write_42 rfl rfl rfl ?_
        refine qs_iload dX5_write_43 rfl rfl ?_
        refine qs_cV1i cfX5_36 (Nat.le_of_ble_eq_true rfl) rfl rfl (fun Y hY => kX5_finds  hY) (Nat.le_of_ble_eq_true rfl) dX5_write_45 rfl (fun x33 D32 g34 => ?_)
        exact qs_iret rfl dX5_write_48
  · refine qs_iload dX5_write_33 rfl rfl ?_
    refine qs_istore (fun v6 => [(4, .int v6), (0, .ref 0), (1, .int p1), (2, .int p2), (3, .int p3)]) dX5_write_35 (by decide) (fun _ => rfl) rfl (fun v6 => ?_)
    refine qs_iload dX5_write_37 rfl rfl ?_
    refine qs_if_eq (tgt := 49) dX5_write_39 (by decide) rfl (fun g7 => ?_) (fun g7 => ?_)
    · refine qs_aload_n dX5_write_49 rfl rfl rfl ?_
      refine qs_getR ffX5_28 rfl rfl dX5_write_50 rfl ?_
      refine qs_bipush (40 : Int32) dX5_write_53 (by decide) rfl ?_
      refine qs_iload_n dX5_write_55 rfl rfl rfl ?_
      refine qs_imul dX5_write_56 rfl ?_
      refine qs_iload_n dX5_write_57 rfl rfl rfl ?_
      refine qs_iadd dX5_write_58 rfl ?_
      refine qs_aload_n dX5_write_59 rfl rfl rfl ?_
      refine qs_getR ffX5_22 rfl rfl dX5_write_60 rfl ?_
      refine qs_iload_n dX5_write_63 rfl rfl rfl ?_
      refine qs_iald rfl (by decide) dX5_write_64 rfl (fun g8 => ?_)
      refine qs_bipush (8 : Int32) dX5_write_65 (by decide) rfl ?_
      refine qs_icmp_ne (tgt := 75) dX5_write_67 (by decide) rfl (fun g9 => ?_) (fun g9 => ?_)
      · refine qs_iload_n dX5_write_70 rfl rfl rfl ?_
        refine qs_i2b dX5_write_71 rfl ?_
        refine qs_goto (tgt := 92) dX5_write_72 (by decide) ?_
        refine qs_iast rfl (by decide) dX5_write_92 rfl (fun D14 => ?_)
        refine qs_iconst (1 : Int32) dX5_write_93 (by decide) rfl ?_
        exact qs_iret rfl dX5_write_94
      · refine qs_aload_n dX5_write_75 rfl rfl rfl ?_
        refine qs_getR ffX5_22 rfl rfl dX5_write_76 rfl ?_
        refine qs_iload_n dX5_write_79 rfl rfl rfl ?_
        refine qs_iald rfl (by decide) dX5_write_80 rfl (fun g10 => ?_)
        refine qs_bipush (16 : Int32) dX5_write_81 (by decide) rfl ?_
        refine qs_icmp_ne (tgt := 91) dX5_write_83 (by decide) rfl (fun g11 => ?_) (fun g11 => ?_)
        · refine qs_iload_n dX5_write_86 rfl rfl rfl ?_
          refine qs_i2s dX5_write_87 rfl ?_
          refine qs_goto (tgt := 92) dX5_write_88 (by decide) ?_
          refine qs_iast rfl (by decide) dX5_write_92 rfl (fun D13 => ?_)
          refine qs_iconst (1 : Int32) dX5_write_93 (by decide) rfl ?_
          exact qs_iret rfl dX5_write_94
        · refine qs_iload_n dX5_write_91 rfl rfl rfl ?_
          refine qs_iast rfl (by decide) dX5_write_92 rfl (fun D12 => ?_)
          refine qs_iconst (1 : Int32) dX5_write_93 (by decide) rfl ?_
          exact qs_iret rfl dX5_write_94
    · refine qs_aload_n dX5_write_42 rfl rfl rfl ?_
      refine qs_iload dX5_write_43 rfl rfl ?_
      refine qs_cV1i cfX5_36 (Nat.le_of_ble_eq_true rfl) rfl rfl (fun Y hY => kX5_finds  hY) (Nat.le_of_ble_eq_true rfl) dX5_write_45 rfl (fun x16 D15 g17 => ?_)
      exact qs_iret rfl dX5_write_48
