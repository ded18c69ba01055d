abbrev mX5_listed : qs_M := (RX5, cX5_listed, 2, (some FieldType.int))
def fX5_listed (p1 : Int32) (D : qs_D) : Option (Int32 × qs_D) := (qs_bind (fX5_in p1 (0 : Int32) (5 : Int32) D) (fun x2 D1 => (if x2 = 0 then (qs_bind (fX5_finds (-1000001 : Int32) D1) (fun x6 D5 => (some (x6, D5)))) else (qs_g ((6 : Int32) + p1) 70 (some ((D1 1 ((6 : Int32) + p1).toNatClampNeg), D1))))))
set_option maxRecDepth 20000 in
theorem kX5_listed {l : Launch} {E : qs_E} {A : Nat → Prop} {p1 : Int32} {D : qs_D} {X : Int32 × qs_D}  (hX : fX5_listed p1 D = some X) : qs_Ctr l E A shM yX5_listed mX5_listed 1 qs_ri [.ref 0, .int p1] D X := by
  refine qs_enter (plainFor_of_name (by decide)) rfl (Nat.le_of_ble_eq_true rfl) ?_ hX
  show qs_VO l E A shM mX5_listed 1 qs_ri 0 [(0, .ref 0), (1, .int p1)] [] D (fX5_listed p1 D)
  unfold fX5_listed
  refine qs_iload_n dX5_listed_0 rfl rfl rfl ?_
  refine qs_iconst (0 : Int32) dX5_listed_1 (by decide) rfl ?_
  refine qs_iconst (5 : Int32) dX5_listed_2 (by decide) rfl ?_
  refine qs_cS3i cfX5_40 (Nat.le_of_ble_eq_true rfl) (fun Y hY => kX5_in  hY) (Nat.le_of_ble_eq_true rfl) dX5_listed_3 rfl (fun x2 D1 g3 => ?_)
  refine qs_if_eq (tgt := 21) dX5_listed_6 (by decide) rfl (fun g4 => ?_) (fun g4 => ?_)
  · refine qs_aload_n dX5_listed_21 rfl rfl rfl ?_
    refine qs_ldc wcX5_34 dX5_listed_22 rfl ?_
    refine qs_cV1i cfX5_36 (Nat.le_of_ble_eq_true rfl) rfl rfl (fun Y hY => kX5_finds  hY) (Nat.le_of_ble_eq_true rfl) dX5_listed_24 rfl (fun x6 D5 g7 => ?_)
    exact qs_iret rfl dX5_listed_27
  · refine qs_aload_n dX5_listed_9 rfl rfl rfl ?_
    refine qs_getR ffX5_9 rfl rfl dX5_listed_10 rfl ?_
    refine qs_bipush (6 : Int32) dX5_listed_13 (by decide) rfl ?_
    refine qs_iload_n dX5_listed_15 rfl rfl rfl ?_
    refine qs_iadd dX5_listed_16 rfl ?_
    refine qs_iald rfl (by decide) dX5_listed_17 rfl (fun g8 => ?_)
    refine qs_goto (tgt := 27) dX5_listed_18 (by decide) ?_
    exact qs_iret rfl dX5_listed_27
def fX5_comes (p1 : Int32) (p2 : Int32) (p3 : Int32) (p4 : Int32) (p5 : Int32) (D : qs_D) : Option (Int32 × qs_D) := (qs_g (5 : Int32) 70 (qs_let (D 1 (5 : Int32).toNatClampNeg) (fun v2 => (qs_g (5 : Int32) 70 (qs_g (5 : Int32) 70 (qs_let (qs_u D 1 (5 : Int32).toNatClampNeg ((D 1 (5 : Int32).toNatClampNeg) + (1 : Int32))) (fun D4 => (qs_bind (fX5_put v2 (0 : Int32) p1 D4) (fun x6 D5 => (qs_bind (fX5_put v2 (1 : Int32) p2 D5) (fun x9 D8 => (qs_bind (fX5_put v2 (2 : Int32) p3 D8) (fun x12 D11 => (qs_bind (fX5_put v2 (3 : Int32) p5 D11) (fun x15 D14 => (qs_bind (fX5_put v2 (4 : Int32) p4 D14) (fun x18 D17 => (qs_bind (fX5_put v2 (5 : Int32) (0 : Int32) D17) (fun x21 D20 => (some (v2, D20)))))))))))))))))))))
set_option maxRecDepth 20000 in
theorem kX5_comes {l : Launch} {E : qs_E} {A : Nat → Prop} {p1 : Int32} {p2 : Int32} {p3 : Int32} {p4 : Int32} {p5 : Int32} {D : qs_D} {X : Int32 × qs_D}  (hX : fX5_comes p1 p2 p3 p4 p5 D = some X) : qs_Ctr l E A shM yX5_comes mX5_comes 1 qs_ri [.ref 0, .int p1, .int p2, .int p3, .int p4, .int p5] D X := by
  refine qs_enter (plainFor_of_name (by decide)) rfl (Nat.le_of_ble_eq_true rfl) ?_ hX
  show qs_VO l E A shM mX5_comes 1 qs_ri 0 [(0, .ref 0), (1, .int p1), (2, .int p2), (3, .int p3), (4, .int p4), (5, .int p5)] [] D (fX5_comes p1 p2 p3 p4 p5 D)
  unfold fX5_comes
  refine qs_aload_n dX5_comes_0 rfl rfl rfl ?_
  refine qs_getR ffX5_9 rfl rfl dX5_comes_1 rfl ?_
  refine qs_iconst (5 : Int32) dX5_comes_4 (by decide) rfl ?_
  refine qs_iald rfl (by decide) dX5_comes_5 rfl (fun g1 => ?_)
  refine qs_istore (fun v2 => [(6, .int v2), (0, .ref 0), (1, .int p1), (2, .int p2), (3, .int p3), (4, .int p4), (5, .int p5)]) dX5_comes_6 (by decide) (fun _ => rfl) rfl (fun v2 => ?_)
  refine qs_aload_n dX5_comes_8 rfl rfl rfl ?_
  refine qs_getR ffX5_9 rfl rfl dX5_comes_9 rfl ?_
  refine qs_iconst (5 : Int32) dX5_comes_12 (by decide) rfl ?_
  refine qs_dup2 dX5_comes_13 rfl rfl rfl ?_
  refine qs_iald rfl (by decide) dX5_comes_14 rfl (fun g3 => ?_)
  refine qs_iconst (1 : Int32) dX5_comes_15 (by decide) rfl ?_
  refine qs_iadd dX5_comes_16 rfl ?_
  refine qs_iast rfl (by decide) dX5_comes_17 rfl (fun D4 => ?_)
  refine qs_aload_n dX5_comes_18 rfl rfl rfl ?_
  refine qs_iload dX5_comes_19 rfl rfl ?_
  refine qs_iconst (0 : Int32) dX5_comes_21 (by decide) rfl ?_
  refine qs_iload_n dX5_comes_22 rfl rfl rfl ?_
  refine qs_cV3v cfX5_59 (Nat.le_of_ble_eq_true rfl) rfl rfl (fun Y hY => kX5_put  hY) (Nat.le_of_ble_eq_true rfl) dX5_comes_23 rfl (fun x6 D5 g7 => ?_)
  refine qs_aload_n dX5_comes_26 rfl rfl rfl ?_
  refine qs_iload dX5_comes_27 rfl rfl ?_
  refine qs_iconst (1 : Int32) dX5_comes_29 (by decide) rfl ?_
  refine qs_iload_n dX5_comes_30 rfl rfl rfl ?_
  refine qs_cV3v cfX5_59 (Nat.le_of_ble_eq_true rfl) rfl rfl (fun Y hY => kX5_put  hY) (Nat.le_of_ble_eq_true rfl) dX5_comes_31 rfl (fun x9 D8 g10 => ?_)
  refine qs_aload_n dX5_comes_34 rfl rfl rfl ?_
  refine qs_iload dX5_comes_35 rfl rfl ?_
  refine qs_iconst (2 : Int32) dX5_comes_37 (by decide) rfl ?_
  refine qs_iload_n dX5_comes_38 rfl rfl rfl ?_
  refine qs_cV3v cfX5_59 (Nat.le_of_ble_eq_true rfl) rfl rfl (fun Y hY => kX5_put  hY) (Nat.le_of_ble_eq_true rfl) dX5_comes_39 rfl (fun x12 D11 g13 => ?_)
  refine qs_aload_n dX5_comes_42 rfl rfl rfl ?_
  refine qs_iload dX5_comes_43 rfl rfl ?_
  refine qs_iconst (3 : Int32) dX5_comes_45 (by decide) rfl ?_
  refine qs_iload dX5_comes_46 rfl rfl ?_
  refine qs_cV3v cfX5_59 (Nat.le_of_ble_eq_true rfl) rfl rfl (fun Y hY => kX5_put  hY) (Nat.le_of_ble_eq_true rfl) dX5_comes_48 rfl (fun x15 D14 g16 => ?_)
  refine qs_aload_n dX5_comes_51 rfl rfl rfl ?_
  refine qs_iload dX5_comes_52 rfl rfl ?_
  refine qs_iconst (4 : Int32) dX5_comes_54 (by decide) rfl ?_
  refine qs_iload dX5_comes_55 rfl rfl ?_
  refine qs_cV3v cfX5_59 (Nat.le_of_ble_eq_true rfl) rfl rfl (fun Y hY => kX5_put  hY) (Nat.le_of_ble_eq_true rfl) dX5_comes_57 rfl (fun x18 D17 g19 => ?_)
  refine qs_aload_n dX5_comes_60 rfl rfl rfl ?_
  refine qs_iload dX5_comes_61 rfl rfl ?_
  refine qs_iconst (5 : Int32) dX5_comes_63 (by decide) rfl ?_
  refine qs_iconst (0 : Int32) dX5_comes_64 (by decide) rfl ?_
  refine qs_cV3v cfX5_59 (Nat.le_of_ble_eq_true rfl) rfl rfl (fun Y hY => kX5_put  hY) (Nat.le_of_ble_eq_true rfl) dX5_comes_65 rfl (fun x21 D20 g22 => ?_)
  refine qs_iload dX5_comes_68 rfl rfl ?_
  exact qs_iret rfl dX5_comes_70
abbrev mX5_dish : qs_M := (RX5, cX5_dish, 3, (some FieldType.int))
def fX5_dish (p1 : Int32) (p2 : Int32) (D : qs_D) : Option (Int32 × qs_D) := (qs_bind (fX5_in p1 (0 : Int32) (6 : Int32) D) (fun x2 D1 => (if x2 = 0 then (qs_bind (fX5_finds (-1000001 : Int32) D1) (fun x6 D5 => (some (x6, D5)))) else (qs_bind (fX5_in p2 (0 : Int32) (99 : Int32) D1) (fun x9 D8 => (if x9 = 0 then (qs_bind (fX5_finds (-1000001 : Int32) D8) (fun x21 D20 => (some (x21, D20)))) else (qs_g (5 : Int32) 70 (if (D8 1 (5 : Int32).toNatClampNeg) = (8 : Int32) then (qs_bind (fX5_finds (-1000002 : Int32) D8) (fun x18 D17 => (some (x18, D17)))) else (qs_bind (fX5_comes p1 p2 (10 : Int32) (0 : Int32) (0 : Int32) D8) (fun x15 D14 => (some (x15, D14))))))))))))
set_option maxRecDepth 20000 in
theorem kX5_dish {l : Launch} {E : qs_E} {A : Nat → Prop} {p1 : Int32} {p2 : Int32} {D : qs_D} {X : Int32 × qs_D}  (hX : fX5_dish p1 p2 D = some X) : qs_Ctr l E A shM yX5_dish mX5_dish 2 qs_ri [.ref 0, .int p1, .int p2] D X := by
  refine qs_enter (plainFor_of_name (by decide)) rfl (Nat.le_of_ble_eq_true rfl) ?_ hX
  show qs_VO l E A shM mX5_dish 2 qs_ri 0 [(0, .ref 0), (1, .int p1), (2, .int p2)] [] D (fX5_dish p1 p2 D)
  unfold fX5_dish
  refine qs_iload_n dX5_dish_0 rfl rfl rfl ?_
  refine qs_iconst (0 : Int32) dX5_dish_1 (by decide) rfl ?_
  refine qs_bipush (6 : Int32) dX5_dish_2 (by decide) rfl ?_
  refine qs_cS3i cfX5_40 (Nat.le_of_ble_eq_true rfl) (fun Y hY => kX5_in  hY) (Nat.le_of_ble_eq_true rfl) dX5_dish_4 rfl (fun x2 D1 g3 => ?_)
  refine qs_if_eq (tgt := 20) dX5_dish_7 (by decide) rfl (fun g4 => ?_) (fun g4 => ?_)
  · refine qs_aload_n dX5_dish_20 rfl rfl rfl ?_
    refine qs_ldc wcX5_34 dX5_dish_21 rfl ?_
    refine qs_cV1i cfX5_36 (Nat.le_of_ble_eq_true rfl) rfl rfl (fun Y hY => kX5_finds  hY) (Nat.le_of_ble_eq_true rfl) dX5_dish_23 rfl (fun x6 D5 g7 => ?_)
    exact qs_iret rfl dX5_dish_26
  · refine qs_iload_n dX5_dish_10 rfl rfl rfl ?_
    refine qs_iconst (0 : Int32) dX5_dish_11 (by decide) rfl ?_
    refine qs_bipush (99 : Int32) dX5_dish_12 (by decide) rfl ?_
    refine qs_cS3i cfX5_40 (Nat.le_of_ble_eq_true rfl) (fun Y hY => kX5_in  hY) (Nat.le_of_ble_eq_true rfl) dX5_dish_14 rfl (fun x9 D8 g10 => ?_)
    refine qs_if_ne (tgt := 27) dX5_dish_17 (by decide) rfl (fun g11 => ?_) (fun g11 => ?_)
    · refine qs_aload_n dX5_dish_20 rfl rfl rfl ?_
      refine qs_ldc wcX5_34 dX5_dish_21 rfl ?_
      refine qs_cV1i cfX5_36 (Nat.le_of_ble_eq_true rfl) rfl rfl (fun Y hY => kX5_finds  hY) (Nat.le_of_ble_eq_true rfl) dX5_dish_23 rfl (fun x21 D20 g22 => ?_)
      exact qs_iret rfl dX5_dish_26
    · refine qs_aload_n dX5_dish_27 rfl rfl rfl ?_
      refine qs_getR ffX5_9 rfl rfl dX5_dish_28 rfl ?_
      refine qs_iconst (5 : Int32) dX5_dish_31 (by decide) rfl ?_
      refine qs_iald rfl (by decide) dX5_dish_32 rfl (fun g12 => ?_)
      refine qs_bipush (8 : Int32) dX5_dish_33 (by decide) rfl ?_
      refine qs_icmp_ne (tgt := 47) dX5_dish_35 (by decide) rfl (fun g13 => ?_) (fun g13 => ?_)
      · refine qs_aload_n dX5_dish_38 rfl rfl rfl ?_
        refine qs_ldc wcX5_63 dX5_dish_39 rfl ?_
        refine qs_cV1i cfX5_36 (Nat.le_of_ble_eq_true rfl) rfl rfl (fun Y hY => kX5_finds  hY) (Nat.le_of_ble_eq_true rfl) dX5_dish_41 rfl (fun x18 D17 g19 => ?_)
        refine qs_goto (tgt := 57) dX5_dish_44 (by decide) ?_
        exact qs_iret rfl dX5_dish_57
      · refine qs_aload_n dX5_dish_47 rfl rfl rfl ?_
        refine qs_iload_n dX5_dish_48 rfl rfl rfl ?_
        refine qs_iload_n dX5_dish_49 rfl rfl rfl ?_
        refine qs_bipush (10 : Int32) dX5_dish_50 (by decide) rfl ?_
        refine qs_iconst (0 : Int32) dX5_dish_52 (by decide) rfl ?_
        refine qs_iconst (0 : Int32) dX5_dish_53 (by decide) rfl ?_
        refine qs_cV5i cfX5_64 (Nat.le_of_ble_eq_true rfl) rfl rfl (fun Y hY => kX5_comes  hY) (Nat.le_of_ble_eq_true rfl) dX5_dish_54 rfl (fun x15 D14 g16 => ?_)
        exact qs_iret rfl dX5_dish_57
abbrev mX5_of : qs_M := (RX5, cX5_of, 3, (some FieldType.int))
def fX5_of (p1 : Int32) (p2 : Int32) (D : qs_D) : Option (Int32 × qs_D) := (qs_bind (fX5_isDish p1 D) (fun x2 D1 => (if x2 = 0 then (qs_bind (fX5_finds (-1000001 : Int32) D1) (fun x6 D5 => (some (x6, D5)))) else (qs_bind (fX5_in p2 (0 : Int32) (10 : Int32) D1) (fun x9 D8 => (if x9 = 0 then (qs_bind (fX5_finds (-1000001 : Int32) D8) (fun x36 D35 => (some (x36, D35)))) else (if p2 = (6 : Int32) then (qs_bind (fX5_needs p1 D8) (fun x14 D13 => (some (x14, D13)))) else (if p2 = (7 : Int32) then (qs_bind (fX5_thickens p1 D8) (fun x18 D17 => (some (x18, D17)))) else (if p2 = (8 : Int32) then (qs_bind (fX5_salts p1 D8) (fun x22 D21 => (some (x22, D21)))) else (if p2 = (9 : Int32) then (qs_bind (fX5_burns p1 D8) (fun x26 D25 => (some (x26, D25)))) else (if p2 = (10 : Int32) then (qs_bind (fX5_gives p1 D8) (fun x30 D29 => (some (x30, D29)))) else (qs_bind (fX5_it p1 p2 D8) (fun x33 D32 => (some (x33, D32)))))))))))))))
set_option maxRecDepth 20000 in
theorem kX5_of {l : Launch} {E : qs_E} {A : Nat → Prop} {p1 : Int32} {p2 : Int32} {D : qs_D} {X : Int32 × qs_D}  (hX : fX5_of p1 p2 D = some X) : qs_Ctr l E A shM yX5_of mX5_of 2 qs_ri [.ref 0, .int p1, .int p2] D X := by
  refine qs_enter (plainFor_of_name (by decide)) rfl (Nat.le_of_ble_eq_true rfl) ?_ hX
  show qs_VO l E A shM mX5_of 2 qs_ri 0 [(0, .ref 0), (1, .int p1), (2, .int p2)] [] D (fX5_of p1 p2 D)
  unfold fX5_of
  refine qs_aload_n dX5_of_0 rfl rfl rfl ?_
  refine qs_iload_n dX5_of_1 rfl rfl rfl ?_
  refine qs_cV1i cfX5_68 (Nat.le_of_ble_eq_true rfl) rfl rfl (fun Y hY => kX5_isDish  hY) (Nat.le_of_ble_eq_true rfl) dX5_of_2 rfl (fun x2 D1 g3 => ?_)
  refine qs_if_eq (tgt := 18) dX5_of_5 (by decide) rfl (fun g4 => ?_) (fun g4 => ?_)
  · refine qs_aload_n dX5_of_18 rfl rfl rfl ?_
    refine qs_ldc wcX5_34 dX5_of_19 rfl ?_
    refine qs_cV1i cfX5_36 (Nat.le_of_ble_eq_true rfl) rfl rfl (fun Y hY => kX5_finds  hY) (Nat.le_of_ble_eq_true rfl) dX5_of_21 rfl (fun x6 D5 g7 => ?_)
    exact qs_iret rfl dX5_of_24
  · refine qs_iload_n dX5_of_8 rfl rfl rfl ?_
    refine qs_iconst (0 : Int32) dX5_of_9 (by decide) rfl ?_
    refine qs_bipush (10 : Int32) dX5_of_10 (by decide) rfl ?_
    refine qs_cS3i cfX5_40 (Nat.le_of_ble_eq_true rfl) (fun Y hY => kX5_in  hY) (Nat.le_of_ble_eq_true rfl) dX5_of_12 rfl (fun x9 D8 g10 => ?_)
    refine qs_if_ne (tgt := 25) dX5_of_15 (by decide) rfl (fun g11 => ?_) (fun g11 => ?_)
    · refine qs_aload_n dX5_of_18 rfl rfl rfl ?_
      refine qs_ldc wcX5_34 dX5_of_19 rfl ?_
      refine qs_cV1i cfX5_36 (Nat.le_of_ble_eq_true rfl) rfl rfl (fun Y hY => kX5_finds  hY) (Nat.le_of_ble_eq_true rfl) dX5_of_21 rfl (fun x36 D35 g37 => ?_)
      exact qs_iret rfl dX5_of_24
    · refine qs_iload_n dX5_of_25 rfl rfl rfl ?_
      refine qs_ite (fun g12 => ?_) (fun g12 => ?_)
      · refine qs_tsIn (off := 34) (tgt := 60) dX5_of_26 (by rw [g12]; decide) (by rw [g12]; decide) (by rw [g12]; rfl) (by decide) ?_
        refine qs_aload_n dX5_of_60 rfl rfl rfl ?_
        refine qs_iload_n dX5_of_61 rfl rfl rfl ?_
        refine qs_cV1i cfX5_71 (Nat.le_of_ble_eq_true rfl) rfl rfl (fun Y hY => kX5_needs  hY) (Nat.le_of_ble_eq_true rfl) dX5_of_62 rfl (fun x14 D13 g15 => ?_)
        exact qs_iret rfl dX5_of_65
      · refine qs_ite (fun g16 => ?_) (fun g16 => ?_)
        · refine qs_tsIn (off := 40) (tgt := 66) dX5_of_26 (by rw [g16]; decide) (by rw [g16]; decide) (by rw [g16]; rfl) (by decide) ?_
          refine qs_aload_n dX5_of_66 rfl rfl rfl ?_
          refine qs_iload_n dX5_of_67 rfl rfl rfl ?_
          refine qs_cV1i cfX5_74 (Nat.le_of_ble_eq_true rfl) rfl rfl (fun Y hY => kX5_thickens  hY) (Nat.le_of_ble_eq_true rfl) dX5_of_68 rfl (fun x18 D17 g19 => ?_)
          exact qs_iret rfl dX5_of_71
        · refine qs_ite (fun g20 => ?_) (fun g20 => ?_)
          · refine qs_tsIn (off := 46) (tgt := 72) dX5_of_26 (by rw [g20]; decide) (by rw [g20]; decide) (by rw [g20]; rfl) (by decide) ?_
            refine qs_aload_n dX5_of_72 rfl rfl rfl ?_
            refine qs_iload_n dX5_of_73 rfl rfl rfl ?_
            refine qs_cV1i cfX5_77 (Nat.le_of_ble_eq_true rfl) rfl rfl (fun Y hY => kX5_salts  hY) (Nat.le_of_ble_eq_true rfl) dX5_of_74 rfl (fun x22 D21 g23 => ?_)
            exact qs_iret rfl dX5_of_77
          · refine qs_ite (fun g24 => ?_) (fun g24 => ?_)
            · refine qs_tsIn (off := 52) (tgt := 78) dX5_of_26 (by rw [g24]; decide) (by rw [g24]; decide) (by rw [g24]; rfl) (by decide) ?_
              refine qs_aload_n dX5_of_78 rfl rfl rfl ?_
              refine qs_iload_n dX5_of_79 rfl rfl rfl ?_
              refine qs_cV1i cfX5_80 (Nat.le_of_ble_eq_true rfl) rfl rfl (fun Y hY => kX5_burns  hY) (Nat.le_of_ble_eq_true rfl) dX5_of_80 rfl (fun x26 D25 g27 => ?_)
              exact qs_iret rfl dX5_of_83
            · refine qs_ite (fun g28 => ?_) (fun g28 => ?_)
              · refine qs_tsIn (off := 58) (tgt := 84) dX5_of_26 (by rw [g28]; decide) (by rw [g28]; decide) (by rw [g28]; rfl) (by decide) ?_
                refine qs_aload_n dX5_of_84 rfl rfl rfl ?_
                refine qs_iload_n dX5_of_85 rfl rfl rfl ?_
                refine qs_cV1i cfX5_83 (Nat.le_of_ble_eq_true rfl) rfl rfl (fun Y hY => kX5_gives  hY) (Nat.le_of_ble_eq_true rfl) dX5_of_86 rfl (fun x30 D29 g31 => ?_)
                exact qs_iret rfl dX5_of_89
              · refine qs_tsOut (tgt := 90) dX5_of_26 (by have eg12 := lv_neT (a := 6) g12 rfl; have eg16 := lv_neT (a := 7) g16 rfl; have eg20 := lv_neT (a := 8) g20 rfl; have eg24 := lv_neT (a := 9) g24 rfl; have eg28 := lv_neT (a := 10) g28 rfl; omega) (by decide) ?_
                refine qs_aload_n dX5_of_90 rfl rfl rfl ?_
                refine qs_iload_n dX5_of_91 rfl rfl rfl ?_
                refine qs_iload_n dX5_of_92 rfl rfl rfl ?_
                refine qs_cV2i cfX5_44 (Nat.le_of_ble_eq_true rfl) rfl rfl (fun Y hY => kX5_it  hY) (Nat.le_of_ble_eq_true rfl) dX5_of_93 rfl (fun x33 D32 g34 => ?_)
                exact qs_iret rfl dX5_of_96
def fX5_mostOf (p0 : Int32) (D : qs_D) : Option (Int32 × qs_D) := (if p0 = 0 then (some ((6 : Int32), D)) else (if p0 = (1 : Int32) then (some ((99 : Int32), D)) else (if p0 = (2 : Int32) then (some ((99 : Int32), D)) else (if p0 = (5 : Int32) then (some ((9999 : Int32), D)) else (some ((1 : Int32), D))))))
set_option maxRecDepth 20000 in
theorem kX5_mostOf {l : Launch} {E : qs_E} {A : Nat → Prop} {p0 : Int32} {D : qs_D} {X : Int32 × qs_D}  (hX : fX5_mostOf p0 D = some X) : qs_Ctr l E A shM yX5_mostOf mX5_mostOf 0 qs_ri [.int p0] D X := by
  refine qs_enter (plainFor_of_name (by decide)) rfl (Nat.le_of_ble_eq_true rfl) ?_ hX
  show qs_VO l E A shM mX5_mostOf 0 qs_ri 0 [(0, .int p0)] [] D (fX5_mostOf p0 D)
  unfold fX5_mostOf
  refine qs_iload_n dX5_mostOf_0 rfl rfl rfl ?_
  refine qs_if_ne (tgt := 9) dX5_mostOf_1 (by decide) rfl (fun g1 => ?_) (fun g1 => ?_)
  · refine qs_bipush (6 : Int32) dX5_mostOf_4 (by decide) rfl ?_
    refine qs_goto (tgt := 36) dX5_mostOf_6 (by decide) ?_
    exact qs_iret rfl dX5_mostOf_36
  · refine qs_iload_n dX5_mostOf_9 rfl rfl rfl ?_
    refine qs_iconst (1 : Int32) dX5_mostOf_10 (by decide) rfl ?_
    refine qs_icmp_eq (tgt := 19) dX5_mostOf_11 (by decide) rfl (fun g2 => ?_) (fun g2 => ?_)
    · refine qs_bipush (99 : Int32) dX5_mostOf_19 (by decide) rfl ?_
      refine qs_goto (tgt := 36) dX5_mostOf_21 (by decide) ?_
      exact qs_iret rfl dX5_mostOf_36
    · refine qs_iload_n dX5_mostOf_14 rfl rfl rfl ?_
      refine qs_iconst (2 : Int32) dX5_mostOf_15 (by decide) rfl ?_
      refine qs_icmp_ne (tgt := 24) dX5_mostOf_16 (by decide) rfl (fun g3 => ?_) (fun g3 => ?_)
      · refine qs_bipush (99 : Int32) dX5_mostOf_19 (by decide) rfl ?_
        refine qs_goto (tgt := 36) dX5_mostOf_21 (by decide) ?_
        exact qs_iret rfl dX5_mostOf_36
      · refine qs_iload_n dX5_mostOf_24 rfl rfl rfl ?_
        refine qs_iconst (5 : Int32) dX5_mostOf_25 (by decide) rfl ?_
        refine qs_icmp_ne (tgt := 35) dX5_mostOf_26 (by decide) rfl (fun g4 => ?_) (fun g4 => ?_)
        · refine qs_sipush (9999 : Int32) dX5_mostOf_29 (by decide) rfl ?_
          refine qs_goto (tgt := 36) dX5_mostOf_32 (by decide) ?_
          exact qs_iret rfl dX5_mostOf_36
        · refine qs_iconst (1 : Int32) dX5_mostOf_35 (by decide) rfl ?_
          exact qs_iret rfl dX5_mostOf_36
abbrev mX5_change : qs_M := (RX5, cX5_change, 4, (some FieldType.int))
def fX5_change (p1 : Int32) (p2 : Int32) (p3 : Int32) (D : qs_D) : Option (Int32 × qs_D) := (qs_bind (fX5_isDish p1 D) (fun x2 D1 => (if x2 = 0 then (qs_bind (fX5_finds (-1000001 : Int32) D1) (fun x6 D5 => (some (x6, D5)))) else (qs_bind (fX5_in p2 (0 : Int32) (5 : Int32) D1) (fun x9 D8 => (if x9 = 0 then (qs_bind (fX5_finds (-1000001 : Int32) D8) (fun x13 D12 => (some (x13, D12)))) else (qs_bind (fX5_mostOf p2 D8) (fun x16 D15 => (qs_bind (fX5_in p3 (0 : Int32) x16 D15) (fun x19 D18 => (if x19 = 0 then (qs_bind (fX5_finds (-1000001 : Int32) D18) (fun x23 D22 => (some (x23, D22)))) else (qs_bind (fX5_becomes (((12 : Int32) + ((6 : Int32) * p1)) + p2) p3 D18) (fun x26 D25 => (some (x26, D25)))))))))))))))
set_option maxRecDepth 20000 in
theorem kX5_change {l : Launch} {E : qs_E} {A : Nat → Prop} {p1 : Int32} {p2 : Int32} {p3 : Int32} {D : qs_D} {X : Int32 × qs_D}  (hX : fX5_change p1 p2 p3 D = some X) : qs_Ctr l E A shM yX5_change mX5_change 2 qs_ri [.ref 0, .int p1, .int p2, .int p3] D X := by
  refine qs_enter (plainFor_of_name (by decide)) rfl (Nat.le_of_ble_eq_true rfl) ?_ hX
  show qs_VO l E A shM mX5_change 2 qs_ri 0 [(0, .ref 0), (1, .int p1), (2, .int p2), (3, .int p3)] [] D (fX5_change p1 p2 p3 D)
  unfold fX5_change
  refine qs_aload_n dX5_change_0 rfl rfl rfl ?_
  refine qs_iload_n dX5_change_1 rfl rfl rfl ?_
  refine qs_cV1i cfX5_68 (Nat.le_of_ble_eq_true rfl) rfl rfl (fun Y hY => kX5_isDish  hY) (Nat.le_of_ble_eq_true rfl) dX5_change_2 rfl (fun x2 D1 g3 => ?_)
  refine qs_if_eq (tgt := 46) dX5_change_5 (by decide) rfl (fun g4 => ?_) (fun g4 => ?_)
  · refine qs_aload_n dX5_change_46 rfl rfl rfl ?_
    refine qs_ldc wcX5_34 dX5_change_47 rfl ?_
    refine qs_cV1i cfX5_36 (Nat.le_of_ble_eq_true rfl) rfl rfl (fun Y hY => kX5_finds  hY) (Nat.le_of_ble_eq_true rfl) dX5_change_49 rfl (fun x6 D5 g7 => ?_)
    exact qs_iret rfl dX5_change_52
  · refine qs_iload_n dX5_change_8 rfl rfl rfl ?_
    refine qs_iconst (0 : Int32) dX5_change_9 (by decide) rfl ?_
    refine qs_iconst (5 : Int32) dX5_change_10 (by decide) rfl ?_
    refine qs_cS3i cfX5_40 (Nat.le_of_ble_eq_true rfl) (fun Y hY => kX5_in  hY) (Nat.le_of_ble_eq_true rfl) dX5_change_11 rfl (fun x9 D8 g10 => ?_)
    refine qs_if_eq (tgt := 46) dX5_change_14 (by decide) rfl (fun g11 => ?_) (fun g11 => ?_)
    · refine qs_aload_n dX5_change_46 rfl rfl rfl ?_
      refine qs_ldc wcX5_34 dX5_change_47 rfl ?_
      refine qs_cV1i cfX5_36 (Nat.le_of_ble_eq_true rfl) rfl rfl (fun Y hY => kX5_finds  hY) (Nat.le_of_ble_eq_true rfl) dX5_change_49 rfl (fun x13 D12 g14 => ?_)
      exact qs_iret rfl dX5_change_52
    · refine qs_iload_n dX5_change_17 rfl rfl rfl ?_
      refine qs_iconst (0 : Int32) dX5_change_18 (by decide) rfl ?_
      refine qs_iload_n dX5_change_19 rfl rfl rfl ?_
      refine qs_cS1i cfX5_86 (Nat.le_of_ble_eq_true rfl) (fun Y hY => kX5_mostOf  hY) (Nat.le_of_ble_eq_true rfl) dX5_change_20 rfl (fun x16 D15 g17 => ?_)
      refine qs_cS3i cfX5_40 (Nat.le_of_ble_eq_true rfl) (fun Y hY => kX5_in  hY) (Nat.le_of_ble_eq_true rfl) dX5_change_23 rfl (fun x19 D18 g20 => ?_)
      refine qs_if_eq (tgt := 46) dX5_change_26 (by decide) rfl (fun g21 => ?_) (fun g21 => ?_)
      · refine qs_aload_n dX5_change_46 rfl rfl rfl ?_
        refine qs_ldc wcX5_34 dX5_change_47 rfl ?_
        refine qs_cV1i cfX5_36 (Nat.le_of_ble_eq_true rfl) rfl rfl (fun Y hY => kX5_finds  hY) (Nat.le_of_ble_eq_true rfl) dX5_change_49 rfl (fun x23 D22 g24 => ?_)
        exact qs_iret rfl dX5_change_52
      · refine qs_aload_n dX5_change_29 rfl rfl rfl ?_
        refine qs_bipush (12 : Int32) dX5_change_30 (by decide) rfl ?_
        refine qs_bipush (6 : Int32) dX5_change_32 (by decide) rfl ?_
        refine qs_iload_n dX5_change_34 rfl rfl rfl ?_
        refine qs_imul dX5_change_35 rfl ?_
        refine qs_iadd dX5_change_36 rfl ?_
        refine qs_iload_n dX5_change_37 rfl rfl rfl ?_
        refine qs_iadd dX5_change_38 rfl ?_
        refine qs_iload_n dX5_change_39 rfl rfl rfl ?_
        refine qs_cV2i cfX5_52 (Nat.le_of_ble_eq_true rfl) rfl rfl (fun Y hY => kX5_becomes  hY) (Nat.le_of_ble_eq_true rfl) dX5_change_40 rfl (fun x26 D25 g27 => ?_)
        refine qs_goto (tgt := 52) dX5_change_43 (by decide) ?_
        exact qs_iret rfl dX5_change_52
def fX5_serves (p1 : Int32) (D : qs_D) : Option (Int32 × qs_D) := (qs_bind (fX5_gives p1 D) (fun x2 D1 => (qs_let x2 (fun v4 => (qs_g (3 : Int32) 70 (qs_bind (fX5_held ((D1 1 (3 : Int32).toNatClampNeg) + v4) (0 : Int32) (99999 : Int32) D1) (fun x7 D6 => (qs_g (3 : Int32) 70 (qs_let (qs_u D6 1 (3 : Int32).toNatClampNeg x7) (fun D9 => (qs_bind (fX5_it p1 (5 : Int32) D9) (fun x11 D10 => (qs_bind (fX5_held (x11 + (1 : Int32)) (0 : Int32) (9999 : Int32) D10) (fun x14 D13 => (qs_bind (fX5_put p1 (5 : Int32) x14 D13) (fun x17 D16 => (qs_bind (fX5_put p1 (1 : Int32) (10 : Int32) D16) (fun x20 D19 => (qs_bind (fX5_put p1 (2 : Int32) (10 : Int32) D19) (fun x23 D22 => (qs_bind (fX5_put p1 (3 : Int32) (0 : Int32) D22) (fun x26 D25 => (some (v4, D25))))))))))))))))))))))))
set_option maxRecDepth 20000 in
theorem kX5_serves {l : Launch} {E : qs_E} {A : Nat → Prop} {p1 : Int32} {D : qs_D} {X : Int32 × qs_D}  (hX : fX5_serves p1 D = some X) : qs_Ctr l E A shM yX5_serves mX5_serves 2 qs_ri [.ref 0, .int p1] D X := by
  refine qs_enter (plainFor_of_name (by decide)) rfl (Nat.le_of_ble_eq_true rfl) ?_ hX
  show qs_VO l E A shM mX5_serves 2 qs_ri 0 [(0, .ref 0), (1, .int p1)] [] D (fX5_serves p1 D)
  unfold fX5_serves
  refine qs_aload_n dX5_serves_0 rfl rfl rfl ?_
  refine qs_iload_n dX5_serves_1 rfl rfl rfl ?_
  refine qs_cV1i cfX5_83 (Nat.le_of_ble_eq_true rfl) rfl rfl (fun Y hY => kX5_gives  hY) (Nat.le_of_ble_eq_true rfl) dX5_serves_2 rfl (fun x2 D1 g3 => ?_)
  refine qs_istore_n (fun v4 => [(2, .int v4), (0, .ref 0), (1, .int p1)]) dX5_serves_5 rfl (by decide) (fun _ => rfl) rfl (fun v4 => ?_)
  refine qs_aload_n dX5_serves_6 rfl rfl rfl ?_
  refine qs_getR ffX5_9 rfl rfl dX5_serves_7 rfl ?_
  refine qs_iconst (3 : Int32) dX5_serves_10 (by decide) rfl ?_
  refine qs_aload_n dX5_serves_11 rfl rfl rfl ?_
  refine qs_getR ffX5_9 rfl rfl dX5_serves_12 rfl ?_
  refine qs_iconst (3 : Int32) dX5_serves_15 (by decide) rfl ?_
  refine qs_iald rfl (by decide) dX5_serves_16 rfl (fun g5 => ?_)
  refine qs_iload_n dX5_serves_17 rfl rfl rfl ?_
  refine qs_iadd dX5_serves_18 rfl ?_
  refine qs_iconst (0 : Int32) dX5_serves_19 (by decide) rfl ?_
  refine qs_ldc wcX5_89 dX5_serves_20 rfl ?_
  refine qs_cS3i cfX5_90 (Nat.le_of_ble_eq_true rfl) (fun Y hY => kX5_held  hY) (Nat.le_of_ble_eq_true rfl) dX5_serves_22 rfl (fun x7 D6 g8 => ?_)
  refine qs_iast rfl (by decide) dX5_serves_25 rfl (fun D9 => ?_)
  refine qs_aload_n dX5_serves_26 rfl rfl rfl ?_
  refine qs_iload_n dX5_serves_27 rfl rfl rfl ?_
  refine qs_iconst (5 : Int32) dX5_serves_28 (by decide) rfl ?_
  refine qs_aload_n dX5_serves_29 rfl rfl rfl ?_
  refine qs_iload_n dX5_serves_30 rfl rfl rfl ?_
  refine qs_iconst (5 : Int32) dX5_serves_31 (by decide) rfl ?_
  refine qs_cV2i cfX5_44 (Nat.le_of_ble_eq_true rfl) rfl rfl (fun Y hY => kX5_it  hY) (Nat.le_of_ble_eq_true rfl) dX5_serves_32 rfl (fun x11 D10 g12 => ?_)
  refine qs_iconst (1 : Int32) dX5_serves_35 (by decide) rfl ?_
  refine qs_iadd dX5_serves_36 rfl ?_
  refine qs_iconst (0 : Int32) dX5_serves_37 (by decide) rfl ?_
  refine qs_sipush (9999 : Int32) dX5_serves_38 (by decide) rfl ?_
  refine qs_cS3i cfX5_90 (Nat.le_of_ble_eq_true rfl) (fun Y hY => kX5_held  hY) (Nat.le_of_ble_eq_true rfl) dX5_serves_41 rfl (fun x14 D13 g15 => ?_)
  refine qs_cV3v cfX5_59 (Nat.le_of_ble_eq_true rfl) rfl rfl (fun Y hY => kX5_put  hY) (Nat.le_of_ble_eq_true rfl) dX5_serves_44 rfl (fun x17 D16 g18 => ?_)
  refine qs_aload_n dX5_serves_47 rfl rfl rfl ?_
  refine qs_iload_n dX5_serves_48 rfl rfl rfl ?_
  refine qs_iconst (1 : Int32) dX5_serves_49 (by decide) rfl ?_
  refine qs_bipush (10 : Int32) dX5_serves_50 (by decide) rfl ?_
  refine qs_cV3v cfX5_59 (Nat.le_of_ble_eq_true rfl) rfl rfl (fun Y hY => kX5_put  hY) (Nat.le_of_ble_eq_true rfl) dX5_serves_52 rfl (fun x20 D19 g21 => ?_)
  refine qs_aload_n dX5_serves_55 rfl rfl rfl ?_
  refine qs_iload_n dX5_serves_56 rfl rfl rfl ?_
  refine qs_iconst (2 : Int32) dX5_serves_57 (by decide) rfl ?_
  refine qs_bipush (10 : Int32) dX5_serves_58 (by decide) rfl ?_
  refine qs_cV3v cfX5_59 (Nat.le_of_ble_eq_true rfl) rfl rfl (fun Y hY => kX5_put  hY) (Nat.le_of_ble_eq_true rfl) dX5_serves_60 rfl (fun x23 D22 g24 => ?_)
  refine qs_aload_n dX5_serves_63 rfl rfl rfl ?_
  refine qs_iload_n dX5_serves_64 rfl rfl rfl ?_
  refine qs_iconst (3 : Int32) dX5_serves_65 (by decide) rfl ?_
  refine qs_iconst (0 : Int32) dX5_serves_66 (by decide) rfl ?_
  refine qs_cV3v cfX5_59 (Nat.le_of_ble_eq_true rfl) rfl rfl (fun Y hY => kX5_put  hY) (Nat.le_of_ble_eq_true rfl) dX5_serves_67 rfl (fun x26 D25 g27 => ?_)
  refine qs_iload_n dX5_serves_70 rfl rfl rfl ?_
  exact qs_iret rfl dX5_serves_71
abbrev mX5_serve : qs_M := (RX5, cX5_serve, 2, (some FieldType.int))
def fX5_serve (p1 : Int32) (D : qs_D) : Option (Int32 × qs_D) := (qs_bind (fX5_isDish p1 D) (fun x2 D1 => (if x2 = 0 then (qs_bind (fX5_finds (-1000001 : Int32) D1) (fun x16 D15 => (some (x16, D15)))) else (qs_bind (fX5_it p1 (4 : Int32) D1) (fun x6 D5 => (if x6 = (1 : Int32) then (qs_bind (fX5_finds (-1000005 : Int32) D5) (fun x13 D12 => (some (x13, D12)))) else (qs_bind (fX5_serves p1 D5) (fun x10 D9 => (some (x10, D9))))))))))
set_option maxRecDepth 20000 in
theorem kX5_serve {l : Launch} {E : qs_E} {A : Nat → Prop} {p1 : Int32} {D : qs_D} {X : Int32 × qs_D}  (hX : fX5_serve p1 D = some X) : qs_Ctr l E A shM yX5_serve mX5_serve 3 qs_ri [.ref 0, .int p1] D X := by
  refine qs_enter (plainFor_of_name (by decide)) rfl (Nat.le_of_ble_eq_true rfl) ?_ hX
  show qs_VO l E A shM mX5_serve 3 qs_ri 0 [(0, .ref 0), (1, .int p1)] [] D (fX5_serve p1 D)
  unfold fX5_serve
  refine qs_aload_n dX5_serve_0 rfl rfl rfl ?_
  refine qs_iload_n dX5_serve_1 rfl rfl rfl ?_
  refine qs_cV1i cfX5_68 (Nat.le_of_ble_eq_true rfl) rfl rfl (fun Y hY => kX5_isDish  hY) (Nat.le_of_ble_eq_true rfl) dX5_serve_2 rfl (fun x2 D1 g3 => ?_)
  refine qs_if_ne (tgt := 15) dX5_serve_5 (by decide) rfl (fun g4 => ?_) (fun g4 => ?_)
  · refine qs_aload_n dX5_serve_8 rfl rfl rfl ?_
    refine qs_ldc wcX5_34 dX5_serve_9 rfl ?_
    refine qs_cV1i cfX5_36 (Nat.le_of_ble_eq_true rfl) rfl rfl (fun Y hY => kX5_finds  hY) (Nat.le_of_ble_eq_true rfl) dX5_serve_11 rfl (fun x16 D15 g17 => ?_)
    exact qs_iret rfl dX5_serve_14
  · refine qs_aload_n dX5_serve_15 rfl rfl rfl ?_
    refine qs_iload_n dX5_serve_16 rfl rfl rfl ?_
    refine qs_iconst (4 : Int32) dX5_serve_17 (by decide) rfl ?_
    refine qs_cV2i cfX5_44 (Nat.le_of_ble_eq_true rfl) rfl rfl (fun Y hY => kX5_it  hY) (Nat.le_of_ble_eq_true rfl) dX5_serve_18 rfl (fun x6 D5 g7 => ?_)
    refine qs_iconst (1 : Int32) dX5_serve_21 (by decide) rfl ?_
    refine qs_icmp_ne (tgt := 34) dX5_serve_22 (by decide) rfl (fun g8 => ?_) (fun g8 => ?_)
    · refine qs_aload_n dX5_serve_25 rfl rfl rfl ?_
      refine qs_ldc wcX5_94 dX5_serve_26 rfl ?_
      refine qs_cV1i cfX5_36 (Nat.le_of_ble_eq_true rfl) rfl rfl (fun Y hY => kX5_finds  hY) (Nat.le_of_ble_eq_true rfl) dX5_serve_28 rfl (fun x13 D12 g14 => ?_)
      refine qs_goto (tgt := 39) dX5_serve_31 (by decide) ?_
      exact qs_iret rfl dX5_serve_39
    · refine qs_aload_n dX5_serve_34 rfl rfl rfl ?_
      refine qs_iload_n dX5_serve_35 rfl rfl rfl ?_
      refine qs_cV1i cfX5_95 (Nat.le_of_ble_eq_true rfl) rfl rfl (fun Y hY => kX5_serves  hY) (Nat.le_of_ble_eq_true rfl) dX5_serve_36 rfl (fun x10 D9 g11 => ?_)
      exact qs_iret rfl dX5_serve_39
def fX5_does (p1 : Int32) (D : qs_D) : Option (Int32 × qs_D) := (qs_g (1 : Int32) 70 (qs_g p1 12 (qs_bind (fX5_held ((D 1 (1 : Int32).toNatClampNeg) + ((qs_tab 2).getD p1.toNatClampNeg 0)) (0 : Int32) (99 : Int32) D) (fun x4 D3 => (qs_g (1 : Int32) 70 (qs_let (qs_u D3 1 (1 : Int32).toNatClampNeg x4) (fun D6 => (qs_g (1 : Int32) 70 (some ((D6 1 (1 : Int32).toNatClampNeg), D6))))))))))
set_option maxRecDepth 20000 in
theorem kX5_does {l : Launch} {E : qs_E} {A : Nat → Prop} {p1 : Int32} {D : qs_D} {X : Int32 × qs_D}  (hX : fX5_does p1 D = some X) : qs_Ctr l E A shM yX5_does mX5_does 1 qs_ri [.ref 0, .int p1] D X := by
  refine qs_enter (plainFor_of_name (by decide)) rfl (Nat.le_of_ble_eq_true rfl) ?_ hX
  show qs_VO l E A shM mX5_does 1 qs_ri 0 [(0, .ref 0), (1, .int p1)] [] D (fX5_does p1 D)
  unfold fX5_does
  refine qs_aload_n dX5_does_0 rfl rfl rfl ?_
  refine qs_getR ffX5_9 rfl rfl dX5_does_1 rfl ?_
  refine qs_iconst (1 : Int32) dX5_does_4 (by decide) rfl ?_
  refine qs_aload_n dX5_does_5 rfl rfl rfl ?_
  refine qs_getR ffX5_9 rfl rfl dX5_does_6 rfl ?_
  refine qs_iconst (1 : Int32) dX5_does_9 (by decide) rfl ?_
  refine qs_iald rfl (by decide) dX5_does_10 rfl (fun g1 => ?_)
  refine qs_gets (t := 2) rfl wgX5_98 dX5_does_11 rfl ?_
  refine qs_iload_n dX5_does_14 rfl rfl rfl ?_
  refine qs_ialdT (t := 2) rfl (by decide) dX5_does_15 rfl (fun g2 => ?_)
  refine qs_iadd dX5_does_16 rfl ?_
  refine qs_iconst (0 : Int32) dX5_does_17 (by decide) rfl ?_
  refine qs_bipush (99 : Int32) dX5_does_18 (by decide) rfl ?_
  refine qs_cS3i cfX5_90 (Nat.le_of_ble_eq_true rfl) (fun Y hY => kX5_held  hY) (Nat.le_of_ble_eq_true rfl) dX5_does_20 rfl (fun x4 D3 g5 => ?_)
  refine qs_iast rfl (by decide) dX5_does_23 rfl (fun D6 => ?_)
  refine qs_aload_n dX5_does_24 rfl rfl rfl ?_
  refine qs_getR ffX5_9 rfl rfl dX5_does_25 rfl ?_
  refine qs_iconst (1 : Int32) dX5_does_28 (by decide) rfl ?_
  refine qs_iald rfl (by decide) dX5_does_29 rfl (fun g7 => ?_)
  exact qs_iret rfl dX5_does_30
abbrev mX5_act : qs_M := (RX5, cX5_act, 2, (some FieldType.int))
def fX5_act (p1 : Int32) (D : qs_D) : Option (Int32 × qs_D) := (qs_bind (fX5_isDeed p1 D) (fun x2 D1 => (if x2 = 0 then (qs_bind (fX5_finds (-1000001 : Int32) D1) (fun x6 D5 => (some (x6, D5)))) else (qs_bind (fX5_does p1 D1) (fun x9 D8 => (some (x9, D8)))))))
set_option maxRecDepth 20000 in
theorem kX5_act {l : Launch} {E : qs_E} {A : Nat → Prop} {p1 : Int32} {D : qs_D} {X : Int32 × qs_D}  (hX : fX5_act p1 D = some X) : qs_Ctr l E A shM yX5_act mX5_act 2 qs_ri [.ref 0, .int p1] D X := by
  refine qs_enter (plainFor_of_name (by decide)) rfl (Nat.le_of_ble_eq_true rfl) ?_ hX
  show qs_VO l E A shM mX5_act 2 qs_ri 0 [(0, .ref 0), (1, .int p1)] [] D (fX5_act p1 D)
  unfold fX5_act
  refine qs_iload_n dX5_act_0 rfl rfl rfl ?_
  refine qs_cS1i cfX5_55 (Nat.le_of_ble_eq_true rfl) (fun Y hY => kX5_isDeed  hY) (Nat.le_of_ble_eq_true rfl) dX5_act_1 rfl (fun x2 D1 g3 => ?_)
  refine qs_if_eq (tgt := 15) dX5_act_4 (by decide) rfl (fun g4 => ?_) (fun g4 => ?_)
  · refine qs_aload_n dX5_act_15 rfl rfl rfl ?_
    refine qs_ldc wcX5_34 dX5_act_16 rfl ?_
    refine qs_cV1i cfX5_36 (Nat.le_of_ble_eq_true rfl) rfl rfl (fun Y hY => kX5_finds  hY) (Nat.le_of_ble_eq_true rfl) dX5_act_18 rfl (fun x6 D5 g7 => ?_)
    exact qs_iret rfl dX5_act_21
  · refine qs_aload_n dX5_act_7 rfl rfl rfl ?_
    refine qs_iload_n dX5_act_8 rfl rfl rfl ?_
    refine qs_cV1i cfX5_101 (Nat.le_of_ble_eq_true rfl) rfl rfl (fun Y hY => kX5_does  hY) (Nat.le_of_ble_eq_true rfl) dX5_act_9 rfl (fun x9 D8 g10 => ?_)
    refine qs_goto (tgt := 21) dX5_act_12 (by decide) ?_
    exact qs_iret rfl dX5_act_21
def fX5_cooks (p1 : Int32) (D : qs_D) : Option (Unit × qs_D) := (qs_g (1 : Int32) 70 (qs_bind (fX5_needs p1 D) (fun x3 D2 => (if x3 ≤ (D 1 (1 : Int32).toNatClampNeg) then (qs_bind (fX5_it p1 (1 : Int32) D2) (fun x7 D6 => (qs_bind (fX5_thickens p1 D6) (fun x10 D9 => (qs_bind (fX5_held (x7 + x10) (0 : Int32) (99 : Int32) D9) (fun x13 D12 => (qs_let x13 (fun v15 => (qs_bind (fX5_it p1 (2 : Int32) D12) (fun x17 D16 => (qs_bind (fX5_salts p1 D16) (fun x20 D19 => (qs_bind (fX5_held (x17 + x20) (0 : Int32) (99 : Int32) D19) (fun x23 D22 => (qs_let x23 (fun v25 => (qs_bind (fX5_put p1 (1 : Int32) v15 D22) (fun x27 D26 => (qs_bind (fX5_put p1 (2 : Int32) v25 D26) (fun x30 D29 => (qs_bind (fX5_burns p1 D29) (fun x33 D32 => (if v15 ≤ x33 then (qs_bind (fX5_put p1 (3 : Int32) (0 : Int32) D32) (fun x37 D36 => (some ((), D36)))) else (qs_bind (fX5_put p1 (3 : Int32) (1 : Int32) D32) (fun x40 D39 => (some ((), D39))))))))))))))))))))))))))) else (qs_bind (fX5_put p1 (3 : Int32) (1 : Int32) D2) (fun x43 D42 => (some ((), D42))))))))
set_option maxRecDepth 20000 in
theorem kX5_cooks {l : Launch} {E : qs_E} {A : Nat → Prop} {p1 : Int32} {D : qs_D} {X : Unit × qs_D}  (hX : fX5_cooks p1 D = some X) : qs_Ctr l E A shM yX5_cooks mX5_cooks 2 qs_rv [.ref 0, .int p1] D X := by
  refine qs_enter (plainFor_of_name (by decide)) rfl (Nat.le_of_ble_eq_true rfl) ?_ hX
  show qs_VO l E A shM mX5_cooks 2 qs_rv 0 [(0, .ref 0), (1, .int p1)] [] D (fX5_cooks p1 D)
  unfold fX5_cooks
  refine qs_aload_n dX5_cooks_0 rfl rfl rfl ?_
  refine qs_getR ffX5_9 rfl rfl dX5_cooks_1 rfl ?_
  refine qs_iconst (1 : Int32) dX5_cooks_4 (by decide) rfl ?_
  refine qs_iald rfl (by decide) dX5_cooks_5 rfl (fun g1 => ?_)
  refine qs_aload_n dX5_cooks_6 rfl rfl rfl ?_
  refine qs_iload_n dX5_cooks_7 rfl rfl rfl ?_
  refine qs_cV1i cfX5_71 (Nat.le_of_ble_eq_true rfl) rfl rfl (fun Y hY => kX5_needs  hY) (Nat.le_of_ble_eq_true rfl) dX5_cooks_8 rfl (fun x3 D2 g4 => ?_)
  refine qs_icmp_ge (tgt := 22) dX5_cooks_11 (by decide) rfl (fun g5 => ?_) (fun g5 => ?_)
  · refine qs_aload_n dX5_cooks_22 rfl rfl rfl ?_
    refine qs_iload_n dX5_cooks_23 rfl rfl rfl ?_
    refine qs_iconst (1 : Int32) dX5_cooks_24 (by decide) rfl ?_
    refine qs_cV2i cfX5_44 (Nat.le_of_ble_eq_true rfl) rfl rfl (fun Y hY => kX5_it  hY) (Nat.le_of_ble_eq_true rfl) dX5_cooks_25 rfl (fun x7 D6 g8 => ?_)
    refine qs_aload_n dX5_cooks_28 rfl rfl rfl ?_
    refine qs_iload_n dX5_cooks_29 rfl rfl rfl ?_
    refine qs_cV1i cfX5_74 (Nat.le_of_ble_eq_true rfl) rfl rfl (fun Y hY => kX5_thickens  hY) (Nat.le_of_ble_eq_true rfl) dX5_cooks_30 rfl (fun x10 D9 g11 => ?_)
    refine qs_iadd dX5_cooks_33 rfl ?_
    refine qs_iconst (0 : Int32) dX5_cooks_34 (by decide) rfl ?_
    refine qs_bipush (99 : Int32) dX5_cooks_35 (by decide) rfl ?_
    refine qs_cS3i cfX5_90 (Nat.le_of_ble_eq_true rfl) (fun Y hY => kX5_held  hY) (Nat.le_of_ble_eq_true rfl) dX5_cooks_37 rfl (fun x13 D12 g14 => ?_)
    refine qs_istore_n (fun v15 => [(2, .int v15), (0, .ref 0), (1, .int p1)]) dX5_cooks_40 rfl (by decide) (fun _ => rfl) rfl (fun v15 => ?_)
    refine qs_aload_n dX5_cooks_41 rfl rfl rfl ?_
    refine qs_iload_n dX5_cooks_42 rfl rfl rfl ?_
    refine qs_iconst (2 : Int32) dX5_cooks_43 (by decide) rfl ?_
    refine qs_cV2i cfX5_44 (Nat.le_of_ble_eq_true rfl) rfl rfl (fun Y hY => kX5_it  hY) (Nat.le_of_ble_eq_true rfl) dX5_cooks_44 rfl (fun x17 D16 g18 => ?_)
    refine qs_aload_n dX5_cooks_47 rfl rfl rfl ?_
    refine qs_iload_n dX5_cooks_48 rfl rfl rfl ?_
    refine qs_cV1i cfX5_77 (Nat.le_of_ble_eq_true rfl) rfl rfl (fun Y hY => kX5_salts  hY) (Nat.le_of_ble_eq_true rfl) dX5_cooks_49 rfl (fun x20 D19 g21 => ?_)
    refine qs_iadd dX5_cooks_52 rfl ?_
    refine qs_iconst (0 : Int32) dX5_cooks_53 (by decide) rfl ?_
    refine qs_bipush (99 : Int32) dX5_cooks_54 (by decide) rfl ?_
    refine qs_cS3i cfX5_90 (Nat.le_of_ble_eq_true rfl) (fun Y hY => kX5_held  hY) (Nat.le_of_ble_eq_true rfl) dX5_cooks_56 rfl (fun x23 D22 g24 => ?_)
    refine qs_istore_n (fun v25 => [(3, .int v25), (2, .int v15), (0, .ref 0), (1, .int p1)]) dX5_cooks_59 rfl (by decide) (fun _ => rfl) rfl (fun v25 => ?_)
    refine qs_aload_n dX5_cooks_60 rfl rfl rfl ?_
    refine qs_iload_n dX5_cooks_61 rfl rfl rfl ?_
    refine qs_iconst (1 : Int32) dX5_cooks_62 (by decide) rfl ?_
    refine qs_iload_n dX5_cooks_63 rfl rfl rfl ?_
    refine qs_cV3v cfX5_59 (Nat.le_of_ble_eq_true rfl) rfl rfl (fun Y hY => kX5_put  hY) (Nat.le_of_ble_eq_true rfl) dX5_cooks_64 rfl (fun x27 D26 g28 => ?_)
    refine qs_aload_n dX5_cooks_67 rfl rfl rfl ?_
    refine qs_iload_n dX5_cooks_68 rfl rfl rfl ?_
    refine qs_iconst (2 : Int32) dX5_cooks_69 (by decide) rfl ?_
    refine qs_iload_n dX5_cooks_70 rfl rfl rfl ?_
    refine qs_cV3v cfX5_59 (Nat.le_of_ble_eq_true rfl) rfl rfl (fun Y hY => kX5_put  hY) (Nat.le_of_ble_eq_true rfl) dX5_cooks_71 rfl (fun x30 D29 g31 => ?_)
    refine qs_aload_n dX5_cooks_74 rfl rfl rfl ?_
    refine qs_iload_n dX5_cooks_75 rfl rfl rfl ?_
    refine qs_iconst (3 : Int32) dX5_cooks_76 (by decide) rfl ?_
    refine qs_iload_n dX5_cooks_77 rfl rfl rfl ?_
    refine qs_aload_n dX5_cooks_78 rfl rfl rfl ?_
    refine qs_iload_n dX5_cooks_79 rfl rfl rfl ?_
    refine qs_cV1i cfX5_80 (Nat.le_of_ble_eq_true rfl) rfl rfl (fun Y hY => kX5_burns  hY) (Nat.le_of_ble_eq_true rfl) dX5_cooks_80 rfl (fun x33 D32 g34 => ?_)
    refine qs_icmp_le (tgt := 90) dX5_cooks_83 (by decide) rfl (fun g35 => ?_) (fun g35 => ?_)
    · refine qs_iconst (0 : Int32) dX5_cooks_90 (by decide) rfl ?_
      refine qs_cV3v cfX5_59 (Nat.le_of_ble_eq_true rfl) rfl rfl (fun Y hY => kX5_put  hY) (Nat.le_of_ble_eq_true rfl) dX5_cooks_91 rfl (fun x37 D36 g38 => ?_)
      exact qs_vret rfl dX5_cooks_94
    · refine qs_iconst (1 : Int32) dX5_cooks_86 (by decide) rfl ?_
      refine qs_goto (tgt := 91) dX5_cooks_87 (by decide) ?_
      refine qs_cV3v cfX5_59 (Nat.le_of_ble_eq_true rfl) rfl rfl (fun Y hY => kX5_put  hY) (Nat.le_of_ble_eq_true rfl) dX5_cooks_91 rfl (fun x40 D39 g41 => ?_)
      exact qs_vret rfl dX5_cooks_94
  · refine qs_aload_n dX5_cooks_14 rfl rfl rfl ?_
    refine qs_iload_n dX5_cooks_15 rfl rfl rfl ?_
    refine qs_iconst (3 : Int32) dX5_cooks_16 (by decide) rfl ?_
    refine qs_iconst (1 : Int32) dX5_cooks_17 (by decide) rfl ?_
    refine qs_cV3v cfX5_59 (Nat.le_of_ble_eq_true rfl) rfl rfl (fun Y hY => kX5_put  hY) (Nat.le_of_ble_eq_true rfl) dX5_cooks_18 rfl (fun x43 D42 g44 => ?_)
    exact qs_vret rfl dX5_cooks_21
def fX5_goes_L11 : Nat → Int32 → Int32 → qs_D → Option (Unit × qs_D)
  | 0, _, _, _ => none
  | n + 1, w1, w2, D => (qs_g (5 : Int32) 70 (if (D 1 (5 : Int32).toNatClampNeg) ≤ w2 then (qs_g (0 : Int32) 70 (qs_bind (fX5_held ((D 1 (0 : Int32).toNatClampNeg) + (1 : Int32)) (0 : Int32) (99999 : Int32) D) (fun x13 D12 => (qs_g (0 : Int32) 70 (qs_let (qs_u D12 1 (0 : Int32).toNatClampNeg x13) (fun D15 => (some ((), D15)))))))) else (qs_bind (fX5_isOn w2 D) (fun x17 D16 => (if x17 = 0 then (qs_let (w2 + (1 : Int32)) (fun v20 => (fX5_goes_L11 n w1 v20 D16))) else (qs_bind (fX5_cooks w2 D16) (fun x22 D21 => (qs_let (w2 + (1 : Int32)) (fun v24 => (fX5_goes_L11 n w1 v24 D21))))))))))
set_option maxRecDepth 20000 in
theorem lX5_goes_L11 {l : Launch} {E : qs_E} {A : Nat → Prop}  : ∀ (n : Nat) (w1 : Int32) (w2 : Int32) (D : qs_D), qs_VO l E A shM mX5_goes 3 qs_rv 11 [(0, .ref 0), (1, .int w1), (2, .int w2)] [] D (fX5_goes_L11 n w1 w2 D) := by
  intro n
  induction n with
  | zero => intro w1 w2 D; exact qs_none
  | succ n ih =>
    intro w1 w2 D
    unfold fX5_goes_L11
    refine qs_iload_n dX5_goes_11 rfl rfl rfl ?_
    refine qs_aload_n dX5_goes_12 rfl rfl rfl ?_
    refine qs_getR ffX5_9 rfl rfl dX5_goes_13 rfl ?_
    refine qs_iconst (5 : Int32) dX5_goes_16 (by decide) rfl ?_
    refine qs_iald rfl (by decide) dX5_goes_17 rfl (fun g9 => ?_)
    refine qs_icmp_ge (tgt := 40) dX5_goes_18 (by decide) rfl (fun g10 => ?_) (fun g10 => ?_)
    · refine qs_aload_n dX5_goes_40 rfl rfl rfl ?_
      refine qs_getR ffX5_9 rfl rfl dX5_goes_41 rfl ?_
      refine qs_iconst (0 : Int32) dX5_goes_44 (by decide) rfl ?_
      refine qs_aload_n dX5_goes_45 rfl rfl rfl ?_
      refine qs_getR ffX5_9 rfl rfl dX5_goes_46 rfl ?_
      refine qs_iconst (0 : Int32) dX5_goes_49 (by decide) rfl ?_
      refine qs_iald rfl (by decide) dX5_goes_50 rfl (fun g11 => ?_)
      refine qs_iconst (1 : Int32) dX5_goes_51 (by decide) rfl ?_
      refine qs_iadd dX5_goes_52 rfl ?_
      refine qs_iconst (0 : Int32) dX5_goes_53 (by decide) rfl ?_
      refine qs_ldc wcX5_89 dX5_goes_54 rfl ?_
      refine qs_cS3i cfX5_90 (Nat.le_of_ble_eq_true rfl) (fun Y hY => kX5_held  hY) (Nat.le_of_ble_eq_true rfl) dX5_goes_56 rfl (fun x13 D12 g14 => ?_)
      refine qs_iast rfl (by decide) dX5_goes_59 rfl (fun D15 => ?_)
      exact qs_vret rfl dX5_goes_60
    · refine qs_aload_n dX5_goes_21 rfl rfl rfl ?_
      refine qs_iload_n dX5_goes_22 rfl rfl rfl ?_
      refine qs_cV1i cfX5_104 (Nat.le_of_ble_eq_true rfl) rfl rfl (fun Y hY => kX5_isOn  hY) (Nat.le_of_ble_eq_true rfl) dX5_goes_23 rfl (fun x17 D16 g18 => ?_)
      refine qs_if_eq (tgt := 34) dX5_goes_26 (by decide) rfl (fun g19 => ?_) (fun g19 => ?_)
      · refine qs_iinc (fun v20 => [(2, .int v20), (0, .ref 0), (1, .int w1)]) (1 : Int32) dX5_goes_34 rfl (by decide) (by decide) (fun _ => rfl) rfl (fun v20 => ?_)
        refine qs_goto (tgt := 11) dX5_goes_37 (by decide) ?_
        exact qs_sub [1, 2, 0] rfl (ih w1 v20 D16)
      · refine qs_aload_n dX5_goes_29 rfl rfl rfl ?_
        refine qs_iload_n dX5_goes_30 rfl rfl rfl ?_
        refine qs_cV1v cfX5_107 (Nat.le_of_ble_eq_true rfl) rfl rfl (fun Y hY => kX5_cooks  hY) (Nat.le_of_ble_eq_true rfl) dX5_goes_31 rfl (fun x22 D21 g23 => ?_)
        refine qs_iinc (fun v24 => [(2, .int v24), (0, .ref 0), (1, .int w1)]) (1 : Int32) dX5_goes_34 rfl (by decide) (by decide) (fun _ => rfl) rfl (fun v24 => ?_)
        refine qs_goto (tgt := 11) dX5_goes_37 (by decide) ?_
        exact qs_sub [1, 2, 0] rfl (ih w1 v24 D21)
def fX5_goes (D : qs_D) : Option (Unit × qs_D) := (qs_bind (fX5_deedNow D) (fun x2 D1 => (qs_bind (fX5_does x2 D1) (fun x5 D4 => (qs_let x5 (fun v7 => (qs_let (0 : Int32) (fun v8 => (fX5_goes_L11 qs_F v7 v8 D4)))))))))
set_option maxRecDepth 20000 in
theorem kX5_goes {l : Launch} {E : qs_E} {A : Nat → Prop} {D : qs_D} {X : Unit × qs_D}  (hX : fX5_goes  D = some X) : qs_Ctr l E A shM yX5_goes mX5_goes 3 qs_rv [.ref 0] D X := by
  refine qs_enter (plainFor_of_name (by decide)) rfl (Nat.le_of_ble_eq_true rfl) ?_ hX
  show qs_VO l E A shM mX5_goes 3 qs_rv 0 [(0, .ref 0)] [] D (fX5_goes  D)
  unfold fX5_goes
  refine qs_aload_n dX5_goes_0 rfl rfl rfl ?_
  refine qs_aload_n dX5_goes_1 rfl rfl rfl ?_
  refine qs_cV0i cfX5_48 (Nat.le_of_ble_eq_true rfl) rfl rfl (fun Y hY => kX5_deedNow  hY) (Nat.le_of_ble_eq_true rfl) dX5_goes_2 rfl (fun x2 D1 g3 => ?_)
  refine qs_cV1i cfX5_101 (Nat.le_of_ble_eq_true rfl) rfl rfl (fun Y hY => kX5_does  hY) (Nat.le_of_ble_eq_true rfl) dX5_goes_5 rfl (fun x5 D4 g6 => ?_)
  refine qs_istore_n (fun v7 => [(1, .int v7), (0, .ref 0)]) dX5_goes_8 rfl (by decide) (fun _ => rfl) rfl (fun v7 => ?_)
  refine qs_iconst (0 : Int32) dX5_goes_9 (by decide) rfl ?_
  refine qs_istore_n (fun v8 => [(2, .int v8), (1, .int v7), (0, .ref 0)]) dX5_goes_10 rfl (by decide) (fun _ => rfl) rfl (fun v8 => ?_)
  exact qs_sub [2, 1, 0] rfl (lX5_goes_L11 qs_F v7 v8 D4)
def fX5_goesFor_L2 : Nat → Int32 → Int32 → qs_D → Option (Unit × qs_D)
  | 0, _, _, _ => none
  | n + 1, w1, w2, D => (if w1 ≤ w2 then (some ((), D)) else (qs_bind (fX5_goes D) (fun x4 D3 => (qs_let (w2 + (1 : Int32)) (fun v6 => (fX5_goesFor_L2 n w1 v6 D3))))))
set_option maxRecDepth 20000 in
theorem lX5_goesFor_L2 {l : Launch} {E : qs_E} {A : Nat → Prop}  : ∀ (n : Nat) (w1 : Int32) (w2 : Int32) (D : qs_D), qs_VO l E A shM mX5_goesFor 4 qs_rv 2 [(0, .ref 0), (1, .int w1), (2, .int w2)] [] D (fX5_goesFor_L2 n w1 w2 D) := by
  intro n
  induction n with
  | zero => intro w1 w2 D; exact qs_none
  | succ n ih =>
    intro w1 w2 D
    unfold fX5_goesFor_L2
    refine qs_iload_n dX5_goesFor_2 rfl rfl rfl ?_
    refine qs_iload_n dX5_goesFor_3 rfl rfl rfl ?_
    refine qs_icmp_ge (tgt := 17) dX5_goesFor_4 (by decide) rfl (fun g2 => ?_) (fun g2 => ?_)
    · exact qs_vret rfl dX5_goesFor_17
    · refine qs_aload_n dX5_goesFor_7 rfl rfl rfl ?_
      refine qs_cV0v cfX5_111 (Nat.le_of_ble_eq_true rfl) rfl rfl (fun Y hY => kX5_goes  hY) (Nat.le_of_ble_eq_true rfl) dX5_goesFor_8 rfl (fun x4 D3 g5 => ?_)
      refine qs_iinc (fun v6 => [(2, .int v6), (0, .ref 0), (1, .int w1)]) (1 : Int32) dX5_goesFor_11 rfl (by decide) (by decide) (fun _ => rfl) rfl (fun v6 => ?_)
      refine qs_goto (tgt := 2) dX5_goesFor_14 (by decide) ?_
      exact qs_sub [1, 2, 0] rfl (ih w1 v6 D3)
def fX5_goesFor (p1 : Int32) (D : qs_D) : Option (Unit × qs_D) := (qs_let (0 : Int32) (fun v1 => (fX5_goesFor_L2 qs_F p1 v1 D)))
set_option maxRecDepth 20000 in
theorem kX5_goesFor {l : Launch} {E : qs_E} {A : Nat → Prop} {p1 : Int32} {D : qs_D} {X : Unit × qs_D}  (hX : fX5_goesFor p1 D = some X) : qs_Ctr l E A shM yX5_goesFor mX5_goesFor 4 qs_rv [.ref 0, .int p1] D X := by
  refine qs_enter (plainFor_of_name (by decide)) rfl (Nat.le_of_ble_eq_true rfl) ?_ hX
  show qs_VO l E A shM mX5_goesFor 4 qs_rv 0 [(0, .ref 0), (1, .int p1)] [] D (fX5_goesFor p1 D)
  unfold fX5_goesFor
  refine qs_iconst (0 : Int32) dX5_goesFor_0 (by decide) rfl ?_
  refine qs_istore_n (fun v1 => [(2, .int v1), (0, .ref 0), (1, .int p1)]) dX5_goesFor_1 rfl (by decide) (fun _ => rfl) rfl (fun v1 => ?_)
  exact qs_sub [1, 2, 0] rfl (lX5_goesFor_L2 qs_F p1 v1 D)
abbrev mX5_go : qs_M := (RX5, cX5_go, 2, (some FieldType.int))
def fX5_go (p1 : Int32) (D : qs_D) : Option (Int32 × qs_D) := (qs_bind (fX5_in p1 (1 : Int32) (60 : Int32) D) (fun x2 D1 => (if x2 = 0 then (qs_bind (fX5_finds (-1000001 : Int32) D1) (fun x15 D14 => (some (x15, D14)))) else (qs_g (0 : Int32) 70 (if ((D1 1 (0 : Int32).toNatClampNeg) + p1) ≤ (99999 : Int32) then (qs_bind (fX5_goesFor p1 D1) (fun x8 D7 => (qs_g (1 : Int32) 70 (some ((D7 1 (1 : Int32).toNatClampNeg), D7))))) else (qs_bind (fX5_finds (-1000005 : Int32) D1) (fun x12 D11 => (some (x12, D11)))))))))
set_option maxRecDepth 20000 in
theorem kX5_go {l : Launch} {E : qs_E} {A : Nat → Prop} {p1 : Int32} {D : qs_D} {X : Int32 × qs_D}  (hX : fX5_go p1 D = some X) : qs_Ctr l E A shM yX5_go mX5_go 5 qs_ri [.ref 0, .int p1] D X := by
  refine qs_enter (plainFor_of_name (by decide)) rfl (Nat.le_of_ble_eq_true rfl) ?_ hX
  show qs_VO l E A shM mX5_go 5 qs_ri 0 [(0, .ref 0), (1, .int p1)] [] D (fX5_go p1 D)
  unfold fX5_go
  refine qs_iload_n dX5_go_0 rfl rfl rfl ?_
  refine qs_iconst (1 : Int32) dX5_go_1 (by decide) rfl ?_
  refine qs_bipush (60 : Int32) dX5_go_2 (by decide) rfl ?_
  refine qs_cS3i cfX5_40 (Nat.le_of_ble_eq_true rfl) (fun Y hY => kX5_in  hY) (Nat.le_of_ble_eq_true rfl) dX5_go_4 rfl (fun x2 D1 g3 => ?_)
  refine qs_if_ne (tgt := 17) dX5_go_7 (by decide) rfl (fun g4 => ?_) (fun g4 => ?_)
  · refine qs_aload_n dX5_go_10 rfl rfl rfl ?_
    refine qs_ldc wcX5_34 dX5_go_11 rfl ?_
    refine qs_cV1i cfX5_36 (Nat.le_of_ble_eq_true rfl) rfl rfl (fun Y hY => kX5_finds  hY) (Nat.le_of_ble_eq_true rfl) dX5_go_13 rfl (fun x15 D14 g16 => ?_)
    exact qs_iret rfl dX5_go_16
  · refine qs_aload_n dX5_go_17 rfl rfl rfl ?_
    refine qs_getR ffX5_9 rfl rfl dX5_go_18 rfl ?_
    refine qs_iconst (0 : Int32) dX5_go_21 (by decide) rfl ?_
    refine qs_iald rfl (by decide) dX5_go_22 rfl (fun g5 => ?_)
    refine qs_iload_n dX5_go_23 rfl rfl rfl ?_
    refine qs_iadd dX5_go_24 rfl ?_
    refine qs_ldc wcX5_89 dX5_go_25 rfl ?_
    refine qs_icmp_le (tgt := 37) dX5_go_27 (by decide) rfl (fun g6 => ?_) (fun g6 => ?_)
    · refine qs_aload_n dX5_go_37 rfl rfl rfl ?_
      refine qs_iload_n dX5_go_38 rfl rfl rfl ?_
      refine qs_cV1v cfX5_114 (Nat.le_of_ble_eq_true rfl) rfl rfl (fun Y hY => kX5_goesFor  hY) (Nat.le_of_ble_eq_true rfl) dX5_go_39 rfl (fun x8 D7 g9 => ?_)
      refine qs_aload_n dX5_go_42 rfl rfl rfl ?_
      refine qs_getR ffX5_9 rfl rfl dX5_go_43 rfl ?_
      refine qs_iconst (1 : Int32) dX5_go_46 (by decide) rfl ?_
      refine qs_iald rfl (by decide) dX5_go_47 rfl (fun g10 => ?_)
      exact qs_iret rfl dX5_go_48
    · refine qs_aload_n dX5_go_30 rfl rfl rfl ?_
      refine qs_ldc wcX5_94 dX5_go_31 rfl ?_
      refine qs_cV1i cfX5_36 (Nat.le_of_ble_eq_true rfl) rfl rfl (fun Y hY => kX5_finds  hY) (Nat.le_of_ble_eq_true rfl) dX5_go_33 rfl (fun x12 D11 g13 => ?_)
      exact qs_iret rfl dX5_go_36
def fX5_wouldSplit_L4 : Nat → Int32 → Int32 → qs_D → Option (Int32 × qs_D)
  | 0, _, _, _ => none
  | n + 1, w1, w2, D => (qs_g (5 : Int32) 70 (if (D 1 (5 : Int32).toNatClampNeg) ≤ w2 then (some (w1, D)) else (qs_bind (fX5_isOn w2 D) (fun x6 D5 => (if x6 = 0 then (qs_let (w1 ||| (0 : Int32)) (fun v9 => (qs_let (w2 + (1 : Int32)) (fun v10 => (fX5_wouldSplit_L4 n v9 v10 D5))))) else (qs_g (1 : Int32) 70 (qs_bind (fX5_needs w2 D5) (fun x13 D12 => (if x13 ≤ (D5 1 (1 : Int32).toNatClampNeg) then (qs_let (w1 ||| (0 : Int32)) (fun v16 => (qs_let (w2 + (1 : Int32)) (fun v17 => (fX5_wouldSplit_L4 n v16 v17 D12))))) else (qs_let (w1 ||| ((1 : Int32) <<< (w2 &&& 31))) (fun v18 => (qs_let (w2 + (1 : Int32)) (fun v19 => (fX5_wouldSplit_L4 n v18 v19 D12))))))))))))))
set_option maxRecDepth 20000 in
theorem lX5_wouldSplit_L4 {l : Launch} {E : qs_E} {A : Nat → Prop}  : ∀ (n : Nat) (w1 : Int32) (w2 : Int32) (D : qs_D), qs_VO l E A shM mX5_wouldSplit 2 qs_ri 4 [(0, .ref 0), (1, .int w1), (2, .int w2)] [] D (fX5_wouldSplit_L4 n w1 w2 D) := by
  intro n
  induction n with
  | zero => intro w1 w2 D; exact qs_none
  | succ n ih =>
    intro w1 w2 D
    unfold fX5_wouldSplit_L4
    refine qs_iload_n dX5_wouldSplit_4 rfl rfl rfl ?_
    refine qs_aload_n dX5_wouldSplit_5 rfl rfl rfl ?_
    refine qs_getR ffX5_9 rfl rfl dX5_wouldSplit_6 rfl ?_
    refine qs_iconst (5 : Int32) dX5_wouldSplit_9 (by decide) rfl ?_
    refine qs_iald rfl (by decide) dX5_wouldSplit_10 rfl (fun g3 => ?_)
    refine qs_icmp_ge (tgt := 52) dX5_wouldSplit_11 (by decide) rfl (fun g4 => ?_) (fun g4 => ?_)
    · refine qs_iload_n dX5_wouldSplit_52 rfl rfl rfl ?_
      exact qs_iret rfl dX5_wouldSplit_53
    · refine qs_iload_n dX5_wouldSplit_14 rfl rfl rfl ?_
      refine qs_aload_n dX5_wouldSplit_15 rfl rfl rfl ?_
      refine qs_iload_n dX5_wouldSplit_16 rfl rfl rfl ?_
      refine qs_cV1i cfX5_104 (Nat.le_of_ble_eq_true rfl) rfl rfl (fun Y hY => kX5_isOn  hY) (Nat.le_of_ble_eq_true rfl) dX5_wouldSplit_17 rfl (fun x6 D5 g7 => ?_)
      refine qs_if_eq (tgt := 43) dX5_wouldSplit_20 (by decide) rfl (fun g8 => ?_) (fun g8 => ?_)
      · refine qs_iconst (0 : Int32) dX5_wouldSplit_43 (by decide) rfl ?_
        refine qs_ior dX5_wouldSplit_44 rfl ?_
        refine qs_istore_n (fun v9 => [(1, .int v9), (0, .ref 0), (2, .int w2)]) dX5_wouldSplit_45 rfl (by decide) (fun _ => rfl) rfl (fun v9 => ?_)
        refine qs_iinc (fun v10 => [(2, .int v10), (1, .int v9), (0, .ref 0)]) (1 : Int32) dX5_wouldSplit_46 rfl (by decide) (by decide) (fun _ => rfl) rfl (fun v10 => ?_)
        refine qs_goto (tgt := 4) dX5_wouldSplit_49 (by decide) ?_
        exact qs_sub [2, 1, 0] rfl (ih v9 v10 D5)
      · refine qs_aload_n dX5_wouldSplit_23 rfl rfl rfl ?_
        refine qs_getR ffX5_9 rfl rfl dX5_wouldSplit_24 rfl ?_
        refine qs_iconst (1 : Int32) dX5_wouldSplit_27 (by decide) rfl ?_
        refine qs_iald rfl (by decide) dX5_wouldSplit_28 rfl (fun g11 => ?_)
        refine qs_aload_n dX5_wouldSplit_29 rfl rfl rfl ?_
        refine qs_iload_n dX5_wouldSplit_30 rfl rfl rfl ?_
        refine qs_cV1i cfX5_71 (Nat.le_of_ble_eq_true rfl) rfl rfl (fun Y hY => kX5_needs  hY) (Nat.le_of_ble_eq_true rfl) dX5_wouldSplit_31 rfl (fun x13 D12 g14 => ?_)
        refine qs_icmp_ge (tgt := 43) dX5_wouldSplit_34 (by decide) rfl (fun g15 => ?_) (fun g15 => ?_)
        · refine qs_iconst (0 : Int32) dX5_wouldSplit_43 (by decide) rfl ?_
          refine qs_ior dX5_wouldSplit_44 rfl ?_
          refine qs_istore_n (fun v16 => [(1, .int v16), (0, .ref 0), (2, .int w2)]) dX5_wouldSplit_45 rfl (by decide) (fun _ => rfl) rfl (fun v16 => ?_)
          refine qs_iinc (fun v17 => [(2, .int v17), (1, .int v16), (0, .ref 0)]) (1 : Int32) dX5_wouldSplit_46 rfl (by decide) (by decide) (fun _ => rfl) rfl (fun v17 => ?_)
          refine qs_goto (tgt := 4) dX5_wouldSplit_49 (by decide) ?_
          exact qs_sub [2, 1, 0] rfl (ih v16 v17 D12)
        · refine qs_iconst (1 : Int32) dX5_wouldSplit_37 (by decide) rfl ?_
          refine qs_iload_n dX5_wouldSplit_38 rfl rfl rfl ?_
          refine qs_ishl dX5_wouldSplit_39 rfl ?_
          refine qs_goto (tgt := 44) dX5_wouldSplit_40 (by decide) ?_
          refine qs_ior dX5_wouldSplit_44 rfl ?_
          refine qs_istore_n (fun v18 => [(1, .int v18), (0, .ref 0), (2, .int w2)]) dX5_wouldSplit_45 rfl (by decide) (fun _ => rfl) rfl (fun v18 => ?_)
          refine qs_iinc (fun v19 => [(2, .int v19), (1, .int v18), (0, .ref 0)]) (1 : Int32) dX5_wouldSplit_46 rfl (by decide) (by decide) (fun _ => rfl) rfl (fun v19 => ?_)
          refine qs_goto (tgt := 4) dX5_wouldSplit_49 (by decide) ?_
          exact qs_sub [2, 1, 0] rfl (ih v18 v19 D12)
def fX5_wouldSplit (D : qs_D) : Option (Int32 × qs_D) := (qs_let (0 : Int32) (fun v1 => (qs_let (0 : Int32) (fun v2 => (fX5_wouldSplit_L4 qs_F v1 v2 D)))))
set_option maxRecDepth 20000 in
theorem kX5_wouldSplit {l : Launch} {E : qs_E} {A : Nat → Prop} {D : qs_D} {X : Int32 × qs_D}  (hX : fX5_wouldSplit  D = some X) : qs_Ctr l E A shM yX5_wouldSplit mX5_wouldSplit 2 qs_ri [.ref 0] D X := by
  refine qs_enter (plainFor_of_name (by decide)) rfl (Nat.le_of_ble_eq_true rfl) ?_ hX
  show qs_VO l E A shM mX5_wouldSplit 2 qs_ri 0 [(0, .ref 0)] [] D (fX5_wouldSplit  D)
  unfold fX5_wouldSplit
  refine qs_iconst (0 : Int32) dX5_wouldSplit_0 (by decide) rfl ?_
  refine qs_istore_n (fun v1 => [(1, .int v1), (0, .ref 0)]) dX5_wouldSplit_1 rfl (by decide) (fun _ => rfl) rfl (fun v1 => ?_)
  refine qs_iconst (0 : Int32) dX5_wouldSplit_2 (by decide) rfl ?_
  refine qs_istore_n (fun v2 => [(2, .int v2), (1, .int v1), (0, .ref 0)]) dX5_wouldSplit_3 rfl (by decide) (fun _ => rfl) rfl (fun v2 => ?_)
  exact qs_sub [2, 1, 0] rfl (lX5_wouldSplit_L4 qs_F v1 v2 D)
def fX5_allGive_L4 : Nat → Int32 → Int32 → qs_D → Option (Int32 × qs_D)
  | 0, _, _, _ => none
  | n + 1, w1, w2, D => (qs_g (5 : Int32) 70 (if (D 1 (5 : Int32).toNatClampNeg) ≤ w2 then (some (w1, D)) else (qs_bind (fX5_gives w2 D) (fun x6 D5 => (qs_let (w1 + x6) (fun v8 => (qs_let (w2 + (1 : Int32)) (fun v9 => (fX5_allGive_L4 n v8 v9 D5)))))))))
set_option maxRecDepth 20000 in
theorem lX5_allGive_L4 {l : Launch} {E : qs_E} {A : Nat → Prop}  : ∀ (n : Nat) (w1 : Int32) (w2 : Int32) (D : qs_D), qs_VO l E A shM mX5_allGive 2 qs_ri 4 [(0, .ref 0), (1, .int w1), (2, .int w2)] [] D (fX5_allGive_L4 n w1 w2 D) := by
  intro n
  induction n with
  | zero => intro w1 w2 D; exact qs_none
  | succ n ih =>
    intro w1 w2 D
    unfold fX5_allGive_L4
    refine qs_iload_n dX5_allGive_4 rfl rfl rfl ?_
    refine qs_aload_n dX5_allGive_5 rfl rfl rfl ?_
    refine qs_getR ffX5_9 rfl rfl dX5_allGive_6 rfl ?_
    refine qs_iconst (5 : Int32) dX5_allGive_9 (by decide) rfl ?_
    refine qs_iald rfl (by decide) dX5_allGive_10 rfl (fun g3 => ?_)
    refine qs_icmp_ge (tgt := 28) dX5_allGive_11 (by decide) rfl (fun g4 => ?_) (fun g4 => ?_)
    · refine qs_iload_n dX5_allGive_28 rfl rfl rfl ?_
      exact qs_iret rfl dX5_allGive_29
    · refine qs_iload_n dX5_allGive_14 rfl rfl rfl ?_
      refine qs_aload_n dX5_allGive_15 rfl rfl rfl ?_
      refine qs_iload_n dX5_allGive_16 rfl rfl rfl ?_
      refine qs_cV1i cfX5_83 (Nat.le_of_ble_eq_true rfl) rfl rfl (fun Y hY => kX5_gives  hY) (Nat.le_of_ble_eq_true rfl) dX5_allGive_17 rfl (fun x6 D5 g7 => ?_)
      refine qs_iadd dX5_allGive_20 rfl ?_
      refine qs_istore_n (fun v8 => [(1, .int v8), (0, .ref 0), (2, .int w2)]) dX5_allGive_21 rfl (by decide) (fun _ => rfl) rfl (fun v8 => ?_)
      refine qs_iinc (fun v9 => [(2, .int v9), (1, .int v8), (0, .ref 0)]) (1 : Int32) dX5_allGive_22 rfl (by decide) (by decide) (fun _ => rfl) rfl (fun v9 => ?_)
      refine qs_goto (tgt := 4) dX5_allGive_25 (by decide) ?_
      exact qs_sub [2, 1, 0] rfl (ih v8 v9 D5)
def fX5_allGive (D : qs_D) : Option (Int32 × qs_D) := (qs_let (0 : Int32) (fun v1 => (qs_let (0 : Int32) (fun v2 => (fX5_allGive_L4 qs_F v1 v2 D)))))
set_option maxRecDepth 20000 in
theorem kX5_allGive {l : Launch} {E : qs_E} {A : Nat → Prop} {D : qs_D} {X : Int32 × qs_D}  (hX : fX5_allGive  D = some X) : qs_Ctr l E A shM yX5_allGive mX5_allGive 2 qs_ri [.ref 0] D X := by
  refine qs_enter (plainFor_of_name (by decide)) rfl (Nat.le_of_ble_eq_true rfl) ?_ hX
  show qs_VO l E A shM mX5_allGive 2 qs_ri 0 [(0, .ref 0)] [] D (fX5_allGive  D)
  unfold fX5_allGive
  refine qs_iconst (0 : Int32) dX5_allGive_0 (by decide) rfl ?_
  refine qs_istore_n (fun v1 => [(1, .int v1), (0, .ref 0)]) dX5_allGive_1 rfl (by decide) (fun _ => rfl) rfl (fun v1 => ?_)
  refine qs_iconst (0 : Int32) dX5_allGive_2 (by decide) rfl ?_
  refine qs_istore_n (fun v2 => [(2, .int v2), (1, .int v1), (0, .ref 0)]) dX5_allGive_3 rfl (by decide) (fun _ => rfl) rfl (fun v2 => ?_)
  exact qs_sub [2, 1, 0] rfl (lX5_allGive_L4 qs_F v1 v2 D)
def fX5_finest_L4 : Nat → Int32 → Int32 → qs_D → Option (Int32 × qs_D)
  | 0, _, _, _ => none
  | n + 1, w1, w2, D => (qs_g (5 : Int32) 70 (if (D 1 (5 : Int32).toNatClampNeg) ≤ w2 then (some (w1, D)) else (if w1 < 0 then (qs_let w2 (fun v6 => (qs_let (w2 + (1 : Int32)) (fun v7 => (fX5_finest_L4 n v6 v7 D))))) else (qs_bind (fX5_gives w2 D) (fun x9 D8 => (qs_bind (fX5_gives w1 D8) (fun x12 D11 => (if x9 ≤ x12 then (qs_let w1 (fun v15 => (qs_let (w2 + (1 : Int32)) (fun v16 => (fX5_finest_L4 n v15 v16 D11))))) else (qs_let w2 (fun v17 => (qs_let (w2 + (1 : Int32)) (fun v18 => (fX5_finest_L4 n v17 v18 D11)))))))))))))
set_option maxRecDepth 20000 in
theorem lX5_finest_L4 {l : Launch} {E : qs_E} {A : Nat → Prop}  : ∀ (n : Nat) (w1 : Int32) (w2 : Int32) (D : qs_D), qs_VO l E A shM mX5_finest 2 qs_ri 4 [(0, .ref 0), (1, .int w1), (2, .int w2)] [] D (fX5_finest_L4 n w1 w2 D) := by
  intro n
  induction n with
  | zero => intro w1 w2 D; exact qs_none
  | succ n ih =>
    intro w1 w2 D
    unfold fX5_finest_L4
    refine qs_iload_n dX5_finest_4 rfl rfl rfl ?_
    refine qs_aload_n dX5_finest_5 rfl rfl rfl ?_
    refine qs_getR ffX5_9 rfl rfl dX5_finest_6 rfl ?_
    refine qs_iconst (5 : Int32) dX5_finest_9 (by decide) rfl ?_
    refine qs_iald rfl (by decide) dX5_finest_10 rfl (fun g3 => ?_)
    refine qs_icmp_ge (tgt := 43) dX5_finest_11 (by decide) rfl (fun g4 => ?_) (fun g4 => ?_)
    · refine qs_iload_n dX5_finest_43 rfl rfl rfl ?_
      exact qs_iret rfl dX5_finest_44
    · refine qs_iload_n dX5_finest_14 rfl rfl rfl ?_
      refine qs_if_lt (tgt := 31) dX5_finest_15 (by decide) rfl (fun g5 => ?_) (fun g5 => ?_)
      · refine qs_iload_n dX5_finest_31 rfl rfl rfl ?_
        refine qs_goto (tgt := 36) dX5_finest_32 (by decide) ?_
        refine qs_istore_n (fun v6 => [(1, .int v6), (0, .ref 0), (2, .int w2)]) dX5_finest_36 rfl (by decide) (fun _ => rfl) rfl (fun v6 => ?_)
        refine qs_iinc (fun v7 => [(2, .int v7), (1, .int v6), (0, .ref 0)]) (1 : Int32) dX5_finest_37 rfl (by decide) (by decide) (fun _ => rfl) rfl (fun v7 => ?_)
        refine qs_goto (tgt := 4) dX5_finest_40 (by decide) ?_
        exact qs_sub [2, 1, 0] rfl (ih v6 v7 D)
      · refine qs_aload_n dX5_finest_18 rfl rfl rfl ?_
        refine qs_iload_n dX5_finest_19 rfl rfl rfl ?_
        refine qs_cV1i cfX5_83 (Nat.le_of_ble_eq_true rfl) rfl rfl (fun Y hY => kX5_gives  hY) (Nat.le_of_ble_eq_true rfl) dX5_finest_20 rfl (fun x9 D8 g10 => ?_)
        refine qs_aload_n dX5_finest_23 rfl rfl rfl ?_
        refine qs_iload_n dX5_finest_24 rfl rfl rfl ?_
        refine qs_cV1i cfX5_83 (Nat.le_of_ble_eq_true rfl) rfl rfl (fun Y hY => kX5_gives  hY) (Nat.le_of_ble_eq_true rfl) dX5_finest_25 rfl (fun x12 D11 g13 => ?_)
        refine qs_icmp_le (tgt := 35) dX5_finest_28 (by decide) rfl (fun g14 => ?_) (fun g14 => ?_)
        · refine qs_iload_n dX5_finest_35 rfl rfl rfl ?_
          refine qs_istore_n (fun v15 => [(1, .int v15), (0, .ref 0), (2, .int w2)]) dX5_finest_36 rfl (by decide) (fun _ => rfl) rfl (fun v15 => ?_)
          refine qs_iinc (fun v16 => [(2, .int v16), (1, .int v15), (0, .ref 0)]) (1 : Int32) dX5_finest_37 rfl (by decide) (by decide) (fun _ => rfl) rfl (fun v16 => ?_)
          refine qs_goto (tgt := 4) dX5_finest_40 (by decide) ?_
          exact qs_sub [2, 1, 0] rfl (ih v15 v16 D11)
        · refine qs_iload_n dX5_finest_31 rfl rfl rfl ?_
          refine qs_goto (tgt := 36) dX5_finest_32 (by decide) ?_
          refine qs_istore_n (fun v17 => [(1, .int v17), (0, .ref 0), (2, .int w2)]) dX5_finest_36 rfl (by decide) (fun _ => rfl) rfl (fun v17 => ?_)
          refine qs_iinc (fun v18 => [(2, .int v18), (1, .int v17), (0, .ref 0)]) (1 : Int32) dX5_finest_37 rfl (by decide) (by decide) (fun _ => rfl) rfl (fun v18 => ?_)
          refine qs_goto (tgt := 4) dX5_finest_40 (by decide) ?_
          exact qs_sub [2, 1, 0] rfl (ih v17 v18 D11)
def fX5_finest (D : qs_D) : Option (Int32 × qs_D) := (qs_let (-1 : Int32) (fun v1 => (qs_let (0 : Int32) (fun v2 => (fX5_finest_L4 qs_F v1 v2 D)))))
set_option maxRecDepth 20000 in
theorem kX5_finest {l : Launch} {E : qs_E} {A : Nat → Prop} {D : qs_D} {X : Int32 × qs_D}  (hX : fX5_finest  D = some X) : qs_Ctr l E A shM yX5_finest mX5_finest 2 qs_ri [.ref 0] D X := by
  refine qs_enter (plainFor_of_name (by decide)) rfl (Nat.le_of_ble_eq_true rfl) ?_ hX
  show qs_VO l E A shM mX5_finest 2 qs_ri 0 [(0, .ref 0)] [] D (fX5_finest  D)
  unfold fX5_finest
  refine qs_iconst (-1 : Int32) dX5_finest_0 (by decide) rfl ?_
  refine qs_istore_n (fun v1 => [(1, .int v1), (0, .ref 0)]) dX5_finest_1 rfl (by decide) (fun _ => rfl) rfl (fun v1 => ?_)
  refine qs_iconst (0 : Int32) dX5_finest_2 (by decide) rfl ?_
  refine qs_istore_n (fun v2 => [(2, .int v2), (1, .int v1), (0, .ref 0)]) dX5_finest_3 rfl (by decide) (fun _ => rfl) rfl (fun v2 => ?_)
  exact qs_sub [2, 1, 0] rfl (lX5_finest_L4 qs_F v1 v2 D)
abbrev mX5_now : qs_M := (RX5, cX5_now, 2, (some FieldType.int))
def fX5_now (p1 : Int32) (D : qs_D) : Option (Int32 × qs_D) := (if p1 = (0 : Int32) then (qs_g ((0 : Int32) + p1) 70 (some ((D 1 ((0 : Int32) + p1).toNatClampNeg), D))) else (if p1 = (1 : Int32) then (qs_g ((0 : Int32) + p1) 70 (some ((D 1 ((0 : Int32) + p1).toNatClampNeg), D))) else (if p1 = (2 : Int32) then (qs_g (3 : Int32) 70 (some ((D 1 (3 : Int32).toNatClampNeg), D))) else (if p1 = (3 : Int32) then (qs_bind (fX5_setOf (3 : Int32) D) (fun x9 D8 => (some (x9, D8)))) else (if p1 = (4 : Int32) then (qs_bind (fX5_setOf (4 : Int32) D) (fun x13 D12 => (some (x13, D12)))) else (if p1 = (5 : Int32) then (qs_bind (fX5_wouldSplit D) (fun x17 D16 => (some (x17, D16)))) else (if p1 = (6 : Int32) then (qs_bind (fX5_allGive D) (fun x21 D20 => (some (x21, D20)))) else (if p1 = (7 : Int32) then (qs_bind (fX5_finest D) (fun x25 D24 => (some (x25, D24)))) else (qs_bind (fX5_finds (-1000001 : Int32) D) (fun x28 D27 => (some (x28, D27))))))))))))
set_option maxRecDepth 20000 in
theorem kX5_now {l : Launch} {E : qs_E} {A : Nat → Prop} {p1 : Int32} {D : qs_D} {X : Int32 × qs_D}  (hX : fX5_now p1 D = some X) : qs_Ctr l E A shM yX5_now mX5_now 3 qs_ri [.ref 0, .int p1] D X := by
  refine qs_enter (plainFor_of_name (by decide)) rfl (Nat.le_of_ble_eq_true rfl) ?_ hX
  show qs_VO l E A shM mX5_now 3 qs_ri 0 [(0, .ref 0), (1, .int p1)] [] D (fX5_now p1 D)
  unfold fX5_now
  refine qs_iload_n dX5_now_0 rfl rfl rfl ?_
  refine qs_ite (fun g1 => ?_) (fun g1 => ?_)
  · refine qs_tsIn (off := 47) (tgt := 48) dX5_now_1 (by rw [g1]; decide) (by rw [g1]; decide) (by rw [g1]; rfl) (by decide) ?_
    refine qs_aload_n dX5_now_48 rfl rfl rfl ?_
    refine qs_getR ffX5_9 rfl rfl dX5_now_49 rfl ?_
    refine qs_iconst (0 : Int32) dX5_now_52 (by decide) rfl ?_
    refine qs_iload_n dX5_now_53 rfl rfl rfl ?_
    refine qs_iadd dX5_now_54 rfl ?_
    refine qs_iald rfl (by decide) dX5_now_55 rfl (fun g2 => ?_)
    exact qs_iret rfl dX5_now_56
  · refine qs_ite (fun g3 => ?_) (fun g3 => ?_)
    · refine qs_tsIn (off := 47) (tgt := 48) dX5_now_1 (by rw [g3]; decide) (by rw [g3]; decide) (by rw [g3]; rfl) (by decide) ?_
      refine qs_aload_n dX5_now_48 rfl rfl rfl ?_
      refine qs_getR ffX5_9 rfl rfl dX5_now_49 rfl ?_
      refine qs_iconst (0 : Int32) dX5_now_52 (by decide) rfl ?_
      refine qs_iload_n dX5_now_53 rfl rfl rfl ?_
      refine qs_iadd dX5_now_54 rfl ?_
      refine qs_iald rfl (by decide) dX5_now_55 rfl (fun g4 => ?_)
      exact qs_iret rfl dX5_now_56
    · refine qs_ite (fun g5 => ?_) (fun g5 => ?_)
      · refine qs_tsIn (off := 56) (tgt := 57) dX5_now_1 (by rw [g5]; decide) (by rw [g5]; decide) (by rw [g5]; rfl) (by decide) ?_
        refine qs_aload_n dX5_now_57 rfl rfl rfl ?_
        refine qs_getR ffX5_9 rfl rfl dX5_now_58 rfl ?_
        refine qs_iconst (3 : Int32) dX5_now_61 (by decide) rfl ?_
        refine qs_iald rfl (by decide) dX5_now_62 rfl (fun g6 => ?_)
        exact qs_iret rfl dX5_now_63
      · refine qs_ite (fun g7 => ?_) (fun g7 => ?_)
        · refine qs_tsIn (off := 63) (tgt := 64) dX5_now_1 (by rw [g7]; decide) (by rw [g7]; decide) (by rw [g7]; rfl) (by decide) ?_
          refine qs_aload_n dX5_now_64 rfl rfl rfl ?_
          refine qs_iconst (3 : Int32) dX5_now_65 (by decide) rfl ?_
          refine qs_cV1i cfX5_117 (Nat.le_of_ble_eq_true rfl) rfl rfl (fun Y hY => kX5_setOf  hY) (Nat.le_of_ble_eq_true rfl) dX5_now_66 rfl (fun x9 D8 g10 => ?_)
          exact qs_iret rfl dX5_now_69
        · refine qs_ite (fun g11 => ?_) (fun g11 => ?_)
          · refine qs_tsIn (off := 69) (tgt := 70) dX5_now_1 (by rw [g11]; decide) (by rw [g11]; decide) (by rw [g11]; rfl) (by decide) ?_
            refine qs_aload_n dX5_now_70 rfl rfl rfl ?_
            refine qs_iconst (4 : Int32) dX5_now_71 (by decide) rfl ?_
            refine qs_cV1i cfX5_117 (Nat.le_of_ble_eq_true rfl) rfl rfl (fun Y hY => kX5_setOf  hY) (Nat.le_of_ble_eq_true rfl) dX5_now_72 rfl (fun x13 D12 g14 => ?_)
            exact qs_iret rfl dX5_now_75
          · refine qs_ite (fun g15 => ?_) (fun g15 => ?_)
            · refine qs_tsIn (off := 75) (tgt := 76) dX5_now_1 (by rw [g15]; decide) (by rw [g15]; decide) (by rw [g15]; rfl) (by decide) ?_
              refine qs_aload_n dX5_now_76 rfl rfl rfl ?_
              refine qs_cV0i cfX5_120 (Nat.le_of_ble_eq_true rfl) rfl rfl (fun Y hY => kX5_wouldSplit  hY) (Nat.le_of_ble_eq_true rfl) dX5_now_77 rfl (fun x17 D16 g18 => ?_)
              exact qs_iret rfl dX5_now_80
            · refine qs_ite (fun g19 => ?_) (fun g19 => ?_)
              · refine qs_tsIn (off := 80) (tgt := 81) dX5_now_1 (by rw [g19]; decide) (by rw [g19]; decide) (by rw [g19]; rfl) (by decide) ?_
                refine qs_aload_n dX5_now_81 rfl rfl rfl ?_
                refine qs_cV0i cfX5_123 (Nat.le_of_ble_eq_true rfl) rfl rfl (fun Y hY => kX5_allGive  hY) (Nat.le_of_ble_eq_true rfl) dX5_now_82 rfl (fun x21 D20 g22 => ?_)
                exact qs_iret rfl dX5_now_85
              · refine qs_ite (fun g23 => ?_) (fun g23 => ?_)
                · refine qs_tsIn (off := 85) (tgt := 86) dX5_now_1 (by rw [g23]; decide) (by rw [g23]; decide) (by rw [g23]; rfl) (by decide) ?_
                  refine qs_aload_n dX5_now_86 rfl rfl rfl ?_
                  refine qs_cV0i cfX5_126 (Nat.le_of_ble_eq_true rfl) rfl rfl (fun Y hY => kX5_finest  hY) (Nat.le_of_ble_eq_true rfl) dX5_now_87 rfl (fun x25 D24 g26 => ?_)
                  exact qs_iret rfl dX5_now_90
                · refine qs_tsOut (tgt := 91) dX5_now_1 (by have eg1 := lv_neT (a := 0) g1 rfl; have eg3 := lv_neT (a := 1) g3 rfl; have eg5 := lv_neT (a := 2) g5 rfl; have eg7 := lv_neT (a := 3) g7 rfl; have eg11 := lv_neT (a := 4) g11 rfl; have eg15 := lv_neT (a := 5) g15 rfl; have eg19 := lv_neT (a := 6) g19 rfl; have eg23 := lv_neT (a := 7) g23 rfl; omega) (by decide) ?_
                  refine qs_aload_n dX5_now_91 rfl rfl rfl ?_
                  refine qs_ldc wcX5_34 dX5_now_92 rfl ?_
                  refine qs_cV1i cfX5_36 (Nat.le_of_ble_eq_true rfl) rfl rfl (fun Y hY => kX5_finds  hY) (Nat.le_of_ble_eq_true rfl) dX5_now_94 rfl (fun x28 D27 g29 => ?_)
                  exact qs_iret rfl dX5_now_97
def fX5_thinks (D : qs_D) : Option (Unit × qs_D) := (qs_bind (fX5_copyAll 1 3 D) (fun x2 D1 => (some ((), D1))))
set_option maxRecDepth 20000 in
theorem kX5_thinks {l : Launch} {E : qs_E} {A : Nat → Prop} {D : qs_D} {X : Unit × qs_D}  (hX : fX5_thinks  D = some X) : qs_Ctr l E A shM yX5_thinks mX5_thinks 1 qs_rv [.ref 0] D X := by
  refine qs_enter (plainFor_of_name (by decide)) rfl (Nat.le_of_ble_eq_true rfl) ?_ hX
  show qs_VO l E A shM mX5_thinks 1 qs_rv 0 [(0, .ref 0)] [] D (fX5_thinks  D)
  unfold fX5_thinks
  refine qs_aload_n dX5_thinks_0 rfl rfl rfl ?_
  refine qs_getR ffX5_9 rfl rfl dX5_thinks_1 rfl ?_
  refine qs_aload_n dX5_thinks_4 rfl rfl rfl ?_
  refine qs_getR ffX5_16 rfl rfl dX5_thinks_5 rfl ?_
  refine qs_cS2v cfX5_129 (Nat.le_of_ble_eq_true rfl) (fun Y hY => kX5_copyAll rfl rfl hY) (Nat.le_of_ble_eq_true rfl) dX5_thinks_8 rfl (fun x2 D1 g3 => ?_)
  exact qs_vret rfl dX5_thinks_11
def fX5_putsBack (D : qs_D) : Option (Unit × qs_D) := (qs_bind (fX5_copyAll 3 1 D) (fun x2 D1 => (some ((), D1))))
set_option maxRecDepth 20000 in
theorem kX5_putsBack {l : Launch} {E : qs_E} {A : Nat → Prop} {D : qs_D} {X : Unit × qs_D}  (hX : fX5_putsBack  D = some X) : qs_Ctr l E A shM yX5_putsBack mX5_putsBack 1 qs_rv [.ref 0] D X := by
  refine qs_enter (plainFor_of_name (by decide)) rfl (Nat.le_of_ble_eq_true rfl) ?_ hX
  show qs_VO l E A shM mX5_putsBack 1 qs_rv 0 [(0, .ref 0)] [] D (fX5_putsBack  D)
  unfold fX5_putsBack
  refine qs_aload_n dX5_putsBack_0 rfl rfl rfl ?_
  refine qs_getR ffX5_16 rfl rfl dX5_putsBack_1 rfl ?_
  refine qs_aload_n dX5_putsBack_4 rfl rfl rfl ?_
  refine qs_getR ffX5_9 rfl rfl dX5_putsBack_5 rfl ?_
  refine qs_cS2v cfX5_129 (Nat.le_of_ble_eq_true rfl) (fun Y hY => kX5_copyAll rfl rfl hY) (Nat.le_of_ble_eq_true rfl) dX5_putsBack_8 rfl (fun x2 D1 g3 => ?_)
  exact qs_vret rfl dX5_putsBack_11
abbrev mX5_ahead : qs_M := (RX5, cX5_ahead, 5, (some FieldType.int))
def fX5_ahead (p1 : Int32) (p2 : Int32) (p3 : Int32) (D : qs_D) : Option (Int32 × qs_D) := (qs_bind (fX5_isDish p1 D) (fun x2 D1 => (if x2 = 0 then (qs_bind (fX5_finds (-1000001 : Int32) D1) (fun x6 D5 => (some (x6, D5)))) else (qs_bind (fX5_in p2 (1 : Int32) (3 : Int32) D1) (fun x9 D8 => (if x9 = 0 then (if p2 = (10 : Int32) then (qs_bind (fX5_in p3 (0 : Int32) (100 : Int32) D8) (fun x45 D44 => (if x45 = 0 then (qs_bind (fX5_finds (-1000001 : Int32) D44) (fun x70 D69 => (some (x70, D69)))) else (qs_bind (fX5_thinks D44) (fun x49 D48 => (qs_bind (fX5_goesFor p3 D48) (fun x52 D51 => (if p2 = (10 : Int32) then (qs_bind (fX5_gives p1 D51) (fun x63 D62 => (qs_let x63 (fun v65 => (qs_bind (fX5_putsBack D62) (fun x67 D66 => (some (v65, D66)))))))) else (qs_bind (fX5_it p1 p2 D51) (fun x56 D55 => (qs_let x56 (fun v58 => (qs_bind (fX5_putsBack D55) (fun x60 D59 => (some (v58, D59)))))))))))))))) else (qs_bind (fX5_finds (-1000001 : Int32) D8) (fun x42 D41 => (some (x42, D41))))) else (qs_bind (fX5_in p3 (0 : Int32) (100 : Int32) D8) (fun x13 D12 => (if x13 = 0 then (qs_bind (fX5_finds (-1000001 : Int32) D12) (fun x38 D37 => (some (x38, D37)))) else (qs_bind (fX5_thinks D12) (fun x17 D16 => (qs_bind (fX5_goesFor p3 D16) (fun x20 D19 => (if p2 = (10 : Int32) then (qs_bind (fX5_gives p1 D19) (fun x31 D30 => (qs_let x31 (fun v33 => (qs_bind (fX5_putsBack D30) (fun x35 D34 => (some (v33, D34)))))))) else (qs_bind (fX5_it p1 p2 D19) (fun x24 D23 => (qs_let x24 (fun v26 => (qs_bind (fX5_putsBack D23) (fun x28 D27 => (some (v26, D27))))))))))))))))))))))
set_option maxRecDepth 20000 in
theorem kX5_ahead {l : Launch} {E : qs_E} {A : Nat → Prop} {p1 : Int32} {p2 : Int32} {p3 : Int32} {D : qs_D} {X : Int32 × qs_D}  (hX : fX5_ahead p1 p2 p3 D = some X) : qs_Ctr l E A shM yX5_ahead mX5_ahead 5 qs_ri [.ref 0, .int p1, .int p2, .int p3] D X := by
  refine qs_enter (plainFor_of_name (by decide)) rfl (Nat.le_of_ble_eq_true rfl) ?_ hX
  show qs_VO l E A shM mX5_ahead 5 qs_ri 0 [(0, .ref 0), (1, .int p1), (2, .int p2), (3, .int p3)] [] D (fX5_ahead p1 p2 p3 D)
  unfold fX5_ahead
  refine qs_aload_n dX5_ahead_0 rfl rfl rfl ?_
  refine qs_iload_n dX5_ahead_1 rfl rfl rfl ?_
  refine qs_cV1i cfX5_68 (Nat.le_of_ble_eq_true rfl) rfl rfl (fun Y hY => kX5_isDish  hY) (Nat.le_of_ble_eq_true rfl) dX5_ahead_2 rfl (fun x2 D1 g3 => ?_)
  refine qs_if_eq (tgt := 33) dX5_ahead_5 (by decide) rfl (fun g4 => ?_) (fun g4 => ?_)
  · refine qs_aload_n dX5_ahead_33 rfl rfl rfl ?_
    refine qs_ldc wcX5_34 dX5_ahead_34 rfl ?_
    refine qs_cV1i cfX5_36 (Nat.le_of_ble_eq_true rfl) rfl rfl (fun Y hY => kX5_finds  hY) (Nat.le_of_ble_eq_true rfl) dX5_ahead_36 rfl (fun x6 D5 g7 => ?_)
    exact qs_iret rfl dX5_ahead_39
  · refine qs_iload_n dX5_ahead_8 rfl rfl rfl ?_
    refine qs_iconst (1 : Int32) dX5_ahead_9 (by decide) rfl ?_
    refine qs_iconst (3 : Int32) dX5_ahead_10 (by decide) rfl ?_
    refine qs_cS3i cfX5_40 (Nat.le_of_ble_eq_true rfl) (fun Y hY => kX5_in  hY) (Nat.le_of_ble_eq_true rfl) dX5_ahead_11 rfl (fun x9 D8 g10 => ?_)
    refine qs_if_ne (tgt := 23) dX5_ahead_14 (by decide) rfl (fun g11 => ?_) (fun g11 => ?_)
    · refine qs_iload_n dX5_ahead_17 rfl rfl rfl ?_
      refine qs_bipush (10 : Int32) dX5_ahead_18 (by decide) rfl ?_
      refine qs_icmp_ne (tgt := 33) dX5_ahead_20 (by decide) rfl (fun g40 => ?_) (fun g40 => ?_)
      · refine qs_iload_n dX5_ahead_23 rfl rfl rfl ?_
        refine qs_iconst (0 : Int32) dX5_ahead_24 (by decide) rfl ?_
        refine qs_bipush (100 : Int32) dX5_ahead_25 (by decide) rfl ?_
        refine qs_cS3i cfX5_40 (Nat.le_of_ble_eq_true rfl) (fun Y hY => kX5_in  hY) (Nat.le_of_ble_eq_true rfl) dX5_ahead_27 rfl (fun x45 D44 g46 => ?_)
        refine qs_if_ne (tgt := 40) dX5_ahead_30 (by decide) rfl (fun g47 => ?_) (fun g47 => ?_)
        · refine qs_aload_n dX5_ahead_33 rfl rfl rfl ?_
          refine qs_ldc wcX5_34 dX5_ahead_34 rfl ?_
          refine qs_cV1i cfX5_36 (Nat.le_of_ble_eq_true rfl) rfl rfl (fun Y hY => kX5_finds  hY) (Nat.le_of_ble_eq_true rfl) dX5_ahead_36 rfl (fun x70 D69 g71 => ?_)
          exact qs_iret rfl dX5_ahead_39
        · refine qs_aload_n dX5_ahead_40 rfl rfl rfl ?_
          refine qs_cV0v cfX5_133 (Nat.le_of_ble_eq_true rfl) rfl rfl (fun Y hY => kX5_thinks  hY) (Nat.le_of_ble_eq_true rfl) dX5_ahead_41 rfl (fun x49 D48 g50 => ?_)
          refine qs_aload_n dX5_ahead_44 rfl rfl rfl ?_
          refine qs_iload_n dX5_ahead_45 rfl rfl rfl ?_
          refine qs_cV1v cfX5_114 (Nat.le_of_ble_eq_true rfl) rfl rfl (fun Y hY => kX5_goesFor  hY) (Nat.le_of_ble_eq_true rfl) dX5_ahead_46 rfl (fun x52 D51 g53 => ?_)
          refine qs_iload_n dX5_ahead_49 rfl rfl rfl ?_
          refine qs_bipush (10 : Int32) dX5_ahead_50 (by decide) rfl ?_
          refine qs_icmp_ne (tgt := 63) dX5_ahead_52 (by decide) rfl (fun g54 => ?_) (fun g54 => ?_)
          · refine qs_aload_n dX5_ahead_55 rfl rfl rfl ?_
            refine qs_iload_n dX5_ahead_56 rfl rfl rfl ?_
            refine qs_cV1i cfX5_83 (Nat.le_of_ble_eq_true rfl) rfl rfl (fun Y hY => kX5_gives  hY) (Nat.le_of_ble_eq_true rfl) dX5_ahead_57 rfl (fun x63 D62 g64 => ?_)
            refine qs_goto (tgt := 69) dX5_ahead_60 (by decide) ?_
            refine qs_istore (fun v65 => [(4, .int v65), (0, .ref 0), (1, .int p1), (2, .int p2), (3, .int p3)]) dX5_ahead_69 (by decide) (fun _ => rfl) rfl (fun v65 => ?_)
            refine qs_aload_n dX5_ahead_71 rfl rfl rfl ?_
            refine qs_cV0v cfX5_136 (Nat.le_of_ble_eq_true rfl) rfl rfl (fun Y hY => kX5_putsBack  hY) (Nat.le_of_ble_eq_true rfl) dX5_ahead_72 rfl (fun x67 D66 g68 => ?_)
            refine qs_iload dX5_ahead_75 rfl rfl ?_
            exact qs_iret rfl dX5_ahead_77
          · refine qs_aload_n dX5_ahead_63 rfl rfl rfl ?_
            refine qs_iload_n dX5_ahead_64 rfl rfl rfl ?_
            refine qs_iload_n dX5_ahead_65 rfl rfl rfl ?_
            refine qs_cV2i cfX5_44 (Nat.le_of_ble_eq_true rfl) rfl rfl (fun Y hY => kX5_it  hY) (Nat.le_of_ble_eq_true rfl) dX5_ahead_66 rfl (fun x56 D55 g57 => ?_)
            refine qs_istore (fun v58 => [(4, .int v58), (0, .ref 0), (1, .int p1), (2, .int p2), (3, .int p3)]) dX5_ahead_69 (by decide) (fun _ => rfl) rfl (fun v58 => ?_)
            refine qs_aload_n dX5_ahead_71 rfl rfl rfl ?_
            refine qs_cV0v cfX5_136 (Nat.le_of_ble_eq_true rfl) rfl rfl (fun Y hY => kX5_putsBack  hY) (Nat.le_of_ble_eq_true rfl) dX5_ahead_72 rfl (fun x60 D59 g61 => ?_)
            refine qs_iload dX5_ahead_75 rfl rfl ?_
            exact qs_iret rfl dX5_ahead_77
      · refine qs_aload_n dX5_ahead_33 rfl rfl rfl ?_
        refine qs_ldc wcX5_34 dX5_ahead_34 rfl ?_
        refine qs_cV1i cfX5_36 (Nat.le_of_ble_eq_true rfl) rfl rfl (fun Y hY => kX5_finds  hY) (Nat.le_of_ble_eq_true rfl) dX5_ahead_36 rfl (fun x42 D41 g43 => ?_)
        exact qs_iret rfl dX5_ahead_39
    · refine qs_iload_n dX5_ahead_23 rfl rfl rfl ?_
      refine qs_iconst (0 : Int32) dX5_ahead_24 (by decide) rfl ?_
      refine qs_bipush (100 : Int32) dX5_ahead_25 (by decide) rfl ?_
      refine qs_cS3i cfX5_40 (Nat.le_of_ble_eq_true rfl) (fun Y hY => kX5_in  hY) (Nat.le_of_ble_eq_true rfl) dX5_ahead_27 rfl (fun x13 D12 g14 => ?_)
      refine qs_if_ne (tgt := 40) dX5_ahead_30 (by decide) rfl (fun g15 => ?_) (fun g15 => ?_)
      · refine qs_aload_n dX5_ahead_33 rfl rfl rfl ?_
        refine qs_ldc wcX5_34 dX5_ahead_34 rfl ?_
        refine qs_cV1i cfX5_36 (Nat.le_of_ble_eq_true rfl) rfl rfl (fun Y hY => kX5_finds  hY) (Nat.le_of_ble_eq_true rfl) dX5_ahead_36 rfl (fun x38 D37 g39 => ?_)
        exact qs_iret rfl dX5_ahead_39
      · refine qs_aload_n dX5_ahead_40 rfl rfl rfl ?_
        refine qs_cV0v cfX5_133 (Nat.le_of_ble_eq_true rfl) rfl rfl (fun Y hY => kX5_thinks  hY) (Nat.le_of_ble_eq_true rfl) dX5_ahead_41 rfl (fun x17 D16 g18 => ?_)
        refine qs_aload_n dX5_ahead_44 rfl rfl rfl ?_
        refine qs_iload_n dX5_ahead_45 rfl rfl rfl ?_
        refine qs_cV1v cfX5_114 (Nat.le_of_ble_eq_true rfl) rfl rfl (fun Y hY => kX5_goesFor  hY) (Nat.le_of_ble_eq_true rfl) dX5_ahead_46 rfl (fun x20 D19 g21 => ?_)
        refine qs_iload_n dX5_ahead_49 rfl rfl rfl ?_
        refine qs_bipush (10 : Int32) dX5_ahead_50 (by decide) rfl ?_
        refine qs_icmp_ne (tgt := 63) dX5_ahead_52 (by decide) rfl (fun g22 => ?_) (fun g22 => ?_)
        · refine qs_aload_n dX5_ahead_55 rfl rfl rfl ?_
          refine qs_iload_n dX5_ahead_56 rfl rfl rfl ?_
          refine qs_cV1i cfX5_83 (Nat.le_of_ble_eq_true rfl) rfl rfl (fun Y hY => kX5_gives  hY) (Nat.le_of_ble_eq_true rfl) dX5_ahead_57 rfl (fun x31 D30 g32 => ?_)
          refine qs_goto (tgt := 69) dX5_ahead_60 (by decide) ?_
          refine qs_istore (fun v33 => [(4, .int v33), (0, .ref 0), (1, .int p1), (2, .int p2), (3, .int p3)]) dX5_ahead_69 (by decide) (fun _ => rfl) rfl (fun v33 => ?_)
          refine qs_aload_n dX5_ahead_71 rfl rfl rfl ?_
          refine qs_cV0v cfX5_136 (Nat.le_of_ble_eq_true rfl) rfl rfl (fun Y hY => kX5_putsBack  hY) (Nat.le_of_ble_eq_true rfl) dX5_ahead_72 rfl (fun x35 D34 g36 => ?_)
          refine qs_iload dX5_ahead_75 rfl rfl ?_
          exact qs_iret rfl dX5_ahead_77
        · refine qs_aload_n dX5_ahead_63 rfl rfl rfl ?_
          refine qs_iload_n dX5_ahead_64 rfl rfl rfl ?_
          refine qs_iload_n dX5_ahead_65 rfl rfl rfl ?_
          refine qs_cV2i cfX5_44 (Nat.le_of_ble_eq_true rfl) rfl rfl (fun Y hY => kX5_it  hY) (Nat.le_of_ble_eq_true rfl) dX5_ahead_66 rfl (fun x24 D23 g25 => ?_)
          refine qs_istore (fun v26 => [(4, .int v26), (0, .ref 0), (1, .int p1), (2, .int p2), (3, .int p3)]) dX5_ahead_69 (by decide) (fun _ => rfl) rfl (fun v26 => ?_)
          refine qs_aload_n dX5_ahead_71 rfl rfl rfl ?_
          refine qs_cV0v cfX5_136 (Nat.le_of_ble_eq_true rfl) rfl rfl (fun Y hY => kX5_putsBack  hY) (Nat.le_of_ble_eq_true rfl) dX5_ahead_72 rfl (fun x28 D27 g29 => ?_)
          refine qs_iload dX5_ahead_75 rfl rfl ?_
          exact qs_iret rfl dX5_ahead_77
abbrev mX5_mood : qs_M := (RX5, cX5_mood, 3, (some FieldType.int))
def fX5_mood (p1 : Int32) (D : qs_D) : Option (Int32 × qs_D) := (qs_bind (fX5_in p1 (0 : Int32) (100 : Int32) D) (fun x2 D1 => (if x2 = 0 then (qs_bind (fX5_finds (-1000001 : Int32) D1) (fun x17 D16 => (some (x17, D16)))) else (qs_bind (fX5_thinks D1) (fun x6 D5 => (qs_bind (fX5_goesFor p1 D5) (fun x9 D8 => (qs_g (1 : Int32) 70 (qs_let (D8 1 (1 : Int32).toNatClampNeg) (fun v12 => (qs_bind (fX5_putsBack D8) (fun x14 D13 => (some (v12, D13))))))))))))))
set_option maxRecDepth 20000 in
theorem kX5_mood {l : Launch} {E : qs_E} {A : Nat → Prop} {p1 : Int32} {D : qs_D} {X : Int32 × qs_D}  (hX : fX5_mood p1 D = some X) : qs_Ctr l E A shM yX5_mood mX5_mood 5 qs_ri [.ref 0, .int p1] D X := by
  refine qs_enter (plainFor_of_name (by decide)) rfl (Nat.le_of_ble_eq_true rfl) ?_ hX
  show qs_VO l E A shM mX5_mood 5 qs_ri 0 [(0, .ref 0), (1, .int p1)] [] D (fX5_mood p1 D)
  unfold fX5_mood
  refine qs_iload_n dX5_mood_0 rfl rfl rfl ?_
  refine qs_iconst (0 : Int32) dX5_mood_1 (by decide) rfl ?_
  refine qs_bipush (100 : Int32) dX5_mood_2 (by decide) rfl ?_
  refine qs_cS3i cfX5_40 (Nat.le_of_ble_eq_true rfl) (fun Y hY => kX5_in  hY) (Nat.le_of_ble_eq_true rfl) dX5_mood_4 rfl (fun x2 D1 g3 => ?_)
  refine qs_if_ne (tgt := 17) dX5_mood_7 (by decide) rfl (fun g4 => ?_) (fun g4 => ?_)
  · refine qs_aload_n dX5_mood_10 rfl rfl rfl ?_
    refine qs_ldc wcX5_34 dX5_mood_11 rfl ?_
    refine qs_cV1i cfX5_36 (Nat.le_of_ble_eq_true rfl) rfl rfl (fun Y hY => kX5_finds  hY) (Nat.le_of_ble_eq_true rfl) dX5_mood_13 rfl (fun x17 D16 g18 => ?_)
    exact qs_iret rfl dX5_mood_16
  · refine qs_aload_n dX5_mood_17 rfl rfl rfl ?_
    refine qs_cV0v cfX5_133 (Nat.le_of_ble_eq_true rfl) rfl rfl (fun Y hY => kX5_thinks  hY) (Nat.le_of_ble_eq_true rfl) dX5_mood_18 rfl (fun x6 D5 g7 => ?_)
    refine qs_aload_n dX5_mood_21 rfl rfl rfl ?_
    refine qs_iload_n dX5_mood_22 rfl rfl rfl ?_
    refine qs_cV1v cfX5_114 (Nat.le_of_ble_eq_true rfl) rfl rfl (fun Y hY => kX5_goesFor  hY) (Nat.le_of_ble_eq_true rfl) dX5_mood_23 rfl (fun x9 D8 g10 => ?_)
    refine qs_aload_n dX5_mood_26 rfl rfl rfl ?_
    refine qs_getR ffX5_9 rfl rfl dX5_mood_27 rfl ?_
    refine qs_iconst (1 : Int32) dX5_mood_30 (by decide) rfl ?_
    refine qs_iald rfl (by decide) dX5_mood_31 rfl (fun g11 => ?_)
    refine qs_istore_n (fun v12 => [(2, .int v12), (0, .ref 0), (1, .int p1)]) dX5_mood_32 rfl (by decide) (fun _ => rfl) rfl (fun v12 => ?_)
    refine qs_aload_n dX5_mood_33 rfl rfl rfl ?_
    refine qs_cV0v cfX5_136 (Nat.le_of_ble_eq_true rfl) rfl rfl (fun Y hY => kX5_putsBack  hY) (Nat.le_of_ble_eq_true rfl) dX5_mood_34 rfl (fun x14 D13 g15 => ?_)
    refine qs_iload_n dX5_mood_37 rfl rfl rfl ?_
    exact qs_iret rfl dX5_mood_38
