abbrev mX5_kinds : qs_M := (RX5, cX5_kinds, 6, (some FieldType.int))
def fX5_kinds_L27 : Nat → Int32 → Int32 → Int32 → Int32 → Int32 → qs_D → Option (Int32 × qs_D)
  | 0, _, _, _, _, _, _ => none
  | n + 1, w1, w2, w3, w4, w5, D => (if (6 : Int32) < w5 then (some (w4, D)) else (qs_bind (fX5_put w2 (0 : Int32) w5 D) (fun x13 D12 => (qs_bind (fX5_isTold w1 w2 D12) (fun x16 D15 => (if x16 = 0 then (qs_let (w4 ||| (0 : Int32)) (fun v19 => (qs_let (w5 + (1 : Int32)) (fun v20 => (fX5_kinds_L27 n w1 w2 w3 v19 v20 D15))))) else (qs_let (w4 ||| ((1 : Int32) <<< (w5 &&& 31))) (fun v21 => (qs_let (w5 + (1 : Int32)) (fun v22 => (fX5_kinds_L27 n w1 w2 w3 v21 v22 D15)))))))))))
set_option maxRecDepth 20000 in
theorem lX5_kinds_L27 {l : Launch} {E : qs_E} {A : Nat → Prop}  : ∀ (n : Nat) (w1 : Int32) (w2 : Int32) (w3 : Int32) (w4 : Int32) (w5 : Int32) (D : qs_D), qs_VO l E A shM mX5_kinds 5 qs_ri 27 [(0, .ref 0), (1, .int w1), (2, .int w2), (3, .int w3), (4, .int w4), (5, .int w5)] [] D (fX5_kinds_L27 n w1 w2 w3 w4 w5 D) := by
  intro n
  induction n with
  | zero => intro w1 w2 w3 w4 w5 D; exact qs_none
  | succ n ih =>
    intro w1 w2 w3 w4 w5 D
    unfold fX5_kinds_L27
    refine qs_iload dX5_kinds_27 rfl rfl ?_
    refine qs_bipush (6 : Int32) dX5_kinds_29 (by decide) rfl ?_
    refine qs_icmp_gt (tgt := 70) dX5_kinds_31 (by decide) rfl (fun g11 => ?_) (fun g11 => ?_)
    · refine qs_iload dX5_kinds_70 rfl rfl ?_
      exact qs_iret rfl dX5_kinds_72
    · refine qs_aload_n dX5_kinds_34 rfl rfl rfl ?_
      refine qs_iload_n dX5_kinds_35 rfl rfl rfl ?_
      refine qs_iconst (0 : Int32) dX5_kinds_36 (by decide) rfl ?_
      refine qs_iload dX5_kinds_37 rfl rfl ?_
      refine qs_cV3v cfX5_59 (Nat.le_of_ble_eq_true rfl) rfl rfl (fun Y hY => kX5_put  hY) (Nat.le_of_ble_eq_true rfl) dX5_kinds_39 rfl (fun x13 D12 g14 => ?_)
      refine qs_iload dX5_kinds_42 rfl rfl ?_
      refine qs_aload_n dX5_kinds_44 rfl rfl rfl ?_
      refine qs_iload_n dX5_kinds_45 rfl rfl rfl ?_
      refine qs_iload_n dX5_kinds_46 rfl rfl rfl ?_
      refine qs_cV2i cfX5_159 (Nat.le_of_ble_eq_true rfl) rfl rfl (fun Y hY => kX5_isTold  hY) (Nat.le_of_ble_eq_true rfl) dX5_kinds_47 rfl (fun x16 D15 g17 => ?_)
      refine qs_if_eq (tgt := 60) dX5_kinds_50 (by decide) rfl (fun g18 => ?_) (fun g18 => ?_)
      · refine qs_iconst (0 : Int32) dX5_kinds_60 (by decide) rfl ?_
        refine qs_ior dX5_kinds_61 rfl ?_
        refine qs_istore (fun v19 => [(4, .int v19), (0, .ref 0), (1, .int w1), (2, .int w2), (3, .int w3), (5, .int w5)]) dX5_kinds_62 (by decide) (fun _ => rfl) rfl (fun v19 => ?_)
        refine qs_iinc (fun v20 => [(5, .int v20), (4, .int v19), (0, .ref 0), (1, .int w1), (2, .int w2), (3, .int w3)]) (1 : Int32) dX5_kinds_64 rfl (by decide) (by decide) (fun _ => rfl) rfl (fun v20 => ?_)
        refine qs_goto (tgt := 27) dX5_kinds_67 (by decide) ?_
        exact qs_sub [2, 3, 4, 5, 1, 0] rfl (ih w1 w2 w3 v19 v20 D15)
      · refine qs_iconst (1 : Int32) dX5_kinds_53 (by decide) rfl ?_
        refine qs_iload dX5_kinds_54 rfl rfl ?_
        refine qs_ishl dX5_kinds_56 rfl ?_
        refine qs_goto (tgt := 61) dX5_kinds_57 (by decide) ?_
        refine qs_ior dX5_kinds_61 rfl ?_
        refine qs_istore (fun v21 => [(4, .int v21), (0, .ref 0), (1, .int w1), (2, .int w2), (3, .int w3), (5, .int w5)]) dX5_kinds_62 (by decide) (fun _ => rfl) rfl (fun v21 => ?_)
        refine qs_iinc (fun v22 => [(5, .int v22), (4, .int v21), (0, .ref 0), (1, .int w1), (2, .int w2), (3, .int w3)]) (1 : Int32) dX5_kinds_64 rfl (by decide) (by decide) (fun _ => rfl) rfl (fun v22 => ?_)
        refine qs_goto (tgt := 27) dX5_kinds_67 (by decide) ?_
        exact qs_sub [2, 3, 4, 5, 1, 0] rfl (ih w1 w2 w3 v21 v22 D15)
def fX5_kinds (p1 : Int32) (p2 : Int32) (D : qs_D) : Option (Int32 × qs_D) := (qs_bind (fX5_notAsked p1 p2 D) (fun x2 D1 => (qs_let x2 (fun v4 => (if v4 = 0 then (qs_bind (fX5_thinks D1) (fun x7 D6 => (qs_let (0 : Int32) (fun v9 => (qs_let (0 : Int32) (fun v10 => (fX5_kinds_L27 qs_F p1 p2 v4 v9 v10 D6))))))) else (qs_bind (fX5_finds v4 D1) (fun x24 D23 => (some (x24, D23)))))))))
set_option maxRecDepth 20000 in
theorem kX5_kinds {l : Launch} {E : qs_E} {A : Nat → Prop} {p1 : Int32} {p2 : Int32} {D : qs_D} {X : Int32 × qs_D}  (hX : fX5_kinds p1 p2 D = some X) : qs_Ctr l E A shM yX5_kinds mX5_kinds 5 qs_ri [.ref 0, .int p1, .int p2] D X := by
  refine qs_enter (plainFor_of_name (by decide)) rfl (Nat.le_of_ble_eq_true rfl) ?_ hX
  show qs_VO l E A shM mX5_kinds 5 qs_ri 0 [(0, .ref 0), (1, .int p1), (2, .int p2)] [] D (fX5_kinds p1 p2 D)
  unfold fX5_kinds
  refine qs_aload_n dX5_kinds_0 rfl rfl rfl ?_
  refine qs_iload_n dX5_kinds_1 rfl rfl rfl ?_
  refine qs_iload_n dX5_kinds_2 rfl rfl rfl ?_
  refine qs_cV2i cfX5_156 (Nat.le_of_ble_eq_true rfl) rfl rfl (fun Y hY => kX5_notAsked  hY) (Nat.le_of_ble_eq_true rfl) dX5_kinds_3 rfl (fun x2 D1 g3 => ?_)
  refine qs_istore_n (fun v4 => [(3, .int v4), (0, .ref 0), (1, .int p1), (2, .int p2)]) dX5_kinds_6 rfl (by decide) (fun _ => rfl) rfl (fun v4 => ?_)
  refine qs_iload_n dX5_kinds_7 rfl rfl rfl ?_
  refine qs_if_eq (tgt := 17) dX5_kinds_8 (by decide) rfl (fun g5 => ?_) (fun g5 => ?_)
  · refine qs_aload_n dX5_kinds_17 rfl rfl rfl ?_
    refine qs_cV0v cfX5_133 (Nat.le_of_ble_eq_true rfl) rfl rfl (fun Y hY => kX5_thinks  hY) (Nat.le_of_ble_eq_true rfl) dX5_kinds_18 rfl (fun x7 D6 g8 => ?_)
    refine qs_iconst (0 : Int32) dX5_kinds_21 (by decide) rfl ?_
    refine qs_istore (fun v9 => [(4, .int v9), (3, .int v4), (0, .ref 0), (1, .int p1), (2, .int p2)]) dX5_kinds_22 (by decide) (fun _ => rfl) rfl (fun v9 => ?_)
    refine qs_iconst (0 : Int32) dX5_kinds_24 (by decide) rfl ?_
    refine qs_istore (fun v10 => [(5, .int v10), (4, .int v9), (3, .int v4), (0, .ref 0), (1, .int p1), (2, .int p2)]) dX5_kinds_25 (by decide) (fun _ => rfl) rfl (fun v10 => ?_)
    exact qs_sub [3, 4, 5, 2, 1, 0] rfl (lX5_kinds_L27 qs_F p1 p2 v4 v9 v10 D6)
  · refine qs_aload_n dX5_kinds_11 rfl rfl rfl ?_
    refine qs_iload_n dX5_kinds_12 rfl rfl rfl ?_
    refine qs_cV1i cfX5_36 (Nat.le_of_ble_eq_true rfl) rfl rfl (fun Y hY => kX5_finds  hY) (Nat.le_of_ble_eq_true rfl) dX5_kinds_13 rfl (fun x24 D23 g25 => ?_)
    exact qs_iret rfl dX5_kinds_16
def fX5_draw (D : qs_D) : Option (Int32 × qs_D) := (qs_g (4 : Int32) 70 (qs_g (4 : Int32) 70 (qs_let (qs_u D 1 (4 : Int32).toNatClampNeg (((D 1 (4 : Int32).toNatClampNeg) * (1103515245 : Int32)) + (12345 : Int32))) (fun D2 => (qs_g (4 : Int32) 70 (some ((((D2 1 (4 : Int32).toNatClampNeg).toUInt32 >>> ((8 : Int32).toUInt32 &&& Int32.toUInt32 31)).toInt32), D2)))))))
set_option maxRecDepth 20000 in
theorem kX5_draw {l : Launch} {E : qs_E} {A : Nat → Prop} {D : qs_D} {X : Int32 × qs_D}  (hX : fX5_draw  D = some X) : qs_Ctr l E A shM yX5_draw mX5_draw 0 qs_ri [.ref 0] D X := by
  refine qs_enter (plainFor_of_name (by decide)) rfl (Nat.le_of_ble_eq_true rfl) ?_ hX
  show qs_VO l E A shM mX5_draw 0 qs_ri 0 [(0, .ref 0)] [] D (fX5_draw  D)
  unfold fX5_draw
  refine qs_aload_n dX5_draw_0 rfl rfl rfl ?_
  refine qs_getR ffX5_9 rfl rfl dX5_draw_1 rfl ?_
  refine qs_iconst (4 : Int32) dX5_draw_4 (by decide) rfl ?_
  refine qs_aload_n dX5_draw_5 rfl rfl rfl ?_
  refine qs_getR ffX5_9 rfl rfl dX5_draw_6 rfl ?_
  refine qs_iconst (4 : Int32) dX5_draw_9 (by decide) rfl ?_
  refine qs_iald rfl (by decide) dX5_draw_10 rfl (fun g1 => ?_)
  refine qs_ldc wcX5_162 dX5_draw_11 rfl ?_
  refine qs_imul dX5_draw_13 rfl ?_
  refine qs_sipush (12345 : Int32) dX5_draw_14 (by decide) rfl ?_
  refine qs_iadd dX5_draw_17 rfl ?_
  refine qs_iast rfl (by decide) dX5_draw_18 rfl (fun D2 => ?_)
  refine qs_aload_n dX5_draw_19 rfl rfl rfl ?_
  refine qs_getR ffX5_9 rfl rfl dX5_draw_20 rfl ?_
  refine qs_iconst (4 : Int32) dX5_draw_23 (by decide) rfl ?_
  refine qs_iald rfl (by decide) dX5_draw_24 rfl (fun g3 => ?_)
  refine qs_bipush (8 : Int32) dX5_draw_25 (by decide) rfl ?_
  refine qs_iushr dX5_draw_27 rfl ?_
  exact qs_iret rfl dX5_draw_28
abbrev mX5_service : qs_M := (RX5, cX5_service, 5, (some FieldType.int))
def fX5_service_L39 : Nat → Int32 → Int32 → qs_D → Option (Int32 × qs_D)
  | 0, _, _, _ => none
  | n + 1, w1, w2, D => (if w1 ≤ w2 then (qs_g (3 : Int32) 70 (some ((D 1 (3 : Int32).toNatClampNeg), D))) else (qs_g (0 : Int32) 70 (qs_bind (fX5_draw D) (fun x12 D11 => (qs_g ((6 : Int32) + ((D 1 (0 : Int32).toNatClampNeg) - (D 1 (0 : Int32).toNatClampNeg) / (6 : Int32) * (6 : Int32))) 70 (qs_let (qs_u D11 1 ((6 : Int32) + ((D 1 (0 : Int32).toNatClampNeg) - (D 1 (0 : Int32).toNatClampNeg) / (6 : Int32) * (6 : Int32))).toNatClampNeg (x12 - x12 / (12 : Int32) * (12 : Int32))) (fun D14 => (qs_bind (fX5_draw D14) (fun x16 D15 => (qs_let (x16 - x16 / (8 : Int32) * (8 : Int32)) (fun v18 => (qs_bind (fX5_goes D15) (fun x20 D19 => (qs_bind (fX5_isDish v18 D19) (fun x23 D22 => (if x23 = 0 then (qs_let (0 : Int32) (fun v26 => (qs_let (w2 + (1 : Int32)) (fun v27 => (fX5_service_L39 n w1 v27 D22))))) else (qs_bind (fX5_it v18 (4 : Int32) D22) (fun x29 D28 => (if x29 = 0 then (qs_bind (fX5_serves v18 D28) (fun x35 D34 => (qs_let x35 (fun v37 => (qs_let (w2 + (1 : Int32)) (fun v38 => (fX5_service_L39 n w1 v38 D34))))))) else (qs_let (0 : Int32) (fun v32 => (qs_let (w2 + (1 : Int32)) (fun v33 => (fX5_service_L39 n w1 v33 D28))))))))))))))))))))))))
set_option maxRecDepth 20000 in
theorem lX5_service_L39 {l : Launch} {E : qs_E} {A : Nat → Prop}  : ∀ (n : Nat) (w1 : Int32) (w2 : Int32) (D : qs_D), qs_VO l E A shM mX5_service 4 qs_ri 39 [(0, .ref 0), (1, .int w1), (2, .int w2)] [] D (fX5_service_L39 n w1 w2 D) := by
  intro n
  induction n with
  | zero => intro w1 w2 D; exact qs_none
  | succ n ih =>
    intro w1 w2 D
    unfold fX5_service_L39
    refine qs_iload_n dX5_service_39 rfl rfl rfl ?_
    refine qs_iload_n dX5_service_40 rfl rfl rfl ?_
    refine qs_icmp_ge (tgt := 114) dX5_service_41 (by decide) rfl (fun g8 => ?_) (fun g8 => ?_)
    · refine qs_aload_n dX5_service_114 rfl rfl rfl ?_
      refine qs_getR ffX5_9 rfl rfl dX5_service_115 rfl ?_
      refine qs_iconst (3 : Int32) dX5_service_118 (by decide) rfl ?_
      refine qs_iald rfl (by decide) dX5_service_119 rfl (fun g9 => ?_)
      exact qs_iret rfl dX5_service_120
    · refine qs_aload_n dX5_service_44 rfl rfl rfl ?_
      refine qs_getR ffX5_9 rfl rfl dX5_service_45 rfl ?_
      refine qs_bipush (6 : Int32) dX5_service_48 (by decide) rfl ?_
      refine qs_aload_n dX5_service_50 rfl rfl rfl ?_
      refine qs_getR ffX5_9 rfl rfl dX5_service_51 rfl ?_
      refine qs_iconst (0 : Int32) dX5_service_54 (by decide) rfl ?_
      refine qs_iald rfl (by decide) dX5_service_55 rfl (fun g10 => ?_)
      refine qs_bipush (6 : Int32) dX5_service_56 (by decide) rfl ?_
      refine qs_irem dX5_service_58 (by decide) rfl ?_
      refine qs_iadd dX5_service_59 rfl ?_
      refine qs_aload_n dX5_service_60 rfl rfl rfl ?_
      refine qs_cV0i cfX5_163 (Nat.le_of_ble_eq_true rfl) rfl rfl (fun Y hY => kX5_draw  hY) (Nat.le_of_ble_eq_true rfl) dX5_service_61 rfl (fun x12 D11 g13 => ?_)
      refine qs_bipush (12 : Int32) dX5_service_64 (by decide) rfl ?_
      refine qs_irem dX5_service_66 (by decide) rfl ?_
      refine qs_iast rfl (by decide) dX5_service_67 rfl (fun D14 => ?_)
      refine qs_aload_n dX5_service_68 rfl rfl rfl ?_
      refine qs_cV0i cfX5_163 (Nat.le_of_ble_eq_true rfl) rfl rfl (fun Y hY => kX5_draw  hY) (Nat.le_of_ble_eq_true rfl) dX5_service_69 rfl (fun x16 D15 g17 => ?_)
      refine qs_bipush (8 : Int32) dX5_service_72 (by decide) rfl ?_
      refine qs_irem dX5_service_74 (by decide) rfl ?_
      refine qs_istore_n (fun v18 => [(3, .int v18), (0, .ref 0), (1, .int w1), (2, .int w2)]) dX5_service_75 rfl (by decide) (fun _ => rfl) rfl (fun v18 => ?_)
      refine qs_aload_n dX5_service_76 rfl rfl rfl ?_
      refine qs_cV0v cfX5_111 (Nat.le_of_ble_eq_true rfl) rfl rfl (fun Y hY => kX5_goes  hY) (Nat.le_of_ble_eq_true rfl) dX5_service_77 rfl (fun x20 D19 g21 => ?_)
      refine qs_aload_n dX5_service_80 rfl rfl rfl ?_
      refine qs_iload_n dX5_service_81 rfl rfl rfl ?_
      refine qs_cV1i cfX5_68 (Nat.le_of_ble_eq_true rfl) rfl rfl (fun Y hY => kX5_isDish  hY) (Nat.le_of_ble_eq_true rfl) dX5_service_82 rfl (fun x23 D22 g24 => ?_)
      refine qs_if_eq (tgt := 105) dX5_service_85 (by decide) rfl (fun g25 => ?_) (fun g25 => ?_)
      · refine qs_iconst (0 : Int32) dX5_service_105 (by decide) rfl ?_
        refine qs_istore (fun v26 => [(4, .int v26), (3, .int v18), (0, .ref 0), (1, .int w1), (2, .int w2)]) dX5_service_106 (by decide) (fun _ => rfl) rfl (fun v26 => ?_)
        refine qs_iinc (fun v27 => [(2, .int v27), (4, .int v26), (3, .int v18), (0, .ref 0), (1, .int w1)]) (1 : Int32) dX5_service_108 rfl (by decide) (by decide) (fun _ => rfl) rfl (fun v27 => ?_)
        refine qs_goto (tgt := 39) dX5_service_111 (by decide) ?_
        exact qs_sub [3, 4, 0] rfl (ih w1 v27 D22)
      · refine qs_aload_n dX5_service_88 rfl rfl rfl ?_
        refine qs_iload_n dX5_service_89 rfl rfl rfl ?_
        refine qs_iconst (4 : Int32) dX5_service_90 (by decide) rfl ?_
        refine qs_cV2i cfX5_44 (Nat.le_of_ble_eq_true rfl) rfl rfl (fun Y hY => kX5_it  hY) (Nat.le_of_ble_eq_true rfl) dX5_service_91 rfl (fun x29 D28 g30 => ?_)
        refine qs_if_ne (tgt := 105) dX5_service_94 (by decide) rfl (fun g31 => ?_) (fun g31 => ?_)
        · refine qs_aload_n dX5_service_97 rfl rfl rfl ?_
          refine qs_iload_n dX5_service_98 rfl rfl rfl ?_
          refine qs_cV1i cfX5_95 (Nat.le_of_ble_eq_true rfl) rfl rfl (fun Y hY => kX5_serves  hY) (Nat.le_of_ble_eq_true rfl) dX5_service_99 rfl (fun x35 D34 g36 => ?_)
          refine qs_goto (tgt := 106) dX5_service_102 (by decide) ?_
          refine qs_istore (fun v37 => [(4, .int v37), (3, .int v18), (0, .ref 0), (1, .int w1), (2, .int w2)]) dX5_service_106 (by decide) (fun _ => rfl) rfl (fun v37 => ?_)
          refine qs_iinc (fun v38 => [(2, .int v38), (4, .int v37), (3, .int v18), (0, .ref 0), (1, .int w1)]) (1 : Int32) dX5_service_108 rfl (by decide) (by decide) (fun _ => rfl) rfl (fun v38 => ?_)
          refine qs_goto (tgt := 39) dX5_service_111 (by decide) ?_
          exact qs_sub [3, 4, 0] rfl (ih w1 v38 D34)
        · refine qs_iconst (0 : Int32) dX5_service_105 (by decide) rfl ?_
          refine qs_istore (fun v32 => [(4, .int v32), (3, .int v18), (0, .ref 0), (1, .int w1), (2, .int w2)]) dX5_service_106 (by decide) (fun _ => rfl) rfl (fun v32 => ?_)
          refine qs_iinc (fun v33 => [(2, .int v33), (4, .int v32), (3, .int v18), (0, .ref 0), (1, .int w1)]) (1 : Int32) dX5_service_108 rfl (by decide) (by decide) (fun _ => rfl) rfl (fun v33 => ?_)
          refine qs_goto (tgt := 39) dX5_service_111 (by decide) ?_
          exact qs_sub [3, 4, 0] rfl (ih w1 v33 D28)
def fX5_service (p1 : Int32) (D : qs_D) : Option (Int32 × qs_D) := (qs_bind (fX5_in p1 (1 : Int32) (20 : Int32) D) (fun x2 D1 => (if x2 = 0 then (qs_bind (fX5_finds (-1000001 : Int32) D1) (fun x43 D42 => (some (x43, D42)))) else (qs_g (0 : Int32) 70 (if ((D1 1 (0 : Int32).toNatClampNeg) + p1) ≤ (99999 : Int32) then (qs_let (0 : Int32) (fun v7 => (fX5_service_L39 qs_F p1 v7 D1))) else (qs_bind (fX5_finds (-1000005 : Int32) D1) (fun x40 D39 => (some (x40, D39)))))))))
set_option maxRecDepth 20000 in
theorem kX5_service {l : Launch} {E : qs_E} {A : Nat → Prop} {p1 : Int32} {D : qs_D} {X : Int32 × qs_D}  (hX : fX5_service p1 D = some X) : qs_Ctr l E A shM yX5_service mX5_service 4 qs_ri [.ref 0, .int p1] D X := by
  refine qs_enter (plainFor_of_name (by decide)) rfl (Nat.le_of_ble_eq_true rfl) ?_ hX
  show qs_VO l E A shM mX5_service 4 qs_ri 0 [(0, .ref 0), (1, .int p1)] [] D (fX5_service p1 D)
  unfold fX5_service
  refine qs_iload_n dX5_service_0 rfl rfl rfl ?_
  refine qs_iconst (1 : Int32) dX5_service_1 (by decide) rfl ?_
  refine qs_bipush (20 : Int32) dX5_service_2 (by decide) rfl ?_
  refine qs_cS3i cfX5_40 (Nat.le_of_ble_eq_true rfl) (fun Y hY => kX5_in  hY) (Nat.le_of_ble_eq_true rfl) dX5_service_4 rfl (fun x2 D1 g3 => ?_)
  refine qs_if_ne (tgt := 17) dX5_service_7 (by decide) rfl (fun g4 => ?_) (fun g4 => ?_)
  · refine qs_aload_n dX5_service_10 rfl rfl rfl ?_
    refine qs_ldc wcX5_34 dX5_service_11 rfl ?_
    refine qs_cV1i cfX5_36 (Nat.le_of_ble_eq_true rfl) rfl rfl (fun Y hY => kX5_finds  hY) (Nat.le_of_ble_eq_true rfl) dX5_service_13 rfl (fun x43 D42 g44 => ?_)
    exact qs_iret rfl dX5_service_16
  · refine qs_aload_n dX5_service_17 rfl rfl rfl ?_
    refine qs_getR ffX5_9 rfl rfl dX5_service_18 rfl ?_
    refine qs_iconst (0 : Int32) dX5_service_21 (by decide) rfl ?_
    refine qs_iald rfl (by decide) dX5_service_22 rfl (fun g5 => ?_)
    refine qs_iload_n dX5_service_23 rfl rfl rfl ?_
    refine qs_iadd dX5_service_24 rfl ?_
    refine qs_ldc wcX5_89 dX5_service_25 rfl ?_
    refine qs_icmp_le (tgt := 37) dX5_service_27 (by decide) rfl (fun g6 => ?_) (fun g6 => ?_)
    · refine qs_iconst (0 : Int32) dX5_service_37 (by decide) rfl ?_
      refine qs_istore_n (fun v7 => [(2, .int v7), (0, .ref 0), (1, .int p1)]) dX5_service_38 rfl (by decide) (fun _ => rfl) rfl (fun v7 => ?_)
      exact qs_sub [1, 2, 0] rfl (lX5_service_L39 qs_F p1 v7 D1)
    · refine qs_aload_n dX5_service_30 rfl rfl rfl ?_
      refine qs_ldc wcX5_94 dX5_service_31 rfl ?_
      refine qs_cV1i cfX5_36 (Nat.le_of_ble_eq_true rfl) rfl rfl (fun Y hY => kX5_finds  hY) (Nat.le_of_ble_eq_true rfl) dX5_service_33 rfl (fun x40 D39 g41 => ?_)
      exact qs_iret rfl dX5_service_36
abbrev mX5_odds : qs_M := (RX5, cX5_odds, 9, (some FieldType.long))
def fX5_odds_L147 : Nat → Int32 → Int32 → Int32 → Int32 → Int32 → Int64 → Int32 → qs_D → Option (Int64 × qs_D)
  | 0, _, _, _, _, _, _, _, _ => none
  | n + 1, w1, w2, w3, w4, w5, w6, w8, D => (if w2 ≤ w8 then (some (w6, D)) else (if w3 = 0 then (qs_let (w6 * w4.toInt64) (fun v31 => (qs_let (w8 + (1 : Int32)) (fun v32 => (fX5_odds_L147 n w1 w2 w3 w4 w5 v31 v32 D))))) else (qs_let (w6 * w5.toInt64) (fun v29 => (qs_let (w8 + (1 : Int32)) (fun v30 => (fX5_odds_L147 n w1 w2 w3 w4 w5 v29 v30 D)))))))
set_option maxRecDepth 20000 in
theorem lX5_odds_L147 {l : Launch} {E : qs_E} {A : Nat → Prop}  : ∀ (n : Nat) (w1 : Int32) (w2 : Int32) (w3 : Int32) (w4 : Int32) (w5 : Int32) (w6 : Int64) (w8 : Int32) (D : qs_D), qs_VO l E A shM mX5_odds 2 qs_rl 147 [(0, .ref 0), (1, .int w1), (2, .int w2), (3, .int w3), (4, .int w4), (5, .int w5), (6, .long w6), (8, .int w8)] [] D (fX5_odds_L147 n w1 w2 w3 w4 w5 w6 w8 D) := by
  intro n
  induction n with
  | zero => intro w1 w2 w3 w4 w5 w6 w8 D; exact qs_none
  | succ n ih =>
    intro w1 w2 w3 w4 w5 w6 w8 D
    unfold fX5_odds_L147
    refine qs_iload dX5_odds_147 rfl rfl ?_
    refine qs_iload_n dX5_odds_149 rfl rfl rfl ?_
    refine qs_icmp_ge (tgt := 177) dX5_odds_150 (by decide) rfl (fun g27 => ?_) (fun g27 => ?_)
    · refine qs_lload dX5_odds_177 rfl rfl ?_
      exact qs_lret rfl dX5_odds_179
    · refine qs_lload dX5_odds_153 rfl rfl ?_
      refine qs_iload_n dX5_odds_155 rfl rfl rfl ?_
      refine qs_if_ne (tgt := 165) dX5_odds_156 (by decide) rfl (fun g28 => ?_) (fun g28 => ?_)
      · refine qs_iload dX5_odds_159 rfl rfl ?_
        refine qs_i2l dX5_odds_161 rfl ?_
        refine qs_goto (tgt := 168) dX5_odds_162 (by decide) ?_
        refine qs_lmul dX5_odds_168 rfl ?_
        refine qs_lstore (fun v31 => [(6, .long v31), (0, .ref 0), (1, .int w1), (2, .int w2), (3, .int w3), (4, .int w4), (5, .int w5), (8, .int w8)]) dX5_odds_169 (by decide) (fun _ => rfl) rfl (fun v31 => ?_)
        refine qs_iinc (fun v32 => [(8, .int v32), (6, .long v31), (0, .ref 0), (1, .int w1), (2, .int w2), (3, .int w3), (4, .int w4), (5, .int w5)]) (1 : Int32) dX5_odds_171 rfl (by decide) (by decide) (fun _ => rfl) rfl (fun v32 => ?_)
        refine qs_goto (tgt := 147) dX5_odds_174 (by decide) ?_
        exact qs_sub [2, 3, 4, 5, 6, 7, 1, 0] rfl (ih w1 w2 w3 w4 w5 v31 v32 D)
      · refine qs_iload dX5_odds_165 rfl rfl ?_
        refine qs_i2l dX5_odds_167 rfl ?_
        refine qs_lmul dX5_odds_168 rfl ?_
        refine qs_lstore (fun v29 => [(6, .long v29), (0, .ref 0), (1, .int w1), (2, .int w2), (3, .int w3), (4, .int w4), (5, .int w5), (8, .int w8)]) dX5_odds_169 (by decide) (fun _ => rfl) rfl (fun v29 => ?_)
        refine qs_iinc (fun v30 => [(8, .int v30), (6, .long v29), (0, .ref 0), (1, .int w1), (2, .int w2), (3, .int w3), (4, .int w4), (5, .int w5)]) (1 : Int32) dX5_odds_171 rfl (by decide) (by decide) (fun _ => rfl) rfl (fun v30 => ?_)
        refine qs_goto (tgt := 147) dX5_odds_174 (by decide) ?_
        exact qs_sub [2, 3, 4, 5, 6, 7, 1, 0] rfl (ih w1 w2 w3 w4 w5 v29 v30 D)
def fX5_odds_L99 : Nat → Int32 → Int32 → Int32 → Int32 → Int32 → Int32 → qs_D → Option (Int64 × qs_D)
  | 0, _, _, _, _, _, _, _ => none
  | n + 1, w1, w2, w3, w4, w5, w6, D => (if w6 ≤ (1 : Int32) then (qs_let (1 : Int64) (fun v25 => (qs_let (0 : Int32) (fun v26 => (fX5_odds_L147 qs_F w1 w2 w3 w4 w5 v25 v26 D))))) else (qs_gz w6 (if (w4 - w4 / w6 * w6) = 0 then (qs_gz w6 (if (w5 - w5 / w6 * w6) = 0 then (qs_gz w6 (qs_let (w4 / w6) (fun v40 => (qs_gz w6 (qs_let (w5 / w6) (fun v42 => (qs_let (w6 + (-1 : Int32)) (fun v43 => (fX5_odds_L99 n w1 w2 w3 v40 v42 v43 D))))))))) else (qs_let (w6 + (-1 : Int32)) (fun v38 => (fX5_odds_L99 n w1 w2 w3 w4 w5 v38 D))))) else (qs_let (w6 + (-1 : Int32)) (fun v35 => (fX5_odds_L99 n w1 w2 w3 w4 w5 v35 D))))))
set_option maxRecDepth 20000 in
theorem lX5_odds_L99 {l : Launch} {E : qs_E} {A : Nat → Prop}  : ∀ (n : Nat) (w1 : Int32) (w2 : Int32) (w3 : Int32) (w4 : Int32) (w5 : Int32) (w6 : Int32) (D : qs_D), qs_VO l E A shM mX5_odds 2 qs_rl 99 [(0, .ref 0), (1, .int w1), (2, .int w2), (3, .int w3), (4, .int w4), (5, .int w5), (6, .int w6)] [] D (fX5_odds_L99 n w1 w2 w3 w4 w5 w6 D) := by
  intro n
  induction n with
  | zero => intro w1 w2 w3 w4 w5 w6 D; exact qs_none
  | succ n ih =>
    intro w1 w2 w3 w4 w5 w6 D
    unfold fX5_odds_L99
    refine qs_iload dX5_odds_99 rfl rfl ?_
    refine qs_iconst (1 : Int32) dX5_odds_101 (by decide) rfl ?_
    refine qs_icmp_le (tgt := 141) dX5_odds_102 (by decide) rfl (fun g24 => ?_) (fun g24 => ?_)
    · refine qs_lconst (1 : Int64) dX5_odds_141 (by decide) rfl ?_
      refine qs_lstore (fun v25 => [(6, .long v25), (0, .ref 0), (1, .int w1), (2, .int w2), (3, .int w3), (4, .int w4), (5, .int w5)]) dX5_odds_142 (by decide) (fun _ => rfl) rfl (fun v25 => ?_)
      refine qs_iconst (0 : Int32) dX5_odds_144 (by decide) rfl ?_
      refine qs_istore (fun v26 => [(8, .int v26), (6, .long v25), (0, .ref 0), (1, .int w1), (2, .int w2), (3, .int w3), (4, .int w4), (5, .int w5)]) dX5_odds_145 (by decide) (fun _ => rfl) rfl (fun v26 => ?_)
      exact qs_sub [2, 3, 4, 5, 6, 7, 1, 0] rfl (lX5_odds_L147 qs_F w1 w2 w3 w4 w5 v25 v26 D)
    · refine qs_iload dX5_odds_105 rfl rfl ?_
      refine qs_iload dX5_odds_107 rfl rfl ?_
      refine qs_iremz dX5_odds_109 rfl (fun g33 => ?_)
      refine qs_if_ne (tgt := 135) dX5_odds_110 (by decide) rfl (fun g34 => ?_) (fun g34 => ?_)
      · refine qs_iload dX5_odds_113 rfl rfl ?_
        refine qs_iload dX5_odds_115 rfl rfl ?_
        refine qs_iremz dX5_odds_117 rfl (fun g36 => ?_)
        refine qs_if_ne (tgt := 135) dX5_odds_118 (by decide) rfl (fun g37 => ?_) (fun g37 => ?_)
        · refine qs_iload dX5_odds_121 rfl rfl ?_
          refine qs_iload dX5_odds_123 rfl rfl ?_
          refine qs_idivz dX5_odds_125 rfl (fun g39 => ?_)
          refine qs_istore (fun v40 => [(4, .int v40), (0, .ref 0), (1, .int w1), (2, .int w2), (3, .int w3), (5, .int w5), (6, .int w6)]) dX5_odds_126 (by decide) (fun _ => rfl) rfl (fun v40 => ?_)
          refine qs_iload dX5_odds_128 rfl rfl ?_
          refine qs_iload dX5_odds_130 rfl rfl ?_
          refine qs_idivz dX5_odds_132 rfl (fun g41 => ?_)
          refine qs_istore (fun v42 => [(5, .int v42), (4, .int v40), (0, .ref 0), (1, .int w1), (2, .int w2), (3, .int w3), (6, .int w6)]) dX5_odds_133 (by decide) (fun _ => rfl) rfl (fun v42 => ?_)
          refine qs_iinc (fun v43 => [(6, .int v43), (5, .int v42), (4, .int v40), (0, .ref 0), (1, .int w1), (2, .int w2), (3, .int w3)]) (-1 : Int32) dX5_odds_135 rfl (by decide) (by decide) (fun _ => rfl) rfl (fun v43 => ?_)
          refine qs_goto (tgt := 99) dX5_odds_138 (by decide) ?_
          exact qs_sub [3, 4, 5, 6, 2, 1, 0] rfl (ih w1 w2 w3 v40 v42 v43 D)
        · refine qs_iinc (fun v38 => [(6, .int v38), (0, .ref 0), (1, .int w1), (2, .int w2), (3, .int w3), (4, .int w4), (5, .int w5)]) (-1 : Int32) dX5_odds_135 rfl (by decide) (by decide) (fun _ => rfl) rfl (fun v38 => ?_)
          refine qs_goto (tgt := 99) dX5_odds_138 (by decide) ?_
          exact qs_sub [1, 2, 3, 4, 5, 6, 0] rfl (ih w1 w2 w3 w4 w5 v38 D)
      · refine qs_iinc (fun v35 => [(6, .int v35), (0, .ref 0), (1, .int w1), (2, .int w2), (3, .int w3), (4, .int w4), (5, .int w5)]) (-1 : Int32) dX5_odds_135 rfl (by decide) (by decide) (fun _ => rfl) rfl (fun v35 => ?_)
        refine qs_goto (tgt := 99) dX5_odds_138 (by decide) ?_
        exact qs_sub [1, 2, 3, 4, 5, 6, 0] rfl (ih w1 w2 w3 w4 w5 v35 D)
def fX5_odds_L41 : Nat → Int32 → Int32 → Int32 → Int32 → Int32 → qs_D → Option (Int64 × qs_D)
  | 0, _, _, _, _, _, _ => none
  | n + 1, w1, w2, w3, w4, w5, D => (if (12 : Int32) ≤ w5 then (qs_let (12 : Int32) (fun v22 => (qs_let (12 : Int32) (fun v23 => (fX5_odds_L99 qs_F w1 w2 w3 w4 v22 v23 D))))) else (qs_g (1 : Int32) 70 (qs_g w5 12 (qs_bind (fX5_held ((D 1 (1 : Int32).toNatClampNeg) + ((qs_tab 2).getD w5.toNatClampNeg 0)) (0 : Int32) (99 : Int32) D) (fun x47 D46 => (qs_bind (fX5_needs w1 D46) (fun x50 D49 => (if x47 < x50 then (qs_let (w4 + (0 : Int32)) (fun v53 => (qs_let (w5 + (1 : Int32)) (fun v54 => (fX5_odds_L41 n w1 w2 w3 v53 v54 D49))))) else (qs_let (w4 + (1 : Int32)) (fun v55 => (qs_let (w5 + (1 : Int32)) (fun v56 => (fX5_odds_L41 n w1 w2 w3 v55 v56 D49)))))))))))))
set_option maxRecDepth 20000 in
theorem lX5_odds_L41 {l : Launch} {E : qs_E} {A : Nat → Prop}  : ∀ (n : Nat) (w1 : Int32) (w2 : Int32) (w3 : Int32) (w4 : Int32) (w5 : Int32) (D : qs_D), qs_VO l E A shM mX5_odds 2 qs_rl 41 [(0, .ref 0), (1, .int w1), (2, .int w2), (3, .int w3), (4, .int w4), (5, .int w5)] [] D (fX5_odds_L41 n w1 w2 w3 w4 w5 D) := by
  intro n
  induction n with
  | zero => intro w1 w2 w3 w4 w5 D; exact qs_none
  | succ n ih =>
    intro w1 w2 w3 w4 w5 D
    unfold fX5_odds_L41
    refine qs_iload dX5_odds_41 rfl rfl ?_
    refine qs_bipush (12 : Int32) dX5_odds_43 (by decide) rfl ?_
    refine qs_icmp_ge (tgt := 91) dX5_odds_45 (by decide) rfl (fun g21 => ?_) (fun g21 => ?_)
    · refine qs_bipush (12 : Int32) dX5_odds_91 (by decide) rfl ?_
      refine qs_istore (fun v22 => [(5, .int v22), (0, .ref 0), (1, .int w1), (2, .int w2), (3, .int w3), (4, .int w4)]) dX5_odds_93 (by decide) (fun _ => rfl) rfl (fun v22 => ?_)
      refine qs_bipush (12 : Int32) dX5_odds_95 (by decide) rfl ?_
      refine qs_istore (fun v23 => [(6, .int v23), (5, .int v22), (0, .ref 0), (1, .int w1), (2, .int w2), (3, .int w3), (4, .int w4)]) dX5_odds_97 (by decide) (fun _ => rfl) rfl (fun v23 => ?_)
      exact qs_sub [2, 3, 4, 5, 6, 1, 0] rfl (lX5_odds_L99 qs_F w1 w2 w3 w4 v22 v23 D)
    · refine qs_iload dX5_odds_48 rfl rfl ?_
      refine qs_aload_n dX5_odds_50 rfl rfl rfl ?_
      refine qs_getR ffX5_9 rfl rfl dX5_odds_51 rfl ?_
      refine qs_iconst (1 : Int32) dX5_odds_54 (by decide) rfl ?_
      refine qs_iald rfl (by decide) dX5_odds_55 rfl (fun g44 => ?_)
      refine qs_gets (t := 2) rfl wgX5_98 dX5_odds_56 rfl ?_
      refine qs_iload dX5_odds_59 rfl rfl ?_
      refine qs_ialdT (t := 2) rfl (by decide) dX5_odds_61 rfl (fun g45 => ?_)
      refine qs_iadd dX5_odds_62 rfl ?_
      refine qs_iconst (0 : Int32) dX5_odds_63 (by decide) rfl ?_
      refine qs_bipush (99 : Int32) dX5_odds_64 (by decide) rfl ?_
      refine qs_cS3i cfX5_90 (Nat.le_of_ble_eq_true rfl) (fun Y hY => kX5_held  hY) (Nat.le_of_ble_eq_true rfl) dX5_odds_66 rfl (fun x47 D46 g48 => ?_)
      refine qs_aload_n dX5_odds_69 rfl rfl rfl ?_
      refine qs_iload_n dX5_odds_70 rfl rfl rfl ?_
      refine qs_cV1i cfX5_71 (Nat.le_of_ble_eq_true rfl) rfl rfl (fun Y hY => kX5_needs  hY) (Nat.le_of_ble_eq_true rfl) dX5_odds_71 rfl (fun x50 D49 g51 => ?_)
      refine qs_icmp_lt (tgt := 81) dX5_odds_74 (by decide) rfl (fun g52 => ?_) (fun g52 => ?_)
      · refine qs_iconst (0 : Int32) dX5_odds_81 (by decide) rfl ?_
        refine qs_iadd dX5_odds_82 rfl ?_
        refine qs_istore (fun v53 => [(4, .int v53), (0, .ref 0), (1, .int w1), (2, .int w2), (3, .int w3), (5, .int w5)]) dX5_odds_83 (by decide) (fun _ => rfl) rfl (fun v53 => ?_)
        refine qs_iinc (fun v54 => [(5, .int v54), (4, .int v53), (0, .ref 0), (1, .int w1), (2, .int w2), (3, .int w3)]) (1 : Int32) dX5_odds_85 rfl (by decide) (by decide) (fun _ => rfl) rfl (fun v54 => ?_)
        refine qs_goto (tgt := 41) dX5_odds_88 (by decide) ?_
        exact qs_sub [2, 3, 4, 5, 1, 0] rfl (ih w1 w2 w3 v53 v54 D49)
      · refine qs_iconst (1 : Int32) dX5_odds_77 (by decide) rfl ?_
        refine qs_goto (tgt := 82) dX5_odds_78 (by decide) ?_
        refine qs_iadd dX5_odds_82 rfl ?_
        refine qs_istore (fun v55 => [(4, .int v55), (0, .ref 0), (1, .int w1), (2, .int w2), (3, .int w3), (5, .int w5)]) dX5_odds_83 (by decide) (fun _ => rfl) rfl (fun v55 => ?_)
        refine qs_iinc (fun v56 => [(5, .int v56), (4, .int v55), (0, .ref 0), (1, .int w1), (2, .int w2), (3, .int w3)]) (1 : Int32) dX5_odds_85 rfl (by decide) (by decide) (fun _ => rfl) rfl (fun v56 => ?_)
        refine qs_goto (tgt := 41) dX5_odds_88 (by decide) ?_
        exact qs_sub [2, 3, 4, 5, 1, 0] rfl (ih w1 w2 w3 v55 v56 D49)
def fX5_odds (p1 : Int32) (p2 : Int32) (p3 : Int32) (D : qs_D) : Option (Int64 × qs_D) := (qs_bind (fX5_isDish p1 D) (fun x2 D1 => (if x2 = 0 then (qs_bind (fX5_finds (-1000001 : Int32) D1) (fun x6 D5 => (some (x6.toInt64, D5)))) else (qs_bind (fX5_in p2 (0 : Int32) (17 : Int32) D1) (fun x9 D8 => (if x9 = 0 then (qs_bind (fX5_finds (-1000001 : Int32) D8) (fun x13 D12 => (some (x13.toInt64, D12)))) else (qs_bind (fX5_in p3 (0 : Int32) (1 : Int32) D8) (fun x16 D15 => (if x16 = 0 then (qs_bind (fX5_finds (-1000001 : Int32) D15) (fun x58 D57 => (some (x58.toInt64, D57)))) else (qs_let (0 : Int32) (fun v19 => (qs_let (0 : Int32) (fun v20 => (fX5_odds_L41 qs_F p1 p2 p3 v19 v20 D15))))))))))))))
set_option maxRecDepth 20000 in
theorem kX5_odds {l : Launch} {E : qs_E} {A : Nat → Prop} {p1 : Int32} {p2 : Int32} {p3 : Int32} {D : qs_D} {X : Int64 × qs_D}  (hX : fX5_odds p1 p2 p3 D = some X) : qs_Ctr l E A shM yX5_odds mX5_odds 2 qs_rl [.ref 0, .int p1, .int p2, .int p3] D X := by
  refine qs_enter (plainFor_of_name (by decide)) rfl (Nat.le_of_ble_eq_true rfl) ?_ hX
  show qs_VO l E A shM mX5_odds 2 qs_rl 0 [(0, .ref 0), (1, .int p1), (2, .int p2), (3, .int p3)] [] D (fX5_odds p1 p2 p3 D)
  unfold fX5_odds
  refine qs_aload_n dX5_odds_0 rfl rfl rfl ?_
  refine qs_iload_n dX5_odds_1 rfl rfl rfl ?_
  refine qs_cV1i cfX5_68 (Nat.le_of_ble_eq_true rfl) rfl rfl (fun Y hY => kX5_isDish  hY) (Nat.le_of_ble_eq_true rfl) dX5_odds_2 rfl (fun x2 D1 g3 => ?_)
  refine qs_if_eq (tgt := 27) dX5_odds_5 (by decide) rfl (fun g4 => ?_) (fun g4 => ?_)
  · refine qs_aload_n dX5_odds_27 rfl rfl rfl ?_
    refine qs_ldc wcX5_34 dX5_odds_28 rfl ?_
    refine qs_cV1i cfX5_36 (Nat.le_of_ble_eq_true rfl) rfl rfl (fun Y hY => kX5_finds  hY) (Nat.le_of_ble_eq_true rfl) dX5_odds_30 rfl (fun x6 D5 g7 => ?_)
    refine qs_i2l dX5_odds_33 rfl ?_
    exact qs_lret rfl dX5_odds_34
  · refine qs_iload_n dX5_odds_8 rfl rfl rfl ?_
    refine qs_iconst (0 : Int32) dX5_odds_9 (by decide) rfl ?_
    refine qs_bipush (17 : Int32) dX5_odds_10 (by decide) rfl ?_
    refine qs_cS3i cfX5_40 (Nat.le_of_ble_eq_true rfl) (fun Y hY => kX5_in  hY) (Nat.le_of_ble_eq_true rfl) dX5_odds_12 rfl (fun x9 D8 g10 => ?_)
    refine qs_if_eq (tgt := 27) dX5_odds_15 (by decide) rfl (fun g11 => ?_) (fun g11 => ?_)
    · refine qs_aload_n dX5_odds_27 rfl rfl rfl ?_
      refine qs_ldc wcX5_34 dX5_odds_28 rfl ?_
      refine qs_cV1i cfX5_36 (Nat.le_of_ble_eq_true rfl) rfl rfl (fun Y hY => kX5_finds  hY) (Nat.le_of_ble_eq_true rfl) dX5_odds_30 rfl (fun x13 D12 g14 => ?_)
      refine qs_i2l dX5_odds_33 rfl ?_
      exact qs_lret rfl dX5_odds_34
    · refine qs_iload_n dX5_odds_18 rfl rfl rfl ?_
      refine qs_iconst (0 : Int32) dX5_odds_19 (by decide) rfl ?_
      refine qs_iconst (1 : Int32) dX5_odds_20 (by decide) rfl ?_
      refine qs_cS3i cfX5_40 (Nat.le_of_ble_eq_true rfl) (fun Y hY => kX5_in  hY) (Nat.le_of_ble_eq_true rfl) dX5_odds_21 rfl (fun x16 D15 g17 => ?_)
      refine qs_if_ne (tgt := 35) dX5_odds_24 (by decide) rfl (fun g18 => ?_) (fun g18 => ?_)
      · refine qs_aload_n dX5_odds_27 rfl rfl rfl ?_
        refine qs_ldc wcX5_34 dX5_odds_28 rfl ?_
        refine qs_cV1i cfX5_36 (Nat.le_of_ble_eq_true rfl) rfl rfl (fun Y hY => kX5_finds  hY) (Nat.le_of_ble_eq_true rfl) dX5_odds_30 rfl (fun x58 D57 g59 => ?_)
        refine qs_i2l dX5_odds_33 rfl ?_
        exact qs_lret rfl dX5_odds_34
      · refine qs_iconst (0 : Int32) dX5_odds_35 (by decide) rfl ?_
        refine qs_istore (fun v19 => [(4, .int v19), (0, .ref 0), (1, .int p1), (2, .int p2), (3, .int p3)]) dX5_odds_36 (by decide) (fun _ => rfl) rfl (fun v19 => ?_)
        refine qs_iconst (0 : Int32) dX5_odds_38 (by decide) rfl ?_
        refine qs_istore (fun v20 => [(5, .int v20), (4, .int v19), (0, .ref 0), (1, .int p1), (2, .int p2), (3, .int p3)]) dX5_odds_39 (by decide) (fun _ => rfl) rfl (fun v20 => ?_)
        exact qs_sub [2, 3, 4, 5, 1, 0] rfl (lX5_odds_L41 qs_F p1 p2 p3 v19 v20 D15)
abbrev mX5_seed : qs_M := (RX5, cX5_seed, 2, (some FieldType.int))
def fX5_seed (p1 : Int32) (D : qs_D) : Option (Int32 × qs_D) := (qs_bind (fX5_becomes (4 : Int32) p1 D) (fun x2 D1 => (some (x2, D1))))
set_option maxRecDepth 20000 in
theorem kX5_seed {l : Launch} {E : qs_E} {A : Nat → Prop} {p1 : Int32} {D : qs_D} {X : Int32 × qs_D}  (hX : fX5_seed p1 D = some X) : qs_Ctr l E A shM yX5_seed mX5_seed 1 qs_ri [.ref 0, .int p1] D X := by
  refine qs_enter (plainFor_of_name (by decide)) rfl (Nat.le_of_ble_eq_true rfl) ?_ hX
  show qs_VO l E A shM mX5_seed 1 qs_ri 0 [(0, .ref 0), (1, .int p1)] [] D (fX5_seed p1 D)
  unfold fX5_seed
  refine qs_aload_n dX5_seed_0 rfl rfl rfl ?_
  refine qs_iconst (4 : Int32) dX5_seed_1 (by decide) rfl ?_
  refine qs_iload_n dX5_seed_2 rfl rfl rfl ?_
  refine qs_cV2i cfX5_52 (Nat.le_of_ble_eq_true rfl) rfl rfl (fun Y hY => kX5_becomes  hY) (Nat.le_of_ble_eq_true rfl) dX5_seed_3 rfl (fun x2 D1 g3 => ?_)
  exact qs_iret rfl dX5_seed_6
abbrev mX5_feed : qs_M := (RX5, cX5_feed, 4, (some FieldType.int))
def fX5_feed_L38 : Nat → Int32 → Int32 → Int32 → qs_D → Option (Int32 × qs_D)
  | 0, _, _, _, _ => none
  | n + 1, w1, w2, w3, D => (if w3 < 0 then (some ((D 0 9), D)) else (qs_g (D 0 9) 120 (qs_let (qs_u D 8 (D 0 9).toNatClampNeg ((w1 >>> (((8 : Int32) * w3) &&& 31)) &&& (255 : Int32))) (fun D8 => (qs_let (qs_u D8 0 9 ((D8 0 9) + (1 : Int32))) (fun D9 => (qs_let (w3 + (-1 : Int32)) (fun v10 => (fX5_feed_L38 n w1 w2 v10 D9)))))))))
set_option maxRecDepth 20000 in
theorem lX5_feed_L38 {l : Launch} {E : qs_E} {A : Nat → Prop}  : ∀ (n : Nat) (w1 : Int32) (w2 : Int32) (w3 : Int32) (D : qs_D), qs_VO l E A shM mX5_feed 1 qs_ri 38 [(0, .ref 0), (1, .int w1), (2, .int w2), (3, .int w3)] [] D (fX5_feed_L38 n w1 w2 w3 D) := by
  intro n
  induction n with
  | zero => intro w1 w2 w3 D; exact qs_none
  | succ n ih =>
    intro w1 w2 w3 D
    unfold fX5_feed_L38
    refine qs_iload_n dX5_feed_38 rfl rfl rfl ?_
    refine qs_if_lt (tgt := 77) dX5_feed_39 (by decide) rfl (fun g7 => ?_) (fun g7 => ?_)
    · refine qs_aload_n dX5_feed_77 rfl rfl rfl ?_
      refine qs_getI ffX5_166 rfl rfl dX5_feed_78 rfl ?_
      exact qs_iret rfl dX5_feed_81
    · refine qs_aload_n dX5_feed_42 rfl rfl rfl ?_
      refine qs_getR ffX5_31 rfl rfl dX5_feed_43 rfl ?_
      refine qs_aload_n dX5_feed_46 rfl rfl rfl ?_
      refine qs_getI ffX5_166 rfl rfl dX5_feed_47 rfl ?_
      refine qs_iload_n dX5_feed_50 rfl rfl rfl ?_
      refine qs_bipush (8 : Int32) dX5_feed_51 (by decide) rfl ?_
      refine qs_iload_n dX5_feed_53 rfl rfl rfl ?_
      refine qs_imul dX5_feed_54 rfl ?_
      refine qs_ishr dX5_feed_55 rfl ?_
      refine qs_sipush (255 : Int32) dX5_feed_56 (by decide) rfl ?_
      refine qs_iand dX5_feed_59 rfl ?_
      refine qs_iast rfl (by decide) dX5_feed_60 rfl (fun D8 => ?_)
      refine qs_aload_n dX5_feed_61 rfl rfl rfl ?_
      refine qs_dup dX5_feed_62 rfl rfl ?_
      refine qs_getI ffX5_166 rfl rfl dX5_feed_63 rfl ?_
      refine qs_iconst (1 : Int32) dX5_feed_66 (by decide) rfl ?_
      refine qs_iadd dX5_feed_67 rfl ?_
      refine qs_putI fwX5_166 rfl rfl dX5_feed_68 rfl (fun D9 => ?_)
      refine qs_iinc (fun v10 => [(3, .int v10), (0, .ref 0), (1, .int w1), (2, .int w2)]) (-1 : Int32) dX5_feed_71 rfl (by decide) (by decide) (fun _ => rfl) rfl (fun v10 => ?_)
      refine qs_goto (tgt := 38) dX5_feed_74 (by decide) ?_
      exact qs_sub [1, 2, 3, 0] rfl (ih w1 w2 v10 D9)
def fX5_feed (p1 : Int32) (p2 : Int32) (D : qs_D) : Option (Int32 × qs_D) := (qs_bind (fX5_in p2 (1 : Int32) (4 : Int32) D) (fun x2 D1 => (if x2 = 0 then (qs_bind (fX5_finds (-1000001 : Int32) D1) (fun x15 D14 => (some (x15, D14)))) else (if ((D1 0 9) + p2) ≤ (120 : Int32) then (qs_let (p2 - (1 : Int32)) (fun v6 => (fX5_feed_L38 qs_F p1 p2 v6 D1))) else (qs_bind (fX5_finds (-1000002 : Int32) D1) (fun x12 D11 => (some (x12, D11))))))))
set_option maxRecDepth 20000 in
theorem kX5_feed {l : Launch} {E : qs_E} {A : Nat → Prop} {p1 : Int32} {p2 : Int32} {D : qs_D} {X : Int32 × qs_D}  (hX : fX5_feed p1 p2 D = some X) : qs_Ctr l E A shM yX5_feed mX5_feed 1 qs_ri [.ref 0, .int p1, .int p2] D X := by
  refine qs_enter (plainFor_of_name (by decide)) rfl (Nat.le_of_ble_eq_true rfl) ?_ hX
  show qs_VO l E A shM mX5_feed 1 qs_ri 0 [(0, .ref 0), (1, .int p1), (2, .int p2)] [] D (fX5_feed p1 p2 D)
  unfold fX5_feed
  refine qs_iload_n dX5_feed_0 rfl rfl rfl ?_
  refine qs_iconst (1 : Int32) dX5_feed_1 (by decide) rfl ?_
  refine qs_iconst (4 : Int32) dX5_feed_2 (by decide) rfl ?_
  refine qs_cS3i cfX5_40 (Nat.le_of_ble_eq_true rfl) (fun Y hY => kX5_in  hY) (Nat.le_of_ble_eq_true rfl) dX5_feed_3 rfl (fun x2 D1 g3 => ?_)
  refine qs_if_ne (tgt := 16) dX5_feed_6 (by decide) rfl (fun g4 => ?_) (fun g4 => ?_)
  · refine qs_aload_n dX5_feed_9 rfl rfl rfl ?_
    refine qs_ldc wcX5_34 dX5_feed_10 rfl ?_
    refine qs_cV1i cfX5_36 (Nat.le_of_ble_eq_true rfl) rfl rfl (fun Y hY => kX5_finds  hY) (Nat.le_of_ble_eq_true rfl) dX5_feed_12 rfl (fun x15 D14 g16 => ?_)
    exact qs_iret rfl dX5_feed_15
  · refine qs_aload_n dX5_feed_16 rfl rfl rfl ?_
    refine qs_getI ffX5_166 rfl rfl dX5_feed_17 rfl ?_
    refine qs_iload_n dX5_feed_20 rfl rfl rfl ?_
    refine qs_iadd dX5_feed_21 rfl ?_
    refine qs_bipush (120 : Int32) dX5_feed_22 (by decide) rfl ?_
    refine qs_icmp_le (tgt := 34) dX5_feed_24 (by decide) rfl (fun g5 => ?_) (fun g5 => ?_)
    · refine qs_iload_n dX5_feed_34 rfl rfl rfl ?_
      refine qs_iconst (1 : Int32) dX5_feed_35 (by decide) rfl ?_
      refine qs_isub dX5_feed_36 rfl ?_
      refine qs_istore_n (fun v6 => [(3, .int v6), (0, .ref 0), (1, .int p1), (2, .int p2)]) dX5_feed_37 rfl (by decide) (fun _ => rfl) rfl (fun v6 => ?_)
      exact qs_sub [1, 2, 3, 0] rfl (lX5_feed_L38 qs_F p1 p2 v6 D1)
    · refine qs_aload_n dX5_feed_27 rfl rfl rfl ?_
      refine qs_ldc wcX5_63 dX5_feed_28 rfl ?_
      refine qs_cV1i cfX5_36 (Nat.le_of_ble_eq_true rfl) rfl rfl (fun Y hY => kX5_finds  hY) (Nat.le_of_ble_eq_true rfl) dX5_feed_30 rfl (fun x12 D11 g13 => ?_)
      exact qs_iret rfl dX5_feed_33
abbrev mX5_wipe : qs_M := (RX5, cX5_wipe, 2, (some FieldType.int))
def fX5_wipe (D : qs_D) : Option (Int32 × qs_D) := (qs_let (D 0 9) (fun v1 => (qs_let (qs_u D 0 9 (0 : Int32)) (fun D2 => (some (v1, D2))))))
set_option maxRecDepth 20000 in
theorem kX5_wipe {l : Launch} {E : qs_E} {A : Nat → Prop} {D : qs_D} {X : Int32 × qs_D}  (hX : fX5_wipe  D = some X) : qs_Ctr l E A shM yX5_wipe mX5_wipe 0 qs_ri [.ref 0] D X := by
  refine qs_enter (plainFor_of_name (by decide)) rfl (Nat.le_of_ble_eq_true rfl) ?_ hX
  show qs_VO l E A shM mX5_wipe 0 qs_ri 0 [(0, .ref 0)] [] D (fX5_wipe  D)
  unfold fX5_wipe
  refine qs_aload_n dX5_wipe_0 rfl rfl rfl ?_
  refine qs_getI ffX5_166 rfl rfl dX5_wipe_1 rfl ?_
  refine qs_istore_n (fun v1 => [(1, .int v1), (0, .ref 0)]) dX5_wipe_4 rfl (by decide) (fun _ => rfl) rfl (fun v1 => ?_)
  refine qs_aload_n dX5_wipe_5 rfl rfl rfl ?_
  refine qs_iconst (0 : Int32) dX5_wipe_6 (by decide) rfl ?_
  refine qs_putI fwX5_166 rfl rfl dX5_wipe_7 rfl (fun D2 => ?_)
  refine qs_iload_n dX5_wipe_10 rfl rfl rfl ?_
  exact qs_iret rfl dX5_wipe_11
def fX5_isByte (p1 : Int32) (p2 : Int32) (p3 : Int32) (D : qs_D) : Option (Int32 × qs_D) := (if (D 0 9) ≤ p1 then (some ((0 : Int32), D)) else (qs_g p1 120 (qs_bind (fX5_in (D 8 p1.toNatClampNeg) p2 p3 D) (fun x4 D3 => (if x4 = 0 then (some ((0 : Int32), D3)) else (some ((1 : Int32), D3)))))))
set_option maxRecDepth 20000 in
theorem kX5_isByte {l : Launch} {E : qs_E} {A : Nat → Prop} {p1 : Int32} {p2 : Int32} {p3 : Int32} {D : qs_D} {X : Int32 × qs_D}  (hX : fX5_isByte p1 p2 p3 D = some X) : qs_Ctr l E A shM yX5_isByte mX5_isByte 1 qs_ri [.ref 0, .int p1, .int p2, .int p3] D X := by
  refine qs_enter (plainFor_of_name (by decide)) rfl (Nat.le_of_ble_eq_true rfl) ?_ hX
  show qs_VO l E A shM mX5_isByte 1 qs_ri 0 [(0, .ref 0), (1, .int p1), (2, .int p2), (3, .int p3)] [] D (fX5_isByte p1 p2 p3 D)
  unfold fX5_isByte
  refine qs_iload_n dX5_isByte_0 rfl rfl rfl ?_
  refine qs_aload_n dX5_isByte_1 rfl rfl rfl ?_
  refine qs_getI ffX5_166 rfl rfl dX5_isByte_2 rfl ?_
  refine qs_icmp_ge (tgt := 26) dX5_isByte_5 (by decide) rfl (fun g1 => ?_) (fun g1 => ?_)
  · refine qs_iconst (0 : Int32) dX5_isByte_26 (by decide) rfl ?_
    exact qs_zret (Or.inl rfl) rfl dX5_isByte_27
  · refine qs_aload_n dX5_isByte_8 rfl rfl rfl ?_
    refine qs_getR ffX5_31 rfl rfl dX5_isByte_9 rfl ?_
    refine qs_iload_n dX5_isByte_12 rfl rfl rfl ?_
    refine qs_iald rfl (by decide) dX5_isByte_13 rfl (fun g2 => ?_)
    refine qs_iload_n dX5_isByte_14 rfl rfl rfl ?_
    refine qs_iload_n dX5_isByte_15 rfl rfl rfl ?_
    refine qs_cS3i cfX5_40 (Nat.le_of_ble_eq_true rfl) (fun Y hY => kX5_in  hY) (Nat.le_of_ble_eq_true rfl) dX5_isByte_16 rfl (fun x4 D3 g5 => ?_)
    refine qs_if_eq (tgt := 26) dX5_isByte_19 (by decide) rfl (fun g6 => ?_) (fun g6 => ?_)
    · refine qs_iconst (0 : Int32) dX5_isByte_26 (by decide) rfl ?_
      exact qs_zret (Or.inl rfl) rfl dX5_isByte_27
    · refine qs_iconst (1 : Int32) dX5_isByte_22 (by decide) rfl ?_
      refine qs_goto (tgt := 27) dX5_isByte_23 (by decide) ?_
      exact qs_zret (Or.inr rfl) rfl dX5_isByte_27
def fX5_isName_L34 : Nat → Int32 → Int32 → Int32 → Int32 → qs_D → Option (Int32 × qs_D)
  | 0, _, _, _, _, _ => none
  | n + 1, w1, w2, w3, w4, D => (if w2 ≤ w4 then (qs_gb w3 (some (w3, D))) else (if w3 = 0 then (qs_gb w3 (some (w3, D))) else (qs_g (((7 : Int32) * w1) + w4) 98 (qs_g ((D 0 11) + w4) 120 (if ((qs_tab 3).getD (((7 : Int32) * w1) + w4).toNatClampNeg 0) = (D 8 ((D 0 11) + w4).toNatClampNeg) then (qs_let (1 : Int32) (fun v11 => (qs_let (w4 + (1 : Int32)) (fun v12 => (fX5_isName_L34 n w1 w2 v11 v12 D))))) else (qs_let (0 : Int32) (fun v9 => (qs_let (w4 + (1 : Int32)) (fun v10 => (fX5_isName_L34 n w1 w2 v9 v10 D))))))))))
set_option maxRecDepth 20000 in
theorem lX5_isName_L34 {l : Launch} {E : qs_E} {A : Nat → Prop}  : ∀ (n : Nat) (w1 : Int32) (w2 : Int32) (w3 : Int32) (w4 : Int32) (D : qs_D), qs_VO l E A shM mX5_isName 0 qs_ri 34 [(0, .ref 0), (1, .int w1), (2, .int w2), (3, .int w3), (4, .int w4)] [] D (fX5_isName_L34 n w1 w2 w3 w4 D) := by
  intro n
  induction n with
  | zero => intro w1 w2 w3 w4 D; exact qs_none
  | succ n ih =>
    intro w1 w2 w3 w4 D
    unfold fX5_isName_L34
    refine qs_iload dX5_isName_34 rfl rfl ?_
    refine qs_iload_n dX5_isName_36 rfl rfl rfl ?_
    refine qs_icmp_ge (tgt := 82) dX5_isName_37 (by decide) rfl (fun g4 => ?_) (fun g4 => ?_)
    · refine qs_iload_n dX5_isName_82 rfl rfl rfl ?_
      exact qs_zretB rfl dX5_isName_83
    · refine qs_iload_n dX5_isName_40 rfl rfl rfl ?_
      refine qs_if_eq (tgt := 82) dX5_isName_41 (by decide) rfl (fun g5 => ?_) (fun g5 => ?_)
      · refine qs_iload_n dX5_isName_82 rfl rfl rfl ?_
        exact qs_zretB rfl dX5_isName_83
      · refine qs_gets (t := 3) rfl wgX5_170 dX5_isName_44 rfl ?_
        refine qs_bipush (7 : Int32) dX5_isName_47 (by decide) rfl ?_
        refine qs_iload_n dX5_isName_49 rfl rfl rfl ?_
        refine qs_imul dX5_isName_50 rfl ?_
        refine qs_iload dX5_isName_51 rfl rfl ?_
        refine qs_iadd dX5_isName_53 rfl ?_
        refine qs_ialdT (t := 3) rfl (by decide) dX5_isName_54 rfl (fun g6 => ?_)
        refine qs_aload_n dX5_isName_55 rfl rfl rfl ?_
        refine qs_getR ffX5_31 rfl rfl dX5_isName_56 rfl ?_
        refine qs_aload_n dX5_isName_59 rfl rfl rfl ?_
        refine qs_getI ffX5_173 rfl rfl dX5_isName_60 rfl ?_
        refine qs_iload dX5_isName_63 rfl rfl ?_
        refine qs_iadd dX5_isName_65 rfl ?_
        refine qs_iald rfl (by decide) dX5_isName_66 rfl (fun g7 => ?_)
        refine qs_icmp_ne (tgt := 74) dX5_isName_67 (by decide) rfl (fun g8 => ?_) (fun g8 => ?_)
        · refine qs_iconst (1 : Int32) dX5_isName_70 (by decide) rfl ?_
          refine qs_goto (tgt := 75) dX5_isName_71 (by decide) ?_
          refine qs_istore_n (fun v11 => [(3, .int v11), (0, .ref 0), (1, .int w1), (2, .int w2), (4, .int w4)]) dX5_isName_75 rfl (by decide) (fun _ => rfl) rfl (fun v11 => ?_)
          refine qs_iinc (fun v12 => [(4, .int v12), (3, .int v11), (0, .ref 0), (1, .int w1), (2, .int w2)]) (1 : Int32) dX5_isName_76 rfl (by decide) (by decide) (fun _ => rfl) rfl (fun v12 => ?_)
          refine qs_goto (tgt := 34) dX5_isName_79 (by decide) ?_
          exact qs_sub [2, 3, 4, 1, 0] rfl (ih w1 w2 v11 v12 D)
        · refine qs_iconst (0 : Int32) dX5_isName_74 (by decide) rfl ?_
          refine qs_istore_n (fun v9 => [(3, .int v9), (0, .ref 0), (1, .int w1), (2, .int w2), (4, .int w4)]) dX5_isName_75 rfl (by decide) (fun _ => rfl) rfl (fun v9 => ?_)
          refine qs_iinc (fun v10 => [(4, .int v10), (3, .int v9), (0, .ref 0), (1, .int w1), (2, .int w2)]) (1 : Int32) dX5_isName_76 rfl (by decide) (by decide) (fun _ => rfl) rfl (fun v10 => ?_)
          refine qs_goto (tgt := 34) dX5_isName_79 (by decide) ?_
          exact qs_sub [2, 3, 4, 1, 0] rfl (ih w1 w2 v9 v10 D)
def fX5_isName (p1 : Int32) (p2 : Int32) (D : qs_D) : Option (Int32 × qs_D) := (if (7 : Int32) < p2 then (qs_let (0 : Int32) (fun v2 => (qs_let (0 : Int32) (fun v3 => (fX5_isName_L34 qs_F p1 p2 v2 v3 D))))) else (if p2 = (7 : Int32) then (qs_let (1 : Int32) (fun v14 => (qs_let (0 : Int32) (fun v15 => (fX5_isName_L34 qs_F p1 p2 v14 v15 D))))) else (qs_g (((7 : Int32) * p1) + p2) 98 (if ((qs_tab 3).getD (((7 : Int32) * p1) + p2).toNatClampNeg 0) = 0 then (qs_let (1 : Int32) (fun v20 => (qs_let (0 : Int32) (fun v21 => (fX5_isName_L34 qs_F p1 p2 v20 v21 D))))) else (qs_let (0 : Int32) (fun v18 => (qs_let (0 : Int32) (fun v19 => (fX5_isName_L34 qs_F p1 p2 v18 v19 D)))))))))
set_option maxRecDepth 20000 in
theorem kX5_isName {l : Launch} {E : qs_E} {A : Nat → Prop} {p1 : Int32} {p2 : Int32} {D : qs_D} {X : Int32 × qs_D}  (hX : fX5_isName p1 p2 D = some X) : qs_Ctr l E A shM yX5_isName mX5_isName 0 qs_ri [.ref 0, .int p1, .int p2] D X := by
  refine qs_enter (plainFor_of_name (by decide)) rfl (Nat.le_of_ble_eq_true rfl) ?_ hX
  show qs_VO l E A shM mX5_isName 0 qs_ri 0 [(0, .ref 0), (1, .int p1), (2, .int p2)] [] D (fX5_isName p1 p2 D)
  unfold fX5_isName
  refine qs_iload_n dX5_isName_0 rfl rfl rfl ?_
  refine qs_bipush (7 : Int32) dX5_isName_1 (by decide) rfl ?_
  refine qs_icmp_gt (tgt := 29) dX5_isName_3 (by decide) rfl (fun g1 => ?_) (fun g1 => ?_)
  · refine qs_iconst (0 : Int32) dX5_isName_29 (by decide) rfl ?_
    refine qs_istore_n (fun v2 => [(3, .int v2), (0, .ref 0), (1, .int p1), (2, .int p2)]) dX5_isName_30 rfl (by decide) (fun _ => rfl) rfl (fun v2 => ?_)
    refine qs_iconst (0 : Int32) dX5_isName_31 (by decide) rfl ?_
    refine qs_istore (fun v3 => [(4, .int v3), (3, .int v2), (0, .ref 0), (1, .int p1), (2, .int p2)]) dX5_isName_32 (by decide) (fun _ => rfl) rfl (fun v3 => ?_)
    exact qs_sub [2, 3, 4, 1, 0] rfl (lX5_isName_L34 qs_F p1 p2 v2 v3 D)
  · refine qs_iload_n dX5_isName_6 rfl rfl rfl ?_
    refine qs_bipush (7 : Int32) dX5_isName_7 (by decide) rfl ?_
    refine qs_icmp_eq (tgt := 25) dX5_isName_9 (by decide) rfl (fun g13 => ?_) (fun g13 => ?_)
    · refine qs_iconst (1 : Int32) dX5_isName_25 (by decide) rfl ?_
      refine qs_goto (tgt := 30) dX5_isName_26 (by decide) ?_
      refine qs_istore_n (fun v14 => [(3, .int v14), (0, .ref 0), (1, .int p1), (2, .int p2)]) dX5_isName_30 rfl (by decide) (fun _ => rfl) rfl (fun v14 => ?_)
      refine qs_iconst (0 : Int32) dX5_isName_31 (by decide) rfl ?_
      refine qs_istore (fun v15 => [(4, .int v15), (3, .int v14), (0, .ref 0), (1, .int p1), (2, .int p2)]) dX5_isName_32 (by decide) (fun _ => rfl) rfl (fun v15 => ?_)
      exact qs_sub [2, 3, 4, 1, 0] rfl (lX5_isName_L34 qs_F p1 p2 v14 v15 D)
    · refine qs_gets (t := 3) rfl wgX5_170 dX5_isName_12 rfl ?_
      refine qs_bipush (7 : Int32) dX5_isName_15 (by decide) rfl ?_
      refine qs_iload_n dX5_isName_17 rfl rfl rfl ?_
      refine qs_imul dX5_isName_18 rfl ?_
      refine qs_iload_n dX5_isName_19 rfl rfl rfl ?_
      refine qs_iadd dX5_isName_20 rfl ?_
      refine qs_ialdT (t := 3) rfl (by decide) dX5_isName_21 rfl (fun g16 => ?_)
      refine qs_if_ne (tgt := 29) dX5_isName_22 (by decide) rfl (fun g17 => ?_) (fun g17 => ?_)
      · refine qs_iconst (1 : Int32) dX5_isName_25 (by decide) rfl ?_
        refine qs_goto (tgt := 30) dX5_isName_26 (by decide) ?_
        refine qs_istore_n (fun v20 => [(3, .int v20), (0, .ref 0), (1, .int p1), (2, .int p2)]) dX5_isName_30 rfl (by decide) (fun _ => rfl) rfl (fun v20 => ?_)
        refine qs_iconst (0 : Int32) dX5_isName_31 (by decide) rfl ?_
        refine qs_istore (fun v21 => [(4, .int v21), (3, .int v20), (0, .ref 0), (1, .int p1), (2, .int p2)]) dX5_isName_32 (by decide) (fun _ => rfl) rfl (fun v21 => ?_)
        exact qs_sub [2, 3, 4, 1, 0] rfl (lX5_isName_L34 qs_F p1 p2 v20 v21 D)
      · refine qs_iconst (0 : Int32) dX5_isName_29 (by decide) rfl ?_
        refine qs_istore_n (fun v18 => [(3, .int v18), (0, .ref 0), (1, .int p1), (2, .int p2)]) dX5_isName_30 rfl (by decide) (fun _ => rfl) rfl (fun v18 => ?_)
        refine qs_iconst (0 : Int32) dX5_isName_31 (by decide) rfl ?_
        refine qs_istore (fun v19 => [(4, .int v19), (3, .int v18), (0, .ref 0), (1, .int p1), (2, .int p2)]) dX5_isName_32 (by decide) (fun _ => rfl) rfl (fun v19 => ?_)
        exact qs_sub [2, 3, 4, 1, 0] rfl (lX5_isName_L34 qs_F p1 p2 v18 v19 D)
def fX5_wordHere_L2 : Nat → Int32 → qs_D → Option (Int32 × qs_D)
  | 0, _, _ => none
  | n + 1, w1, D => (if (14 : Int32) ≤ w1 then (if (14 : Int32) ≤ w1 then (some ((23 : Int32), D)) else (some (w1, D))) else (qs_bind (fX5_isName w1 ((D 0 12) - (D 0 11)) D) (fun x5 D4 => (if x5 = 0 then (qs_let (w1 + (1 : Int32)) (fun v9 => (fX5_wordHere_L2 n v9 D4))) else (if (14 : Int32) ≤ w1 then (some ((23 : Int32), D4)) else (some (w1, D4)))))))
set_option maxRecDepth 20000 in
theorem lX5_wordHere_L2 {l : Launch} {E : qs_E} {A : Nat → Prop}  : ∀ (n : Nat) (w1 : Int32) (D : qs_D), qs_VO l E A shM mX5_wordHere 1 qs_ri 2 [(0, .ref 0), (1, .int w1)] [] D (fX5_wordHere_L2 n w1 D) := by
  intro n
  induction n with
  | zero => intro w1 D; exact qs_none
  | succ n ih =>
    intro w1 D
    unfold fX5_wordHere_L2
    refine qs_iload_n dX5_wordHere_2 rfl rfl rfl ?_
    refine qs_bipush (14 : Int32) dX5_wordHere_3 (by decide) rfl ?_
    refine qs_icmp_ge (tgt := 31) dX5_wordHere_5 (by decide) rfl (fun g2 => ?_) (fun g2 => ?_)
    · refine qs_iload_n dX5_wordHere_31 rfl rfl rfl ?_
      refine qs_bipush (14 : Int32) dX5_wordHere_32 (by decide) rfl ?_
      refine qs_icmp_ge (tgt := 41) dX5_wordHere_34 (by decide) rfl (fun g3 => ?_) (fun g3 => ?_)
      · refine qs_bipush (23 : Int32) dX5_wordHere_41 (by decide) rfl ?_
        exact qs_iret rfl dX5_wordHere_43
      · refine qs_iload_n dX5_wordHere_37 rfl rfl rfl ?_
        refine qs_goto (tgt := 43) dX5_wordHere_38 (by decide) ?_
        exact qs_iret rfl dX5_wordHere_43
    · refine qs_aload_n dX5_wordHere_8 rfl rfl rfl ?_
      refine qs_iload_n dX5_wordHere_9 rfl rfl rfl ?_
      refine qs_aload_n dX5_wordHere_10 rfl rfl rfl ?_
      refine qs_getI ffX5_176 rfl rfl dX5_wordHere_11 rfl ?_
      refine qs_aload_n dX5_wordHere_14 rfl rfl rfl ?_
      refine qs_getI ffX5_173 rfl rfl dX5_wordHere_15 rfl ?_
      refine qs_isub dX5_wordHere_18 rfl ?_
      refine qs_cV2i cfX5_179 (Nat.le_of_ble_eq_true rfl) rfl rfl (fun Y hY => kX5_isName  hY) (Nat.le_of_ble_eq_true rfl) dX5_wordHere_19 rfl (fun x5 D4 g6 => ?_)
      refine qs_if_ne (tgt := 31) dX5_wordHere_22 (by decide) rfl (fun g7 => ?_) (fun g7 => ?_)
      · refine qs_iinc (fun v9 => [(1, .int v9), (0, .ref 0)]) (1 : Int32) dX5_wordHere_25 rfl (by decide) (by decide) (fun _ => rfl) rfl (fun v9 => ?_)
        refine qs_goto (tgt := 2) dX5_wordHere_28 (by decide) ?_
        exact qs_sub [1, 0] rfl (ih v9 D4)
      · refine qs_iload_n dX5_wordHere_31 rfl rfl rfl ?_
        refine qs_bipush (14 : Int32) dX5_wordHere_32 (by decide) rfl ?_
        refine qs_icmp_ge (tgt := 41) dX5_wordHere_34 (by decide) rfl (fun g8 => ?_) (fun g8 => ?_)
        · refine qs_bipush (23 : Int32) dX5_wordHere_41 (by decide) rfl ?_
          exact qs_iret rfl dX5_wordHere_43
        · refine qs_iload_n dX5_wordHere_37 rfl rfl rfl ?_
          refine qs_goto (tgt := 43) dX5_wordHere_38 (by decide) ?_
          exact qs_iret rfl dX5_wordHere_43
def fX5_wordHere (D : qs_D) : Option (Int32 × qs_D) := (qs_let (0 : Int32) (fun v1 => (fX5_wordHere_L2 qs_F v1 D)))
set_option maxRecDepth 20000 in
theorem kX5_wordHere {l : Launch} {E : qs_E} {A : Nat → Prop} {D : qs_D} {X : Int32 × qs_D}  (hX : fX5_wordHere  D = some X) : qs_Ctr l E A shM yX5_wordHere mX5_wordHere 1 qs_ri [.ref 0] D X := by
  refine qs_enter (plainFor_of_name (by decide)) rfl (Nat.le_of_ble_eq_true rfl) ?_ hX
  show qs_VO l E A shM mX5_wordHere 1 qs_ri 0 [(0, .ref 0)] [] D (fX5_wordHere  D)
  unfold fX5_wordHere
  refine qs_iconst (0 : Int32) dX5_wordHere_0 (by decide) rfl ?_
  refine qs_istore_n (fun v1 => [(1, .int v1), (0, .ref 0)]) dX5_wordHere_1 rfl (by decide) (fun _ => rfl) rfl (fun v1 => ?_)
  exact qs_sub [1, 0] rfl (lX5_wordHere_L2 qs_F v1 D)
def fX5_reads_L130 : Nat → qs_D → Option (Unit × qs_D)
  | 0, _ => none
  | n + 1, D => (qs_bind (fX5_isByte (D 0 12) (48 : Int32) (57 : Int32) D) (fun x25 D24 => (if x25 = 0 then (qs_let (qs_u D24 0 10 (20 : Int32)) (fun D28 => (some ((), D28)))) else (if (D24 0 13) ≤ (999 : Int32) then (qs_g (D24 0 12) 120 (qs_let (qs_u D24 0 13 ((((10 : Int32) * (D24 0 13)) + (D24 8 (D24 0 12).toNatClampNeg)) - (48 : Int32))) (fun D31 => (qs_let (qs_u D31 0 12 ((D31 0 12) + (1 : Int32))) (fun D32 => (fX5_reads_L130 n D32)))))) else (qs_let (qs_u D24 0 13 (D24 0 13)) (fun D33 => (qs_let (qs_u D33 0 12 ((D33 0 12) + (1 : Int32))) (fun D34 => (fX5_reads_L130 n D34)))))))))
set_option maxRecDepth 20000 in
theorem lX5_reads_L130 {l : Launch} {E : qs_E} {A : Nat → Prop}  : ∀ (n : Nat)  (D : qs_D), qs_VO l E A shM mX5_reads 2 qs_rv 130 [(0, .ref 0)] [] D (fX5_reads_L130 n D) := by
  intro n
  induction n with
  | zero => intro D; exact qs_none
  | succ n ih =>
    intro D
    unfold fX5_reads_L130
    refine qs_aload_n dX5_reads_130 rfl rfl rfl ?_
    refine qs_aload_n dX5_reads_131 rfl rfl rfl ?_
    refine qs_getI ffX5_176 rfl rfl dX5_reads_132 rfl ?_
    refine qs_bipush (48 : Int32) dX5_reads_135 (by decide) rfl ?_
    refine qs_bipush (57 : Int32) dX5_reads_137 (by decide) rfl ?_
    refine qs_cV3i cfX5_182 (Nat.le_of_ble_eq_true rfl) rfl rfl (fun Y hY => kX5_isByte  hY) (Nat.le_of_ble_eq_true rfl) dX5_reads_139 rfl (fun x25 D24 g26 => ?_)
    refine qs_if_eq (tgt := 199) dX5_reads_142 (by decide) rfl (fun g27 => ?_) (fun g27 => ?_)
    · refine qs_aload_n dX5_reads_199 rfl rfl rfl ?_
      refine qs_bipush (20 : Int32) dX5_reads_200 (by decide) rfl ?_
      refine qs_putI fwX5_188 rfl rfl dX5_reads_202 rfl (fun D28 => ?_)
      refine qs_goto (tgt := 244) dX5_reads_205 (by decide) ?_
      exact qs_vret rfl dX5_reads_244
    · refine qs_aload_n dX5_reads_145 rfl rfl rfl ?_
      refine qs_aload_n dX5_reads_146 rfl rfl rfl ?_
      refine qs_getI ffX5_185 rfl rfl dX5_reads_147 rfl ?_
      refine qs_sipush (999 : Int32) dX5_reads_150 (by decide) rfl ?_
      refine qs_icmp_le (tgt := 163) dX5_reads_153 (by decide) rfl (fun g29 => ?_) (fun g29 => ?_)
      · refine qs_bipush (10 : Int32) dX5_reads_163 (by decide) rfl ?_
        refine qs_aload_n dX5_reads_165 rfl rfl rfl ?_
        refine qs_getI ffX5_185 rfl rfl dX5_reads_166 rfl ?_
        refine qs_imul dX5_reads_169 rfl ?_
        refine qs_aload_n dX5_reads_170 rfl rfl rfl ?_
        refine qs_getR ffX5_31 rfl rfl dX5_reads_171 rfl ?_
        refine qs_aload_n dX5_reads_174 rfl rfl rfl ?_
        refine qs_getI ffX5_176 rfl rfl dX5_reads_175 rfl ?_
        refine qs_iald rfl (by decide) dX5_reads_178 rfl (fun g30 => ?_)
        refine qs_iadd dX5_reads_179 rfl ?_
        refine qs_bipush (48 : Int32) dX5_reads_180 (by decide) rfl ?_
        refine qs_isub dX5_reads_182 rfl ?_
        refine qs_putI fwX5_185 rfl rfl dX5_reads_183 rfl (fun D31 => ?_)
        refine qs_aload_n dX5_reads_186 rfl rfl rfl ?_
        refine qs_dup dX5_reads_187 rfl rfl ?_
        refine qs_getI ffX5_176 rfl rfl dX5_reads_188 rfl ?_
        refine qs_iconst (1 : Int32) dX5_reads_191 (by decide) rfl ?_
        refine qs_iadd dX5_reads_192 rfl ?_
        refine qs_putI fwX5_176 rfl rfl dX5_reads_193 rfl (fun D32 => ?_)
        refine qs_goto (tgt := 130) dX5_reads_196 (by decide) ?_
        exact qs_sub [0] rfl (ih D32)
      · refine qs_aload_n dX5_reads_156 rfl rfl rfl ?_
        refine qs_getI ffX5_185 rfl rfl dX5_reads_157 rfl ?_
        refine qs_goto (tgt := 183) dX5_reads_160 (by decide) ?_
        refine qs_putI fwX5_185 rfl rfl dX5_reads_183 rfl (fun D33 => ?_)
        refine qs_aload_n dX5_reads_186 rfl rfl rfl ?_
        refine qs_dup dX5_reads_187 rfl rfl ?_
        refine qs_getI ffX5_176 rfl rfl dX5_reads_188 rfl ?_
        refine qs_iconst (1 : Int32) dX5_reads_191 (by decide) rfl ?_
        refine qs_iadd dX5_reads_192 rfl ?_
        refine qs_putI fwX5_176 rfl rfl dX5_reads_193 rfl (fun D34 => ?_)
        refine qs_goto (tgt := 130) dX5_reads_196 (by decide) ?_
        exact qs_sub [0] rfl (ih D34)
def fX5_reads_L76 : Nat → qs_D → Option (Unit × qs_D)
  | 0, _ => none
  | n + 1, D => (qs_bind (fX5_isByte (D 0 12) (97 : Int32) (122 : Int32) D) (fun x36 D35 => (if x36 = 0 then (qs_bind (fX5_wordHere D35) (fun x40 D39 => (qs_let (qs_u D39 0 10 x40) (fun D42 => (some ((), D42)))))) else (qs_let (qs_u D35 0 12 ((D35 0 12) + (1 : Int32))) (fun D43 => (fX5_reads_L76 n D43))))))
set_option maxRecDepth 20000 in
theorem lX5_reads_L76 {l : Launch} {E : qs_E} {A : Nat → Prop}  : ∀ (n : Nat)  (D : qs_D), qs_VO l E A shM mX5_reads 2 qs_rv 76 [(0, .ref 0)] [] D (fX5_reads_L76 n D) := by
  intro n
  induction n with
  | zero => intro D; exact qs_none
  | succ n ih =>
    intro D
    unfold fX5_reads_L76
    refine qs_aload_n dX5_reads_76 rfl rfl rfl ?_
    refine qs_aload_n dX5_reads_77 rfl rfl rfl ?_
    refine qs_getI ffX5_176 rfl rfl dX5_reads_78 rfl ?_
    refine qs_bipush (97 : Int32) dX5_reads_81 (by decide) rfl ?_
    refine qs_bipush (122 : Int32) dX5_reads_83 (by decide) rfl ?_
    refine qs_cV3i cfX5_182 (Nat.le_of_ble_eq_true rfl) rfl rfl (fun Y hY => kX5_isByte  hY) (Nat.le_of_ble_eq_true rfl) dX5_reads_85 rfl (fun x36 D35 g37 => ?_)
    refine qs_if_eq (tgt := 104) dX5_reads_88 (by decide) rfl (fun g38 => ?_) (fun g38 => ?_)
    · refine qs_aload_n dX5_reads_104 rfl rfl rfl ?_
      refine qs_aload_n dX5_reads_105 rfl rfl rfl ?_
      refine qs_cV0i cfX5_191 (Nat.le_of_ble_eq_true rfl) rfl rfl (fun Y hY => kX5_wordHere  hY) (Nat.le_of_ble_eq_true rfl) dX5_reads_106 rfl (fun x40 D39 g41 => ?_)
      refine qs_putI fwX5_188 rfl rfl dX5_reads_109 rfl (fun D42 => ?_)
      refine qs_goto (tgt := 244) dX5_reads_112 (by decide) ?_
      exact qs_vret rfl dX5_reads_244
    · refine qs_aload_n dX5_reads_91 rfl rfl rfl ?_
      refine qs_dup dX5_reads_92 rfl rfl ?_
      refine qs_getI ffX5_176 rfl rfl dX5_reads_93 rfl ?_
      refine qs_iconst (1 : Int32) dX5_reads_96 (by decide) rfl ?_
      refine qs_iadd dX5_reads_97 rfl ?_
      refine qs_putI fwX5_176 rfl rfl dX5_reads_98 rfl (fun D43 => ?_)
      refine qs_goto (tgt := 76) dX5_reads_101 (by decide) ?_
      exact qs_sub [0] rfl (ih D43)
def fX5_reads_L0 : Nat → qs_D → Option (Unit × qs_D)
  | 0, _ => none
  | n + 1, D => (qs_bind (fX5_isByte (D 0 12) (32 : Int32) (32 : Int32) D) (fun x2 D1 => (if x2 = 0 then (qs_let (qs_u D1 0 11 (D1 0 12)) (fun D5 => (qs_let (qs_u D5 0 13 (0 : Int32)) (fun D6 => (if (D6 0 12) = (D6 0 9) then (qs_let (qs_u D6 0 10 (22 : Int32)) (fun D44 => (some ((), D44)))) else (qs_bind (fX5_isByte (D6 0 12) (97 : Int32) (122 : Int32) D6) (fun x9 D8 => (if x9 = 0 then (qs_bind (fX5_isByte (D8 0 12) (48 : Int32) (57 : Int32) D8) (fun x13 D12 => (if x13 = 0 then (qs_bind (fX5_isByte (D12 0 12) (59 : Int32) (59 : Int32) D12) (fun x17 D16 => (if x17 = 0 then (qs_let (qs_u D16 0 10 (23 : Int32)) (fun D20 => (qs_let (qs_u D20 0 12 ((D20 0 12) + (1 : Int32))) (fun D21 => (some ((), D21)))))) else (qs_let (qs_u D16 0 10 (21 : Int32)) (fun D22 => (qs_let (qs_u D22 0 12 ((D22 0 12) + (1 : Int32))) (fun D23 => (some ((), D23))))))))) else (fX5_reads_L130 qs_F D12)))) else (fX5_reads_L76 qs_F D8))))))))) else (qs_let (qs_u D1 0 12 ((D1 0 12) + (1 : Int32))) (fun D45 => (fX5_reads_L0 n D45))))))
set_option maxRecDepth 20000 in
theorem lX5_reads_L0 {l : Launch} {E : qs_E} {A : Nat → Prop}  : ∀ (n : Nat)  (D : qs_D), qs_VO l E A shM mX5_reads 2 qs_rv 0 [(0, .ref 0)] [] D (fX5_reads_L0 n D) := by
  intro n
  induction n with
  | zero => intro D; exact qs_none
  | succ n ih =>
    intro D
    unfold fX5_reads_L0
    refine qs_aload_n dX5_reads_0 rfl rfl rfl ?_
    refine qs_aload_n dX5_reads_1 rfl rfl rfl ?_
    refine qs_getI ffX5_176 rfl rfl dX5_reads_2 rfl ?_
    refine qs_bipush (32 : Int32) dX5_reads_5 (by decide) rfl ?_
    refine qs_bipush (32 : Int32) dX5_reads_7 (by decide) rfl ?_
    refine qs_cV3i cfX5_182 (Nat.le_of_ble_eq_true rfl) rfl rfl (fun Y hY => kX5_isByte  hY) (Nat.le_of_ble_eq_true rfl) dX5_reads_9 rfl (fun x2 D1 g3 => ?_)
    refine qs_if_eq (tgt := 28) dX5_reads_12 (by decide) rfl (fun g4 => ?_) (fun g4 => ?_)
    · refine qs_aload_n dX5_reads_28 rfl rfl rfl ?_
      refine qs_aload_n dX5_reads_29 rfl rfl rfl ?_
      refine qs_getI ffX5_176 rfl rfl dX5_reads_30 rfl ?_
      refine qs_putI fwX5_173 rfl rfl dX5_reads_33 rfl (fun D5 => ?_)
      refine qs_aload_n dX5_reads_36 rfl rfl rfl ?_
      refine qs_iconst (0 : Int32) dX5_reads_37 (by decide) rfl ?_
      refine qs_putI fwX5_185 rfl rfl dX5_reads_38 rfl (fun D6 => ?_)
      refine qs_aload_n dX5_reads_41 rfl rfl rfl ?_
      refine qs_getI ffX5_176 rfl rfl dX5_reads_42 rfl ?_
      refine qs_aload_n dX5_reads_45 rfl rfl rfl ?_
      refine qs_getI ffX5_166 rfl rfl dX5_reads_46 rfl ?_
      refine qs_icmp_ne (tgt := 61) dX5_reads_49 (by decide) rfl (fun g7 => ?_) (fun g7 => ?_)
      · refine qs_aload_n dX5_reads_52 rfl rfl rfl ?_
        refine qs_bipush (22 : Int32) dX5_reads_53 (by decide) rfl ?_
        refine qs_putI fwX5_188 rfl rfl dX5_reads_55 rfl (fun D44 => ?_)
        refine qs_goto (tgt := 244) dX5_reads_58 (by decide) ?_
        exact qs_vret rfl dX5_reads_244
      · refine qs_aload_n dX5_reads_61 rfl rfl rfl ?_
        refine qs_aload_n dX5_reads_62 rfl rfl rfl ?_
        refine qs_getI ffX5_176 rfl rfl dX5_reads_63 rfl ?_
        refine qs_bipush (97 : Int32) dX5_reads_66 (by decide) rfl ?_
        refine qs_bipush (122 : Int32) dX5_reads_68 (by decide) rfl ?_
        refine qs_cV3i cfX5_182 (Nat.le_of_ble_eq_true rfl) rfl rfl (fun Y hY => kX5_isByte  hY) (Nat.le_of_ble_eq_true rfl) dX5_reads_70 rfl (fun x9 D8 g10 => ?_)
        refine qs_if_eq (tgt := 115) dX5_reads_73 (by decide) rfl (fun g11 => ?_) (fun g11 => ?_)
        · refine qs_aload_n dX5_reads_115 rfl rfl rfl ?_
          refine qs_aload_n dX5_reads_116 rfl rfl rfl ?_
          refine qs_getI ffX5_176 rfl rfl dX5_reads_117 rfl ?_
          refine qs_bipush (48 : Int32) dX5_reads_120 (by decide) rfl ?_
          refine qs_bipush (57 : Int32) dX5_reads_122 (by decide) rfl ?_
          refine qs_cV3i cfX5_182 (Nat.le_of_ble_eq_true rfl) rfl rfl (fun Y hY => kX5_isByte  hY) (Nat.le_of_ble_eq_true rfl) dX5_reads_124 rfl (fun x13 D12 g14 => ?_)
          refine qs_if_eq (tgt := 208) dX5_reads_127 (by decide) rfl (fun g15 => ?_) (fun g15 => ?_)
          · refine qs_aload_n dX5_reads_208 rfl rfl rfl ?_
            refine qs_aload_n dX5_reads_209 rfl rfl rfl ?_
            refine qs_aload_n dX5_reads_210 rfl rfl rfl ?_
            refine qs_getI ffX5_176 rfl rfl dX5_reads_211 rfl ?_
            refine qs_bipush (59 : Int32) dX5_reads_214 (by decide) rfl ?_
            refine qs_bipush (59 : Int32) dX5_reads_216 (by decide) rfl ?_
            refine qs_cV3i cfX5_182 (Nat.le_of_ble_eq_true rfl) rfl rfl (fun Y hY => kX5_isByte  hY) (Nat.le_of_ble_eq_true rfl) dX5_reads_218 rfl (fun x17 D16 g18 => ?_)
            refine qs_if_eq (tgt := 229) dX5_reads_221 (by decide) rfl (fun g19 => ?_) (fun g19 => ?_)
            · refine qs_bipush (23 : Int32) dX5_reads_229 (by decide) rfl ?_
              refine qs_putI fwX5_188 rfl rfl dX5_reads_231 rfl (fun D20 => ?_)
              refine qs_aload_n dX5_reads_234 rfl rfl rfl ?_
              refine qs_dup dX5_reads_235 rfl rfl ?_
              refine qs_getI ffX5_176 rfl rfl dX5_reads_236 rfl ?_
              refine qs_iconst (1 : Int32) dX5_reads_239 (by decide) rfl ?_
              refine qs_iadd dX5_reads_240 rfl ?_
              refine qs_putI fwX5_176 rfl rfl dX5_reads_241 rfl (fun D21 => ?_)
              exact qs_vret rfl dX5_reads_244
            · refine qs_bipush (21 : Int32) dX5_reads_224 (by decide) rfl ?_
              refine qs_goto (tgt := 231) dX5_reads_226 (by decide) ?_
              refine qs_putI fwX5_188 rfl rfl dX5_reads_231 rfl (fun D22 => ?_)
              refine qs_aload_n dX5_reads_234 rfl rfl rfl ?_
              refine qs_dup dX5_reads_235 rfl rfl ?_
              refine qs_getI ffX5_176 rfl rfl dX5_reads_236 rfl ?_
              refine qs_iconst (1 : Int32) dX5_reads_239 (by decide) rfl ?_
              refine qs_iadd dX5_reads_240 rfl ?_
              refine qs_putI fwX5_176 rfl rfl dX5_reads_241 rfl (fun D23 => ?_)
              exact qs_vret rfl dX5_reads_244
          · exact qs_sub [0] rfl (lX5_reads_L130 qs_F D12)
        · exact qs_sub [0] rfl (lX5_reads_L76 qs_F D8)
    · refine qs_aload_n dX5_reads_15 rfl rfl rfl ?_
      refine qs_dup dX5_reads_16 rfl rfl ?_
      refine qs_getI ffX5_176 rfl rfl dX5_reads_17 rfl ?_
      refine qs_iconst (1 : Int32) dX5_reads_20 (by decide) rfl ?_
      refine qs_iadd dX5_reads_21 rfl ?_
      refine qs_putI fwX5_176 rfl rfl dX5_reads_22 rfl (fun D45 => ?_)
      refine qs_goto (tgt := 0) dX5_reads_25 (by decide) ?_
      exact qs_sub [0] rfl (ih D45)
def fX5_reads (D : qs_D) : Option (Unit × qs_D) := (fX5_reads_L0 qs_F D)
set_option maxRecDepth 20000 in
theorem kX5_reads {l : Launch} {E : qs_E} {A : Nat → Prop} {D : qs_D} {X : Unit × qs_D}  (hX : fX5_reads  D = some X) : qs_Ctr l E A shM yX5_reads mX5_reads 2 qs_rv [.ref 0] D X := by
  refine qs_enter (plainFor_of_name (by decide)) rfl (Nat.le_of_ble_eq_true rfl) ?_ hX
  show qs_VO l E A shM mX5_reads 2 qs_rv 0 [(0, .ref 0)] [] D (fX5_reads  D)
  unfold fX5_reads
  exact qs_sub [0] rfl (lX5_reads_L0 qs_F D)
def fX5_takes (p1 : Int32) (D : qs_D) : Option (Int32 × qs_D) := (if (D 0 14) = 0 then (if (D 0 10) = p1 then (qs_bind (fX5_reads D) (fun x4 D3 => (some ((1 : Int32), D3)))) else (some ((0 : Int32), D))) else (some ((0 : Int32), D)))
set_option maxRecDepth 20000 in
theorem kX5_takes {l : Launch} {E : qs_E} {A : Nat → Prop} {p1 : Int32} {D : qs_D} {X : Int32 × qs_D}  (hX : fX5_takes p1 D = some X) : qs_Ctr l E A shM yX5_takes mX5_takes 3 qs_ri [.ref 0, .int p1] D X := by
  refine qs_enter (plainFor_of_name (by decide)) rfl (Nat.le_of_ble_eq_true rfl) ?_ hX
  show qs_VO l E A shM mX5_takes 3 qs_ri 0 [(0, .ref 0), (1, .int p1)] [] D (fX5_takes p1 D)
  unfold fX5_takes
  refine qs_aload_n dX5_takes_0 rfl rfl rfl ?_
  refine qs_getI ffX5_194 rfl rfl dX5_takes_1 rfl ?_
  refine qs_if_ne (tgt := 15) dX5_takes_4 (by decide) rfl (fun g1 => ?_) (fun g1 => ?_)
  · refine qs_aload_n dX5_takes_7 rfl rfl rfl ?_
    refine qs_getI ffX5_188 rfl rfl dX5_takes_8 rfl ?_
    refine qs_iload_n dX5_takes_11 rfl rfl rfl ?_
    refine qs_icmp_eq (tgt := 17) dX5_takes_12 (by decide) rfl (fun g2 => ?_) (fun g2 => ?_)
    · refine qs_aload_n dX5_takes_17 rfl rfl rfl ?_
      refine qs_cV0v cfX5_198 (Nat.le_of_ble_eq_true rfl) rfl rfl (fun Y hY => kX5_reads  hY) (Nat.le_of_ble_eq_true rfl) dX5_takes_18 rfl (fun x4 D3 g5 => ?_)
      refine qs_iconst (1 : Int32) dX5_takes_21 (by decide) rfl ?_
      exact qs_zret (Or.inr rfl) rfl dX5_takes_22
    · refine qs_iconst (0 : Int32) dX5_takes_15 (by decide) rfl ?_
      exact qs_zret (Or.inl rfl) rfl dX5_takes_16
  · refine qs_iconst (0 : Int32) dX5_takes_15 (by decide) rfl ?_
    exact qs_zret (Or.inl rfl) rfl dX5_takes_16
def fX5_number (p1 : Int32) (p2 : Int32) (D : qs_D) : Option (Int32 × qs_D) := (qs_let (D 0 13) (fun v1 => (if (D 0 14) = 0 then (if (D 0 10) = (20 : Int32) then (qs_bind (fX5_in v1 p1 p2 D) (fun x15 D14 => (if x15 = 0 then (qs_let (qs_u D14 0 14 (1 : Int32)) (fun D23 => (if (D23 0 14) = 0 then (qs_bind (fX5_reads D23) (fun x26 D25 => (some (v1, D25)))) else (some (v1, D23))))) else (qs_let (qs_u D14 0 14 (0 : Int32)) (fun D18 => (if (D18 0 14) = 0 then (qs_bind (fX5_reads D18) (fun x21 D20 => (some (v1, D20)))) else (some (v1, D18)))))))) else (qs_let (qs_u D 0 14 (1 : Int32)) (fun D9 => (if (D9 0 14) = 0 then (qs_bind (fX5_reads D9) (fun x12 D11 => (some (v1, D11)))) else (some (v1, D9)))))) else (qs_let (qs_u D 0 14 (1 : Int32)) (fun D3 => (if (D3 0 14) = 0 then (qs_bind (fX5_reads D3) (fun x6 D5 => (some (v1, D5)))) else (some (v1, D3))))))))
set_option maxRecDepth 20000 in
theorem kX5_number {l : Launch} {E : qs_E} {A : Nat → Prop} {p1 : Int32} {p2 : Int32} {D : qs_D} {X : Int32 × qs_D}  (hX : fX5_number p1 p2 D = some X) : qs_Ctr l E A shM yX5_number mX5_number 3 qs_ri [.ref 0, .int p1, .int p2] D X := by
  refine qs_enter (plainFor_of_name (by decide)) rfl (Nat.le_of_ble_eq_true rfl) ?_ hX
  show qs_VO l E A shM mX5_number 3 qs_ri 0 [(0, .ref 0), (1, .int p1), (2, .int p2)] [] D (fX5_number p1 p2 D)
  unfold fX5_number
  refine qs_aload_n dX5_number_0 rfl rfl rfl ?_
  refine qs_getI ffX5_185 rfl rfl dX5_number_1 rfl ?_
  refine qs_istore_n (fun v1 => [(3, .int v1), (0, .ref 0), (1, .int p1), (2, .int p2)]) dX5_number_4 rfl (by decide) (fun _ => rfl) rfl (fun v1 => ?_)
  refine qs_aload_n dX5_number_5 rfl rfl rfl ?_
  refine qs_aload_n dX5_number_6 rfl rfl rfl ?_
  refine qs_getI ffX5_194 rfl rfl dX5_number_7 rfl ?_
  refine qs_if_ne (tgt := 31) dX5_number_10 (by decide) rfl (fun g2 => ?_) (fun g2 => ?_)
  · refine qs_aload_n dX5_number_13 rfl rfl rfl ?_
    refine qs_getI ffX5_188 rfl rfl dX5_number_14 rfl ?_
    refine qs_bipush (20 : Int32) dX5_number_17 (by decide) rfl ?_
    refine qs_icmp_ne (tgt := 31) dX5_number_19 (by decide) rfl (fun g8 => ?_) (fun g8 => ?_)
    · refine qs_iload_n dX5_number_22 rfl rfl rfl ?_
      refine qs_iload_n dX5_number_23 rfl rfl rfl ?_
      refine qs_iload_n dX5_number_24 rfl rfl rfl ?_
      refine qs_cS3i cfX5_40 (Nat.le_of_ble_eq_true rfl) (fun Y hY => kX5_in  hY) (Nat.le_of_ble_eq_true rfl) dX5_number_25 rfl (fun x15 D14 g16 => ?_)
      refine qs_if_ne (tgt := 35) dX5_number_28 (by decide) rfl (fun g17 => ?_) (fun g17 => ?_)
      · refine qs_iconst (1 : Int32) dX5_number_31 (by decide) rfl ?_
        refine qs_goto (tgt := 36) dX5_number_32 (by decide) ?_
        refine qs_putZ (Or.inr rfl) fwX5_194 rfl rfl dX5_number_36 rfl (fun D23 => ?_)
        refine qs_aload_n dX5_number_39 rfl rfl rfl ?_
        refine qs_getI ffX5_194 rfl rfl dX5_number_40 rfl ?_
        refine qs_if_ne (tgt := 50) dX5_number_43 (by decide) rfl (fun g24 => ?_) (fun g24 => ?_)
        · refine qs_aload_n dX5_number_46 rfl rfl rfl ?_
          refine qs_cV0v cfX5_198 (Nat.le_of_ble_eq_true rfl) rfl rfl (fun Y hY => kX5_reads  hY) (Nat.le_of_ble_eq_true rfl) dX5_number_47 rfl (fun x26 D25 g27 => ?_)
          refine qs_iload_n dX5_number_50 rfl rfl rfl ?_
          exact qs_iret rfl dX5_number_51
        · refine qs_iload_n dX5_number_50 rfl rfl rfl ?_
          exact qs_iret rfl dX5_number_51
      · refine qs_iconst (0 : Int32) dX5_number_35 (by decide) rfl ?_
        refine qs_putZ (Or.inl rfl) fwX5_194 rfl rfl dX5_number_36 rfl (fun D18 => ?_)
        refine qs_aload_n dX5_number_39 rfl rfl rfl ?_
        refine qs_getI ffX5_194 rfl rfl dX5_number_40 rfl ?_
        refine qs_if_ne (tgt := 50) dX5_number_43 (by decide) rfl (fun g19 => ?_) (fun g19 => ?_)
        · refine qs_aload_n dX5_number_46 rfl rfl rfl ?_
          refine qs_cV0v cfX5_198 (Nat.le_of_ble_eq_true rfl) rfl rfl (fun Y hY => kX5_reads  hY) (Nat.le_of_ble_eq_true rfl) dX5_number_47 rfl (fun x21 D20 g22 => ?_)
          refine qs_iload_n dX5_number_50 rfl rfl rfl ?_
          exact qs_iret rfl dX5_number_51
        · refine qs_iload_n dX5_number_50 rfl rfl rfl ?_
          exact qs_iret rfl dX5_number_51
    · refine qs_iconst (1 : Int32) dX5_number_31 (by decide) rfl ?_
      refine qs_goto (tgt := 36) dX5_number_32 (by decide) ?_
      refine qs_putZ (Or.inr rfl) fwX5_194 rfl rfl dX5_number_36 rfl (fun D9 => ?_)
      refine qs_aload_n dX5_number_39 rfl rfl rfl ?_
      refine qs_getI ffX5_194 rfl rfl dX5_number_40 rfl ?_
      refine qs_if_ne (tgt := 50) dX5_number_43 (by decide) rfl (fun g10 => ?_) (fun g10 => ?_)
      · refine qs_aload_n dX5_number_46 rfl rfl rfl ?_
        refine qs_cV0v cfX5_198 (Nat.le_of_ble_eq_true rfl) rfl rfl (fun Y hY => kX5_reads  hY) (Nat.le_of_ble_eq_true rfl) dX5_number_47 rfl (fun x12 D11 g13 => ?_)
        refine qs_iload_n dX5_number_50 rfl rfl rfl ?_
        exact qs_iret rfl dX5_number_51
      · refine qs_iload_n dX5_number_50 rfl rfl rfl ?_
        exact qs_iret rfl dX5_number_51
  · refine qs_iconst (1 : Int32) dX5_number_31 (by decide) rfl ?_
    refine qs_goto (tgt := 36) dX5_number_32 (by decide) ?_
    refine qs_putZ (Or.inr rfl) fwX5_194 rfl rfl dX5_number_36 rfl (fun D3 => ?_)
    refine qs_aload_n dX5_number_39 rfl rfl rfl ?_
    refine qs_getI ffX5_194 rfl rfl dX5_number_40 rfl ?_
    refine qs_if_ne (tgt := 50) dX5_number_43 (by decide) rfl (fun g4 => ?_) (fun g4 => ?_)
    · refine qs_aload_n dX5_number_46 rfl rfl rfl ?_
      refine qs_cV0v cfX5_198 (Nat.le_of_ble_eq_true rfl) rfl rfl (fun Y hY => kX5_reads  hY) (Nat.le_of_ble_eq_true rfl) dX5_number_47 rfl (fun x6 D5 g7 => ?_)
      refine qs_iload_n dX5_number_50 rfl rfl rfl ?_
      exact qs_iret rfl dX5_number_51
    · refine qs_iload_n dX5_number_50 rfl rfl rfl ?_
      exact qs_iret rfl dX5_number_51
def fX5_perhaps (p1 : Int32) (p2 : Int32) (p3 : Int32) (p4 : Int32) (D : qs_D) : Option (Int32 × qs_D) := (qs_bind (fX5_takes p1 D) (fun x2 D1 => (if x2 = 0 then (some (p4, D1)) else (qs_bind (fX5_number p2 p3 D1) (fun x6 D5 => (some (x6, D5)))))))
set_option maxRecDepth 20000 in
theorem kX5_perhaps {l : Launch} {E : qs_E} {A : Nat → Prop} {p1 : Int32} {p2 : Int32} {p3 : Int32} {p4 : Int32} {D : qs_D} {X : Int32 × qs_D}  (hX : fX5_perhaps p1 p2 p3 p4 D = some X) : qs_Ctr l E A shM yX5_perhaps mX5_perhaps 4 qs_ri [.ref 0, .int p1, .int p2, .int p3, .int p4] D X := by
  refine qs_enter (plainFor_of_name (by decide)) rfl (Nat.le_of_ble_eq_true rfl) ?_ hX
  show qs_VO l E A shM mX5_perhaps 4 qs_ri 0 [(0, .ref 0), (1, .int p1), (2, .int p2), (3, .int p3), (4, .int p4)] [] D (fX5_perhaps p1 p2 p3 p4 D)
  unfold fX5_perhaps
  refine qs_aload_n dX5_perhaps_0 rfl rfl rfl ?_
  refine qs_iload_n dX5_perhaps_1 rfl rfl rfl ?_
  refine qs_cV1i cfX5_201 (Nat.le_of_ble_eq_true rfl) rfl rfl (fun Y hY => kX5_takes  hY) (Nat.le_of_ble_eq_true rfl) dX5_perhaps_2 rfl (fun x2 D1 g3 => ?_)
  refine qs_if_eq (tgt := 17) dX5_perhaps_5 (by decide) rfl (fun g4 => ?_) (fun g4 => ?_)
  · refine qs_iload dX5_perhaps_17 rfl rfl ?_
    exact qs_iret rfl dX5_perhaps_19
  · refine qs_aload_n dX5_perhaps_8 rfl rfl rfl ?_
    refine qs_iload_n dX5_perhaps_9 rfl rfl rfl ?_
    refine qs_iload_n dX5_perhaps_10 rfl rfl rfl ?_
    refine qs_cV2i cfX5_204 (Nat.le_of_ble_eq_true rfl) rfl rfl (fun Y hY => kX5_number  hY) (Nat.le_of_ble_eq_true rfl) dX5_perhaps_11 rfl (fun x6 D5 g7 => ?_)
    refine qs_goto (tgt := 19) dX5_perhaps_14 (by decide) ?_
    exact qs_iret rfl dX5_perhaps_19
def fX5_dishItem (D : qs_D) : Option (Unit × qs_D) := (qs_let (D 0 10) (fun v1 => (qs_g (5 : Int32) 70 (if (D 1 (5 : Int32).toNatClampNeg) = (8 : Int32) then (qs_let (qs_u D 0 14 (1 : Int32)) (fun D55 => (if (D55 0 14) = 0 then (qs_bind (fX5_reads D55) (fun x58 D57 => (qs_bind (fX5_perhaps (7 : Int32) (0 : Int32) (99 : Int32) (10 : Int32) D57) (fun x61 D60 => (qs_let x61 (fun v63 => (qs_bind (fX5_perhaps (8 : Int32) (0 : Int32) (99 : Int32) (10 : Int32) D60) (fun x65 D64 => (qs_let x65 (fun v67 => (qs_bind (fX5_takes (9 : Int32) D64) (fun x69 D68 => (if x69 = 0 then (qs_let (0 : Int32) (fun v72 => (qs_bind (fX5_takes (10 : Int32) D68) (fun x74 D73 => (if x74 = 0 then (qs_let (0 : Int32) (fun v77 => (if (D73 0 14) = 0 then (qs_bind (fX5_comes v1 v63 v67 v72 v77 D73) (fun x80 D79 => (qs_let x80 (fun v82 => (some ((), D79)))))) else (some ((), D73))))) else (qs_let (1 : Int32) (fun v83 => (if (D73 0 14) = 0 then (qs_bind (fX5_comes v1 v63 v67 v72 v83 D73) (fun x86 D85 => (qs_let x86 (fun v88 => (some ((), D85)))))) else (some ((), D73)))))))))) else (qs_let (1 : Int32) (fun v89 => (qs_bind (fX5_takes (10 : Int32) D68) (fun x91 D90 => (if x91 = 0 then (qs_let (0 : Int32) (fun v94 => (if (D90 0 14) = 0 then (qs_bind (fX5_comes v1 v63 v67 v89 v94 D90) (fun x97 D96 => (qs_let x97 (fun v99 => (some ((), D96)))))) else (some ((), D90))))) else (qs_let (1 : Int32) (fun v100 => (if (D90 0 14) = 0 then (qs_bind (fX5_comes v1 v63 v67 v89 v100 D90) (fun x103 D102 => (qs_let x103 (fun v105 => (some ((), D102)))))) else (some ((), D90))))))))))))))))))))))) else (some ((), D55))))) else (qs_let (qs_u D 0 14 (0 : Int32)) (fun D4 => (if (D4 0 14) = 0 then (qs_bind (fX5_reads D4) (fun x7 D6 => (qs_bind (fX5_perhaps (7 : Int32) (0 : Int32) (99 : Int32) (10 : Int32) D6) (fun x10 D9 => (qs_let x10 (fun v12 => (qs_bind (fX5_perhaps (8 : Int32) (0 : Int32) (99 : Int32) (10 : Int32) D9) (fun x14 D13 => (qs_let x14 (fun v16 => (qs_bind (fX5_takes (9 : Int32) D13) (fun x18 D17 => (if x18 = 0 then (qs_let (0 : Int32) (fun v21 => (qs_bind (fX5_takes (10 : Int32) D17) (fun x23 D22 => (if x23 = 0 then (qs_let (0 : Int32) (fun v26 => (if (D22 0 14) = 0 then (qs_bind (fX5_comes v1 v12 v16 v21 v26 D22) (fun x29 D28 => (qs_let x29 (fun v31 => (some ((), D28)))))) else (some ((), D22))))) else (qs_let (1 : Int32) (fun v32 => (if (D22 0 14) = 0 then (qs_bind (fX5_comes v1 v12 v16 v21 v32 D22) (fun x35 D34 => (qs_let x35 (fun v37 => (some ((), D34)))))) else (some ((), D22)))))))))) else (qs_let (1 : Int32) (fun v38 => (qs_bind (fX5_takes (10 : Int32) D17) (fun x40 D39 => (if x40 = 0 then (qs_let (0 : Int32) (fun v43 => (if (D39 0 14) = 0 then (qs_bind (fX5_comes v1 v12 v16 v38 v43 D39) (fun x46 D45 => (qs_let x46 (fun v48 => (some ((), D45)))))) else (some ((), D39))))) else (qs_let (1 : Int32) (fun v49 => (if (D39 0 14) = 0 then (qs_bind (fX5_comes v1 v12 v16 v38 v49 D39) (fun x52 D51 => (qs_let x52 (fun v54 => (some ((), D51)))))) else (some ((), D39))))))))))))))))))))))) else (some ((), D4)))))))))
set_option maxRecDepth 20000 in
theorem kX5_dishItem {l : Launch} {E : qs_E} {A : Nat → Prop} {D : qs_D} {X : Unit × qs_D}  (hX : fX5_dishItem  D = some X) : qs_Ctr l E A shM yX5_dishItem mX5_dishItem 5 qs_rv [.ref 0] D X := by
  refine qs_enter (plainFor_of_name (by decide)) rfl (Nat.le_of_ble_eq_true rfl) ?_ hX
  show qs_VO l E A shM mX5_dishItem 5 qs_rv 0 [(0, .ref 0)] [] D (fX5_dishItem  D)
  unfold fX5_dishItem
  refine qs_aload_n dX5_dishItem_0 rfl rfl rfl ?_
  refine qs_getI ffX5_188 rfl rfl dX5_dishItem_1 rfl ?_
  refine qs_istore_n (fun v1 => [(1, .int v1), (0, .ref 0)]) dX5_dishItem_4 rfl (by decide) (fun _ => rfl) rfl (fun v1 => ?_)
  refine qs_aload_n dX5_dishItem_5 rfl rfl rfl ?_
  refine qs_aload_n dX5_dishItem_6 rfl rfl rfl ?_
  refine qs_getR ffX5_9 rfl rfl dX5_dishItem_7 rfl ?_
  refine qs_iconst (5 : Int32) dX5_dishItem_10 (by decide) rfl ?_
  refine qs_iald rfl (by decide) dX5_dishItem_11 rfl (fun g2 => ?_)
  refine qs_bipush (8 : Int32) dX5_dishItem_12 (by decide) rfl ?_
  refine qs_icmp_ne (tgt := 21) dX5_dishItem_14 (by decide) rfl (fun g3 => ?_) (fun g3 => ?_)
  · refine qs_iconst (1 : Int32) dX5_dishItem_17 (by decide) rfl ?_
    refine qs_goto (tgt := 22) dX5_dishItem_18 (by decide) ?_
    refine qs_putZ (Or.inr rfl) fwX5_194 rfl rfl dX5_dishItem_22 rfl (fun D55 => ?_)
    refine qs_aload_n dX5_dishItem_25 rfl rfl rfl ?_
    refine qs_getI ffX5_194 rfl rfl dX5_dishItem_26 rfl ?_
    refine qs_if_eq (tgt := 33) dX5_dishItem_29 (by decide) rfl (fun g56 => ?_) (fun g56 => ?_)
    · refine qs_aload_n dX5_dishItem_33 rfl rfl rfl ?_
      refine qs_cV0v cfX5_198 (Nat.le_of_ble_eq_true rfl) rfl rfl (fun Y hY => kX5_reads  hY) (Nat.le_of_ble_eq_true rfl) dX5_dishItem_34 rfl (fun x58 D57 g59 => ?_)
      refine qs_aload_n dX5_dishItem_37 rfl rfl rfl ?_
      refine qs_bipush (7 : Int32) dX5_dishItem_38 (by decide) rfl ?_
      refine qs_iconst (0 : Int32) dX5_dishItem_40 (by decide) rfl ?_
      refine qs_bipush (99 : Int32) dX5_dishItem_41 (by decide) rfl ?_
      refine qs_bipush (10 : Int32) dX5_dishItem_43 (by decide) rfl ?_
      refine qs_cV4i cfX5_207 (Nat.le_of_ble_eq_true rfl) rfl rfl (fun Y hY => kX5_perhaps  hY) (Nat.le_of_ble_eq_true rfl) dX5_dishItem_45 rfl (fun x61 D60 g62 => ?_)
      refine qs_istore_n (fun v63 => [(2, .int v63), (1, .int v1), (0, .ref 0)]) dX5_dishItem_48 rfl (by decide) (fun _ => rfl) rfl (fun v63 => ?_)
      refine qs_aload_n dX5_dishItem_49 rfl rfl rfl ?_
      refine qs_bipush (8 : Int32) dX5_dishItem_50 (by decide) rfl ?_
      refine qs_iconst (0 : Int32) dX5_dishItem_52 (by decide) rfl ?_
      refine qs_bipush (99 : Int32) dX5_dishItem_53 (by decide) rfl ?_
      refine qs_bipush (10 : Int32) dX5_dishItem_55 (by decide) rfl ?_
      refine qs_cV4i cfX5_207 (Nat.le_of_ble_eq_true rfl) rfl rfl (fun Y hY => kX5_perhaps  hY) (Nat.le_of_ble_eq_true rfl) dX5_dishItem_57 rfl (fun x65 D64 g66 => ?_)
      refine qs_istore_n (fun v67 => [(3, .int v67), (2, .int v63), (1, .int v1), (0, .ref 0)]) dX5_dishItem_60 rfl (by decide) (fun _ => rfl) rfl (fun v67 => ?_)
      refine qs_aload_n dX5_dishItem_61 rfl rfl rfl ?_
      refine qs_bipush (9 : Int32) dX5_dishItem_62 (by decide) rfl ?_
      refine qs_cV1i cfX5_201 (Nat.le_of_ble_eq_true rfl) rfl rfl (fun Y hY => kX5_takes  hY) (Nat.le_of_ble_eq_true rfl) dX5_dishItem_64 rfl (fun x69 D68 g70 => ?_)
      refine qs_if_eq (tgt := 74) dX5_dishItem_67 (by decide) rfl (fun g71 => ?_) (fun g71 => ?_)
      · refine qs_iconst (0 : Int32) dX5_dishItem_74 (by decide) rfl ?_
        refine qs_istore (fun v72 => [(4, .int v72), (3, .int v67), (2, .int v63), (1, .int v1), (0, .ref 0)]) dX5_dishItem_75 (by decide) (fun _ => rfl) rfl (fun v72 => ?_)
        refine qs_aload_n dX5_dishItem_77 rfl rfl rfl ?_
        refine qs_bipush (10 : Int32) dX5_dishItem_78 (by decide) rfl ?_
        refine qs_cV1i cfX5_201 (Nat.le_of_ble_eq_true rfl) rfl rfl (fun Y hY => kX5_takes  hY) (Nat.le_of_ble_eq_true rfl) dX5_dishItem_80 rfl (fun x74 D73 g75 => ?_)
        refine qs_if_eq (tgt := 90) dX5_dishItem_83 (by decide) rfl (fun g76 => ?_) (fun g76 => ?_)
        · refine qs_iconst (0 : Int32) dX5_dishItem_90 (by decide) rfl ?_
          refine qs_istore (fun v77 => [(5, .int v77), (4, .int v72), (3, .int v67), (2, .int v63), (1, .int v1), (0, .ref 0)]) dX5_dishItem_91 (by decide) (fun _ => rfl) rfl (fun v77 => ?_)
          refine qs_aload_n dX5_dishItem_93 rfl rfl rfl ?_
          refine qs_getI ffX5_194 rfl rfl dX5_dishItem_94 rfl ?_
          refine qs_if_ne (tgt := 113) dX5_dishItem_97 (by decide) rfl (fun g78 => ?_) (fun g78 => ?_)
          · refine qs_aload_n dX5_dishItem_100 rfl rfl rfl ?_
            refine qs_iload_n dX5_dishItem_101 rfl rfl rfl ?_
            refine qs_iload_n dX5_dishItem_102 rfl rfl rfl ?_
            refine qs_iload_n dX5_dishItem_103 rfl rfl rfl ?_
            refine qs_iload dX5_dishItem_104 rfl rfl ?_
            refine qs_iload dX5_dishItem_106 rfl rfl ?_
            refine qs_cV5i cfX5_64 (Nat.le_of_ble_eq_true rfl) rfl rfl (fun Y hY => kX5_comes  hY) (Nat.le_of_ble_eq_true rfl) dX5_dishItem_108 rfl (fun x80 D79 g81 => ?_)
            refine qs_istore (fun v82 => [(6, .int v82), (5, .int v77), (4, .int v72), (3, .int v67), (2, .int v63), (1, .int v1), (0, .ref 0)]) dX5_dishItem_111 (by decide) (fun _ => rfl) rfl (fun v82 => ?_)
            exact qs_vret rfl dX5_dishItem_113
          · exact qs_vret rfl dX5_dishItem_113
        · refine qs_iconst (1 : Int32) dX5_dishItem_86 (by decide) rfl ?_
          refine qs_goto (tgt := 91) dX5_dishItem_87 (by decide) ?_
          refine qs_istore (fun v83 => [(5, .int v83), (4, .int v72), (3, .int v67), (2, .int v63), (1, .int v1), (0, .ref 0)]) dX5_dishItem_91 (by decide) (fun _ => rfl) rfl (fun v83 => ?_)
          refine qs_aload_n dX5_dishItem_93 rfl rfl rfl ?_
          refine qs_getI ffX5_194 rfl rfl dX5_dishItem_94 rfl ?_
          refine qs_if_ne (tgt := 113) dX5_dishItem_97 (by decide) rfl (fun g84 => ?_) (fun g84 => ?_)
          · refine qs_aload_n dX5_dishItem_100 rfl rfl rfl ?_
            refine qs_iload_n dX5_dishItem_101 rfl rfl rfl ?_
            refine qs_iload_n dX5_dishItem_102 rfl rfl rfl ?_
            refine qs_iload_n dX5_dishItem_103 rfl rfl rfl ?_
            refine qs_iload dX5_dishItem_104 rfl rfl ?_
            refine qs_iload dX5_dishItem_106 rfl rfl ?_
            refine qs_cV5i cfX5_64 (Nat.le_of_ble_eq_true rfl) rfl rfl (fun Y hY => kX5_comes  hY) (Nat.le_of_ble_eq_true rfl) dX5_dishItem_108 rfl (fun x86 D85 g87 => ?_)
            refine qs_istore (fun v88 => [(6, .int v88), (5, .int v83), (4, .int v72), (3, .int v67), (2, .int v63), (1, .int v1), (0, .ref 0)]) dX5_dishItem_111 (by decide) (fun _ => rfl) rfl (fun v88 => ?_)
            exact qs_vret rfl dX5_dishItem_113
          · exact qs_vret rfl dX5_dishItem_113
      · refine qs_iconst (1 : Int32) dX5_dishItem_70 (by decide) rfl ?_
        refine qs_goto (tgt := 75) dX5_dishItem_71 (by decide) ?_
        refine qs_istore (fun v89 => [(4, .int v89), (3, .int v67), (2, .int v63), (1, .int v1), (0, .ref 0)]) dX5_dishItem_75 (by decide) (fun _ => rfl) rfl (fun v89 => ?_)
        refine qs_aload_n dX5_dishItem_77 rfl rfl rfl ?_
        refine qs_bipush (10 : Int32) dX5_dishItem_78 (by decide) rfl ?_
        refine qs_cV1i cfX5_201 (Nat.le_of_ble_eq_true rfl) rfl rfl (fun Y hY => kX5_takes  hY) (Nat.le_of_ble_eq_true rfl) dX5_dishItem_80 rfl (fun x91 D90 g92 => ?_)
        refine qs_if_eq (tgt := 90) dX5_dishItem_83 (by decide) rfl (fun g93 => ?_) (fun g93 => ?_)
        · refine qs_iconst (0 : Int32) dX5_dishItem_90 (by decide) rfl ?_
          refine qs_istore (fun v94 => [(5, .int v94), (4, .int v89), (3, .int v67), (2, .int v63), (1, .int v1), (0, .ref 0)]) dX5_dishItem_91 (by decide) (fun _ => rfl) rfl (fun v94 => ?_)
          refine qs_aload_n dX5_dishItem_93 rfl rfl rfl ?_
          refine qs_getI ffX5_194 rfl rfl dX5_dishItem_94 rfl ?_
          refine qs_if_ne (tgt := 113) dX5_dishItem_97 (by decide) rfl (fun g95 => ?_) (fun g95 => ?_)
          · refine qs_aload_n dX5_dishItem_100 rfl rfl rfl ?_
            refine qs_iload_n dX5_dishItem_101 rfl rfl rfl ?_
            refine qs_iload_n dX5_dishItem_102 rfl rfl rfl ?_
            refine qs_iload_n dX5_dishItem_103 rfl rfl rfl ?_
            refine qs_iload dX5_dishItem_104 rfl rfl ?_
            refine qs_iload dX5_dishItem_106 rfl rfl ?_
            refine qs_cV5i cfX5_64 (Nat.le_of_ble_eq_true rfl) rfl rfl (fun Y hY => kX5_comes  hY) (Nat.le_of_ble_eq_true rfl) dX5_dishItem_108 rfl (fun x97 D96 g98 => ?_)
            refine qs_istore (fun v99 => [(6, .int v99), (5, .int v94), (4, .int v89), (3, .int v67), (2, .int v63), (1, .int v1), (0, .ref 0)]) dX5_dishItem_111 (by decide) (fun _ => rfl) rfl (fun v99 => ?_)
            exact qs_vret rfl dX5_dishItem_113
          · exact qs_vret rfl dX5_dishItem_113
        · refine qs_iconst (1 : Int32) dX5_dishItem_86 (by decide) rfl ?_
          refine qs_goto (tgt := 91) dX5_dishItem_87 (by decide) ?_
          refine qs_istore (fun v100 => [(5, .int v100), (4, .int v89), (3, .int v67), (2, .int v63), (1, .int v1), (0, .ref 0)]) dX5_dishItem_91 (by decide) (fun _ => rfl) rfl (fun v100 => ?_)
          refine qs_aload_n dX5_dishItem_93 rfl rfl rfl ?_
          refine qs_getI ffX5_194 rfl rfl dX5_dishItem_94 rfl ?_
          refine qs_if_ne (tgt := 113) dX5_dishItem_97 (by decide) rfl (fun g101 => ?_) (fun g101 => ?_)
          · refine qs_aload_n dX5_dishItem_100 rfl rfl rfl ?_
            refine qs_iload_n dX5_dishItem_101 rfl rfl rfl ?_
            refine qs_iload_n dX5_dishItem_102 rfl rfl rfl ?_
            refine qs_iload_n dX5_dishItem_103 rfl rfl rfl ?_
            refine qs_iload dX5_dishItem_104 rfl rfl ?_
            refine qs_iload dX5_dishItem_106 rfl rfl ?_
            refine qs_cV5i cfX5_64 (Nat.le_of_ble_eq_true rfl) rfl rfl (fun Y hY => kX5_comes  hY) (Nat.le_of_ble_eq_true rfl) dX5_dishItem_108 rfl (fun x103 D102 g104 => ?_)
            refine qs_istore (fun v105 => [(6, .int v105), (5, .int v100), (4, .int v89), (3, .int v67), (2, .int v63), (1, .int v1), (0, .ref 0)]) dX5_dishItem_111 (by decide) (fun _ => rfl) rfl (fun v105 => ?_)
            exact qs_vret rfl dX5_dishItem_113
          · exact qs_vret rfl dX5_dishItem_113
    · exact qs_vret rfl dX5_dishItem_32
  · refine qs_iconst (0 : Int32) dX5_dishItem_21 (by decide) rfl ?_
    refine qs_putZ (Or.inl rfl) fwX5_194 rfl rfl dX5_dishItem_22 rfl (fun D4 => ?_)
    refine qs_aload_n dX5_dishItem_25 rfl rfl rfl ?_
    refine qs_getI ffX5_194 rfl rfl dX5_dishItem_26 rfl ?_
    refine qs_if_eq (tgt := 33) dX5_dishItem_29 (by decide) rfl (fun g5 => ?_) (fun g5 => ?_)
    · refine qs_aload_n dX5_dishItem_33 rfl rfl rfl ?_
      refine qs_cV0v cfX5_198 (Nat.le_of_ble_eq_true rfl) rfl rfl (fun Y hY => kX5_reads  hY) (Nat.le_of_ble_eq_true rfl) dX5_dishItem_34 rfl (fun x7 D6 g8 => ?_)
      refine qs_aload_n dX5_dishItem_37 rfl rfl rfl ?_
      refine qs_bipush (7 : Int32) dX5_dishItem_38 (by decide) rfl ?_
      refine qs_iconst (0 : Int32) dX5_dishItem_40 (by decide) rfl ?_
      refine qs_bipush (99 : Int32) dX5_dishItem_41 (by decide) rfl ?_
      refine qs_bipush (10 : Int32) dX5_dishItem_43 (by decide) rfl ?_
      refine qs_cV4i cfX5_207 (Nat.le_of_ble_eq_true rfl) rfl rfl (fun Y hY => kX5_perhaps  hY) (Nat.le_of_ble_eq_true rfl) dX5_dishItem_45 rfl (fun x10 D9 g11 => ?_)
      refine qs_istore_n (fun v12 => [(2, .int v12), (1, .int v1), (0, .ref 0)]) dX5_dishItem_48 rfl (by decide) (fun _ => rfl) rfl (fun v12 => ?_)
      refine qs_aload_n dX5_dishItem_49 rfl rfl rfl ?_
      refine qs_bipush (8 : Int32) dX5_dishItem_50 (by decide) rfl ?_
      refine qs_iconst (0 : Int32) dX5_dishItem_52 (by decide) rfl ?_
      refine qs_bipush (99 : Int32) dX5_dishItem_53 (by decide) rfl ?_
      refine qs_bipush (10 : Int32) dX5_dishItem_55 (by decide) rfl ?_
      refine qs_cV4i cfX5_207 (Nat.le_of_ble_eq_true rfl) rfl rfl (fun Y hY => kX5_perhaps  hY) (Nat.le_of_ble_eq_true rfl) dX5_dishItem_57 rfl (fun x14 D13 g15 => ?_)
      refine qs_istore_n (fun v16 => [(3, .int v16), (2, .int v12), (1, .int v1), (0, .ref 0)]) dX5_dishItem_60 rfl (by decide) (fun _ => rfl) rfl (fun v16 => ?_)
      refine qs_aload_n dX5_dishItem_61 rfl rfl rfl ?_
      refine qs_bipush (9 : Int32) dX5_dishItem_62 (by decide) rfl ?_
      refine qs_cV1i cfX5_201 (Nat.le_of_ble_eq_true rfl) rfl rfl (fun Y hY => kX5_takes  hY) (Nat.le_of_ble_eq_true rfl) dX5_dishItem_64 rfl (fun x18 D17 g19 => ?_)
      refine qs_if_eq (tgt := 74) dX5_dishItem_67 (by decide) rfl (fun g20 => ?_) (fun g20 => ?_)
      · refine qs_iconst (0 : Int32) dX5_dishItem_74 (by decide) rfl ?_
        refine qs_istore (fun v21 => [(4, .int v21), (3, .int v16), (2, .int v12), (1, .int v1), (0, .ref 0)]) dX5_dishItem_75 (by decide) (fun _ => rfl) rfl (fun v21 => ?_)
        refine qs_aload_n dX5_dishItem_77 rfl rfl rfl ?_
        refine qs_bipush (10 : Int32) dX5_dishItem_78 (by decide) rfl ?_
        refine qs_cV1i cfX5_201 (Nat.le_of_ble_eq_true rfl) rfl rfl (fun Y hY => kX5_takes  hY) (Nat.le_of_ble_eq_true rfl) dX5_dishItem_80 rfl (fun x23 D22 g24 => ?_)
        refine qs_if_eq (tgt := 90) dX5_dishItem_83 (by decide) rfl (fun g25 => ?_) (fun g25 => ?_)
        · refine qs_iconst (0 : Int32) dX5_dishItem_90 (by decide) rfl ?_
          refine qs_istore (fun v26 => [(5, .int v26), (4, .int v21), (3, .int v16), (2, .int v12), (1, .int v1), (0, .ref 0)]) dX5_dishItem_91 (by decide) (fun _ => rfl) rfl (fun v26 => ?_)
          refine qs_aload_n dX5_dishItem_93 rfl rfl rfl ?_
          refine qs_getI ffX5_194 rfl rfl dX5_dishItem_94 rfl ?_
          refine qs_if_ne (tgt := 113) dX5_dishItem_97 (by decide) rfl (fun g27 => ?_) (fun g27 => ?_)
          · refine qs_aload_n dX5_dishItem_100 rfl rfl rfl ?_
            refine qs_iload_n dX5_dishItem_101 rfl rfl rfl ?_
            refine qs_iload_n dX5_dishItem_102 rfl rfl rfl ?_
            refine qs_iload_n dX5_dishItem_103 rfl rfl rfl ?_
            refine qs_iload dX5_dishItem_104 rfl rfl ?_
            refine qs_iload dX5_dishItem_106 rfl rfl ?_
            refine qs_cV5i cfX5_64 (Nat.le_of_ble_eq_true rfl) rfl rfl (fun Y hY => kX5_comes  hY) (Nat.le_of_ble_eq_true rfl) dX5_dishItem_108 rfl (fun x29 D28 g30 => ?_)
            refine qs_istore (fun v31 => [(6, .int v31), (5, .int v26), (4, .int v21), (3, .int v16), (2, .int v12), (1, .int v1), (0, .ref 0)]) dX5_dishItem_111 (by decide) (fun _ => rfl) rfl (fun v31 => ?_)
            exact qs_vret rfl dX5_dishItem_113
          · exact qs_vret rfl dX5_dishItem_113
        · refine qs_iconst (1 : Int32) dX5_dishItem_86 (by decide) rfl ?_
          refine qs_goto (tgt := 91) dX5_dishItem_87 (by decide) ?_
          refine qs_istore (fun v32 => [(5, .int v32), (4, .int v21), (3, .int v16), (2, .int v12), (1, .int v1), (0, .ref 0)]) dX5_dishItem_91 (by decide) (fun _ => rfl) rfl (fun v32 => ?_)
          refine qs_aload_n dX5_dishItem_93 rfl rfl rfl ?_
          refine qs_getI ffX5_194 rfl rfl dX5_dishItem_94 rfl ?_
          refine qs_if_ne (tgt := 113) dX5_dishItem_97 (by decide) rfl (fun g33 => ?_) (fun g33 => ?_)
          · refine qs_aload_n dX5_dishItem_100 rfl rfl rfl ?_
            refine qs_iload_n dX5_dishItem_101 rfl rfl rfl ?_
            refine qs_iload_n dX5_dishItem_102 rfl rfl rfl ?_
            refine qs_iload_n dX5_dishItem_103 rfl rfl rfl ?_
            refine qs_iload dX5_dishItem_104 rfl rfl ?_
            refine qs_iload dX5_dishItem_106 rfl rfl ?_
            refine qs_cV5i cfX5_64 (Nat.le_of_ble_eq_true rfl) rfl rfl (fun Y hY => kX5_comes  hY) (Nat.le_of_ble_eq_true rfl) dX5_dishItem_108 rfl (fun x35 D34 g36 => ?_)
            refine qs_istore (fun v37 => [(6, .int v37), (5, .int v32), (4, .int v21), (3, .int v16), (2, .int v12), (1, .int v1), (0, .ref 0)]) dX5_dishItem_111 (by decide) (fun _ => rfl) rfl (fun v37 => ?_)
            exact qs_vret rfl dX5_dishItem_113
          · exact qs_vret rfl dX5_dishItem_113
      · refine qs_iconst (1 : Int32) dX5_dishItem_70 (by decide) rfl ?_
        refine qs_goto (tgt := 75) dX5_dishItem_71 (by decide) ?_
        refine qs_istore (fun v38 => [(4, .int v38), (3, .int v16), (2, .int v12), (1, .int v1), (0, .ref 0)]) dX5_dishItem_75 (by decide) (fun _ => rfl) rfl (fun v38 => ?_)
        refine qs_aload_n dX5_dishItem_77 rfl rfl rfl ?_
        refine qs_bipush (10 : Int32) dX5_dishItem_78 (by decide) rfl ?_
        refine qs_cV1i cfX5_201 (Nat.le_of_ble_eq_true rfl) rfl rfl (fun Y hY => kX5_takes  hY) (Nat.le_of_ble_eq_true rfl) dX5_dishItem_80 rfl (fun x40 D39 g41 => ?_)
        refine qs_if_eq (tgt := 90) dX5_dishItem_83 (by decide) rfl (fun g42 => ?_) (fun g42 => ?_)
        · refine qs_iconst (0 : Int32) dX5_dishItem_90 (by decide) rfl ?_
          refine qs_istore (fun v43 => [(5, .int v43), (4, .int v38), (3, .int v16), (2, .int v12), (1, .int v1), (0, .ref 0)]) dX5_dishItem_91 (by decide) (fun _ => rfl) rfl (fun v43 => ?_)
          refine qs_aload_n dX5_dishItem_93 rfl rfl rfl ?_
          refine qs_getI ffX5_194 rfl rfl dX5_dishItem_94 rfl ?_
          refine qs_if_ne (tgt := 113) dX5_dishItem_97 (by decide) rfl (fun g44 => ?_) (fun g44 => ?_)
          · refine qs_aload_n dX5_dishItem_100 rfl rfl rfl ?_
            refine qs_iload_n dX5_dishItem_101 rfl rfl rfl ?_
            refine qs_iload_n dX5_dishItem_102 rfl rfl rfl ?_
            refine qs_iload_n dX5_dishItem_103 rfl rfl rfl ?_
            refine qs_iload dX5_dishItem_104 rfl rfl ?_
            refine qs_iload dX5_dishItem_106 rfl rfl ?_
            refine qs_cV5i cfX5_64 (Nat.le_of_ble_eq_true rfl) rfl rfl (fun Y hY => kX5_comes  hY) (Nat.le_of_ble_eq_true rfl) dX5_dishItem_108 rfl (fun x46 D45 g47 => ?_)
            refine qs_istore (fun v48 => [(6, .int v48), (5, .int v43), (4, .int v38), (3, .int v16), (2, .int v12), (1, .int v1), (0, .ref 0)]) dX5_dishItem_111 (by decide) (fun _ => rfl) rfl (fun v48 => ?_)
            exact qs_vret rfl dX5_dishItem_113
          · exact qs_vret rfl dX5_dishItem_113
        · refine qs_iconst (1 : Int32) dX5_dishItem_86 (by decide) rfl ?_
          refine qs_goto (tgt := 91) dX5_dishItem_87 (by decide) ?_
          refine qs_istore (fun v49 => [(5, .int v49), (4, .int v38), (3, .int v16), (2, .int v12), (1, .int v1), (0, .ref 0)]) dX5_dishItem_91 (by decide) (fun _ => rfl) rfl (fun v49 => ?_)
          refine qs_aload_n dX5_dishItem_93 rfl rfl rfl ?_
          refine qs_getI ffX5_194 rfl rfl dX5_dishItem_94 rfl ?_
          refine qs_if_ne (tgt := 113) dX5_dishItem_97 (by decide) rfl (fun g50 => ?_) (fun g50 => ?_)
          · refine qs_aload_n dX5_dishItem_100 rfl rfl rfl ?_
            refine qs_iload_n dX5_dishItem_101 rfl rfl rfl ?_
            refine qs_iload_n dX5_dishItem_102 rfl rfl rfl ?_
            refine qs_iload_n dX5_dishItem_103 rfl rfl rfl ?_
            refine qs_iload dX5_dishItem_104 rfl rfl ?_
            refine qs_iload dX5_dishItem_106 rfl rfl ?_
            refine qs_cV5i cfX5_64 (Nat.le_of_ble_eq_true rfl) rfl rfl (fun Y hY => kX5_comes  hY) (Nat.le_of_ble_eq_true rfl) dX5_dishItem_108 rfl (fun x52 D51 g53 => ?_)
            refine qs_istore (fun v54 => [(6, .int v54), (5, .int v49), (4, .int v38), (3, .int v16), (2, .int v12), (1, .int v1), (0, .ref 0)]) dX5_dishItem_111 (by decide) (fun _ => rfl) rfl (fun v54 => ?_)
            exact qs_vret rfl dX5_dishItem_113
          · exact qs_vret rfl dX5_dishItem_113
    · exact qs_vret rfl dX5_dishItem_32
