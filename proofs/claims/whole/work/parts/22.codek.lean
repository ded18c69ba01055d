def fX5_notCopied (p1 : Int32) (p2 : Int32) (p3 : Int32) (p4 : Int32) (p5 : Int32) (D : qs_D) : Option (Int32 × qs_D) := (qs_bind (fX5_isSheet p1 D) (fun x2 D1 => (if x2 = 0 then (some ((-1000001 : Int32), D1)) else (qs_bind (fX5_isSheet p3 D1) (fun x6 D5 => (if x6 = 0 then (some ((-1000001 : Int32), D5)) else (qs_g p1 4 (if (D5 5 p1.toNatClampNeg) = 0 then (some ((-1000006 : Int32), D5)) else (qs_g p3 4 (if (D5 5 p3.toNatClampNeg) = 0 then (some ((-1000006 : Int32), D5)) else (qs_g p1 4 (qs_g p3 4 (if (D5 5 p1.toNatClampNeg) = (D5 5 p3.toNatClampNeg) then (if p5 < 0 then (qs_let (0 : Int32) (fun v17 => (if v17 = 0 then (some ((-1000001 : Int32), D5)) else (some ((0 : Int32), D5))))) else (if p2 < 0 then (qs_let (0 : Int32) (fun v20 => (if v20 = 0 then (some ((-1000001 : Int32), D5)) else (some ((0 : Int32), D5))))) else (if p4 < 0 then (qs_let (0 : Int32) (fun v23 => (if v23 = 0 then (some ((-1000001 : Int32), D5)) else (some ((0 : Int32), D5))))) else (qs_g p1 4 (if ((D5 6 p1.toNatClampNeg) - p2) < p5 then (qs_let (0 : Int32) (fun v27 => (if v27 = 0 then (some ((-1000001 : Int32), D5)) else (some ((0 : Int32), D5))))) else (qs_g p3 4 (if ((D5 6 p3.toNatClampNeg) - p4) < p5 then (qs_let (0 : Int32) (fun v31 => (if v31 = 0 then (some ((-1000001 : Int32), D5)) else (some ((0 : Int32), D5))))) else (qs_let (1 : Int32) (fun v33 => (if v33 = 0 then (some ((-1000001 : Int32), D5)) else (some ((0 : Int32), D5)))))))))))) else (some ((-1000003 : Int32), D5)))))))))))))))
set_option maxRecDepth 20000 in
theorem kX5_notCopied {l : Launch} {E : qs_E} {A : Nat → Prop} {p1 : Int32} {p2 : Int32} {p3 : Int32} {p4 : Int32} {p5 : Int32} {D : qs_D} {X : Int32 × qs_D}  (hX : fX5_notCopied p1 p2 p3 p4 p5 D = some X) : qs_Ctr l E A shM yX5_notCopied mX5_notCopied 2 qs_ri [.ref 0, .int p1, .int p2, .int p3, .int p4, .int p5] D X := by
  refine qs_enter (plainFor_of_name (by decide)) rfl (Nat.le_of_ble_eq_true rfl) ?_ hX
  show qs_VO l E A shM mX5_notCopied 2 qs_ri 0 [(0, .ref 0), (1, .int p1), (2, .int p2), (3, .int p3), (4, .int p4), (5, .int p5)] [] D (fX5_notCopied p1 p2 p3 p4 p5 D)
  unfold fX5_notCopied
  refine qs_iload_n dX5_notCopied_0 rfl rfl rfl ?_
  refine qs_cS1i cfX5_149 (Nat.le_of_ble_eq_true rfl) (fun Y hY => kX5_isSheet  hY) (Nat.le_of_ble_eq_true rfl) dX5_notCopied_1 rfl (fun x2 D1 g3 => ?_)
  refine qs_if_eq (tgt := 14) dX5_notCopied_4 (by decide) rfl (fun g4 => ?_) (fun g4 => ?_)
  · refine qs_ldc wcX5_34 dX5_notCopied_14 rfl ?_
    exact qs_iret rfl dX5_notCopied_16
  · refine qs_iload_n dX5_notCopied_7 rfl rfl rfl ?_
    refine qs_cS1i cfX5_149 (Nat.le_of_ble_eq_true rfl) (fun Y hY => kX5_isSheet  hY) (Nat.le_of_ble_eq_true rfl) dX5_notCopied_8 rfl (fun x6 D5 g7 => ?_)
    refine qs_if_ne (tgt := 17) dX5_notCopied_11 (by decide) rfl (fun g8 => ?_) (fun g8 => ?_)
    · refine qs_ldc wcX5_34 dX5_notCopied_14 rfl ?_
      exact qs_iret rfl dX5_notCopied_16
    · refine qs_aload_n dX5_notCopied_17 rfl rfl rfl ?_
      refine qs_getR ffX5_22 rfl rfl dX5_notCopied_18 rfl ?_
      refine qs_iload_n dX5_notCopied_21 rfl rfl rfl ?_
      refine qs_iald rfl (by decide) dX5_notCopied_22 rfl (fun g9 => ?_)
      refine qs_if_eq (tgt := 35) dX5_notCopied_23 (by decide) rfl (fun g10 => ?_) (fun g10 => ?_)
      · refine qs_ldc wcX5_152 dX5_notCopied_35 rfl ?_
        exact qs_iret rfl dX5_notCopied_37
      · refine qs_aload_n dX5_notCopied_26 rfl rfl rfl ?_
        refine qs_getR ffX5_22 rfl rfl dX5_notCopied_27 rfl ?_
        refine qs_iload_n dX5_notCopied_30 rfl rfl rfl ?_
        refine qs_iald rfl (by decide) dX5_notCopied_31 rfl (fun g11 => ?_)
        refine qs_if_ne (tgt := 38) dX5_notCopied_32 (by decide) rfl (fun g12 => ?_) (fun g12 => ?_)
        · refine qs_ldc wcX5_152 dX5_notCopied_35 rfl ?_
          exact qs_iret rfl dX5_notCopied_37
        · refine qs_aload_n dX5_notCopied_38 rfl rfl rfl ?_
          refine qs_getR ffX5_22 rfl rfl dX5_notCopied_39 rfl ?_
          refine qs_iload_n dX5_notCopied_42 rfl rfl rfl ?_
          refine qs_iald rfl (by decide) dX5_notCopied_43 rfl (fun g13 => ?_)
          refine qs_aload_n dX5_notCopied_44 rfl rfl rfl ?_
          refine qs_getR ffX5_22 rfl rfl dX5_notCopied_45 rfl ?_
          refine qs_iload_n dX5_notCopied_48 rfl rfl rfl ?_
          refine qs_iald rfl (by decide) dX5_notCopied_49 rfl (fun g14 => ?_)
          refine qs_icmp_eq (tgt := 56) dX5_notCopied_50 (by decide) rfl (fun g15 => ?_) (fun g15 => ?_)
          · refine qs_iload dX5_notCopied_56 rfl rfl ?_
            refine qs_if_lt (tgt := 101) dX5_notCopied_58 (by decide) rfl (fun g16 => ?_) (fun g16 => ?_)
            · refine qs_iconst (0 : Int32) dX5_notCopied_101 (by decide) rfl ?_
              refine qs_istore (fun v17 => [(6, .int v17), (0, .ref 0), (1, .int p1), (2, .int p2), (3, .int p3), (4, .int p4), (5, .int p5)]) dX5_notCopied_102 (by decide) (fun _ => rfl) rfl (fun v17 => ?_)
              refine qs_iload dX5_notCopied_104 rfl rfl ?_
              refine qs_if_eq (tgt := 113) dX5_notCopied_106 (by decide) rfl (fun g18 => ?_) (fun g18 => ?_)
              · refine qs_ldc wcX5_34 dX5_notCopied_113 rfl ?_
                exact qs_iret rfl dX5_notCopied_115
              · refine qs_iconst (0 : Int32) dX5_notCopied_109 (by decide) rfl ?_
                refine qs_goto (tgt := 115) dX5_notCopied_110 (by decide) ?_
                exact qs_iret rfl dX5_notCopied_115
            · refine qs_iload_n dX5_notCopied_61 rfl rfl rfl ?_
              refine qs_if_lt (tgt := 101) dX5_notCopied_62 (by decide) rfl (fun g19 => ?_) (fun g19 => ?_)
              · refine qs_iconst (0 : Int32) dX5_notCopied_101 (by decide) rfl ?_
                refine qs_istore (fun v20 => [(6, .int v20), (0, .ref 0), (1, .int p1), (2, .int p2), (3, .int p3), (4, .int p4), (5, .int p5)]) dX5_notCopied_102 (by decide) (fun _ => rfl) rfl (fun v20 => ?_)
                refine qs_iload dX5_notCopied_104 rfl rfl ?_
                refine qs_if_eq (tgt := 113) dX5_notCopied_106 (by decide) rfl (fun g21 => ?_) (fun g21 => ?_)
                · refine qs_ldc wcX5_34 dX5_notCopied_113 rfl ?_
                  exact qs_iret rfl dX5_notCopied_115
                · refine qs_iconst (0 : Int32) dX5_notCopied_109 (by decide) rfl ?_
                  refine qs_goto (tgt := 115) dX5_notCopied_110 (by decide) ?_
                  exact qs_iret rfl dX5_notCopied_115
              · refine qs_iload dX5_notCopied_65 rfl rfl ?_
                refine qs_if_lt (tgt := 101) dX5_notCopied_67 (by decide) rfl (fun g22 => ?_) (fun g22 => ?_)
                · refine qs_iconst (0 : Int32) dX5_notCopied_101 (by decide) rfl ?_
                  refine qs_istore (fun v23 => [(6, .int v23), (0, .ref 0), (1, .int p1), (2, .int p2), (3, .int p3), (4, .int p4), (5, .int p5)]) dX5_notCopied_102 (by decide) (fun _ => rfl) rfl (fun v23 => ?_)
                  refine qs_iload dX5_notCopied_104 rfl rfl ?_
                  refine qs_if_eq (tgt := 113) dX5_notCopied_106 (by decide) rfl (fun g24 => ?_) (fun g24 => ?_)
                  · refine qs_ldc wcX5_34 dX5_notCopied_113 rfl ?_
                    exact qs_iret rfl dX5_notCopied_115
                  · refine qs_iconst (0 : Int32) dX5_notCopied_109 (by decide) rfl ?_
                    refine qs_goto (tgt := 115) dX5_notCopied_110 (by decide) ?_
                    exact qs_iret rfl dX5_notCopied_115
                · refine qs_iload dX5_notCopied_70 rfl rfl ?_
                  refine qs_aload_n dX5_notCopied_72 rfl rfl rfl ?_
                  refine qs_getR ffX5_25 rfl rfl dX5_notCopied_73 rfl ?_
                  refine qs_iload_n dX5_notCopied_76 rfl rfl rfl ?_
                  refine qs_iald rfl (by decide) dX5_notCopied_77 rfl (fun g25 => ?_)
                  refine qs_iload_n dX5_notCopied_78 rfl rfl rfl ?_
                  refine qs_isub dX5_notCopied_79 rfl ?_
                  refine qs_icmp_gt (tgt := 101) dX5_notCopied_80 (by decide) rfl (fun g26 => ?_) (fun g26 => ?_)
                  · refine qs_iconst (0 : Int32) dX5_notCopied_101 (by decide) rfl ?_
                    refine qs_istore (fun v27 => [(6, .int v27), (0, .ref 0), (1, .int p1), (2, .int p2), (3, .int p3), (4, .int p4), (5, .int p5)]) dX5_notCopied_102 (by decide) (fun _ => rfl) rfl (fun v27 => ?_)
                    refine qs_iload dX5_notCopied_104 rfl rfl ?_
                    refine qs_if_eq (tgt := 113) dX5_notCopied_106 (by decide) rfl (fun g28 => ?_) (fun g28 => ?_)
                    · refine qs_ldc wcX5_34 dX5_notCopied_113 rfl ?_
                      exact qs_iret rfl dX5_notCopied_115
                    · refine qs_iconst (0 : Int32) dX5_notCopied_109 (by decide) rfl ?_
                      refine qs_goto (tgt := 115) dX5_notCopied_110 (by decide) ?_
                      exact qs_iret rfl dX5_notCopied_115
                  · refine qs_iload dX5_notCopied_83 rfl rfl ?_
                    refine qs_aload_n dX5_notCopied_85 rfl rfl rfl ?_
                    refine qs_getR ffX5_25 rfl rfl dX5_notCopied_86 rfl ?_
                    refine qs_iload_n dX5_notCopied_89 rfl rfl rfl ?_
                    refine qs_iald rfl (by decide) dX5_notCopied_90 rfl (fun g29 => ?_)
                    refine qs_iload dX5_notCopied_91 rfl rfl ?_
                    refine qs_isub dX5_notCopied_93 rfl ?_
                    refine qs_icmp_gt (tgt := 101) dX5_notCopied_94 (by decide) rfl (fun g30 => ?_) (fun g30 => ?_)
                    · refine qs_iconst (0 : Int32) dX5_notCopied_101 (by decide) rfl ?_
                      refine qs_istore (fun v31 => [(6, .int v31), (0, .ref 0), (1, .int p1), (2, .int p2), (3, .int p3), (4, .int p4), (5, .int p5)]) dX5_notCopied_102 (by decide) (fun _ => rfl) rfl (fun v31 => ?_)
                      refine qs_iload dX5_notCopied_104 rfl rfl ?_
                      refine qs_if_eq (tgt := 113) dX5_notCopied_106 (by decide) rfl (fun g32 => ?_) (fun g32 => ?_)
                      · refine qs_ldc wcX5_34 dX5_notCopied_113 rfl ?_
                        exact qs_iret rfl dX5_notCopied_115
                      · refine qs_iconst (0 : Int32) dX5_notCopied_109 (by decide) rfl ?_
                        refine qs_goto (tgt := 115) dX5_notCopied_110 (by decide) ?_
                        exact qs_iret rfl dX5_notCopied_115
                    · refine qs_iconst (1 : Int32) dX5_notCopied_97 (by decide) rfl ?_
                      refine qs_goto (tgt := 102) dX5_notCopied_98 (by decide) ?_
                      refine qs_istore (fun v33 => [(6, .int v33), (0, .ref 0), (1, .int p1), (2, .int p2), (3, .int p3), (4, .int p4), (5, .int p5)]) dX5_notCopied_102 (by decide) (fun _ => rfl) rfl (fun v33 => ?_)
                      refine qs_iload dX5_notCopied_104 rfl rfl ?_
                      refine qs_if_eq (tgt := 113) dX5_notCopied_106 (by decide) rfl (fun g34 => ?_) (fun g34 => ?_)
                      · refine qs_ldc wcX5_34 dX5_notCopied_113 rfl ?_
                        exact qs_iret rfl dX5_notCopied_115
                      · refine qs_iconst (0 : Int32) dX5_notCopied_109 (by decide) rfl ?_
                        refine qs_goto (tgt := 115) dX5_notCopied_110 (by decide) ?_
                        exact qs_iret rfl dX5_notCopied_115
          · refine qs_ldc wcX5_223 dX5_notCopied_53 rfl ?_
            exact qs_iret rfl dX5_notCopied_55
abbrev mX5_copy : qs_M := (RX5, cX5_copy, 9, (some FieldType.int))
def fX5_copy_L28 : Nat → Int32 → Int32 → Int32 → Int32 → Int32 → Int32 → Int32 → qs_D → Option (Int32 × qs_D)
  | 0, _, _, _, _, _, _, _, _ => none
  | n + 1, w1, w2, w3, w4, w5, w6, w7, D => (if w5 ≤ w7 then (some (w5, D)) else (if w4 ≤ w2 then (qs_let w7 (fun v9 => (qs_g ((((40 : Int32) * w1) + w2) + v9) 160 (qs_g ((((40 : Int32) * w3) + w4) + v9) 160 (qs_let (qs_u D 7 ((((40 : Int32) * w3) + w4) + v9).toNatClampNeg (D 7 ((((40 : Int32) * w1) + w2) + v9).toNatClampNeg)) (fun D11 => (qs_let (w7 + (1 : Int32)) (fun v12 => (fX5_copy_L28 n w1 w2 w3 w4 w5 w6 v12 D11))))))))) else (qs_let ((w5 - (1 : Int32)) - w7) (fun v13 => (qs_g ((((40 : Int32) * w1) + w2) + v13) 160 (qs_g ((((40 : Int32) * w3) + w4) + v13) 160 (qs_let (qs_u D 7 ((((40 : Int32) * w3) + w4) + v13).toNatClampNeg (D 7 ((((40 : Int32) * w1) + w2) + v13).toNatClampNeg)) (fun D15 => (qs_let (w7 + (1 : Int32)) (fun v16 => (fX5_copy_L28 n w1 w2 w3 w4 w5 w6 v16 D15)))))))))))
set_option maxRecDepth 20000 in
theorem lX5_copy_L28 {l : Launch} {E : qs_E} {A : Nat → Prop}  : ∀ (n : Nat) (w1 : Int32) (w2 : Int32) (w3 : Int32) (w4 : Int32) (w5 : Int32) (w6 : Int32) (w7 : Int32) (D : qs_D), qs_VO l E A shM mX5_copy 3 qs_ri 28 [(0, .ref 0), (1, .int w1), (2, .int w2), (3, .int w3), (4, .int w4), (5, .int w5), (6, .int w6), (7, .int w7)] [] D (fX5_copy_L28 n w1 w2 w3 w4 w5 w6 w7 D) := by
  intro n
  induction n with
  | zero => intro w1 w2 w3 w4 w5 w6 w7 D; exact qs_none
  | succ n ih =>
    intro w1 w2 w3 w4 w5 w6 w7 D
    unfold fX5_copy_L28
    refine qs_iload dX5_copy_28 rfl rfl ?_
    refine qs_iload dX5_copy_30 rfl rfl ?_
    refine qs_icmp_ge (tgt := 90) dX5_copy_32 (by decide) rfl (fun g7 => ?_) (fun g7 => ?_)
    · refine qs_iload dX5_copy_90 rfl rfl ?_
      exact qs_iret rfl dX5_copy_92
    · refine qs_iload_n dX5_copy_35 rfl rfl rfl ?_
      refine qs_iload dX5_copy_36 rfl rfl ?_
      refine qs_icmp_ge (tgt := 51) dX5_copy_38 (by decide) rfl (fun g8 => ?_) (fun g8 => ?_)
      · refine qs_iload dX5_copy_51 rfl rfl ?_
        refine qs_istore (fun v9 => [(8, .int v9), (0, .ref 0), (1, .int w1), (2, .int w2), (3, .int w3), (4, .int w4), (5, .int w5), (6, .int w6), (7, .int w7)]) dX5_copy_53 (by decide) (fun _ => rfl) rfl (fun v9 => ?_)
        refine qs_aload_n dX5_copy_55 rfl rfl rfl ?_
        refine qs_getR ffX5_28 rfl rfl dX5_copy_56 rfl ?_
        refine qs_bipush (40 : Int32) dX5_copy_59 (by decide) rfl ?_
        refine qs_iload_n dX5_copy_61 rfl rfl rfl ?_
        refine qs_imul dX5_copy_62 rfl ?_
        refine qs_iload dX5_copy_63 rfl rfl ?_
        refine qs_iadd dX5_copy_65 rfl ?_
        refine qs_iload dX5_copy_66 rfl rfl ?_
        refine qs_iadd dX5_copy_68 rfl ?_
        refine qs_aload_n dX5_copy_69 rfl rfl rfl ?_
        refine qs_getR ffX5_28 rfl rfl dX5_copy_70 rfl ?_
        refine qs_bipush (40 : Int32) dX5_copy_73 (by decide) rfl ?_
        refine qs_iload_n dX5_copy_75 rfl rfl rfl ?_
        refine qs_imul dX5_copy_76 rfl ?_
        refine qs_iload_n dX5_copy_77 rfl rfl rfl ?_
        refine qs_iadd dX5_copy_78 rfl ?_
        refine qs_iload dX5_copy_79 rfl rfl ?_
        refine qs_iadd dX5_copy_81 rfl ?_
        refine qs_iald rfl (by decide) dX5_copy_82 rfl (fun g10 => ?_)
        refine qs_iast rfl (by decide) dX5_copy_83 rfl (fun D11 => ?_)
        refine qs_iinc (fun v12 => [(7, .int v12), (8, .int v9), (0, .ref 0), (1, .int w1), (2, .int w2), (3, .int w3), (4, .int w4), (5, .int w5), (6, .int w6)]) (1 : Int32) dX5_copy_84 rfl (by decide) (by decide) (fun _ => rfl) rfl (fun v12 => ?_)
        refine qs_goto (tgt := 28) dX5_copy_87 (by decide) ?_
        exact qs_sub [2, 3, 4, 5, 6, 7, 8, 0] rfl (ih w1 w2 w3 w4 w5 w6 v12 D11)
      · refine qs_iload dX5_copy_41 rfl rfl ?_
        refine qs_iconst (1 : Int32) dX5_copy_43 (by decide) rfl ?_
        refine qs_isub dX5_copy_44 rfl ?_
        refine qs_iload dX5_copy_45 rfl rfl ?_
        refine qs_isub dX5_copy_47 rfl ?_
        refine qs_goto (tgt := 53) dX5_copy_48 (by decide) ?_
        refine qs_istore (fun v13 => [(8, .int v13), (0, .ref 0), (1, .int w1), (2, .int w2), (3, .int w3), (4, .int w4), (5, .int w5), (6, .int w6), (7, .int w7)]) dX5_copy_53 (by decide) (fun _ => rfl) rfl (fun v13 => ?_)
        refine qs_aload_n dX5_copy_55 rfl rfl rfl ?_
        refine qs_getR ffX5_28 rfl rfl dX5_copy_56 rfl ?_
        refine qs_bipush (40 : Int32) dX5_copy_59 (by decide) rfl ?_
        refine qs_iload_n dX5_copy_61 rfl rfl rfl ?_
        refine qs_imul dX5_copy_62 rfl ?_
        refine qs_iload dX5_copy_63 rfl rfl ?_
        refine qs_iadd dX5_copy_65 rfl ?_
        refine qs_iload dX5_copy_66 rfl rfl ?_
        refine qs_iadd dX5_copy_68 rfl ?_
        refine qs_aload_n dX5_copy_69 rfl rfl rfl ?_
        refine qs_getR ffX5_28 rfl rfl dX5_copy_70 rfl ?_
        refine qs_bipush (40 : Int32) dX5_copy_73 (by decide) rfl ?_
        refine qs_iload_n dX5_copy_75 rfl rfl rfl ?_
        refine qs_imul dX5_copy_76 rfl ?_
        refine qs_iload_n dX5_copy_77 rfl rfl rfl ?_
        refine qs_iadd dX5_copy_78 rfl ?_
        refine qs_iload dX5_copy_79 rfl rfl ?_
        refine qs_iadd dX5_copy_81 rfl ?_
        refine qs_iald rfl (by decide) dX5_copy_82 rfl (fun g14 => ?_)
        refine qs_iast rfl (by decide) dX5_copy_83 rfl (fun D15 => ?_)
        refine qs_iinc (fun v16 => [(7, .int v16), (8, .int v13), (0, .ref 0), (1, .int w1), (2, .int w2), (3, .int w3), (4, .int w4), (5, .int w5), (6, .int w6)]) (1 : Int32) dX5_copy_84 rfl (by decide) (by decide) (fun _ => rfl) rfl (fun v16 => ?_)
        refine qs_goto (tgt := 28) dX5_copy_87 (by decide) ?_
        exact qs_sub [2, 3, 4, 5, 6, 7, 8, 0] rfl (ih w1 w2 w3 w4 w5 w6 v16 D15)
def fX5_copy (p1 : Int32) (p2 : Int32) (p3 : Int32) (p4 : Int32) (p5 : Int32) (D : qs_D) : Option (Int32 × qs_D) := (qs_bind (fX5_notCopied p1 p2 p3 p4 p5 D) (fun x2 D1 => (qs_let x2 (fun v4 => (if v4 = 0 then (qs_let (0 : Int32) (fun v6 => (fX5_copy_L28 qs_F p1 p2 p3 p4 p5 v4 v6 D1))) else (qs_bind (fX5_finds v4 D1) (fun x18 D17 => (some (x18, D17)))))))))
set_option maxRecDepth 20000 in
theorem kX5_copy {l : Launch} {E : qs_E} {A : Nat → Prop} {p1 : Int32} {p2 : Int32} {p3 : Int32} {p4 : Int32} {p5 : Int32} {D : qs_D} {X : Int32 × qs_D}  (hX : fX5_copy p1 p2 p3 p4 p5 D = some X) : qs_Ctr l E A shM yX5_copy mX5_copy 3 qs_ri [.ref 0, .int p1, .int p2, .int p3, .int p4, .int p5] D X := by
  refine qs_enter (plainFor_of_name (by decide)) rfl (Nat.le_of_ble_eq_true rfl) ?_ hX
  show qs_VO l E A shM mX5_copy 3 qs_ri 0 [(0, .ref 0), (1, .int p1), (2, .int p2), (3, .int p3), (4, .int p4), (5, .int p5)] [] D (fX5_copy p1 p2 p3 p4 p5 D)
  unfold fX5_copy
  refine qs_aload_n dX5_copy_0 rfl rfl rfl ?_
  refine qs_iload_n dX5_copy_1 rfl rfl rfl ?_
  refine qs_iload_n dX5_copy_2 rfl rfl rfl ?_
  refine qs_iload_n dX5_copy_3 rfl rfl rfl ?_
  refine qs_iload dX5_copy_4 rfl rfl ?_
  refine qs_iload dX5_copy_6 rfl rfl ?_
  refine qs_cV5i cfX5_225 (Nat.le_of_ble_eq_true rfl) rfl rfl (fun Y hY => kX5_notCopied  hY) (Nat.le_of_ble_eq_true rfl) dX5_copy_8 rfl (fun x2 D1 g3 => ?_)
  refine qs_istore (fun v4 => [(6, .int v4), (0, .ref 0), (1, .int p1), (2, .int p2), (3, .int p3), (4, .int p4), (5, .int p5)]) dX5_copy_11 (by decide) (fun _ => rfl) rfl (fun v4 => ?_)
  refine qs_iload dX5_copy_13 rfl rfl ?_
  refine qs_if_eq (tgt := 25) dX5_copy_15 (by decide) rfl (fun g5 => ?_) (fun g5 => ?_)
  · refine qs_iconst (0 : Int32) dX5_copy_25 (by decide) rfl ?_
    refine qs_istore (fun v6 => [(7, .int v6), (6, .int v4), (0, .ref 0), (1, .int p1), (2, .int p2), (3, .int p3), (4, .int p4), (5, .int p5)]) dX5_copy_26 (by decide) (fun _ => rfl) rfl (fun v6 => ?_)
    exact qs_sub [2, 3, 4, 5, 6, 7, 1, 0] rfl (lX5_copy_L28 qs_F p1 p2 p3 p4 p5 v4 v6 D1)
  · refine qs_aload_n dX5_copy_18 rfl rfl rfl ?_
    refine qs_iload dX5_copy_19 rfl rfl ?_
    refine qs_cV1i cfX5_36 (Nat.le_of_ble_eq_true rfl) rfl rfl (fun Y hY => kX5_finds  hY) (Nat.le_of_ble_eq_true rfl) dX5_copy_21 rfl (fun x18 D17 g19 => ?_)
    exact qs_iret rfl dX5_copy_24
abbrev mX5_load : qs_M := (RX5, cX5_load, 4, (some FieldType.int))
def fX5_load_L18 : Nat → Int32 → Int32 → Int32 → qs_D → Option (Int32 × qs_D)
  | 0, _, _, _, _ => none
  | n + 1, w1, w2, w3, D => (qs_g w1 4 (if (D 6 w1.toNatClampNeg) ≤ w3 then (some (w3, D)) else (if (6 : Int32) ≤ w3 then (some (w3, D)) else (qs_g (((40 : Int32) * w1) + w3) 160 (qs_bind (fX5_isDeed (D 7 (((40 : Int32) * w1) + w3).toNatClampNeg) D) (fun x12 D11 => (if x12 = 0 then (some (w3, D11)) else (qs_g (((40 : Int32) * w1) + w3) 160 (qs_g ((6 : Int32) + w3) 70 (qs_let (qs_u D11 1 ((6 : Int32) + w3).toNatClampNeg (D11 7 (((40 : Int32) * w1) + w3).toNatClampNeg)) (fun D16 => (qs_let (w3 + (1 : Int32)) (fun v17 => (fX5_load_L18 n w1 w2 v17 D16))))))))))))))
set_option maxRecDepth 20000 in
theorem lX5_load_L18 {l : Launch} {E : qs_E} {A : Nat → Prop}  : ∀ (n : Nat) (w1 : Int32) (w2 : Int32) (w3 : Int32) (D : qs_D), qs_VO l E A shM mX5_load 3 qs_ri 18 [(0, .ref 0), (1, .int w1), (2, .int w2), (3, .int w3)] [] D (fX5_load_L18 n w1 w2 w3 D) := by
  intro n
  induction n with
  | zero => intro w1 w2 w3 D; exact qs_none
  | succ n ih =>
    intro w1 w2 w3 D
    unfold fX5_load_L18
    refine qs_iload_n dX5_load_18 rfl rfl rfl ?_
    refine qs_aload_n dX5_load_19 rfl rfl rfl ?_
    refine qs_getR ffX5_25 rfl rfl dX5_load_20 rfl ?_
    refine qs_iload_n dX5_load_23 rfl rfl rfl ?_
    refine qs_iald rfl (by decide) dX5_load_24 rfl (fun g7 => ?_)
    refine qs_icmp_ge (tgt := 77) dX5_load_25 (by decide) rfl (fun g8 => ?_) (fun g8 => ?_)
    · refine qs_iload_n dX5_load_77 rfl rfl rfl ?_
      exact qs_iret rfl dX5_load_78
    · refine qs_iload_n dX5_load_28 rfl rfl rfl ?_
      refine qs_bipush (6 : Int32) dX5_load_29 (by decide) rfl ?_
      refine qs_icmp_ge (tgt := 77) dX5_load_31 (by decide) rfl (fun g9 => ?_) (fun g9 => ?_)
      · refine qs_iload_n dX5_load_77 rfl rfl rfl ?_
        exact qs_iret rfl dX5_load_78
      · refine qs_aload_n dX5_load_34 rfl rfl rfl ?_
        refine qs_getR ffX5_28 rfl rfl dX5_load_35 rfl ?_
        refine qs_bipush (40 : Int32) dX5_load_38 (by decide) rfl ?_
        refine qs_iload_n dX5_load_40 rfl rfl rfl ?_
        refine qs_imul dX5_load_41 rfl ?_
        refine qs_iload_n dX5_load_42 rfl rfl rfl ?_
        refine qs_iadd dX5_load_43 rfl ?_
        refine qs_iald rfl (by decide) dX5_load_44 rfl (fun g10 => ?_)
        refine qs_cS1i cfX5_55 (Nat.le_of_ble_eq_true rfl) (fun Y hY => kX5_isDeed  hY) (Nat.le_of_ble_eq_true rfl) dX5_load_45 rfl (fun x12 D11 g13 => ?_)
        refine qs_if_eq (tgt := 77) dX5_load_48 (by decide) rfl (fun g14 => ?_) (fun g14 => ?_)
        · refine qs_iload_n dX5_load_77 rfl rfl rfl ?_
          exact qs_iret rfl dX5_load_78
        · refine qs_aload_n dX5_load_51 rfl rfl rfl ?_
          refine qs_getR ffX5_9 rfl rfl dX5_load_52 rfl ?_
          refine qs_bipush (6 : Int32) dX5_load_55 (by decide) rfl ?_
          refine qs_iload_n dX5_load_57 rfl rfl rfl ?_
          refine qs_iadd dX5_load_58 rfl ?_
          refine qs_aload_n dX5_load_59 rfl rfl rfl ?_
          refine qs_getR ffX5_28 rfl rfl dX5_load_60 rfl ?_
          refine qs_bipush (40 : Int32) dX5_load_63 (by decide) rfl ?_
          refine qs_iload_n dX5_load_65 rfl rfl rfl ?_
          refine qs_imul dX5_load_66 rfl ?_
          refine qs_iload_n dX5_load_67 rfl rfl rfl ?_
          refine qs_iadd dX5_load_68 rfl ?_
          refine qs_iald rfl (by decide) dX5_load_69 rfl (fun g15 => ?_)
          refine qs_iast rfl (by decide) dX5_load_70 rfl (fun D16 => ?_)
          refine qs_iinc (fun v17 => [(3, .int v17), (0, .ref 0), (1, .int w1), (2, .int w2)]) (1 : Int32) dX5_load_71 rfl (by decide) (by decide) (fun _ => rfl) rfl (fun v17 => ?_)
          refine qs_goto (tgt := 18) dX5_load_74 (by decide) ?_
          exact qs_sub [1, 2, 3, 0] rfl (ih w1 w2 v17 D16)
def fX5_load (p1 : Int32) (D : qs_D) : Option (Int32 × qs_D) := (qs_bind (fX5_notThere p1 D) (fun x2 D1 => (qs_let x2 (fun v4 => (if v4 = 0 then (qs_let (0 : Int32) (fun v6 => (fX5_load_L18 qs_F p1 v4 v6 D1))) else (qs_bind (fX5_finds v4 D1) (fun x19 D18 => (some (x19, D18)))))))))
set_option maxRecDepth 20000 in
theorem kX5_load {l : Launch} {E : qs_E} {A : Nat → Prop} {p1 : Int32} {D : qs_D} {X : Int32 × qs_D}  (hX : fX5_load p1 D = some X) : qs_Ctr l E A shM yX5_load mX5_load 3 qs_ri [.ref 0, .int p1] D X := by
  refine qs_enter (plainFor_of_name (by decide)) rfl (Nat.le_of_ble_eq_true rfl) ?_ hX
  show qs_VO l E A shM mX5_load 3 qs_ri 0 [(0, .ref 0), (1, .int p1)] [] D (fX5_load p1 D)
  unfold fX5_load
  refine qs_aload_n dX5_load_0 rfl rfl rfl ?_
  refine qs_iload_n dX5_load_1 rfl rfl rfl ?_
  refine qs_cV1i cfX5_153 (Nat.le_of_ble_eq_true rfl) rfl rfl (fun Y hY => kX5_notThere  hY) (Nat.le_of_ble_eq_true rfl) dX5_load_2 rfl (fun x2 D1 g3 => ?_)
  refine qs_istore_n (fun v4 => [(2, .int v4), (0, .ref 0), (1, .int p1)]) dX5_load_5 rfl (by decide) (fun _ => rfl) rfl (fun v4 => ?_)
  refine qs_iload_n dX5_load_6 rfl rfl rfl ?_
  refine qs_if_eq (tgt := 16) dX5_load_7 (by decide) rfl (fun g5 => ?_) (fun g5 => ?_)
  · refine qs_iconst (0 : Int32) dX5_load_16 (by decide) rfl ?_
    refine qs_istore_n (fun v6 => [(3, .int v6), (2, .int v4), (0, .ref 0), (1, .int p1)]) dX5_load_17 rfl (by decide) (fun _ => rfl) rfl (fun v6 => ?_)
    exact qs_sub [2, 3, 1, 0] rfl (lX5_load_L18 qs_F p1 v4 v6 D1)
  · refine qs_aload_n dX5_load_10 rfl rfl rfl ?_
    refine qs_iload_n dX5_load_11 rfl rfl rfl ?_
    refine qs_cV1i cfX5_36 (Nat.le_of_ble_eq_true rfl) rfl rfl (fun Y hY => kX5_finds  hY) (Nat.le_of_ble_eq_true rfl) dX5_load_12 rfl (fun x19 D18 g20 => ?_)
    exact qs_iret rfl dX5_load_15
abbrev mX5_judge : qs_M := (RX5, cX5_judge, 4, (some FieldType.int))
def fX5_judge_L18 : Nat → Int32 → Int32 → Int32 → qs_D → Option (Int32 × qs_D)
  | 0, _, _, _, _ => none
  | n + 1, w1, w2, w3, D => (qs_g w1 4 (if (D 6 w1.toNatClampNeg) ≤ w3 then (some ((0 : Int32), D)) else (qs_bind (fX5_isDish w3 D) (fun x10 D9 => (if x10 = 0 then (some (((1 : Int32) + w3), D9)) else (qs_g (((40 : Int32) * w1) + w3) 160 (qs_bind (fX5_it w3 (1 : Int32) D9) (fun x15 D14 => (if (D9 7 (((40 : Int32) * w1) + w3).toNatClampNeg) = x15 then (qs_let (w3 + (1 : Int32)) (fun v18 => (fX5_judge_L18 n w1 w2 v18 D14))) else (some (((1 : Int32) + w3), D14)))))))))))
set_option maxRecDepth 20000 in
theorem lX5_judge_L18 {l : Launch} {E : qs_E} {A : Nat → Prop}  : ∀ (n : Nat) (w1 : Int32) (w2 : Int32) (w3 : Int32) (D : qs_D), qs_VO l E A shM mX5_judge 3 qs_ri 18 [(0, .ref 0), (1, .int w1), (2, .int w2), (3, .int w3)] [] D (fX5_judge_L18 n w1 w2 w3 D) := by
  intro n
  induction n with
  | zero => intro w1 w2 w3 D; exact qs_none
  | succ n ih =>
    intro w1 w2 w3 D
    unfold fX5_judge_L18
    refine qs_iload_n dX5_judge_18 rfl rfl rfl ?_
    refine qs_aload_n dX5_judge_19 rfl rfl rfl ?_
    refine qs_getR ffX5_25 rfl rfl dX5_judge_20 rfl ?_
    refine qs_iload_n dX5_judge_23 rfl rfl rfl ?_
    refine qs_iald rfl (by decide) dX5_judge_24 rfl (fun g7 => ?_)
    refine qs_icmp_ge (tgt := 66) dX5_judge_25 (by decide) rfl (fun g8 => ?_) (fun g8 => ?_)
    · refine qs_iconst (0 : Int32) dX5_judge_66 (by decide) rfl ?_
      exact qs_iret rfl dX5_judge_67
    · refine qs_aload_n dX5_judge_28 rfl rfl rfl ?_
      refine qs_iload_n dX5_judge_29 rfl rfl rfl ?_
      refine qs_cV1i cfX5_68 (Nat.le_of_ble_eq_true rfl) rfl rfl (fun Y hY => kX5_isDish  hY) (Nat.le_of_ble_eq_true rfl) dX5_judge_30 rfl (fun x10 D9 g11 => ?_)
      refine qs_if_eq (tgt := 56) dX5_judge_33 (by decide) rfl (fun g12 => ?_) (fun g12 => ?_)
      · refine qs_iconst (1 : Int32) dX5_judge_56 (by decide) rfl ?_
        refine qs_iload_n dX5_judge_57 rfl rfl rfl ?_
        refine qs_iadd dX5_judge_58 rfl ?_
        exact qs_iret rfl dX5_judge_59
      · refine qs_aload_n dX5_judge_36 rfl rfl rfl ?_
        refine qs_getR ffX5_28 rfl rfl dX5_judge_37 rfl ?_
        refine qs_bipush (40 : Int32) dX5_judge_40 (by decide) rfl ?_
        refine qs_iload_n dX5_judge_42 rfl rfl rfl ?_
        refine qs_imul dX5_judge_43 rfl ?_
        refine qs_iload_n dX5_judge_44 rfl rfl rfl ?_
        refine qs_iadd dX5_judge_45 rfl ?_
        refine qs_iald rfl (by decide) dX5_judge_46 rfl (fun g13 => ?_)
        refine qs_aload_n dX5_judge_47 rfl rfl rfl ?_
        refine qs_iload_n dX5_judge_48 rfl rfl rfl ?_
        refine qs_iconst (1 : Int32) dX5_judge_49 (by decide) rfl ?_
        refine qs_cV2i cfX5_44 (Nat.le_of_ble_eq_true rfl) rfl rfl (fun Y hY => kX5_it  hY) (Nat.le_of_ble_eq_true rfl) dX5_judge_50 rfl (fun x15 D14 g16 => ?_)
        refine qs_icmp_eq (tgt := 60) dX5_judge_53 (by decide) rfl (fun g17 => ?_) (fun g17 => ?_)
        · refine qs_iinc (fun v18 => [(3, .int v18), (0, .ref 0), (1, .int w1), (2, .int w2)]) (1 : Int32) dX5_judge_60 rfl (by decide) (by decide) (fun _ => rfl) rfl (fun v18 => ?_)
          refine qs_goto (tgt := 18) dX5_judge_63 (by decide) ?_
          exact qs_sub [1, 2, 3, 0] rfl (ih w1 w2 v18 D14)
        · refine qs_iconst (1 : Int32) dX5_judge_56 (by decide) rfl ?_
          refine qs_iload_n dX5_judge_57 rfl rfl rfl ?_
          refine qs_iadd dX5_judge_58 rfl ?_
          exact qs_iret rfl dX5_judge_59
def fX5_judge (p1 : Int32) (D : qs_D) : Option (Int32 × qs_D) := (qs_bind (fX5_notThere p1 D) (fun x2 D1 => (qs_let x2 (fun v4 => (if v4 = 0 then (qs_let (0 : Int32) (fun v6 => (fX5_judge_L18 qs_F p1 v4 v6 D1))) else (qs_bind (fX5_finds v4 D1) (fun x20 D19 => (some (x20, D19)))))))))
set_option maxRecDepth 20000 in
theorem kX5_judge {l : Launch} {E : qs_E} {A : Nat → Prop} {p1 : Int32} {D : qs_D} {X : Int32 × qs_D}  (hX : fX5_judge p1 D = some X) : qs_Ctr l E A shM yX5_judge mX5_judge 3 qs_ri [.ref 0, .int p1] D X := by
  refine qs_enter (plainFor_of_name (by decide)) rfl (Nat.le_of_ble_eq_true rfl) ?_ hX
  show qs_VO l E A shM mX5_judge 3 qs_ri 0 [(0, .ref 0), (1, .int p1)] [] D (fX5_judge p1 D)
  unfold fX5_judge
  refine qs_aload_n dX5_judge_0 rfl rfl rfl ?_
  refine qs_iload_n dX5_judge_1 rfl rfl rfl ?_
  refine qs_cV1i cfX5_153 (Nat.le_of_ble_eq_true rfl) rfl rfl (fun Y hY => kX5_notThere  hY) (Nat.le_of_ble_eq_true rfl) dX5_judge_2 rfl (fun x2 D1 g3 => ?_)
  refine qs_istore_n (fun v4 => [(2, .int v4), (0, .ref 0), (1, .int p1)]) dX5_judge_5 rfl (by decide) (fun _ => rfl) rfl (fun v4 => ?_)
  refine qs_iload_n dX5_judge_6 rfl rfl rfl ?_
  refine qs_if_eq (tgt := 16) dX5_judge_7 (by decide) rfl (fun g5 => ?_) (fun g5 => ?_)
  · refine qs_iconst (0 : Int32) dX5_judge_16 (by decide) rfl ?_
    refine qs_istore_n (fun v6 => [(3, .int v6), (2, .int v4), (0, .ref 0), (1, .int p1)]) dX5_judge_17 rfl (by decide) (fun _ => rfl) rfl (fun v6 => ?_)
    exact qs_sub [2, 3, 1, 0] rfl (lX5_judge_L18 qs_F p1 v4 v6 D1)
  · refine qs_aload_n dX5_judge_10 rfl rfl rfl ?_
    refine qs_iload_n dX5_judge_11 rfl rfl rfl ?_
    refine qs_cV1i cfX5_36 (Nat.le_of_ble_eq_true rfl) rfl rfl (fun Y hY => kX5_finds  hY) (Nat.le_of_ble_eq_true rfl) dX5_judge_12 rfl (fun x20 D19 g21 => ?_)
    exact qs_iret rfl dX5_judge_15
abbrev mX5_image : qs_M := (RX5, cX5_image, 1, (some FieldType.int))
def fX5_image (D : qs_D) : Option (Int32 × qs_D) := (qs_bind (fX5_copyAll 1 2 D) (fun x2 D1 => (qs_let (qs_u D1 0 3 (1 : Int32)) (fun D4 => (some ((1 : Int32), D4))))))
set_option maxRecDepth 20000 in
theorem kX5_image {l : Launch} {E : qs_E} {A : Nat → Prop} {D : qs_D} {X : Int32 × qs_D}  (hX : fX5_image  D = some X) : qs_Ctr l E A shM yX5_image mX5_image 1 qs_ri [.ref 0] D X := by
  refine qs_enter (plainFor_of_name (by decide)) rfl (Nat.le_of_ble_eq_true rfl) ?_ hX
  show qs_VO l E A shM mX5_image 1 qs_ri 0 [(0, .ref 0)] [] D (fX5_image  D)
  unfold fX5_image
  refine qs_aload_n dX5_image_0 rfl rfl rfl ?_
  refine qs_getR ffX5_9 rfl rfl dX5_image_1 rfl ?_
  refine qs_aload_n dX5_image_4 rfl rfl rfl ?_
  refine qs_getR ffX5_13 rfl rfl dX5_image_5 rfl ?_
  refine qs_cS2v cfX5_129 (Nat.le_of_ble_eq_true rfl) (fun Y hY => kX5_copyAll rfl rfl hY) (Nat.le_of_ble_eq_true rfl) dX5_image_8 rfl (fun x2 D1 g3 => ?_)
  refine qs_aload_n dX5_image_11 rfl rfl rfl ?_
  refine qs_iconst (1 : Int32) dX5_image_12 (by decide) rfl ?_
  refine qs_putZ (Or.inr rfl) fwX5_228 rfl rfl dX5_image_13 rfl (fun D4 => ?_)
  refine qs_iconst (1 : Int32) dX5_image_16 (by decide) rfl ?_
  exact qs_iret rfl dX5_image_17
abbrev mX5_undo : qs_M := (RX5, cX5_undo, 1, (some FieldType.int))
def fX5_undo (D : qs_D) : Option (Int32 × qs_D) := (if (D 0 3) = 0 then (qs_bind (fX5_finds (-1000004 : Int32) D) (fun x7 D6 => (some (x7, D6)))) else (qs_bind (fX5_copyAll 2 1 D) (fun x3 D2 => (qs_g (0 : Int32) 70 (some ((D2 1 (0 : Int32).toNatClampNeg), D2))))))
set_option maxRecDepth 20000 in
theorem kX5_undo {l : Launch} {E : qs_E} {A : Nat → Prop} {D : qs_D} {X : Int32 × qs_D}  (hX : fX5_undo  D = some X) : qs_Ctr l E A shM yX5_undo mX5_undo 1 qs_ri [.ref 0] D X := by
  refine qs_enter (plainFor_of_name (by decide)) rfl (Nat.le_of_ble_eq_true rfl) ?_ hX
  show qs_VO l E A shM mX5_undo 1 qs_ri 0 [(0, .ref 0)] [] D (fX5_undo  D)
  unfold fX5_undo
  refine qs_aload_n dX5_undo_0 rfl rfl rfl ?_
  refine qs_getI ffX5_228 rfl rfl dX5_undo_1 rfl ?_
  refine qs_if_ne (tgt := 14) dX5_undo_4 (by decide) rfl (fun g1 => ?_) (fun g1 => ?_)
  · refine qs_aload_n dX5_undo_7 rfl rfl rfl ?_
    refine qs_ldc wcX5_35 dX5_undo_8 rfl ?_
    refine qs_cV1i cfX5_36 (Nat.le_of_ble_eq_true rfl) rfl rfl (fun Y hY => kX5_finds  hY) (Nat.le_of_ble_eq_true rfl) dX5_undo_10 rfl (fun x7 D6 g8 => ?_)
    exact qs_iret rfl dX5_undo_13
  · refine qs_aload_n dX5_undo_14 rfl rfl rfl ?_
    refine qs_getR ffX5_13 rfl rfl dX5_undo_15 rfl ?_
    refine qs_aload_n dX5_undo_18 rfl rfl rfl ?_
    refine qs_getR ffX5_9 rfl rfl dX5_undo_19 rfl ?_
    refine qs_cS2v cfX5_129 (Nat.le_of_ble_eq_true rfl) (fun Y hY => kX5_copyAll rfl rfl hY) (Nat.le_of_ble_eq_true rfl) dX5_undo_22 rfl (fun x3 D2 g4 => ?_)
    refine qs_aload_n dX5_undo_25 rfl rfl rfl ?_
    refine qs_getR ffX5_9 rfl rfl dX5_undo_26 rfl ?_
    refine qs_iconst (0 : Int32) dX5_undo_29 (by decide) rfl ?_
    refine qs_iald rfl (by decide) dX5_undo_30 rfl (fun g5 => ?_)
    exact qs_iret rfl dX5_undo_31
abbrev mX5_tear : qs_M := (RX5, cX5_tear, 2, (some FieldType.int))
def fX5_tear (D : qs_D) : Option (Int32 × qs_D) := (if (D 0 3) = 0 then (qs_let (0 : Int32) (fun v2 => (qs_let (qs_u D 0 3 (0 : Int32)) (fun D3 => (some (v2, D3)))))) else (qs_let (1 : Int32) (fun v4 => (qs_let (qs_u D 0 3 (0 : Int32)) (fun D5 => (some (v4, D5)))))))
set_option maxRecDepth 20000 in
theorem kX5_tear {l : Launch} {E : qs_E} {A : Nat → Prop} {D : qs_D} {X : Int32 × qs_D}  (hX : fX5_tear  D = some X) : qs_Ctr l E A shM yX5_tear mX5_tear 0 qs_ri [.ref 0] D X := by
  refine qs_enter (plainFor_of_name (by decide)) rfl (Nat.le_of_ble_eq_true rfl) ?_ hX
  show qs_VO l E A shM mX5_tear 0 qs_ri 0 [(0, .ref 0)] [] D (fX5_tear  D)
  unfold fX5_tear
  refine qs_aload_n dX5_tear_0 rfl rfl rfl ?_
  refine qs_getI ffX5_228 rfl rfl dX5_tear_1 rfl ?_
  refine qs_if_eq (tgt := 11) dX5_tear_4 (by decide) rfl (fun g1 => ?_) (fun g1 => ?_)
  · refine qs_iconst (0 : Int32) dX5_tear_11 (by decide) rfl ?_
    refine qs_istore_n (fun v2 => [(1, .int v2), (0, .ref 0)]) dX5_tear_12 rfl (by decide) (fun _ => rfl) rfl (fun v2 => ?_)
    refine qs_aload_n dX5_tear_13 rfl rfl rfl ?_
    refine qs_iconst (0 : Int32) dX5_tear_14 (by decide) rfl ?_
    refine qs_putZ (Or.inl rfl) fwX5_228 rfl rfl dX5_tear_15 rfl (fun D3 => ?_)
    refine qs_iload_n dX5_tear_18 rfl rfl rfl ?_
    exact qs_iret rfl dX5_tear_19
  · refine qs_iconst (1 : Int32) dX5_tear_7 (by decide) rfl ?_
    refine qs_goto (tgt := 12) dX5_tear_8 (by decide) ?_
    refine qs_istore_n (fun v4 => [(1, .int v4), (0, .ref 0)]) dX5_tear_12 rfl (by decide) (fun _ => rfl) rfl (fun v4 => ?_)
    refine qs_aload_n dX5_tear_13 rfl rfl rfl ?_
    refine qs_iconst (0 : Int32) dX5_tear_14 (by decide) rfl ?_
    refine qs_putZ (Or.inl rfl) fwX5_228 rfl rfl dX5_tear_15 rfl (fun D5 => ?_)
    refine qs_iload_n dX5_tear_18 rfl rfl rfl ?_
    exact qs_iret rfl dX5_tear_19
def fX5_manyHeld_L5 : Nat → Int32 → Int32 → qs_D → Option (Int32 × qs_D)
  | 0, _, _, _ => none
  | n + 1, w1, w2, D => (if (70 : Int32) ≤ w2 then (some (w1, D)) else (qs_g w2 70 (if (D 1 w2.toNatClampNeg) < 0 then (qs_let (w1 + (0 : Int32)) (fun v6 => (qs_let (w2 + (1 : Int32)) (fun v7 => (fX5_manyHeld_L5 n v6 v7 D))))) else (qs_let (w1 + (1 : Int32)) (fun v8 => (qs_let (w2 + (1 : Int32)) (fun v9 => (fX5_manyHeld_L5 n v8 v9 D))))))))
set_option maxRecDepth 20000 in
theorem lX5_manyHeld_L5 {l : Launch} {E : qs_E} {A : Nat → Prop}  : ∀ (n : Nat) (w1 : Int32) (w2 : Int32) (D : qs_D), qs_VO l E A shM mX5_manyHeld 0 qs_ri 5 [(0, .ref 0), (1, .int w1), (2, .int w2)] [] D (fX5_manyHeld_L5 n w1 w2 D) := by
  intro n
  induction n with
  | zero => intro w1 w2 D; exact qs_none
  | succ n ih =>
    intro w1 w2 D
    unfold fX5_manyHeld_L5
    refine qs_iload_n dX5_manyHeld_5 rfl rfl rfl ?_
    refine qs_bipush (70 : Int32) dX5_manyHeld_6 (by decide) rfl ?_
    refine qs_icmp_ge (tgt := 34) dX5_manyHeld_8 (by decide) rfl (fun g3 => ?_) (fun g3 => ?_)
    · refine qs_iload_n dX5_manyHeld_34 rfl rfl rfl ?_
      exact qs_iret rfl dX5_manyHeld_35
    · refine qs_iload_n dX5_manyHeld_11 rfl rfl rfl ?_
      refine qs_aload_n dX5_manyHeld_12 rfl rfl rfl ?_
      refine qs_getR ffX5_9 rfl rfl dX5_manyHeld_13 rfl ?_
      refine qs_iload_n dX5_manyHeld_16 rfl rfl rfl ?_
      refine qs_iald rfl (by decide) dX5_manyHeld_17 rfl (fun g4 => ?_)
      refine qs_if_lt (tgt := 25) dX5_manyHeld_18 (by decide) rfl (fun g5 => ?_) (fun g5 => ?_)
      · refine qs_iconst (0 : Int32) dX5_manyHeld_25 (by decide) rfl ?_
        refine qs_iadd dX5_manyHeld_26 rfl ?_
        refine qs_istore_n (fun v6 => [(1, .int v6), (0, .ref 0), (2, .int w2)]) dX5_manyHeld_27 rfl (by decide) (fun _ => rfl) rfl (fun v6 => ?_)
        refine qs_iinc (fun v7 => [(2, .int v7), (1, .int v6), (0, .ref 0)]) (1 : Int32) dX5_manyHeld_28 rfl (by decide) (by decide) (fun _ => rfl) rfl (fun v7 => ?_)
        refine qs_goto (tgt := 5) dX5_manyHeld_31 (by decide) ?_
        exact qs_sub [2, 1, 0] rfl (ih v6 v7 D)
      · refine qs_iconst (1 : Int32) dX5_manyHeld_21 (by decide) rfl ?_
        refine qs_goto (tgt := 26) dX5_manyHeld_22 (by decide) ?_
        refine qs_iadd dX5_manyHeld_26 rfl ?_
        refine qs_istore_n (fun v8 => [(1, .int v8), (0, .ref 0), (2, .int w2)]) dX5_manyHeld_27 rfl (by decide) (fun _ => rfl) rfl (fun v8 => ?_)
        refine qs_iinc (fun v9 => [(2, .int v9), (1, .int v8), (0, .ref 0)]) (1 : Int32) dX5_manyHeld_28 rfl (by decide) (by decide) (fun _ => rfl) rfl (fun v9 => ?_)
        refine qs_goto (tgt := 5) dX5_manyHeld_31 (by decide) ?_
        exact qs_sub [2, 1, 0] rfl (ih v8 v9 D)
def fX5_manyHeld (D : qs_D) : Option (Int32 × qs_D) := (qs_let (0 : Int32) (fun v1 => (qs_let (60 : Int32) (fun v2 => (fX5_manyHeld_L5 qs_F v1 v2 D)))))
set_option maxRecDepth 20000 in
theorem kX5_manyHeld {l : Launch} {E : qs_E} {A : Nat → Prop} {D : qs_D} {X : Int32 × qs_D}  (hX : fX5_manyHeld  D = some X) : qs_Ctr l E A shM yX5_manyHeld mX5_manyHeld 0 qs_ri [.ref 0] D X := by
  refine qs_enter (plainFor_of_name (by decide)) rfl (Nat.le_of_ble_eq_true rfl) ?_ hX
  show qs_VO l E A shM mX5_manyHeld 0 qs_ri 0 [(0, .ref 0)] [] D (fX5_manyHeld  D)
  unfold fX5_manyHeld
  refine qs_iconst (0 : Int32) dX5_manyHeld_0 (by decide) rfl ?_
  refine qs_istore_n (fun v1 => [(1, .int v1), (0, .ref 0)]) dX5_manyHeld_1 rfl (by decide) (fun _ => rfl) rfl (fun v1 => ?_)
  refine qs_bipush (60 : Int32) dX5_manyHeld_2 (by decide) rfl ?_
  refine qs_istore_n (fun v2 => [(2, .int v2), (1, .int v1), (0, .ref 0)]) dX5_manyHeld_4 rfl (by decide) (fun _ => rfl) rfl (fun v2 => ?_)
  exact qs_sub [2, 1, 0] rfl (lX5_manyHeld_L5 qs_F v1 v2 D)
abbrev mX5_count : qs_M := (RX5, cX5_count, 2, (some FieldType.int))
def fX5_count (p1 : Int32) (D : qs_D) : Option (Int32 × qs_D) := (if p1 = (0 : Int32) then (qs_g (0 : Int32) 70 (some ((D 1 (0 : Int32).toNatClampNeg), D))) else (if p1 = (1 : Int32) then (qs_g (5 : Int32) 70 (some ((D 1 (5 : Int32).toNatClampNeg), D))) else (if p1 = (2 : Int32) then (qs_g (1 : Int32) 70 (some ((D 1 (1 : Int32).toNatClampNeg), D))) else (if p1 = (3 : Int32) then (qs_g (3 : Int32) 70 (some ((D 1 (3 : Int32).toNatClampNeg), D))) else (if p1 = (4 : Int32) then (qs_bind (fX5_setOf (3 : Int32) D) (fun x11 D10 => (qs_bind (fX5_bits x11 D10) (fun x14 D13 => (some (x14, D13)))))) else (if p1 = (5 : Int32) then (some ((D 0 9), D)) else (if p1 = (6 : Int32) then (qs_g (4 : Int32) 70 (some ((D 1 (4 : Int32).toNatClampNeg), D))) else (if p1 = (7 : Int32) then (qs_bind (fX5_manyHeld D) (fun x21 D20 => (some (x21, D20)))) else (qs_bind (fX5_finds (-1000001 : Int32) D) (fun x24 D23 => (some (x24, D23))))))))))))
set_option maxRecDepth 20000 in
theorem kX5_count {l : Launch} {E : qs_E} {A : Nat → Prop} {p1 : Int32} {D : qs_D} {X : Int32 × qs_D}  (hX : fX5_count p1 D = some X) : qs_Ctr l E A shM yX5_count mX5_count 2 qs_ri [.ref 0, .int p1] D X := by
  refine qs_enter (plainFor_of_name (by decide)) rfl (Nat.le_of_ble_eq_true rfl) ?_ hX
  show qs_VO l E A shM mX5_count 2 qs_ri 0 [(0, .ref 0), (1, .int p1)] [] D (fX5_count p1 D)
  unfold fX5_count
  refine qs_iload_n dX5_count_0 rfl rfl rfl ?_
  refine qs_ite (fun g1 => ?_) (fun g1 => ?_)
  · refine qs_tsIn (off := 47) (tgt := 48) dX5_count_1 (by rw [g1]; decide) (by rw [g1]; decide) (by rw [g1]; rfl) (by decide) ?_
    refine qs_aload_n dX5_count_48 rfl rfl rfl ?_
    refine qs_getR ffX5_9 rfl rfl dX5_count_49 rfl ?_
    refine qs_iconst (0 : Int32) dX5_count_52 (by decide) rfl ?_
    refine qs_iald rfl (by decide) dX5_count_53 rfl (fun g2 => ?_)
    exact qs_iret rfl dX5_count_54
  · refine qs_ite (fun g3 => ?_) (fun g3 => ?_)
    · refine qs_tsIn (off := 54) (tgt := 55) dX5_count_1 (by rw [g3]; decide) (by rw [g3]; decide) (by rw [g3]; rfl) (by decide) ?_
      refine qs_aload_n dX5_count_55 rfl rfl rfl ?_
      refine qs_getR ffX5_9 rfl rfl dX5_count_56 rfl ?_
      refine qs_iconst (5 : Int32) dX5_count_59 (by decide) rfl ?_
      refine qs_iald rfl (by decide) dX5_count_60 rfl (fun g4 => ?_)
      exact qs_iret rfl dX5_count_61
    · refine qs_ite (fun g5 => ?_) (fun g5 => ?_)
      · refine qs_tsIn (off := 61) (tgt := 62) dX5_count_1 (by rw [g5]; decide) (by rw [g5]; decide) (by rw [g5]; rfl) (by decide) ?_
        refine qs_aload_n dX5_count_62 rfl rfl rfl ?_
        refine qs_getR ffX5_9 rfl rfl dX5_count_63 rfl ?_
        refine qs_iconst (1 : Int32) dX5_count_66 (by decide) rfl ?_
        refine qs_iald rfl (by decide) dX5_count_67 rfl (fun g6 => ?_)
        exact qs_iret rfl dX5_count_68
      · refine qs_ite (fun g7 => ?_) (fun g7 => ?_)
        · refine qs_tsIn (off := 68) (tgt := 69) dX5_count_1 (by rw [g7]; decide) (by rw [g7]; decide) (by rw [g7]; rfl) (by decide) ?_
          refine qs_aload_n dX5_count_69 rfl rfl rfl ?_
          refine qs_getR ffX5_9 rfl rfl dX5_count_70 rfl ?_
          refine qs_iconst (3 : Int32) dX5_count_73 (by decide) rfl ?_
          refine qs_iald rfl (by decide) dX5_count_74 rfl (fun g8 => ?_)
          exact qs_iret rfl dX5_count_75
        · refine qs_ite (fun g9 => ?_) (fun g9 => ?_)
          · refine qs_tsIn (off := 75) (tgt := 76) dX5_count_1 (by rw [g9]; decide) (by rw [g9]; decide) (by rw [g9]; rfl) (by decide) ?_
            refine qs_aload_n dX5_count_76 rfl rfl rfl ?_
            refine qs_iconst (3 : Int32) dX5_count_77 (by decide) rfl ?_
            refine qs_cV1i cfX5_117 (Nat.le_of_ble_eq_true rfl) rfl rfl (fun Y hY => kX5_setOf  hY) (Nat.le_of_ble_eq_true rfl) dX5_count_78 rfl (fun x11 D10 g12 => ?_)
            refine qs_cS1i cfX5_142 (Nat.le_of_ble_eq_true rfl) (fun Y hY => kX5_bits  hY) (Nat.le_of_ble_eq_true rfl) dX5_count_81 rfl (fun x14 D13 g15 => ?_)
            exact qs_iret rfl dX5_count_84
          · refine qs_ite (fun g16 => ?_) (fun g16 => ?_)
            · refine qs_tsIn (off := 84) (tgt := 85) dX5_count_1 (by rw [g16]; decide) (by rw [g16]; decide) (by rw [g16]; rfl) (by decide) ?_
              refine qs_aload_n dX5_count_85 rfl rfl rfl ?_
              refine qs_getI ffX5_166 rfl rfl dX5_count_86 rfl ?_
              exact qs_iret rfl dX5_count_89
            · refine qs_ite (fun g17 => ?_) (fun g17 => ?_)
              · refine qs_tsIn (off := 89) (tgt := 90) dX5_count_1 (by rw [g17]; decide) (by rw [g17]; decide) (by rw [g17]; rfl) (by decide) ?_
                refine qs_aload_n dX5_count_90 rfl rfl rfl ?_
                refine qs_getR ffX5_9 rfl rfl dX5_count_91 rfl ?_
                refine qs_iconst (4 : Int32) dX5_count_94 (by decide) rfl ?_
                refine qs_iald rfl (by decide) dX5_count_95 rfl (fun g18 => ?_)
                exact qs_iret rfl dX5_count_96
              · refine qs_ite (fun g19 => ?_) (fun g19 => ?_)
                · refine qs_tsIn (off := 96) (tgt := 97) dX5_count_1 (by rw [g19]; decide) (by rw [g19]; decide) (by rw [g19]; rfl) (by decide) ?_
                  refine qs_aload_n dX5_count_97 rfl rfl rfl ?_
                  refine qs_cV0i cfX5_231 (Nat.le_of_ble_eq_true rfl) rfl rfl (fun Y hY => kX5_manyHeld  hY) (Nat.le_of_ble_eq_true rfl) dX5_count_98 rfl (fun x21 D20 g22 => ?_)
                  exact qs_iret rfl dX5_count_101
                · refine qs_tsOut (tgt := 102) dX5_count_1 (by have eg1 := lv_neT (a := 0) g1 rfl; have eg3 := lv_neT (a := 1) g3 rfl; have eg5 := lv_neT (a := 2) g5 rfl; have eg7 := lv_neT (a := 3) g7 rfl; have eg9 := lv_neT (a := 4) g9 rfl; have eg16 := lv_neT (a := 5) g16 rfl; have eg17 := lv_neT (a := 6) g17 rfl; have eg19 := lv_neT (a := 7) g19 rfl; omega) (by decide) ?_
                  refine qs_aload_n dX5_count_102 rfl rfl rfl ?_
                  refine qs_ldc wcX5_34 dX5_count_103 rfl ?_
                  refine qs_cV1i cfX5_36 (Nat.le_of_ble_eq_true rfl) rfl rfl (fun Y hY => kX5_finds  hY) (Nat.le_of_ble_eq_true rfl) dX5_count_105 rfl (fun x24 D23 g25 => ?_)
                  exact qs_iret rfl dX5_count_108
abbrev mX5_status : qs_M := (RX5, cX5_status, 4, (some FieldType.int))
def fX5_status_L21 : Nat → Int32 → Int32 → Int32 → qs_D → Option (Int32 × qs_D)
  | 0, _, _, _, _ => none
  | n + 1, w1, w2, w3, D => (if (7 : Int32) ≤ w3 then (some (w2, D)) else (if w1 < 0 then (qs_g w3 7 (qs_let (w2 + (D 4 w3.toNatClampNeg)) (fun v10 => (qs_let (w3 + (1 : Int32)) (fun v11 => (fX5_status_L21 n w1 v10 v11 D)))))) else (if w1 = w3 then (qs_g w3 7 (qs_let (w2 + (D 4 w3.toNatClampNeg)) (fun v16 => (qs_let (w3 + (1 : Int32)) (fun v17 => (fX5_status_L21 n w1 v16 v17 D)))))) else (qs_let (w2 + (0 : Int32)) (fun v13 => (qs_let (w3 + (1 : Int32)) (fun v14 => (fX5_status_L21 n w1 v13 v14 D))))))))
set_option maxRecDepth 20000 in
theorem lX5_status_L21 {l : Launch} {E : qs_E} {A : Nat → Prop}  : ∀ (n : Nat) (w1 : Int32) (w2 : Int32) (w3 : Int32) (D : qs_D), qs_VO l E A shM mX5_status 1 qs_ri 21 [(0, .ref 0), (1, .int w1), (2, .int w2), (3, .int w3)] [] D (fX5_status_L21 n w1 w2 w3 D) := by
  intro n
  induction n with
  | zero => intro w1 w2 w3 D; exact qs_none
  | succ n ih =>
    intro w1 w2 w3 D
    unfold fX5_status_L21
    refine qs_iload_n dX5_status_21 rfl rfl rfl ?_
    refine qs_bipush (7 : Int32) dX5_status_22 (by decide) rfl ?_
    refine qs_icmp_ge (tgt := 55) dX5_status_24 (by decide) rfl (fun g7 => ?_) (fun g7 => ?_)
    · refine qs_iload_n dX5_status_55 rfl rfl rfl ?_
      exact qs_iret rfl dX5_status_56
    · refine qs_iload_n dX5_status_27 rfl rfl rfl ?_
      refine qs_iload_n dX5_status_28 rfl rfl rfl ?_
      refine qs_if_lt (tgt := 37) dX5_status_29 (by decide) rfl (fun g8 => ?_) (fun g8 => ?_)
      · refine qs_aload_n dX5_status_37 rfl rfl rfl ?_
        refine qs_getR ffX5_19 rfl rfl dX5_status_38 rfl ?_
        refine qs_iload_n dX5_status_41 rfl rfl rfl ?_
        refine qs_iald rfl (by decide) dX5_status_42 rfl (fun g9 => ?_)
        refine qs_goto (tgt := 47) dX5_status_43 (by decide) ?_
        refine qs_iadd dX5_status_47 rfl ?_
        refine qs_istore_n (fun v10 => [(2, .int v10), (0, .ref 0), (1, .int w1), (3, .int w3)]) dX5_status_48 rfl (by decide) (fun _ => rfl) rfl (fun v10 => ?_)
        refine qs_iinc (fun v11 => [(3, .int v11), (2, .int v10), (0, .ref 0), (1, .int w1)]) (1 : Int32) dX5_status_49 rfl (by decide) (by decide) (fun _ => rfl) rfl (fun v11 => ?_)
        refine qs_goto (tgt := 21) dX5_status_52 (by decide) ?_
        exact qs_sub [2, 3, 1, 0] rfl (ih w1 v10 v11 D)
      · refine qs_iload_n dX5_status_32 rfl rfl rfl ?_
        refine qs_iload_n dX5_status_33 rfl rfl rfl ?_
        refine qs_icmp_ne (tgt := 46) dX5_status_34 (by decide) rfl (fun g12 => ?_) (fun g12 => ?_)
        · refine qs_aload_n dX5_status_37 rfl rfl rfl ?_
          refine qs_getR ffX5_19 rfl rfl dX5_status_38 rfl ?_
          refine qs_iload_n dX5_status_41 rfl rfl rfl ?_
          refine qs_iald rfl (by decide) dX5_status_42 rfl (fun g15 => ?_)
          refine qs_goto (tgt := 47) dX5_status_43 (by decide) ?_
          refine qs_iadd dX5_status_47 rfl ?_
          refine qs_istore_n (fun v16 => [(2, .int v16), (0, .ref 0), (1, .int w1), (3, .int w3)]) dX5_status_48 rfl (by decide) (fun _ => rfl) rfl (fun v16 => ?_)
          refine qs_iinc (fun v17 => [(3, .int v17), (2, .int v16), (0, .ref 0), (1, .int w1)]) (1 : Int32) dX5_status_49 rfl (by decide) (by decide) (fun _ => rfl) rfl (fun v17 => ?_)
          refine qs_goto (tgt := 21) dX5_status_52 (by decide) ?_
          exact qs_sub [2, 3, 1, 0] rfl (ih w1 v16 v17 D)
        · refine qs_iconst (0 : Int32) dX5_status_46 (by decide) rfl ?_
          refine qs_iadd dX5_status_47 rfl ?_
          refine qs_istore_n (fun v13 => [(2, .int v13), (0, .ref 0), (1, .int w1), (3, .int w3)]) dX5_status_48 rfl (by decide) (fun _ => rfl) rfl (fun v13 => ?_)
          refine qs_iinc (fun v14 => [(3, .int v14), (2, .int v13), (0, .ref 0), (1, .int w1)]) (1 : Int32) dX5_status_49 rfl (by decide) (by decide) (fun _ => rfl) rfl (fun v14 => ?_)
          refine qs_goto (tgt := 21) dX5_status_52 (by decide) ?_
          exact qs_sub [2, 3, 1, 0] rfl (ih w1 v13 v14 D)
def fX5_status (p1 : Int32) (D : qs_D) : Option (Int32 × qs_D) := (qs_bind (fX5_in p1 (-1 : Int32) (6 : Int32) D) (fun x2 D1 => (if x2 = 0 then (qs_bind (fX5_finds (-1000001 : Int32) D1) (fun x19 D18 => (some (x19, D18)))) else (qs_let (0 : Int32) (fun v5 => (qs_let (0 : Int32) (fun v6 => (fX5_status_L21 qs_F p1 v5 v6 D1))))))))
set_option maxRecDepth 20000 in
theorem kX5_status {l : Launch} {E : qs_E} {A : Nat → Prop} {p1 : Int32} {D : qs_D} {X : Int32 × qs_D}  (hX : fX5_status p1 D = some X) : qs_Ctr l E A shM yX5_status mX5_status 1 qs_ri [.ref 0, .int p1] D X := by
  refine qs_enter (plainFor_of_name (by decide)) rfl (Nat.le_of_ble_eq_true rfl) ?_ hX
  show qs_VO l E A shM mX5_status 1 qs_ri 0 [(0, .ref 0), (1, .int p1)] [] D (fX5_status p1 D)
  unfold fX5_status
  refine qs_iload_n dX5_status_0 rfl rfl rfl ?_
  refine qs_iconst (-1 : Int32) dX5_status_1 (by decide) rfl ?_
  refine qs_bipush (6 : Int32) dX5_status_2 (by decide) rfl ?_
  refine qs_cS3i cfX5_40 (Nat.le_of_ble_eq_true rfl) (fun Y hY => kX5_in  hY) (Nat.le_of_ble_eq_true rfl) dX5_status_4 rfl (fun x2 D1 g3 => ?_)
  refine qs_if_ne (tgt := 17) dX5_status_7 (by decide) rfl (fun g4 => ?_) (fun g4 => ?_)
  · refine qs_aload_n dX5_status_10 rfl rfl rfl ?_
    refine qs_ldc wcX5_34 dX5_status_11 rfl ?_
    refine qs_cV1i cfX5_36 (Nat.le_of_ble_eq_true rfl) rfl rfl (fun Y hY => kX5_finds  hY) (Nat.le_of_ble_eq_true rfl) dX5_status_13 rfl (fun x19 D18 g20 => ?_)
    exact qs_iret rfl dX5_status_16
  · refine qs_iconst (0 : Int32) dX5_status_17 (by decide) rfl ?_
    refine qs_istore_n (fun v5 => [(2, .int v5), (0, .ref 0), (1, .int p1)]) dX5_status_18 rfl (by decide) (fun _ => rfl) rfl (fun v5 => ?_)
    refine qs_iconst (0 : Int32) dX5_status_19 (by decide) rfl ?_
    refine qs_istore_n (fun v6 => [(3, .int v6), (2, .int v5), (0, .ref 0), (1, .int p1)]) dX5_status_20 rfl (by decide) (fun _ => rfl) rfl (fun v6 => ?_)
    exact qs_sub [2, 3, 1, 0] rfl (lX5_status_L21 qs_F p1 v5 v6 D1)
