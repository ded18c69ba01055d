def fX0_renew (r0 : Nat) (p1 : Int32) (D : qs_D) : Option (Unit × qs_D) := (qs_let (qs_u D r0 0 p1) (fun D1 => (qs_let (qs_u D1 r0 1 (10 : Int32)) (fun D2 => (qs_let (qs_u D2 r0 2 (10 : Int32)) (fun D3 => (qs_let (qs_u D3 r0 3 (0 : Int32)) (fun D4 => (qs_let (qs_u D4 r0 4 (0 : Int32)) (fun D5 => (qs_let (qs_u D5 r0 5 (0 : Int32)) (fun D6 => (some ((), D6))))))))))))))
set_option maxRecDepth 20000 in
theorem kX0_renew {l : Launch} {E : qs_E} {A : Nat → Prop} {r0 : Nat} {p1 : Int32} {D : qs_D} {X : Unit × qs_D} (h0 : qs_isD r0) (hX : fX0_renew r0 p1 D = some X) : qs_Ctr l E A shX yX0_renew mX0_renew 0 qs_rv [.ref r0, .int p1] D X := by
  refine qs_enter (plainFor_of_name (by decide)) rfl (Nat.le_of_ble_eq_true rfl) ?_ hX
  show qs_VO l E A shX mX0_renew 0 qs_rv 0 [(0, .ref r0), (1, .int p1)] [] D (fX0_renew r0 p1 D)
  unfold fX0_renew
  refine qs_aload_n dX0_renew_0 rfl rfl rfl ?_
  refine qs_iload_n dX0_renew_1 rfl rfl rfl ?_
  refine qs_putI fwX0_9 h0 rfl dX0_renew_2 rfl (fun D1 => ?_)
  refine qs_aload_n dX0_renew_5 rfl rfl rfl ?_
  refine qs_bipush (10 : Int32) dX0_renew_6 (by decide) rfl ?_
  refine qs_putI fwX0_15 h0 rfl dX0_renew_8 rfl (fun D2 => ?_)
  refine qs_aload_n dX0_renew_11 rfl rfl rfl ?_
  refine qs_bipush (10 : Int32) dX0_renew_12 (by decide) rfl ?_
  refine qs_putI fwX0_18 h0 rfl dX0_renew_14 rfl (fun D3 => ?_)
  refine qs_aload_n dX0_renew_17 rfl rfl rfl ?_
  refine qs_iconst (0 : Int32) dX0_renew_18 (by decide) rfl ?_
  refine qs_putI fwX0_21 h0 rfl dX0_renew_19 rfl (fun D4 => ?_)
  refine qs_aload_n dX0_renew_22 rfl rfl rfl ?_
  refine qs_iconst (0 : Int32) dX0_renew_23 (by decide) rfl ?_
  refine qs_putI fwX0_24 h0 rfl dX0_renew_24 rfl (fun D5 => ?_)
  refine qs_aload_n dX0_renew_27 rfl rfl rfl ?_
  refine qs_iconst (0 : Int32) dX0_renew_28 (by decide) rfl ?_
  refine qs_putI fwX0_27 h0 rfl dX0_renew_29 rfl (fun D6 => ?_)
  exact qs_vret rfl dX0_renew_32
def fX0_take (r0 : Nat) (r1 : Nat) (D : qs_D) : Option (Unit × qs_D) := (qs_let (qs_u D r0 0 (D r1 0)) (fun D1 => (qs_let (qs_u D1 r0 1 (D1 r1 1)) (fun D2 => (qs_let (qs_u D2 r0 2 (D2 r1 2)) (fun D3 => (qs_let (qs_u D3 r0 3 (D3 r1 3)) (fun D4 => (qs_let (qs_u D4 r0 4 (D4 r1 4)) (fun D5 => (qs_let (qs_u D5 r0 5 (D5 r1 5)) (fun D6 => (some ((), D6))))))))))))))
set_option maxRecDepth 20000 in
theorem kX0_take {l : Launch} {E : qs_E} {A : Nat → Prop} {r0 : Nat} {r1 : Nat} {D : qs_D} {X : Unit × qs_D} (h0 : qs_isD r0) (h1 : qs_isD r1) (hX : fX0_take r0 r1 D = some X) : qs_Ctr l E A shX yX0_take mX0_take 0 qs_rv [.ref r0, .ref r1] D X := by
  refine qs_enter (plainFor_of_name (by decide)) rfl (Nat.le_of_ble_eq_true rfl) ?_ hX
  show qs_VO l E A shX mX0_take 0 qs_rv 0 [(0, .ref r0), (1, .ref r1)] [] D (fX0_take r0 r1 D)
  unfold fX0_take
  refine qs_aload_n dX0_take_0 rfl rfl rfl ?_
  refine qs_aload_n dX0_take_1 rfl rfl rfl ?_
  refine qs_getI ffX0_9 h1 rfl dX0_take_2 rfl ?_
  refine qs_putI fwX0_9 h0 rfl dX0_take_5 rfl (fun D1 => ?_)
  refine qs_aload_n dX0_take_8 rfl rfl rfl ?_
  refine qs_aload_n dX0_take_9 rfl rfl rfl ?_
  refine qs_getI ffX0_15 h1 rfl dX0_take_10 rfl ?_
  refine qs_putI fwX0_15 h0 rfl dX0_take_13 rfl (fun D2 => ?_)
  refine qs_aload_n dX0_take_16 rfl rfl rfl ?_
  refine qs_aload_n dX0_take_17 rfl rfl rfl ?_
  refine qs_getI ffX0_18 h1 rfl dX0_take_18 rfl ?_
  refine qs_putI fwX0_18 h0 rfl dX0_take_21 rfl (fun D3 => ?_)
  refine qs_aload_n dX0_take_24 rfl rfl rfl ?_
  refine qs_aload_n dX0_take_25 rfl rfl rfl ?_
  refine qs_getI ffX0_21 h1 rfl dX0_take_26 rfl ?_
  refine qs_putI fwX0_21 h0 rfl dX0_take_29 rfl (fun D4 => ?_)
  refine qs_aload_n dX0_take_32 rfl rfl rfl ?_
  refine qs_aload_n dX0_take_33 rfl rfl rfl ?_
  refine qs_getI ffX0_24 h1 rfl dX0_take_34 rfl ?_
  refine qs_putI fwX0_24 h0 rfl dX0_take_37 rfl (fun D5 => ?_)
  refine qs_aload_n dX0_take_40 rfl rfl rfl ?_
  refine qs_aload_n dX0_take_41 rfl rfl rfl ?_
  refine qs_getI ffX0_27 h1 rfl dX0_take_42 rfl ?_
  refine qs_putI fwX0_27 h0 rfl dX0_take_45 rfl (fun D6 => ?_)
  exact qs_vret rfl dX0_take_48
def fX0_put (r0 : Nat) (p1 : Int32) (p2 : Int32) (D : qs_D) : Option (Unit × qs_D) := (if p1 = (0 : Int32) then (qs_let (qs_u D r0 0 p2) (fun D2 => (some ((), D2)))) else (if p1 = (1 : Int32) then (qs_let (qs_u D r0 1 p2) (fun D4 => (some ((), D4)))) else (if p1 = (2 : Int32) then (qs_let (qs_u D r0 2 p2) (fun D6 => (some ((), D6)))) else (if p1 = (3 : Int32) then (qs_let (qs_u D r0 3 p2) (fun D8 => (some ((), D8)))) else (if p1 = (4 : Int32) then (qs_let (qs_u D r0 4 p2) (fun D10 => (some ((), D10)))) else (if p1 = (5 : Int32) then (qs_let (qs_u D r0 5 p2) (fun D12 => (some ((), D12)))) else (some ((), D))))))))
set_option maxRecDepth 20000 in
theorem kX0_put {l : Launch} {E : qs_E} {A : Nat → Prop} {r0 : Nat} {p1 : Int32} {p2 : Int32} {D : qs_D} {X : Unit × qs_D} (h0 : qs_isD r0) (hX : fX0_put r0 p1 p2 D = some X) : qs_Ctr l E A shX yX0_put mX0_put 0 qs_rv [.ref r0, .int p1, .int p2] D X := by
  refine qs_enter (plainFor_of_name (by decide)) rfl (Nat.le_of_ble_eq_true rfl) ?_ hX
  show qs_VO l E A shX mX0_put 0 qs_rv 0 [(0, .ref r0), (1, .int p1), (2, .int p2)] [] D (fX0_put r0 p1 p2 D)
  unfold fX0_put
  refine qs_iload_n dX0_put_0 rfl rfl rfl ?_
  refine qs_ite (fun g1 => ?_) (fun g1 => ?_)
  · refine qs_tsIn (off := 39) (tgt := 40) dX0_put_1 (by rw [g1]; decide) (by rw [g1]; decide) (by rw [g1]; rfl) (by decide) ?_
    refine qs_aload_n dX0_put_40 rfl rfl rfl ?_
    refine qs_iload_n dX0_put_41 rfl rfl rfl ?_
    refine qs_putI fwX0_9 h0 rfl dX0_put_42 rfl (fun D2 => ?_)
    refine qs_goto (tgt := 88) dX0_put_45 (by decide) ?_
    exact qs_vret rfl dX0_put_88
  · refine qs_ite (fun g3 => ?_) (fun g3 => ?_)
    · refine qs_tsIn (off := 47) (tgt := 48) dX0_put_1 (by rw [g3]; decide) (by rw [g3]; decide) (by rw [g3]; rfl) (by decide) ?_
      refine qs_aload_n dX0_put_48 rfl rfl rfl ?_
      refine qs_iload_n dX0_put_49 rfl rfl rfl ?_
      refine qs_putI fwX0_15 h0 rfl dX0_put_50 rfl (fun D4 => ?_)
      refine qs_goto (tgt := 88) dX0_put_53 (by decide) ?_
      exact qs_vret rfl dX0_put_88
    · refine qs_ite (fun g5 => ?_) (fun g5 => ?_)
      · refine qs_tsIn (off := 55) (tgt := 56) dX0_put_1 (by rw [g5]; decide) (by rw [g5]; decide) (by rw [g5]; rfl) (by decide) ?_
        refine qs_aload_n dX0_put_56 rfl rfl rfl ?_
        refine qs_iload_n dX0_put_57 rfl rfl rfl ?_
        refine qs_putI fwX0_18 h0 rfl dX0_put_58 rfl (fun D6 => ?_)
        refine qs_goto (tgt := 88) dX0_put_61 (by decide) ?_
        exact qs_vret rfl dX0_put_88
      · refine qs_ite (fun g7 => ?_) (fun g7 => ?_)
        · refine qs_tsIn (off := 63) (tgt := 64) dX0_put_1 (by rw [g7]; decide) (by rw [g7]; decide) (by rw [g7]; rfl) (by decide) ?_
          refine qs_aload_n dX0_put_64 rfl rfl rfl ?_
          refine qs_iload_n dX0_put_65 rfl rfl rfl ?_
          refine qs_putI fwX0_21 h0 rfl dX0_put_66 rfl (fun D8 => ?_)
          refine qs_goto (tgt := 88) dX0_put_69 (by decide) ?_
          exact qs_vret rfl dX0_put_88
        · refine qs_ite (fun g9 => ?_) (fun g9 => ?_)
          · refine qs_tsIn (off := 71) (tgt := 72) dX0_put_1 (by rw [g9]; decide) (by rw [g9]; decide) (by rw [g9]; rfl) (by decide) ?_
            refine qs_aload_n dX0_put_72 rfl rfl rfl ?_
            refine qs_iload_n dX0_put_73 rfl rfl rfl ?_
            refine qs_putI fwX0_24 h0 rfl dX0_put_74 rfl (fun D10 => ?_)
            refine qs_goto (tgt := 88) dX0_put_77 (by decide) ?_
            exact qs_vret rfl dX0_put_88
          · refine qs_ite (fun g11 => ?_) (fun g11 => ?_)
            · refine qs_tsIn (off := 79) (tgt := 80) dX0_put_1 (by rw [g11]; decide) (by rw [g11]; decide) (by rw [g11]; rfl) (by decide) ?_
              refine qs_aload_n dX0_put_80 rfl rfl rfl ?_
              refine qs_iload_n dX0_put_81 rfl rfl rfl ?_
              refine qs_putI fwX0_27 h0 rfl dX0_put_82 rfl (fun D12 => ?_)
              refine qs_goto (tgt := 88) dX0_put_85 (by decide) ?_
              exact qs_vret rfl dX0_put_88
            · refine qs_tsOut (tgt := 88) dX0_put_1 (by have eg1 := lv_neT (a := 0) g1 rfl; have eg3 := lv_neT (a := 1) g3 rfl; have eg5 := lv_neT (a := 2) g5 rfl; have eg7 := lv_neT (a := 3) g7 rfl; have eg9 := lv_neT (a := 4) g9 rfl; have eg11 := lv_neT (a := 5) g11 rfl; omega) (by decide) ?_
              exact qs_vret rfl dX0_put_88
def fX0_isCooking (r0 : Nat) (D : qs_D) : Option (Int32 × qs_D) := (if (D r0 4) = 0 then (if (D r0 3) = 0 then (some ((1 : Int32), D)) else (some ((0 : Int32), D))) else (some ((0 : Int32), D)))
set_option maxRecDepth 20000 in
theorem kX0_isCooking {l : Launch} {E : qs_E} {A : Nat → Prop} {r0 : Nat} {D : qs_D} {X : Int32 × qs_D} (h0 : qs_isD r0) (hX : fX0_isCooking r0 D = some X) : qs_Ctr l E A shX yX0_isCooking mX0_isCooking 0 qs_ri [.ref r0] D X := by
  refine qs_enter (plainFor_of_name (by decide)) rfl (Nat.le_of_ble_eq_true rfl) ?_ hX
  show qs_VO l E A shX mX0_isCooking 0 qs_ri 0 [(0, .ref r0)] [] D (fX0_isCooking r0 D)
  unfold fX0_isCooking
  refine qs_aload_n dX0_isCooking_0 rfl rfl rfl ?_
  refine qs_getI ffX0_24 h0 rfl dX0_isCooking_1 rfl ?_
  refine qs_if_ne (tgt := 18) dX0_isCooking_4 (by decide) rfl (fun g1 => ?_) (fun g1 => ?_)
  · refine qs_aload_n dX0_isCooking_7 rfl rfl rfl ?_
    refine qs_getI ffX0_21 h0 rfl dX0_isCooking_8 rfl ?_
    refine qs_if_ne (tgt := 18) dX0_isCooking_11 (by decide) rfl (fun g2 => ?_) (fun g2 => ?_)
    · refine qs_iconst (1 : Int32) dX0_isCooking_14 (by decide) rfl ?_
      refine qs_goto (tgt := 19) dX0_isCooking_15 (by decide) ?_
      exact qs_zret (Or.inr rfl) rfl dX0_isCooking_19
    · refine qs_iconst (0 : Int32) dX0_isCooking_18 (by decide) rfl ?_
      exact qs_zret (Or.inl rfl) rfl dX0_isCooking_19
  · refine qs_iconst (0 : Int32) dX0_isCooking_18 (by decide) rfl ?_
    exact qs_zret (Or.inl rfl) rfl dX0_isCooking_19
def fX0_needs (r0 : Nat) (p1 : Int32) (D : qs_D) : Option (Int32 × qs_D) := (qs_let (10 : Int32) (fun v1 => (qs_let (v1 + (20 : Int32)) (fun v2 => (qs_let ((D r0 1) / (4 : Int32)) (fun v3 => (if (D r0 0) = (0 : Int32) then (some (v1, D)) else (if (D r0 0) = (1 : Int32) then (some (v2, D)) else (if (D r0 0) = (2 : Int32) then (some ((0 : Int32), D)) else (if (D r0 0) = (3 : Int32) then (some (v3, D)) else (if (D r0 0) = (4 : Int32) then (some ((v3 + (25 : Int32)), D)) else (if (D r0 0) = (5 : Int32) then (some ((0 : Int32), D)) else (if (D r0 0) = (6 : Int32) then (some ((v2 + p1), D)) else (some ((0 : Int32), D)))))))))))))))
set_option maxRecDepth 20000 in
theorem kX0_needs {l : Launch} {E : qs_E} {A : Nat → Prop} {r0 : Nat} {p1 : Int32} {D : qs_D} {X : Int32 × qs_D} (h0 : qs_isD r0) (hX : fX0_needs r0 p1 D = some X) : qs_Ctr l E A shX yX0_needs mX0_needs 0 qs_ri [.ref r0, .int p1] D X := by
  refine qs_enter (plainFor_of_name (by decide)) rfl (Nat.le_of_ble_eq_true rfl) ?_ hX
  show qs_VO l E A shX mX0_needs 0 qs_ri 0 [(0, .ref r0), (1, .int p1)] [] D (fX0_needs r0 p1 D)
  unfold fX0_needs
  refine qs_bipush (10 : Int32) dX0_needs_0 (by decide) rfl ?_
  refine qs_istore_n (fun v1 => [(2, .int v1), (0, .ref r0), (1, .int p1)]) dX0_needs_2 rfl (by decide) (fun _ => rfl) rfl (fun v1 => ?_)
  refine qs_iload_n dX0_needs_3 rfl rfl rfl ?_
  refine qs_bipush (20 : Int32) dX0_needs_4 (by decide) rfl ?_
  refine qs_iadd dX0_needs_6 rfl ?_
  refine qs_istore_n (fun v2 => [(3, .int v2), (2, .int v1), (0, .ref r0), (1, .int p1)]) dX0_needs_7 rfl (by decide) (fun _ => rfl) rfl (fun v2 => ?_)
  refine qs_aload_n dX0_needs_8 rfl rfl rfl ?_
  refine qs_getI ffX0_15 h0 rfl dX0_needs_9 rfl ?_
  refine qs_iconst (4 : Int32) dX0_needs_12 (by decide) rfl ?_
  refine qs_idiv dX0_needs_13 (by decide) rfl ?_
  refine qs_istore (fun v3 => [(4, .int v3), (3, .int v2), (2, .int v1), (0, .ref r0), (1, .int p1)]) dX0_needs_14 (by decide) (fun _ => rfl) rfl (fun v3 => ?_)
  refine qs_aload_n dX0_needs_16 rfl rfl rfl ?_
  refine qs_getI ffX0_9 h0 rfl dX0_needs_17 rfl ?_
  refine qs_ite (fun g4 => ?_) (fun g4 => ?_)
  · refine qs_tsIn (off := 44) (tgt := 64) dX0_needs_20 (by rw [g4]; decide) (by rw [g4]; decide) (by rw [g4]; rfl) (by decide) ?_
    refine qs_iload_n dX0_needs_64 rfl rfl rfl ?_
    exact qs_iret rfl dX0_needs_65
  · refine qs_ite (fun g5 => ?_) (fun g5 => ?_)
    · refine qs_tsIn (off := 46) (tgt := 66) dX0_needs_20 (by rw [g5]; decide) (by rw [g5]; decide) (by rw [g5]; rfl) (by decide) ?_
      refine qs_iload_n dX0_needs_66 rfl rfl rfl ?_
      exact qs_iret rfl dX0_needs_67
    · refine qs_ite (fun g6 => ?_) (fun g6 => ?_)
      · refine qs_tsIn (off := 61) (tgt := 81) dX0_needs_20 (by rw [g6]; decide) (by rw [g6]; decide) (by rw [g6]; rfl) (by decide) ?_
        refine qs_iconst (0 : Int32) dX0_needs_81 (by decide) rfl ?_
        exact qs_iret rfl dX0_needs_82
      · refine qs_ite (fun g7 => ?_) (fun g7 => ?_)
        · refine qs_tsIn (off := 52) (tgt := 72) dX0_needs_20 (by rw [g7]; decide) (by rw [g7]; decide) (by rw [g7]; rfl) (by decide) ?_
          refine qs_iload dX0_needs_72 rfl rfl ?_
          exact qs_iret rfl dX0_needs_74
        · refine qs_ite (fun g8 => ?_) (fun g8 => ?_)
          · refine qs_tsIn (off := 55) (tgt := 75) dX0_needs_20 (by rw [g8]; decide) (by rw [g8]; decide) (by rw [g8]; rfl) (by decide) ?_
            refine qs_iload dX0_needs_75 rfl rfl ?_
            refine qs_bipush (25 : Int32) dX0_needs_77 (by decide) rfl ?_
            refine qs_iadd dX0_needs_79 rfl ?_
            exact qs_iret rfl dX0_needs_80
          · refine qs_ite (fun g9 => ?_) (fun g9 => ?_)
            · refine qs_tsIn (off := 61) (tgt := 81) dX0_needs_20 (by rw [g9]; decide) (by rw [g9]; decide) (by rw [g9]; rfl) (by decide) ?_
              refine qs_iconst (0 : Int32) dX0_needs_81 (by decide) rfl ?_
              exact qs_iret rfl dX0_needs_82
            · refine qs_ite (fun g10 => ?_) (fun g10 => ?_)
              · refine qs_tsIn (off := 48) (tgt := 68) dX0_needs_20 (by rw [g10]; decide) (by rw [g10]; decide) (by rw [g10]; rfl) (by decide) ?_
                refine qs_iload_n dX0_needs_68 rfl rfl rfl ?_
                refine qs_iload_n dX0_needs_69 rfl rfl rfl ?_
                refine qs_iadd dX0_needs_70 rfl ?_
                exact qs_iret rfl dX0_needs_71
              · refine qs_tsOut (tgt := 81) dX0_needs_20 (by have eg4 := lv_neT (a := 0) g4 rfl; have eg5 := lv_neT (a := 1) g5 rfl; have eg6 := lv_neT (a := 2) g6 rfl; have eg7 := lv_neT (a := 3) g7 rfl; have eg8 := lv_neT (a := 4) g8 rfl; have eg9 := lv_neT (a := 5) g9 rfl; have eg10 := lv_neT (a := 6) g10 rfl; omega) (by decide) ?_
                refine qs_iconst (0 : Int32) dX0_needs_81 (by decide) rfl ?_
                exact qs_iret rfl dX0_needs_82
def fX0_thickens (r0 : Nat) (p1 : Int32) (p2 : Int32) (p3 : Int32) (D : qs_D) : Option (Int32 × qs_D) := (qs_let (p1 / (10 : Int32)) (fun v1 => (qs_let (v1 + (1 : Int32)) (fun v2 => (qs_let (v1 / (2 : Int32)) (fun v3 => (qs_let (v3 + p2) (fun v4 => (if (D r0 0) = (0 : Int32) then (some (v1, D)) else (if (D r0 0) = (1 : Int32) then (some (v2, D)) else (if (D r0 0) = (2 : Int32) then (some (v3, D)) else (if (D r0 0) = (3 : Int32) then (some (v4, D)) else (if (D r0 0) = (4 : Int32) then (if p3 = (1 : Int32) then (some ((v4 + (10 : Int32)), D)) else (some (v4, D))) else (if (D r0 0) = (5 : Int32) then (some ((0 : Int32), D)) else (if (D r0 0) = (6 : Int32) then (some (((2 : Int32) * v2), D)) else (some ((0 : Int32), D)))))))))))))))))
set_option maxRecDepth 20000 in
theorem kX0_thickens {l : Launch} {E : qs_E} {A : Nat → Prop} {r0 : Nat} {p1 : Int32} {p2 : Int32} {p3 : Int32} {D : qs_D} {X : Int32 × qs_D} (h0 : qs_isD r0) (hX : fX0_thickens r0 p1 p2 p3 D = some X) : qs_Ctr l E A shX yX0_thickens mX0_thickens 0 qs_ri [.ref r0, .int p1, .int p2, .int p3] D X := by
  refine qs_enter (plainFor_of_name (by decide)) rfl (Nat.le_of_ble_eq_true rfl) ?_ hX
  show qs_VO l E A shX mX0_thickens 0 qs_ri 0 [(0, .ref r0), (1, .int p1), (2, .int p2), (3, .int p3)] [] D (fX0_thickens r0 p1 p2 p3 D)
  unfold fX0_thickens
  refine qs_iload_n dX0_thickens_0 rfl rfl rfl ?_
  refine qs_bipush (10 : Int32) dX0_thickens_1 (by decide) rfl ?_
  refine qs_idiv dX0_thickens_3 (by decide) rfl ?_
  refine qs_istore (fun v1 => [(4, .int v1), (0, .ref r0), (1, .int p1), (2, .int p2), (3, .int p3)]) dX0_thickens_4 (by decide) (fun _ => rfl) rfl (fun v1 => ?_)
  refine qs_iload dX0_thickens_6 rfl rfl ?_
  refine qs_iconst (1 : Int32) dX0_thickens_8 (by decide) rfl ?_
  refine qs_iadd dX0_thickens_9 rfl ?_
  refine qs_istore (fun v2 => [(5, .int v2), (4, .int v1), (0, .ref r0), (1, .int p1), (2, .int p2), (3, .int p3)]) dX0_thickens_10 (by decide) (fun _ => rfl) rfl (fun v2 => ?_)
  refine qs_iload dX0_thickens_12 rfl rfl ?_
  refine qs_iconst (2 : Int32) dX0_thickens_14 (by decide) rfl ?_
  refine qs_idiv dX0_thickens_15 (by decide) rfl ?_
  refine qs_istore (fun v3 => [(6, .int v3), (5, .int v2), (4, .int v1), (0, .ref r0), (1, .int p1), (2, .int p2), (3, .int p3)]) dX0_thickens_16 (by decide) (fun _ => rfl) rfl (fun v3 => ?_)
  refine qs_iload dX0_thickens_18 rfl rfl ?_
  refine qs_iload_n dX0_thickens_20 rfl rfl rfl ?_
  refine qs_iadd dX0_thickens_21 rfl ?_
  refine qs_istore (fun v4 => [(7, .int v4), (6, .int v3), (5, .int v2), (4, .int v1), (0, .ref r0), (1, .int p1), (2, .int p2), (3, .int p3)]) dX0_thickens_22 (by decide) (fun _ => rfl) rfl (fun v4 => ?_)
  refine qs_aload_n dX0_thickens_24 rfl rfl rfl ?_
  refine qs_getI ffX0_9 h0 rfl dX0_thickens_25 rfl ?_
  refine qs_ite (fun g5 => ?_) (fun g5 => ?_)
  · refine qs_tsIn (off := 44) (tgt := 72) dX0_thickens_28 (by rw [g5]; decide) (by rw [g5]; decide) (by rw [g5]; rfl) (by decide) ?_
    refine qs_iload dX0_thickens_72 rfl rfl ?_
    exact qs_iret rfl dX0_thickens_74
  · refine qs_ite (fun g6 => ?_) (fun g6 => ?_)
    · refine qs_tsIn (off := 47) (tgt := 75) dX0_thickens_28 (by rw [g6]; decide) (by rw [g6]; decide) (by rw [g6]; rfl) (by decide) ?_
      refine qs_iload dX0_thickens_75 rfl rfl ?_
      exact qs_iret rfl dX0_thickens_77
    · refine qs_ite (fun g7 => ?_) (fun g7 => ?_)
      · refine qs_tsIn (off := 55) (tgt := 83) dX0_thickens_28 (by rw [g7]; decide) (by rw [g7]; decide) (by rw [g7]; rfl) (by decide) ?_
        refine qs_iload dX0_thickens_83 rfl rfl ?_
        exact qs_iret rfl dX0_thickens_85
      · refine qs_ite (fun g8 => ?_) (fun g8 => ?_)
        · refine qs_tsIn (off := 58) (tgt := 86) dX0_thickens_28 (by rw [g8]; decide) (by rw [g8]; decide) (by rw [g8]; rfl) (by decide) ?_
          refine qs_iload dX0_thickens_86 rfl rfl ?_
          exact qs_iret rfl dX0_thickens_88
        · refine qs_ite (fun g9 => ?_) (fun g9 => ?_)
          · refine qs_tsIn (off := 61) (tgt := 89) dX0_thickens_28 (by rw [g9]; decide) (by rw [g9]; decide) (by rw [g9]; rfl) (by decide) ?_
            refine qs_iload_n dX0_thickens_89 rfl rfl rfl ?_
            refine qs_iconst (1 : Int32) dX0_thickens_90 (by decide) rfl ?_
            refine qs_icmp_ne (tgt := 102) dX0_thickens_91 (by decide) rfl (fun g10 => ?_) (fun g10 => ?_)
            · refine qs_iload dX0_thickens_94 rfl rfl ?_
              refine qs_bipush (10 : Int32) dX0_thickens_96 (by decide) rfl ?_
              refine qs_iadd dX0_thickens_98 rfl ?_
              refine qs_goto (tgt := 104) dX0_thickens_99 (by decide) ?_
              exact qs_iret rfl dX0_thickens_104
            · refine qs_iload dX0_thickens_102 rfl rfl ?_
              exact qs_iret rfl dX0_thickens_104
          · refine qs_ite (fun g11 => ?_) (fun g11 => ?_)
            · refine qs_tsIn (off := 77) (tgt := 105) dX0_thickens_28 (by rw [g11]; decide) (by rw [g11]; decide) (by rw [g11]; rfl) (by decide) ?_
              refine qs_iconst (0 : Int32) dX0_thickens_105 (by decide) rfl ?_
              exact qs_iret rfl dX0_thickens_106
            · refine qs_ite (fun g12 => ?_) (fun g12 => ?_)
              · refine qs_tsIn (off := 50) (tgt := 78) dX0_thickens_28 (by rw [g12]; decide) (by rw [g12]; decide) (by rw [g12]; rfl) (by decide) ?_
                refine qs_iconst (2 : Int32) dX0_thickens_78 (by decide) rfl ?_
                refine qs_iload dX0_thickens_79 rfl rfl ?_
                refine qs_imul dX0_thickens_81 rfl ?_
                exact qs_iret rfl dX0_thickens_82
              · refine qs_tsOut (tgt := 105) dX0_thickens_28 (by have eg5 := lv_neT (a := 0) g5 rfl; have eg6 := lv_neT (a := 1) g6 rfl; have eg7 := lv_neT (a := 2) g7 rfl; have eg8 := lv_neT (a := 3) g8 rfl; have eg9 := lv_neT (a := 4) g9 rfl; have eg11 := lv_neT (a := 5) g11 rfl; have eg12 := lv_neT (a := 6) g12 rfl; omega) (by decide) ?_
                refine qs_iconst (0 : Int32) dX0_thickens_105 (by decide) rfl ?_
                exact qs_iret rfl dX0_thickens_106
def fX0_salts (r0 : Nat) (p1 : Int32) (D : qs_D) : Option (Int32 × qs_D) := (if p1 = (2 : Int32) then (qs_let (5 : Int32) (fun v11 => (qs_let (v11 + (1 : Int32)) (fun v12 => (if (D r0 0) = (0 : Int32) then (some (v11, D)) else (if (D r0 0) = (1 : Int32) then (some (v11, D)) else (if (D r0 0) = (2 : Int32) then (some (v12, D)) else (if (D r0 0) = (3 : Int32) then (some (((2 : Int32) * v12), D)) else (if (D r0 0) = (4 : Int32) then (some (((2 : Int32) * v12), D)) else (if (D r0 0) = (5 : Int32) then (if p1 = (8 : Int32) then (some ((v11 + (3 : Int32)), D)) else (some (v11, D))) else (some ((0 : Int32), D)))))))))))) else (qs_let (0 : Int32) (fun v2 => (qs_let (v2 + (1 : Int32)) (fun v3 => (if (D r0 0) = (0 : Int32) then (some (v2, D)) else (if (D r0 0) = (1 : Int32) then (some (v2, D)) else (if (D r0 0) = (2 : Int32) then (some (v3, D)) else (if (D r0 0) = (3 : Int32) then (some (((2 : Int32) * v3), D)) else (if (D r0 0) = (4 : Int32) then (some (((2 : Int32) * v3), D)) else (if (D r0 0) = (5 : Int32) then (if p1 = (8 : Int32) then (some ((v2 + (3 : Int32)), D)) else (some (v2, D))) else (some ((0 : Int32), D)))))))))))))
set_option maxRecDepth 20000 in
theorem kX0_salts {l : Launch} {E : qs_E} {A : Nat → Prop} {r0 : Nat} {p1 : Int32} {D : qs_D} {X : Int32 × qs_D} (h0 : qs_isD r0) (hX : fX0_salts r0 p1 D = some X) : qs_Ctr l E A shX yX0_salts mX0_salts 0 qs_ri [.ref r0, .int p1] D X := by
  refine qs_enter (plainFor_of_name (by decide)) rfl (Nat.le_of_ble_eq_true rfl) ?_ hX
  show qs_VO l E A shX mX0_salts 0 qs_ri 0 [(0, .ref r0), (1, .int p1)] [] D (fX0_salts r0 p1 D)
  unfold fX0_salts
  refine qs_iload_n dX0_salts_0 rfl rfl rfl ?_
  refine qs_iconst (2 : Int32) dX0_salts_1 (by decide) rfl ?_
  refine qs_icmp_ne (tgt := 9) dX0_salts_2 (by decide) rfl (fun g1 => ?_) (fun g1 => ?_)
  · refine qs_iconst (5 : Int32) dX0_salts_5 (by decide) rfl ?_
    refine qs_goto (tgt := 10) dX0_salts_6 (by decide) ?_
    refine qs_istore_n (fun v11 => [(2, .int v11), (0, .ref r0), (1, .int p1)]) dX0_salts_10 rfl (by decide) (fun _ => rfl) rfl (fun v11 => ?_)
    refine qs_iload_n dX0_salts_11 rfl rfl rfl ?_
    refine qs_iconst (1 : Int32) dX0_salts_12 (by decide) rfl ?_
    refine qs_iadd dX0_salts_13 rfl ?_
    refine qs_istore_n (fun v12 => [(3, .int v12), (2, .int v11), (0, .ref r0), (1, .int p1)]) dX0_salts_14 rfl (by decide) (fun _ => rfl) rfl (fun v12 => ?_)
    refine qs_aload_n dX0_salts_15 rfl rfl rfl ?_
    refine qs_getI ffX0_9 h0 rfl dX0_salts_16 rfl ?_
    refine qs_ite (fun g13 => ?_) (fun g13 => ?_)
    · refine qs_tsIn (off := 37) (tgt := 56) dX0_salts_19 (by rw [g13]; decide) (by rw [g13]; decide) (by rw [g13]; rfl) (by decide) ?_
      refine qs_iload_n dX0_salts_56 rfl rfl rfl ?_
      exact qs_iret rfl dX0_salts_57
    · refine qs_ite (fun g14 => ?_) (fun g14 => ?_)
      · refine qs_tsIn (off := 39) (tgt := 58) dX0_salts_19 (by rw [g14]; decide) (by rw [g14]; decide) (by rw [g14]; rfl) (by decide) ?_
        refine qs_iload_n dX0_salts_58 rfl rfl rfl ?_
        exact qs_iret rfl dX0_salts_59
      · refine qs_ite (fun g15 => ?_) (fun g15 => ?_)
        · refine qs_tsIn (off := 41) (tgt := 60) dX0_salts_19 (by rw [g15]; decide) (by rw [g15]; decide) (by rw [g15]; rfl) (by decide) ?_
          refine qs_iload_n dX0_salts_60 rfl rfl rfl ?_
          exact qs_iret rfl dX0_salts_61
        · refine qs_ite (fun g16 => ?_) (fun g16 => ?_)
          · refine qs_tsIn (off := 43) (tgt := 62) dX0_salts_19 (by rw [g16]; decide) (by rw [g16]; decide) (by rw [g16]; rfl) (by decide) ?_
            refine qs_iconst (2 : Int32) dX0_salts_62 (by decide) rfl ?_
            refine qs_iload_n dX0_salts_63 rfl rfl rfl ?_
            refine qs_imul dX0_salts_64 rfl ?_
            exact qs_iret rfl dX0_salts_65
          · refine qs_ite (fun g17 => ?_) (fun g17 => ?_)
            · refine qs_tsIn (off := 47) (tgt := 66) dX0_salts_19 (by rw [g17]; decide) (by rw [g17]; decide) (by rw [g17]; rfl) (by decide) ?_
              refine qs_iconst (2 : Int32) dX0_salts_66 (by decide) rfl ?_
              refine qs_iload_n dX0_salts_67 rfl rfl rfl ?_
              refine qs_imul dX0_salts_68 rfl ?_
              exact qs_iret rfl dX0_salts_69
            · refine qs_ite (fun g18 => ?_) (fun g18 => ?_)
              · refine qs_tsIn (off := 51) (tgt := 70) dX0_salts_19 (by rw [g18]; decide) (by rw [g18]; decide) (by rw [g18]; rfl) (by decide) ?_
                refine qs_iload_n dX0_salts_70 rfl rfl rfl ?_
                refine qs_bipush (8 : Int32) dX0_salts_71 (by decide) rfl ?_
                refine qs_icmp_ne (tgt := 82) dX0_salts_73 (by decide) rfl (fun g19 => ?_) (fun g19 => ?_)
                · refine qs_iload_n dX0_salts_76 rfl rfl rfl ?_
                  refine qs_iconst (3 : Int32) dX0_salts_77 (by decide) rfl ?_
                  refine qs_iadd dX0_salts_78 rfl ?_
                  refine qs_goto (tgt := 83) dX0_salts_79 (by decide) ?_
                  exact qs_iret rfl dX0_salts_83
                · refine qs_iload_n dX0_salts_82 rfl rfl rfl ?_
                  exact qs_iret rfl dX0_salts_83
              · refine qs_tsOut (tgt := 84) dX0_salts_19 (by have eg13 := lv_neT (a := 0) g13 rfl; have eg14 := lv_neT (a := 1) g14 rfl; have eg15 := lv_neT (a := 2) g15 rfl; have eg16 := lv_neT (a := 3) g16 rfl; have eg17 := lv_neT (a := 4) g17 rfl; have eg18 := lv_neT (a := 5) g18 rfl; omega) (by decide) ?_
                refine qs_iconst (0 : Int32) dX0_salts_84 (by decide) rfl ?_
                exact qs_iret rfl dX0_salts_85
  · refine qs_iconst (0 : Int32) dX0_salts_9 (by decide) rfl ?_
    refine qs_istore_n (fun v2 => [(2, .int v2), (0, .ref r0), (1, .int p1)]) dX0_salts_10 rfl (by decide) (fun _ => rfl) rfl (fun v2 => ?_)
    refine qs_iload_n dX0_salts_11 rfl rfl rfl ?_
    refine qs_iconst (1 : Int32) dX0_salts_12 (by decide) rfl ?_
    refine qs_iadd dX0_salts_13 rfl ?_
    refine qs_istore_n (fun v3 => [(3, .int v3), (2, .int v2), (0, .ref r0), (1, .int p1)]) dX0_salts_14 rfl (by decide) (fun _ => rfl) rfl (fun v3 => ?_)
    refine qs_aload_n dX0_salts_15 rfl rfl rfl ?_
    refine qs_getI ffX0_9 h0 rfl dX0_salts_16 rfl ?_
    refine qs_ite (fun g4 => ?_) (fun g4 => ?_)
    · refine qs_tsIn (off := 37) (tgt := 56) dX0_salts_19 (by rw [g4]; decide) (by rw [g4]; decide) (by rw [g4]; rfl) (by decide) ?_
      refine qs_iload_n dX0_salts_56 rfl rfl rfl ?_
      exact qs_iret rfl dX0_salts_57
    · refine qs_ite (fun g5 => ?_) (fun g5 => ?_)
      · refine qs_tsIn (off := 39) (tgt := 58) dX0_salts_19 (by rw [g5]; decide) (by rw [g5]; decide) (by rw [g5]; rfl) (by decide) ?_
        refine qs_iload_n dX0_salts_58 rfl rfl rfl ?_
        exact qs_iret rfl dX0_salts_59
      · refine qs_ite (fun g6 => ?_) (fun g6 => ?_)
        · refine qs_tsIn (off := 41) (tgt := 60) dX0_salts_19 (by rw [g6]; decide) (by rw [g6]; decide) (by rw [g6]; rfl) (by decide) ?_
          refine qs_iload_n dX0_salts_60 rfl rfl rfl ?_
          exact qs_iret rfl dX0_salts_61
        · refine qs_ite (fun g7 => ?_) (fun g7 => ?_)
          · refine qs_tsIn (off := 43) (tgt := 62) dX0_salts_19 (by rw [g7]; decide) (by rw [g7]; decide) (by rw [g7]; rfl) (by decide) ?_
            refine qs_iconst (2 : Int32) dX0_salts_62 (by decide) rfl ?_
            refine qs_iload_n dX0_salts_63 rfl rfl rfl ?_
            refine qs_imul dX0_salts_64 rfl ?_
            exact qs_iret rfl dX0_salts_65
          · refine qs_ite (fun g8 => ?_) (fun g8 => ?_)
            · refine qs_tsIn (off := 47) (tgt := 66) dX0_salts_19 (by rw [g8]; decide) (by rw [g8]; decide) (by rw [g8]; rfl) (by decide) ?_
              refine qs_iconst (2 : Int32) dX0_salts_66 (by decide) rfl ?_
              refine qs_iload_n dX0_salts_67 rfl rfl rfl ?_
              refine qs_imul dX0_salts_68 rfl ?_
              exact qs_iret rfl dX0_salts_69
            · refine qs_ite (fun g9 => ?_) (fun g9 => ?_)
              · refine qs_tsIn (off := 51) (tgt := 70) dX0_salts_19 (by rw [g9]; decide) (by rw [g9]; decide) (by rw [g9]; rfl) (by decide) ?_
                refine qs_iload_n dX0_salts_70 rfl rfl rfl ?_
                refine qs_bipush (8 : Int32) dX0_salts_71 (by decide) rfl ?_
                refine qs_icmp_ne (tgt := 82) dX0_salts_73 (by decide) rfl (fun g10 => ?_) (fun g10 => ?_)
                · refine qs_iload_n dX0_salts_76 rfl rfl rfl ?_
                  refine qs_iconst (3 : Int32) dX0_salts_77 (by decide) rfl ?_
                  refine qs_iadd dX0_salts_78 rfl ?_
                  refine qs_goto (tgt := 83) dX0_salts_79 (by decide) ?_
                  exact qs_iret rfl dX0_salts_83
                · refine qs_iload_n dX0_salts_82 rfl rfl rfl ?_
                  exact qs_iret rfl dX0_salts_83
              · refine qs_tsOut (tgt := 84) dX0_salts_19 (by have eg4 := lv_neT (a := 0) g4 rfl; have eg5 := lv_neT (a := 1) g5 rfl; have eg6 := lv_neT (a := 2) g6 rfl; have eg7 := lv_neT (a := 3) g7 rfl; have eg8 := lv_neT (a := 4) g8 rfl; have eg9 := lv_neT (a := 5) g9 rfl; omega) (by decide) ?_
                refine qs_iconst (0 : Int32) dX0_salts_84 (by decide) rfl ?_
                exact qs_iret rfl dX0_salts_85
def fX0_burns (r0 : Nat) (D : qs_D) : Option (Int32 × qs_D) := (qs_let (80 : Int32) (fun v1 => (qs_let (v1 + (19 : Int32)) (fun v2 => (if (D r0 0) = (0 : Int32) then (some (v1, D)) else (if (D r0 0) = (1 : Int32) then (some ((v1 - (10 : Int32)), D)) else (if (D r0 0) = (2 : Int32) then (some (v2, D)) else (if (D r0 0) = (3 : Int32) then (some (v2, D)) else (if (D r0 0) = (4 : Int32) then (some ((v2 - (9 : Int32)), D)) else (if (D r0 0) = (5 : Int32) then (some ((99 : Int32), D)) else (if (D r0 0) = (6 : Int32) then (some ((v1 - (10 : Int32)), D)) else (some ((99 : Int32), D)))))))))))))
set_option maxRecDepth 20000 in
theorem kX0_burns {l : Launch} {E : qs_E} {A : Nat → Prop} {r0 : Nat} {D : qs_D} {X : Int32 × qs_D} (h0 : qs_isD r0) (hX : fX0_burns r0 D = some X) : qs_Ctr l E A shX yX0_burns mX0_burns 0 qs_ri [.ref r0] D X := by
  refine qs_enter (plainFor_of_name (by decide)) rfl (Nat.le_of_ble_eq_true rfl) ?_ hX
  show qs_VO l E A shX mX0_burns 0 qs_ri 0 [(0, .ref r0)] [] D (fX0_burns r0 D)
  unfold fX0_burns
  refine qs_bipush (80 : Int32) dX0_burns_0 (by decide) rfl ?_
  refine qs_istore_n (fun v1 => [(1, .int v1), (0, .ref r0)]) dX0_burns_2 rfl (by decide) (fun _ => rfl) rfl (fun v1 => ?_)
  refine qs_iload_n dX0_burns_3 rfl rfl rfl ?_
  refine qs_bipush (19 : Int32) dX0_burns_4 (by decide) rfl ?_
  refine qs_iadd dX0_burns_6 rfl ?_
  refine qs_istore_n (fun v2 => [(2, .int v2), (1, .int v1), (0, .ref r0)]) dX0_burns_7 rfl (by decide) (fun _ => rfl) rfl (fun v2 => ?_)
  refine qs_aload_n dX0_burns_8 rfl rfl rfl ?_
  refine qs_getI ffX0_9 h0 rfl dX0_burns_9 rfl ?_
  refine qs_ite (fun g3 => ?_) (fun g3 => ?_)
  · refine qs_tsIn (off := 44) (tgt := 56) dX0_burns_12 (by rw [g3]; decide) (by rw [g3]; decide) (by rw [g3]; rfl) (by decide) ?_
    refine qs_iload_n dX0_burns_56 rfl rfl rfl ?_
    exact qs_iret rfl dX0_burns_57
  · refine qs_ite (fun g4 => ?_) (fun g4 => ?_)
    · refine qs_tsIn (off := 46) (tgt := 58) dX0_burns_12 (by rw [g4]; decide) (by rw [g4]; decide) (by rw [g4]; rfl) (by decide) ?_
      refine qs_iload_n dX0_burns_58 rfl rfl rfl ?_
      refine qs_bipush (10 : Int32) dX0_burns_59 (by decide) rfl ?_
      refine qs_isub dX0_burns_61 rfl ?_
      exact qs_iret rfl dX0_burns_62
    · refine qs_ite (fun g5 => ?_) (fun g5 => ?_)
      · refine qs_tsIn (off := 56) (tgt := 68) dX0_burns_12 (by rw [g5]; decide) (by rw [g5]; decide) (by rw [g5]; rfl) (by decide) ?_
        refine qs_iload_n dX0_burns_68 rfl rfl rfl ?_
        exact qs_iret rfl dX0_burns_69
      · refine qs_ite (fun g6 => ?_) (fun g6 => ?_)
        · refine qs_tsIn (off := 58) (tgt := 70) dX0_burns_12 (by rw [g6]; decide) (by rw [g6]; decide) (by rw [g6]; rfl) (by decide) ?_
          refine qs_iload_n dX0_burns_70 rfl rfl rfl ?_
          exact qs_iret rfl dX0_burns_71
        · refine qs_ite (fun g7 => ?_) (fun g7 => ?_)
          · refine qs_tsIn (off := 60) (tgt := 72) dX0_burns_12 (by rw [g7]; decide) (by rw [g7]; decide) (by rw [g7]; rfl) (by decide) ?_
            refine qs_iload_n dX0_burns_72 rfl rfl rfl ?_
            refine qs_bipush (9 : Int32) dX0_burns_73 (by decide) rfl ?_
            refine qs_isub dX0_burns_75 rfl ?_
            exact qs_iret rfl dX0_burns_76
          · refine qs_ite (fun g8 => ?_) (fun g8 => ?_)
            · refine qs_tsIn (off := 65) (tgt := 77) dX0_burns_12 (by rw [g8]; decide) (by rw [g8]; decide) (by rw [g8]; rfl) (by decide) ?_
              refine qs_bipush (99 : Int32) dX0_burns_77 (by decide) rfl ?_
              exact qs_iret rfl dX0_burns_79
            · refine qs_ite (fun g9 => ?_) (fun g9 => ?_)
              · refine qs_tsIn (off := 51) (tgt := 63) dX0_burns_12 (by rw [g9]; decide) (by rw [g9]; decide) (by rw [g9]; rfl) (by decide) ?_
                refine qs_iload_n dX0_burns_63 rfl rfl rfl ?_
                refine qs_bipush (10 : Int32) dX0_burns_64 (by decide) rfl ?_
                refine qs_isub dX0_burns_66 rfl ?_
                exact qs_iret rfl dX0_burns_67
              · refine qs_tsOut (tgt := 77) dX0_burns_12 (by have eg3 := lv_neT (a := 0) g3 rfl; have eg4 := lv_neT (a := 1) g4 rfl; have eg5 := lv_neT (a := 2) g5 rfl; have eg6 := lv_neT (a := 3) g6 rfl; have eg7 := lv_neT (a := 4) g7 rfl; have eg8 := lv_neT (a := 5) g8 rfl; have eg9 := lv_neT (a := 6) g9 rfl; omega) (by decide) ?_
                refine qs_bipush (99 : Int32) dX0_burns_77 (by decide) rfl ?_
                exact qs_iret rfl dX0_burns_79
def fJ9_abs_0f7a4 (p0 : Int32) (D : qs_D) : Option (Int32 × qs_D) := (if 0 ≤ p0 then (some (p0, D)) else (some ((-p0), D)))
set_option maxRecDepth 20000 in
theorem kJ9_abs_0f7a4 {l : Launch} {E : qs_E} {A : Nat → Prop} {p0 : Int32} {D : qs_D} {X : Int32 × qs_D}  (hX : fJ9_abs_0f7a4 p0 D = some X) : qs_Ctr l E A shX yJ9_abs_0f7a4 mJ9_abs_0f7a4 0 qs_ri [.int p0] D X := by
  refine qs_enter (by decide +kernel) rfl (Nat.le_of_ble_eq_true rfl) ?_ hX
  show qs_VO l E A shX mJ9_abs_0f7a4 0 qs_ri 0 [(0, .int p0)] [] D (fJ9_abs_0f7a4 p0 D)
  unfold fJ9_abs_0f7a4
  refine qs_iload_n dJ9_abs_0f7a4_0 rfl rfl rfl ?_
  refine qs_if_ge (tgt := 9) dJ9_abs_0f7a4_1 (by decide) rfl (fun g1 => ?_) (fun g1 => ?_)
  · refine qs_iload_n dJ9_abs_0f7a4_9 rfl rfl rfl ?_
    exact qs_iret rfl dJ9_abs_0f7a4_10
  · refine qs_iload_n dJ9_abs_0f7a4_4 rfl rfl rfl ?_
    refine qs_ineg dJ9_abs_0f7a4_5 rfl ?_
    refine qs_goto (tgt := 10) dJ9_abs_0f7a4_6 (by decide) ?_
    exact qs_iret rfl dJ9_abs_0f7a4_10
def fJ9_max_7cf53 (p0 : Int32) (p1 : Int32) (D : qs_D) : Option (Int32 × qs_D) := (if p0 < p1 then (some (p1, D)) else (some (p0, D)))
set_option maxRecDepth 20000 in
theorem kJ9_max_7cf53 {l : Launch} {E : qs_E} {A : Nat → Prop} {p0 : Int32} {p1 : Int32} {D : qs_D} {X : Int32 × qs_D}  (hX : fJ9_max_7cf53 p0 p1 D = some X) : qs_Ctr l E A shX yJ9_max_7cf53 mJ9_max_7cf53 0 qs_ri [.int p0, .int p1] D X := by
  refine qs_enter (by decide +kernel) rfl (Nat.le_of_ble_eq_true rfl) ?_ hX
  show qs_VO l E A shX mJ9_max_7cf53 0 qs_ri 0 [(0, .int p0), (1, .int p1)] [] D (fJ9_max_7cf53 p0 p1 D)
  unfold fJ9_max_7cf53
  refine qs_iload_n dJ9_max_7cf53_0 rfl rfl rfl ?_
  refine qs_iload_n dJ9_max_7cf53_1 rfl rfl rfl ?_
  refine qs_icmp_lt (tgt := 9) dJ9_max_7cf53_2 (by decide) rfl (fun g1 => ?_) (fun g1 => ?_)
  · refine qs_iload_n dJ9_max_7cf53_9 rfl rfl rfl ?_
    exact qs_iret rfl dJ9_max_7cf53_10
  · refine qs_iload_n dJ9_max_7cf53_5 rfl rfl rfl ?_
    refine qs_goto (tgt := 10) dJ9_max_7cf53_6 (by decide) ?_
    exact qs_iret rfl dJ9_max_7cf53_10
def fX0_gives (r0 : Nat) (p1 : Int32) (D : qs_D) : Option (Int32 × qs_D) := (if (D r0 3) = (1 : Int32) then (some ((0 : Int32), D)) else (qs_bind (fJ9_abs_0f7a4 ((D r0 2) - (30 : Int32)) D) (fun x3 D2 => (qs_bind (fJ9_max_7cf53 (0 : Int32) ((D r0 1) - x3) D2) (fun x6 D5 => (qs_let x6 (fun v8 => (qs_let (v8 + (p1 / (5 : Int32))) (fun v9 => (qs_let (v8 / (2 : Int32)) (fun v10 => (qs_let (v10 + (20 : Int32)) (fun v11 => (if (D5 r0 0) = (0 : Int32) then (some (v8, D5)) else (if (D5 r0 0) = (1 : Int32) then (some (v9, D5)) else (if (D5 r0 0) = (2 : Int32) then (some (v10, D5)) else (if (D5 r0 0) = (3 : Int32) then (some (v11, D5)) else (if (D5 r0 0) = (4 : Int32) then (some (((2 : Int32) * v11), D5)) else (if (D5 r0 0) = (5 : Int32) then (some ((10 : Int32), D5)) else (if (D5 r0 0) = (6 : Int32) then (some (v9, D5)) else (some ((10 : Int32), D5))))))))))))))))))))))
set_option maxRecDepth 20000 in
theorem kX0_gives {l : Launch} {E : qs_E} {A : Nat → Prop} {r0 : Nat} {p1 : Int32} {D : qs_D} {X : Int32 × qs_D} (h0 : qs_isD r0) (hX : fX0_gives r0 p1 D = some X) : qs_Ctr l E A shX yX0_gives mX0_gives 1 qs_ri [.ref r0, .int p1] D X := by
  refine qs_enter (plainFor_of_name (by decide)) rfl (Nat.le_of_ble_eq_true rfl) ?_ hX
  show qs_VO l E A shX mX0_gives 1 qs_ri 0 [(0, .ref r0), (1, .int p1)] [] D (fX0_gives r0 p1 D)
  unfold fX0_gives
  refine qs_aload_n dX0_gives_0 rfl rfl rfl ?_
  refine qs_getI ffX0_21 h0 rfl dX0_gives_1 rfl ?_
  refine qs_iconst (1 : Int32) dX0_gives_4 (by decide) rfl ?_
  refine qs_icmp_ne (tgt := 10) dX0_gives_5 (by decide) rfl (fun g1 => ?_) (fun g1 => ?_)
  · refine qs_iconst (0 : Int32) dX0_gives_8 (by decide) rfl ?_
    exact qs_iret rfl dX0_gives_9
  · refine qs_iconst (0 : Int32) dX0_gives_10 (by decide) rfl ?_
    refine qs_aload_n dX0_gives_11 rfl rfl rfl ?_
    refine qs_getI ffX0_15 h0 rfl dX0_gives_12 rfl ?_
    refine qs_aload_n dX0_gives_15 rfl rfl rfl ?_
    refine qs_getI ffX0_18 h0 rfl dX0_gives_16 rfl ?_
    refine qs_bipush (30 : Int32) dX0_gives_19 (by decide) rfl ?_
    refine qs_isub dX0_gives_21 rfl ?_
    refine qs_cS1i cfX0_30 (Nat.le_of_ble_eq_true rfl) (fun Y hY => kJ9_abs_0f7a4  hY) (Nat.le_of_ble_eq_true rfl) dX0_gives_22 rfl (fun x3 D2 g4 => ?_)
    refine qs_isub dX0_gives_25 rfl ?_
    refine qs_cS2i cfX0_36 (Nat.le_of_ble_eq_true rfl) (fun Y hY => kJ9_max_7cf53  hY) (Nat.le_of_ble_eq_true rfl) dX0_gives_26 rfl (fun x6 D5 g7 => ?_)
    refine qs_istore_n (fun v8 => [(2, .int v8), (0, .ref r0), (1, .int p1)]) dX0_gives_29 rfl (by decide) (fun _ => rfl) rfl (fun v8 => ?_)
    refine qs_iload_n dX0_gives_30 rfl rfl rfl ?_
    refine qs_iload_n dX0_gives_31 rfl rfl rfl ?_
    refine qs_iconst (5 : Int32) dX0_gives_32 (by decide) rfl ?_
    refine qs_idiv dX0_gives_33 (by decide) rfl ?_
    refine qs_iadd dX0_gives_34 rfl ?_
    refine qs_istore_n (fun v9 => [(3, .int v9), (2, .int v8), (0, .ref r0), (1, .int p1)]) dX0_gives_35 rfl (by decide) (fun _ => rfl) rfl (fun v9 => ?_)
    refine qs_iload_n dX0_gives_36 rfl rfl rfl ?_
    refine qs_iconst (2 : Int32) dX0_gives_37 (by decide) rfl ?_
    refine qs_idiv dX0_gives_38 (by decide) rfl ?_
    refine qs_istore (fun v10 => [(4, .int v10), (3, .int v9), (2, .int v8), (0, .ref r0), (1, .int p1)]) dX0_gives_39 (by decide) (fun _ => rfl) rfl (fun v10 => ?_)
    refine qs_iload dX0_gives_41 rfl rfl ?_
    refine qs_bipush (20 : Int32) dX0_gives_43 (by decide) rfl ?_
    refine qs_iadd dX0_gives_45 rfl ?_
    refine qs_istore (fun v11 => [(5, .int v11), (4, .int v10), (3, .int v9), (2, .int v8), (0, .ref r0), (1, .int p1)]) dX0_gives_46 (by decide) (fun _ => rfl) rfl (fun v11 => ?_)
    refine qs_aload_n dX0_gives_48 rfl rfl rfl ?_
    refine qs_getI ffX0_9 h0 rfl dX0_gives_49 rfl ?_
    refine qs_ite (fun g12 => ?_) (fun g12 => ?_)
    · refine qs_tsIn (off := 44) (tgt := 96) dX0_gives_52 (by rw [g12]; decide) (by rw [g12]; decide) (by rw [g12]; rfl) (by decide) ?_
      refine qs_iload_n dX0_gives_96 rfl rfl rfl ?_
      exact qs_iret rfl dX0_gives_97
    · refine qs_ite (fun g13 => ?_) (fun g13 => ?_)
      · refine qs_tsIn (off := 46) (tgt := 98) dX0_gives_52 (by rw [g13]; decide) (by rw [g13]; decide) (by rw [g13]; rfl) (by decide) ?_
        refine qs_iload_n dX0_gives_98 rfl rfl rfl ?_
        exact qs_iret rfl dX0_gives_99
      · refine qs_ite (fun g14 => ?_) (fun g14 => ?_)
        · refine qs_tsIn (off := 50) (tgt := 102) dX0_gives_52 (by rw [g14]; decide) (by rw [g14]; decide) (by rw [g14]; rfl) (by decide) ?_
          refine qs_iload dX0_gives_102 rfl rfl ?_
          exact qs_iret rfl dX0_gives_104
        · refine qs_ite (fun g15 => ?_) (fun g15 => ?_)
          · refine qs_tsIn (off := 53) (tgt := 105) dX0_gives_52 (by rw [g15]; decide) (by rw [g15]; decide) (by rw [g15]; rfl) (by decide) ?_
            refine qs_iload dX0_gives_105 rfl rfl ?_
            exact qs_iret rfl dX0_gives_107
          · refine qs_ite (fun g16 => ?_) (fun g16 => ?_)
            · refine qs_tsIn (off := 56) (tgt := 108) dX0_gives_52 (by rw [g16]; decide) (by rw [g16]; decide) (by rw [g16]; rfl) (by decide) ?_
              refine qs_iconst (2 : Int32) dX0_gives_108 (by decide) rfl ?_
              refine qs_iload dX0_gives_109 rfl rfl ?_
              refine qs_imul dX0_gives_111 rfl ?_
              exact qs_iret rfl dX0_gives_112
            · refine qs_ite (fun g17 => ?_) (fun g17 => ?_)
              · refine qs_tsIn (off := 61) (tgt := 113) dX0_gives_52 (by rw [g17]; decide) (by rw [g17]; decide) (by rw [g17]; rfl) (by decide) ?_
                refine qs_bipush (10 : Int32) dX0_gives_113 (by decide) rfl ?_
                exact qs_iret rfl dX0_gives_115
              · refine qs_ite (fun g18 => ?_) (fun g18 => ?_)
                · refine qs_tsIn (off := 48) (tgt := 100) dX0_gives_52 (by rw [g18]; decide) (by rw [g18]; decide) (by rw [g18]; rfl) (by decide) ?_
                  refine qs_iload_n dX0_gives_100 rfl rfl rfl ?_
                  exact qs_iret rfl dX0_gives_101
                · refine qs_tsOut (tgt := 113) dX0_gives_52 (by have eg12 := lv_neT (a := 0) g12 rfl; have eg13 := lv_neT (a := 1) g13 rfl; have eg14 := lv_neT (a := 2) g14 rfl; have eg15 := lv_neT (a := 3) g15 rfl; have eg16 := lv_neT (a := 4) g16 rfl; have eg17 := lv_neT (a := 5) g17 rfl; have eg18 := lv_neT (a := 6) g18 rfl; omega) (by decide) ?_
                  refine qs_bipush (10 : Int32) dX0_gives_113 (by decide) rfl ?_
                  exact qs_iret rfl dX0_gives_115
def fJ9_min_7cf53 (p0 : Int32) (p1 : Int32) (D : qs_D) : Option (Int32 × qs_D) := (if p1 < p0 then (some (p1, D)) else (some (p0, D)))
set_option maxRecDepth 20000 in
theorem kJ9_min_7cf53 {l : Launch} {E : qs_E} {A : Nat → Prop} {p0 : Int32} {p1 : Int32} {D : qs_D} {X : Int32 × qs_D}  (hX : fJ9_min_7cf53 p0 p1 D = some X) : qs_Ctr l E A shX yJ9_min_7cf53 mJ9_min_7cf53 0 qs_ri [.int p0, .int p1] D X := by
  refine qs_enter (by decide +kernel) rfl (Nat.le_of_ble_eq_true rfl) ?_ hX
  show qs_VO l E A shX mJ9_min_7cf53 0 qs_ri 0 [(0, .int p0), (1, .int p1)] [] D (fJ9_min_7cf53 p0 p1 D)
  unfold fJ9_min_7cf53
  refine qs_iload_n dJ9_min_7cf53_0 rfl rfl rfl ?_
  refine qs_iload_n dJ9_min_7cf53_1 rfl rfl rfl ?_
  refine qs_icmp_gt (tgt := 9) dJ9_min_7cf53_2 (by decide) rfl (fun g1 => ?_) (fun g1 => ?_)
  · refine qs_iload_n dJ9_min_7cf53_9 rfl rfl rfl ?_
    exact qs_iret rfl dJ9_min_7cf53_10
  · refine qs_iload_n dJ9_min_7cf53_5 rfl rfl rfl ?_
    refine qs_goto (tgt := 10) dJ9_min_7cf53_6 (by decide) ?_
    exact qs_iret rfl dJ9_min_7cf53_10
def fX0_cook (r0 : Nat) (p1 : Int32) (p2 : Int32) (p3 : Int32) (D : qs_D) : Option (Unit × qs_D) := (qs_bind (fX0_needs r0 p2 D) (fun x2 D1 => (if x2 ≤ p1 then (qs_bind (fX0_thickens r0 p1 p2 p3 D1) (fun x6 D5 => (qs_bind (fJ9_min_7cf53 (99 : Int32) ((D1 r0 1) + x6) D5) (fun x9 D8 => (qs_let (qs_u D8 r0 1 x9) (fun D11 => (qs_bind (fX0_salts r0 p3 D11) (fun x13 D12 => (qs_bind (fJ9_min_7cf53 (99 : Int32) ((D11 r0 2) + x13) D12) (fun x16 D15 => (qs_let (qs_u D15 r0 2 x16) (fun D18 => (qs_bind (fX0_burns r0 D18) (fun x20 D19 => (if (D18 r0 1) ≤ x20 then (some ((), D19)) else (qs_let (qs_u D19 r0 3 (1 : Int32)) (fun D23 => (some ((), D23))))))))))))))))))) else (qs_let (qs_u D1 r0 3 (1 : Int32)) (fun D24 => (some ((), D24)))))))
set_option maxRecDepth 20000 in
theorem kX0_cook {l : Launch} {E : qs_E} {A : Nat → Prop} {r0 : Nat} {p1 : Int32} {p2 : Int32} {p3 : Int32} {D : qs_D} {X : Unit × qs_D} (h0 : qs_isD r0) (hX : fX0_cook r0 p1 p2 p3 D = some X) : qs_Ctr l E A shX yX0_cook mX0_cook 1 qs_rv [.ref r0, .int p1, .int p2, .int p3] D X := by
  refine qs_enter (plainFor_of_name (by decide)) rfl (Nat.le_of_ble_eq_true rfl) ?_ hX
  show qs_VO l E A shX mX0_cook 1 qs_rv 0 [(0, .ref r0), (1, .int p1), (2, .int p2), (3, .int p3)] [] D (fX0_cook r0 p1 p2 p3 D)
  unfold fX0_cook
  refine qs_iload_n dX0_cook_0 rfl rfl rfl ?_
  refine qs_aload_n dX0_cook_1 rfl rfl rfl ?_
  refine qs_iload_n dX0_cook_2 rfl rfl rfl ?_
  refine qs_cV1i cfX0_40 (Nat.le_of_ble_eq_true rfl) h0 rfl (fun Y hY => kX0_needs h0 hY) (Nat.le_of_ble_eq_true rfl) dX0_cook_3 rfl (fun x2 D1 g3 => ?_)
  refine qs_icmp_ge (tgt := 15) dX0_cook_6 (by decide) rfl (fun g4 => ?_) (fun g4 => ?_)
  · refine qs_aload_n dX0_cook_15 rfl rfl rfl ?_
    refine qs_bipush (99 : Int32) dX0_cook_16 (by decide) rfl ?_
    refine qs_aload_n dX0_cook_18 rfl rfl rfl ?_
    refine qs_getI ffX0_15 h0 rfl dX0_cook_19 rfl ?_
    refine qs_aload_n dX0_cook_22 rfl rfl rfl ?_
    refine qs_iload_n dX0_cook_23 rfl rfl rfl ?_
    refine qs_iload_n dX0_cook_24 rfl rfl rfl ?_
    refine qs_iload_n dX0_cook_25 rfl rfl rfl ?_
    refine qs_cV3i cfX0_43 (Nat.le_of_ble_eq_true rfl) h0 rfl (fun Y hY => kX0_thickens h0 hY) (Nat.le_of_ble_eq_true rfl) dX0_cook_26 rfl (fun x6 D5 g7 => ?_)
    refine qs_iadd dX0_cook_29 rfl ?_
    refine qs_cS2i cfX0_47 (Nat.le_of_ble_eq_true rfl) (fun Y hY => kJ9_min_7cf53  hY) (Nat.le_of_ble_eq_true rfl) dX0_cook_30 rfl (fun x9 D8 g10 => ?_)
    refine qs_putI fwX0_15 h0 rfl dX0_cook_33 rfl (fun D11 => ?_)
    refine qs_aload_n dX0_cook_36 rfl rfl rfl ?_
    refine qs_bipush (99 : Int32) dX0_cook_37 (by decide) rfl ?_
    refine qs_aload_n dX0_cook_39 rfl rfl rfl ?_
    refine qs_getI ffX0_18 h0 rfl dX0_cook_40 rfl ?_
    refine qs_aload_n dX0_cook_43 rfl rfl rfl ?_
    refine qs_iload_n dX0_cook_44 rfl rfl rfl ?_
    refine qs_cV1i cfX0_50 (Nat.le_of_ble_eq_true rfl) h0 rfl (fun Y hY => kX0_salts h0 hY) (Nat.le_of_ble_eq_true rfl) dX0_cook_45 rfl (fun x13 D12 g14 => ?_)
    refine qs_iadd dX0_cook_48 rfl ?_
    refine qs_cS2i cfX0_47 (Nat.le_of_ble_eq_true rfl) (fun Y hY => kJ9_min_7cf53  hY) (Nat.le_of_ble_eq_true rfl) dX0_cook_49 rfl (fun x16 D15 g17 => ?_)
    refine qs_putI fwX0_18 h0 rfl dX0_cook_52 rfl (fun D18 => ?_)
    refine qs_aload_n dX0_cook_55 rfl rfl rfl ?_
    refine qs_getI ffX0_15 h0 rfl dX0_cook_56 rfl ?_
    refine qs_aload_n dX0_cook_59 rfl rfl rfl ?_
    refine qs_cV0i cfX0_53 (Nat.le_of_ble_eq_true rfl) h0 rfl (fun Y hY => kX0_burns h0 hY) (Nat.le_of_ble_eq_true rfl) dX0_cook_60 rfl (fun x20 D19 g21 => ?_)
    refine qs_icmp_le (tgt := 71) dX0_cook_63 (by decide) rfl (fun g22 => ?_) (fun g22 => ?_)
    · exact qs_vret rfl dX0_cook_71
    · refine qs_aload_n dX0_cook_66 rfl rfl rfl ?_
      refine qs_iconst (1 : Int32) dX0_cook_67 (by decide) rfl ?_
      refine qs_putI fwX0_21 h0 rfl dX0_cook_68 rfl (fun D23 => ?_)
      exact qs_vret rfl dX0_cook_71
  · refine qs_aload_n dX0_cook_9 rfl rfl rfl ?_
    refine qs_iconst (1 : Int32) dX0_cook_10 (by decide) rfl ?_
    refine qs_putI fwX0_21 h0 rfl dX0_cook_11 rfl (fun D24 => ?_)
    exact qs_vret rfl dX0_cook_14
def fX0_startAnew (r0 : Nat) (D : qs_D) : Option (Unit × qs_D) := (qs_bind (fJ9_min_7cf53 (9999 : Int32) ((D r0 5) + (1 : Int32)) D) (fun x2 D1 => (qs_let (qs_u D1 r0 5 x2) (fun D4 => (qs_let (qs_u D4 r0 1 (10 : Int32)) (fun D5 => (qs_let (qs_u D5 r0 2 (10 : Int32)) (fun D6 => (qs_let (qs_u D6 r0 3 (0 : Int32)) (fun D7 => (some ((), D7))))))))))))
set_option maxRecDepth 20000 in
theorem kX0_startAnew {l : Launch} {E : qs_E} {A : Nat → Prop} {r0 : Nat} {D : qs_D} {X : Unit × qs_D} (h0 : qs_isD r0) (hX : fX0_startAnew r0 D = some X) : qs_Ctr l E A shX yX0_startAnew mX0_startAnew 1 qs_rv [.ref r0] D X := by
  refine qs_enter (plainFor_of_name (by decide)) rfl (Nat.le_of_ble_eq_true rfl) ?_ hX
  show qs_VO l E A shX mX0_startAnew 1 qs_rv 0 [(0, .ref r0)] [] D (fX0_startAnew r0 D)
  unfold fX0_startAnew
  refine qs_aload_n dX0_startAnew_0 rfl rfl rfl ?_
  refine qs_sipush (9999 : Int32) dX0_startAnew_1 (by decide) rfl ?_
  refine qs_aload_n dX0_startAnew_4 rfl rfl rfl ?_
  refine qs_getI ffX0_27 h0 rfl dX0_startAnew_5 rfl ?_
  refine qs_iconst (1 : Int32) dX0_startAnew_8 (by decide) rfl ?_
  refine qs_iadd dX0_startAnew_9 rfl ?_
  refine qs_cS2i cfX0_47 (Nat.le_of_ble_eq_true rfl) (fun Y hY => kJ9_min_7cf53  hY) (Nat.le_of_ble_eq_true rfl) dX0_startAnew_10 rfl (fun x2 D1 g3 => ?_)
  refine qs_putI fwX0_27 h0 rfl dX0_startAnew_13 rfl (fun D4 => ?_)
  refine qs_aload_n dX0_startAnew_16 rfl rfl rfl ?_
  refine qs_bipush (10 : Int32) dX0_startAnew_17 (by decide) rfl ?_
  refine qs_putI fwX0_15 h0 rfl dX0_startAnew_19 rfl (fun D5 => ?_)
  refine qs_aload_n dX0_startAnew_22 rfl rfl rfl ?_
  refine qs_bipush (10 : Int32) dX0_startAnew_23 (by decide) rfl ?_
  refine qs_putI fwX0_18 h0 rfl dX0_startAnew_25 rfl (fun D6 => ?_)
  refine qs_aload_n dX0_startAnew_28 rfl rfl rfl ?_
  refine qs_iconst (0 : Int32) dX0_startAnew_29 (by decide) rfl ?_
  refine qs_putI fwX0_21 h0 rfl dX0_startAnew_30 rfl (fun D7 => ?_)
  exact qs_vret rfl dX0_startAnew_33
def fX1_takeMood (r0 : Nat) (r1 : Nat) (D : qs_D) : Option (Unit × qs_D) := (qs_let (qs_u D r0 0 (D r1 0)) (fun D1 => (qs_let (qs_u D1 r0 1 (D1 r1 1)) (fun D2 => (qs_let (qs_u D2 r0 3 (D2 r1 3)) (fun D3 => (qs_gcp (0 : Int32) (0 : Int32) (6 : Int32) 6 6 (qs_let (qs_w D3 (r0 + 1) (va_cpy (D3 (r1 + 1)) (D3 (r0 + 1)) (0 : Int32).toNatClampNeg (0 : Int32).toNatClampNeg (6 : Int32).toNatClampNeg)) (fun D4 => (qs_let (qs_u D4 r0 5 (0 : Int32)) (fun D5 => (some ((), D5)))))))))))))
set_option maxRecDepth 20000 in
theorem kX1_takeMood {l : Launch} {E : qs_E} {A : Nat → Prop} {r0 : Nat} {r1 : Nat} {D : qs_D} {X : Unit × qs_D} (h0 : qs_isK r0) (h1 : qs_isK r1) (hX : fX1_takeMood r0 r1 D = some X) : qs_Ctr l E A shX yX1_takeMood mX1_takeMood 1 qs_rv [.ref r0, .ref r1] D X := by
  refine qs_enter (plainFor_of_name (by decide)) rfl (Nat.le_of_ble_eq_true rfl) ?_ hX
  show qs_VO l E A shX mX1_takeMood 1 qs_rv 0 [(0, .ref r0), (1, .ref r1)] [] D (fX1_takeMood r0 r1 D)
  unfold fX1_takeMood
  refine qs_aload_n dX1_takeMood_0 rfl rfl rfl ?_
  refine qs_aload_n dX1_takeMood_1 rfl rfl rfl ?_
  refine qs_getI ffX1_9 (qs_k0 h1) rfl dX1_takeMood_2 rfl ?_
  refine qs_putI fwX1_9 (qs_k0 h0) rfl dX1_takeMood_5 rfl (fun D1 => ?_)
  refine qs_aload_n dX1_takeMood_8 rfl rfl rfl ?_
  refine qs_aload_n dX1_takeMood_9 rfl rfl rfl ?_
  refine qs_getI ffX1_15 (qs_k0 h1) rfl dX1_takeMood_10 rfl ?_
  refine qs_putI fwX1_15 (qs_k0 h0) rfl dX1_takeMood_13 rfl (fun D2 => ?_)
  refine qs_aload_n dX1_takeMood_16 rfl rfl rfl ?_
  refine qs_aload_n dX1_takeMood_17 rfl rfl rfl ?_
  refine qs_getI ffX1_21 (qs_k0 h1) rfl dX1_takeMood_18 rfl ?_
  refine qs_putI fwX1_21 (qs_k0 h0) rfl dX1_takeMood_21 rfl (fun D3 => ?_)
  refine qs_aload_n dX1_takeMood_24 rfl rfl rfl ?_
  refine qs_getR ffX1_30 (qs_k0 h1) rfl dX1_takeMood_25 rfl ?_
  refine qs_iconst (0 : Int32) dX1_takeMood_28 (by decide) rfl ?_
  refine qs_aload_n dX1_takeMood_29 rfl rfl rfl ?_
  refine qs_getR ffX1_30 (qs_k0 h0) rfl dX1_takeMood_30 rfl ?_
  refine qs_iconst (0 : Int32) dX1_takeMood_33 (by decide) rfl ?_
  refine qs_bipush (6 : Int32) dX1_takeMood_34 (by decide) rfl ?_
  refine qs_copy wyX1_54 (qs_kL h1) (qs_kL h0) (Nat.le_of_ble_eq_true rfl) (Nat.le_of_ble_eq_true rfl) dX1_takeMood_36 rfl (fun D4 => ?_)
  refine qs_aload_n dX1_takeMood_39 rfl rfl rfl ?_
  refine qs_iconst (0 : Int32) dX1_takeMood_40 (by decide) rfl ?_
  refine qs_putI fwX1_27 (qs_k0 h0) rfl dX1_takeMood_41 rfl (fun D5 => ?_)
  exact qs_vret rfl dX1_takeMood_44
def fX1_takeAll_L46 (r0 r1 : Nat) : Nat → Int32 → qs_D → Option (Unit × qs_D)
  | 0, _, _ => none
  | n + 1, w2, D => (if (D r0 5) ≤ w2 then (some ((), D)) else (qs_g w2 8 (qs_g w2 8 (qs_bind (fX0_take (r0 + 4 + w2.toNatClampNeg) (r1 + 4 + w2.toNatClampNeg) D) (fun x13 D12 => (qs_let (w2 + (1 : Int32)) (fun v15 => (fX1_takeAll_L46 r0 r1 n v15 D12))))))))
set_option maxRecDepth 20000 in
theorem lX1_takeAll_L46 {l : Launch} {E : qs_E} {A : Nat → Prop} {r0 r1 : Nat} (h0 : qs_isK r0) (h1 : qs_isK r1) : ∀ (n : Nat) (w2 : Int32) (D : qs_D), qs_VO l E A shX mX1_takeAll 2 qs_rv 46 [(0, .ref r0), (1, .ref r1), (2, .int w2)] [] D (fX1_takeAll_L46 r0 r1 n w2 D) := by
  intro n
  induction n with
  | zero => intro w2 D; exact qs_none
  | succ n ih =>
    intro w2 D
    unfold fX1_takeAll_L46
    refine qs_iload_n dX1_takeAll_46 rfl rfl rfl ?_
    refine qs_aload_n dX1_takeAll_47 rfl rfl rfl ?_
    refine qs_getI ffX1_27 (qs_k0 h0) rfl dX1_takeAll_48 rfl ?_
    refine qs_icmp_ge (tgt := 75) dX1_takeAll_51 (by decide) rfl (fun g9 => ?_) (fun g9 => ?_)
    · exact qs_vret rfl dX1_takeAll_75
    · refine qs_aload_n dX1_takeAll_54 rfl rfl rfl ?_
      refine qs_getR ffX1_39 (qs_k0 h0) rfl dX1_takeAll_55 rfl ?_
      refine qs_iload_n dX1_takeAll_58 rfl rfl rfl ?_
      refine qs_aald (kd := 2) (C := RX0) (g := fun j => r0 + 4 + j) rfl (by decide) (qs_kA h0) (by decide) dX1_takeAll_59 rfl (fun g10 => ?_)
      refine qs_aload_n dX1_takeAll_60 rfl rfl rfl ?_
      refine qs_getR ffX1_39 (qs_k0 h1) rfl dX1_takeAll_61 rfl ?_
      refine qs_iload_n dX1_takeAll_64 rfl rfl rfl ?_
      refine qs_aald (kd := 2) (C := RX0) (g := fun j => r1 + 4 + j) rfl (by decide) (qs_kA h1) (by decide) dX1_takeAll_65 rfl (fun g11 => ?_)
      refine qs_cV1v cfX1_60 (Nat.le_of_ble_eq_true rfl) (qs_kd h0 g10) rfl (fun Y hY => kX0_take (qs_kd h0 g10) (qs_kd h1 g11) hY) (Nat.le_of_ble_eq_true rfl) dX1_takeAll_66 rfl (fun x13 D12 g14 => ?_)
      refine qs_iinc (fun v15 => [(2, .int v15), (0, .ref r0), (1, .ref r1)]) (1 : Int32) dX1_takeAll_69 rfl (by decide) (by decide) (fun _ => rfl) rfl (fun v15 => ?_)
      refine qs_goto (tgt := 46) dX1_takeAll_72 (by decide) ?_
      exact qs_sub [1, 2, 0] rfl (ih v15 D12)
def fX1_takeAll (r0 : Nat) (r1 : Nat) (D : qs_D) : Option (Unit × qs_D) := (qs_bind (fX1_takeMood r0 r1 D) (fun x2 D1 => (qs_let (qs_u D1 r0 2 (D1 r1 2)) (fun D4 => (qs_let (qs_u D4 r0 4 (D4 r1 4)) (fun D5 => (qs_gcp (0 : Int32) (0 : Int32) (10 : Int32) 10 10 (qs_let (qs_w D5 (r0 + 2) (va_cpy (D5 (r1 + 2)) (D5 (r0 + 2)) (0 : Int32).toNatClampNeg (0 : Int32).toNatClampNeg (10 : Int32).toNatClampNeg)) (fun D6 => (qs_let (qs_u D6 r0 5 (D6 r1 5)) (fun D7 => (qs_let (0 : Int32) (fun v8 => (fX1_takeAll_L46 r0 r1 qs_F v8 D7))))))))))))))
set_option maxRecDepth 20000 in
theorem kX1_takeAll {l : Launch} {E : qs_E} {A : Nat → Prop} {r0 : Nat} {r1 : Nat} {D : qs_D} {X : Unit × qs_D} (h0 : qs_isK r0) (h1 : qs_isK r1) (hX : fX1_takeAll r0 r1 D = some X) : qs_Ctr l E A shX yX1_takeAll mX1_takeAll 2 qs_rv [.ref r0, .ref r1] D X := by
  refine qs_enter (plainFor_of_name (by decide)) rfl (Nat.le_of_ble_eq_true rfl) ?_ hX
  show qs_VO l E A shX mX1_takeAll 2 qs_rv 0 [(0, .ref r0), (1, .ref r1)] [] D (fX1_takeAll r0 r1 D)
  unfold fX1_takeAll
  refine qs_aload_n dX1_takeAll_0 rfl rfl rfl ?_
  refine qs_aload_n dX1_takeAll_1 rfl rfl rfl ?_
  refine qs_cV1v cfX1_50 (Nat.le_of_ble_eq_true rfl) (qs_k0 h0) rfl (fun Y hY => kX1_takeMood h0 h1 hY) (Nat.le_of_ble_eq_true rfl) dX1_takeAll_2 rfl (fun x2 D1 g3 => ?_)
  refine qs_aload_n dX1_takeAll_5 rfl rfl rfl ?_
  refine qs_aload_n dX1_takeAll_6 rfl rfl rfl ?_
  refine qs_getI ffX1_18 (qs_k0 h1) rfl dX1_takeAll_7 rfl ?_
  refine qs_putI fwX1_18 (qs_k0 h0) rfl dX1_takeAll_10 rfl (fun D4 => ?_)
  refine qs_aload_n dX1_takeAll_13 rfl rfl rfl ?_
  refine qs_aload_n dX1_takeAll_14 rfl rfl rfl ?_
  refine qs_getI ffX1_24 (qs_k0 h1) rfl dX1_takeAll_15 rfl ?_
  refine qs_putI fwX1_24 (qs_k0 h0) rfl dX1_takeAll_18 rfl (fun D5 => ?_)
  refine qs_aload_n dX1_takeAll_21 rfl rfl rfl ?_
  refine qs_getR ffX1_34 (qs_k0 h1) rfl dX1_takeAll_22 rfl ?_
  refine qs_iconst (0 : Int32) dX1_takeAll_25 (by decide) rfl ?_
  refine qs_aload_n dX1_takeAll_26 rfl rfl rfl ?_
  refine qs_getR ffX1_34 (qs_k0 h0) rfl dX1_takeAll_27 rfl ?_
  refine qs_iconst (0 : Int32) dX1_takeAll_30 (by decide) rfl ?_
  refine qs_bipush (10 : Int32) dX1_takeAll_31 (by decide) rfl ?_
  refine qs_copy wyX1_54 (qs_kS h1) (qs_kS h0) (Nat.le_of_ble_eq_true rfl) (Nat.le_of_ble_eq_true rfl) dX1_takeAll_33 rfl (fun D6 => ?_)
  refine qs_aload_n dX1_takeAll_36 rfl rfl rfl ?_
  refine qs_aload_n dX1_takeAll_37 rfl rfl rfl ?_
  refine qs_getI ffX1_27 (qs_k0 h1) rfl dX1_takeAll_38 rfl ?_
  refine qs_putI fwX1_27 (qs_k0 h0) rfl dX1_takeAll_41 rfl (fun D7 => ?_)
  refine qs_iconst (0 : Int32) dX1_takeAll_44 (by decide) rfl ?_
  refine qs_istore_n (fun v8 => [(2, .int v8), (0, .ref r0), (1, .ref r1)]) dX1_takeAll_45 rfl (by decide) (fun _ => rfl) rfl (fun v8 => ?_)
  exact qs_sub [1, 2, 0] rfl (lX1_takeAll_L46 h0 h1 qs_F v8 D7)
def fX1_takeOne (r0 : Nat) (r1 : Nat) (p2 : Int32) (D : qs_D) : Option (Unit × qs_D) := (qs_bind (fX1_takeMood r0 r1 D) (fun x2 D1 => (qs_g (0 : Int32) 8 (qs_g p2 8 (qs_bind (fX0_take (r0 + 4 + (0 : Int32).toNatClampNeg) (r1 + 4 + p2.toNatClampNeg) D1) (fun x7 D6 => (qs_let (qs_u D6 r0 5 (1 : Int32)) (fun D9 => (some ((), D9))))))))))
set_option maxRecDepth 20000 in
theorem kX1_takeOne {l : Launch} {E : qs_E} {A : Nat → Prop} {r0 : Nat} {r1 : Nat} {p2 : Int32} {D : qs_D} {X : Unit × qs_D} (h0 : qs_isK r0) (h1 : qs_isK r1) (hX : fX1_takeOne r0 r1 p2 D = some X) : qs_Ctr l E A shX yX1_takeOne mX1_takeOne 2 qs_rv [.ref r0, .ref r1, .int p2] D X := by
  refine qs_enter (plainFor_of_name (by decide)) rfl (Nat.le_of_ble_eq_true rfl) ?_ hX
  show qs_VO l E A shX mX1_takeOne 2 qs_rv 0 [(0, .ref r0), (1, .ref r1), (2, .int p2)] [] D (fX1_takeOne r0 r1 p2 D)
  unfold fX1_takeOne
  refine qs_aload_n dX1_takeOne_0 rfl rfl rfl ?_
  refine qs_aload_n dX1_takeOne_1 rfl rfl rfl ?_
  refine qs_cV1v cfX1_50 (Nat.le_of_ble_eq_true rfl) (qs_k0 h0) rfl (fun Y hY => kX1_takeMood h0 h1 hY) (Nat.le_of_ble_eq_true rfl) dX1_takeOne_2 rfl (fun x2 D1 g3 => ?_)
  refine qs_aload_n dX1_takeOne_5 rfl rfl rfl ?_
  refine qs_getR ffX1_39 (qs_k0 h0) rfl dX1_takeOne_6 rfl ?_
  refine qs_iconst (0 : Int32) dX1_takeOne_9 (by decide) rfl ?_
  refine qs_aald (kd := 2) (C := RX0) (g := fun j => r0 + 4 + j) rfl (by decide) (qs_kA h0) (by decide) dX1_takeOne_10 rfl (fun g4 => ?_)
  refine qs_aload_n dX1_takeOne_11 rfl rfl rfl ?_
  refine qs_getR ffX1_39 (qs_k0 h1) rfl dX1_takeOne_12 rfl ?_
  refine qs_iload_n dX1_takeOne_15 rfl rfl rfl ?_
  refine qs_aald (kd := 2) (C := RX0) (g := fun j => r1 + 4 + j) rfl (by decide) (qs_kA h1) (by decide) dX1_takeOne_16 rfl (fun g5 => ?_)
  refine qs_cV1v cfX1_60 (Nat.le_of_ble_eq_true rfl) (qs_kd h0 g4) rfl (fun Y hY => kX0_take (qs_kd h0 g4) (qs_kd h1 g5) hY) (Nat.le_of_ble_eq_true rfl) dX1_takeOne_17 rfl (fun x7 D6 g8 => ?_)
  refine qs_aload_n dX1_takeOne_20 rfl rfl rfl ?_
  refine qs_iconst (1 : Int32) dX1_takeOne_21 (by decide) rfl ?_
  refine qs_putI fwX1_27 (qs_k0 h0) rfl dX1_takeOne_22 rfl (fun D9 => ?_)
  exact qs_vret rfl dX1_takeOne_25
def fX1_addDish (r0 : Nat) (p1 : Int32) (D : qs_D) : Option (Nat × qs_D) := (qs_g (D r0 5) 8 (qs_bind (fX0_renew (r0 + 4 + (D r0 5).toNatClampNeg) p1 D) (fun x3 D2 => (qs_let (qs_u D2 r0 5 ((D2 r0 5) + (1 : Int32))) (fun D5 => (some ((r0 + 4 + (D r0 5).toNatClampNeg), D5)))))))
set_option maxRecDepth 20000 in
theorem kX1_addDish {l : Launch} {E : qs_E} {A : Nat → Prop} {r0 : Nat} {p1 : Int32} {D : qs_D} {X : Nat × qs_D} (h0 : qs_isK r0) (hX : fX1_addDish r0 p1 D = some X) : qs_Ctr l E A shX yX1_addDish mX1_addDish 1 qs_rr [.ref r0, .int p1] D X := by
  refine qs_enter (plainFor_of_name (by decide)) rfl (Nat.le_of_ble_eq_true rfl) ?_ hX
  show qs_VO l E A shX mX1_addDish 1 qs_rr 0 [(0, .ref r0), (1, .int p1)] [] D (fX1_addDish r0 p1 D)
  unfold fX1_addDish
  refine qs_aload_n dX1_addDish_0 rfl rfl rfl ?_
  refine qs_getR ffX1_39 (qs_k0 h0) rfl dX1_addDish_1 rfl ?_
  refine qs_aload_n dX1_addDish_4 rfl rfl rfl ?_
  refine qs_getI ffX1_27 (qs_k0 h0) rfl dX1_addDish_5 rfl ?_
  refine qs_aald (kd := 2) (C := RX0) (g := fun j => r0 + 4 + j) rfl (by decide) (qs_kA h0) (by decide) dX1_addDish_8 rfl (fun g1 => ?_)
  refine qs_astore_n [(2, .ref (r0 + 4 + (D r0 5).toNatClampNeg)), (0, .ref r0), (1, .int p1)] dX1_addDish_9 rfl (by decide) rfl rfl ?_
  refine qs_aload_n dX1_addDish_10 rfl rfl rfl ?_
  refine qs_iload_n dX1_addDish_11 rfl rfl rfl ?_
  refine qs_cV1v cfX1_64 (Nat.le_of_ble_eq_true rfl) (qs_kd h0 g1) rfl (fun Y hY => kX0_renew (qs_kd h0 g1) hY) (Nat.le_of_ble_eq_true rfl) dX1_addDish_12 rfl (fun x3 D2 g4 => ?_)
  refine qs_aload_n dX1_addDish_15 rfl rfl rfl ?_
  refine qs_dup dX1_addDish_16 rfl rfl ?_
  refine qs_getI ffX1_27 (qs_k0 h0) rfl dX1_addDish_17 rfl ?_
  refine qs_iconst (1 : Int32) dX1_addDish_20 (by decide) rfl ?_
  refine qs_iadd dX1_addDish_21 rfl ?_
  refine qs_putI fwX1_27 (qs_k0 h0) rfl dX1_addDish_22 rfl (fun D5 => ?_)
  refine qs_aload_n dX1_addDish_25 rfl rfl rfl ?_
  exact qs_aret rfl dX1_addDish_26
theorem qX1_addDish {r0 : Nat} {p1 : Int32} {D : qs_D} {x : Nat} {D1 : qs_D} (h0 : qs_isK r0) (hx : fX1_addDish r0 p1 D = some (x, D1)) : qs_isD x := by
  unfold fX1_addDish qs_g at hx
  split at hx
  · rename_i hg
    cases hr : fX0_renew (r0 + 4 + (D r0 5).toNatClampNeg) p1 D with
    | none => rw [hr] at hx; cases hx
    | some Y =>
      rw [hr] at hx
      have h2 : some (r0 + 4 + (D r0 5).toNatClampNeg, qs_u Y.2 r0 5 (Y.2 r0 5 + 1)) = some (x, D1) := hx
      have e : x = r0 + 4 + (D r0 5).toNatClampNeg := (congrArg Prod.fst (Option.some.inj h2)).symm
      rw [e]
      exact qs_kd h0 hg
  · cases hx
def fX1_deedNow (r0 : Nat) (D : qs_D) : Option (Int32 × qs_D) := (qs_g ((D r0 3) - (D r0 3) / (6 : Int32) * (6 : Int32)) 6 (some ((D (r0 + 1) ((D r0 3) - (D r0 3) / (6 : Int32) * (6 : Int32)).toNatClampNeg), D)))
set_option maxRecDepth 20000 in
theorem kX1_deedNow {l : Launch} {E : qs_E} {A : Nat → Prop} {r0 : Nat} {D : qs_D} {X : Int32 × qs_D} (h0 : qs_isK r0) (hX : fX1_deedNow r0 D = some X) : qs_Ctr l E A shX yX1_deedNow mX1_deedNow 0 qs_ri [.ref r0] D X := by
  refine qs_enter (plainFor_of_name (by decide)) rfl (Nat.le_of_ble_eq_true rfl) ?_ hX
  show qs_VO l E A shX mX1_deedNow 0 qs_ri 0 [(0, .ref r0)] [] D (fX1_deedNow r0 D)
  unfold fX1_deedNow
  refine qs_aload_n dX1_deedNow_0 rfl rfl rfl ?_
  refine qs_getR ffX1_30 (qs_k0 h0) rfl dX1_deedNow_1 rfl ?_
  refine qs_aload_n dX1_deedNow_4 rfl rfl rfl ?_
  refine qs_getI ffX1_21 (qs_k0 h0) rfl dX1_deedNow_5 rfl ?_
  refine qs_bipush (6 : Int32) dX1_deedNow_8 (by decide) rfl ?_
  refine qs_irem dX1_deedNow_10 (by decide) rfl ?_
  refine qs_iald (qs_kL h0) (by decide) dX1_deedNow_11 rfl (fun g1 => ?_)
  exact qs_iret rfl dX1_deedNow_12
def fX4_grudgeAfter (p0 : Int32) (p1 : Int32) (D : qs_D) : Option (Int32 × qs_D) := (qs_g p1 12 (qs_bind (fJ9_min_7cf53 (99 : Int32) (p0 + ((qs_tab 0).getD p1.toNatClampNeg 0)) D) (fun x3 D2 => (qs_bind (fJ9_max_7cf53 (0 : Int32) x3 D2) (fun x6 D5 => (some (x6, D5)))))))
set_option maxRecDepth 20000 in
theorem kX4_grudgeAfter {l : Launch} {E : qs_E} {A : Nat → Prop} {p0 : Int32} {p1 : Int32} {D : qs_D} {X : Int32 × qs_D}  (hX : fX4_grudgeAfter p0 p1 D = some X) : qs_Ctr l E A shX yX4_grudgeAfter mX4_grudgeAfter 1 qs_ri [.int p0, .int p1] D X := by
  refine qs_enter (plainFor_of_name (by decide)) rfl (Nat.le_of_ble_eq_true rfl) ?_ hX
  show qs_VO l E A shX mX4_grudgeAfter 1 qs_ri 0 [(0, .int p0), (1, .int p1)] [] D (fX4_grudgeAfter p0 p1 D)
  unfold fX4_grudgeAfter
  refine qs_iconst (0 : Int32) dX4_grudgeAfter_0 (by decide) rfl ?_
  refine qs_bipush (99 : Int32) dX4_grudgeAfter_1 (by decide) rfl ?_
  refine qs_iload_n dX4_grudgeAfter_3 rfl rfl rfl ?_
  refine qs_gets (t := 0) rfl wgX4_243 dX4_grudgeAfter_4 rfl ?_
  refine qs_iload_n dX4_grudgeAfter_7 rfl rfl rfl ?_
  refine qs_ialdT (t := 0) rfl (by decide) dX4_grudgeAfter_8 rfl (fun g1 => ?_)
  refine qs_iadd dX4_grudgeAfter_9 rfl ?_
  refine qs_cS2i cfX4_246 (Nat.le_of_ble_eq_true rfl) (fun Y hY => kJ9_min_7cf53  hY) (Nat.le_of_ble_eq_true rfl) dX4_grudgeAfter_10 rfl (fun x3 D2 g4 => ?_)
  refine qs_cS2i cfX4_251 (Nat.le_of_ble_eq_true rfl) (fun Y hY => kJ9_max_7cf53  hY) (Nat.le_of_ble_eq_true rfl) dX4_grudgeAfter_13 rfl (fun x6 D5 g7 => ?_)
  exact qs_iret rfl dX4_grudgeAfter_16
def fX1_passStep_L19 (r0 : Nat) : Nat → Int32 → Int32 → qs_D → Option (Unit × qs_D)
  | 0, _, _, _ => none
  | n + 1, w1, w2, D => (if (D r0 5) ≤ w2 then (qs_bind (fJ9_min_7cf53 (99999 : Int32) ((D r0 3) + (1 : Int32)) D) (fun x12 D11 => (qs_let (qs_u D11 r0 3 x12) (fun D14 => (some ((), D14)))))) else (qs_g w2 8 (qs_bind (fX0_isCooking (r0 + 4 + w2.toNatClampNeg) D) (fun x17 D16 => (if x17 = 0 then (qs_let (w2 + (1 : Int32)) (fun v20 => (fX1_passStep_L19 r0 n w1 v20 D16))) else (qs_g w2 8 (qs_bind (fX0_cook (r0 + 4 + w2.toNatClampNeg) (D16 r0 0) (D16 r0 1) w1 D16) (fun x23 D22 => (qs_let (w2 + (1 : Int32)) (fun v25 => (fX1_passStep_L19 r0 n w1 v25 D22)))))))))))
set_option maxRecDepth 20000 in
theorem lX1_passStep_L19 {l : Launch} {E : qs_E} {A : Nat → Prop} {r0 : Nat} (h0 : qs_isK r0) : ∀ (n : Nat) (w1 : Int32) (w2 : Int32) (D : qs_D), qs_VO l E A shX mX1_passStep 2 qs_rv 19 [(0, .ref r0), (1, .int w1), (2, .int w2)] [] D (fX1_passStep_L19 r0 n w1 w2 D) := by
  intro n
  induction n with
  | zero => intro w1 w2 D; exact qs_none
  | succ n ih =>
    intro w1 w2 D
    unfold fX1_passStep_L19
    refine qs_iload_n dX1_passStep_19 rfl rfl rfl ?_
    refine qs_aload_n dX1_passStep_20 rfl rfl rfl ?_
    refine qs_getI ffX1_27 (qs_k0 h0) rfl dX1_passStep_21 rfl ?_
    refine qs_icmp_ge (tgt := 63) dX1_passStep_24 (by decide) rfl (fun g10 => ?_) (fun g10 => ?_)
    · refine qs_aload_n dX1_passStep_63 rfl rfl rfl ?_
      refine qs_ldc wcX1_87 dX1_passStep_64 rfl ?_
      refine qs_aload_n dX1_passStep_66 rfl rfl rfl ?_
      refine qs_getI ffX1_21 (qs_k0 h0) rfl dX1_passStep_67 rfl ?_
      refine qs_iconst (1 : Int32) dX1_passStep_70 (by decide) rfl ?_
      refine qs_iadd dX1_passStep_71 rfl ?_
      refine qs_cS2i cfX1_88 (Nat.le_of_ble_eq_true rfl) (fun Y hY => kJ9_min_7cf53  hY) (Nat.le_of_ble_eq_true rfl) dX1_passStep_72 rfl (fun x12 D11 g13 => ?_)
      refine qs_putI fwX1_21 (qs_k0 h0) rfl dX1_passStep_75 rfl (fun D14 => ?_)
      exact qs_vret rfl dX1_passStep_78
    · refine qs_aload_n dX1_passStep_27 rfl rfl rfl ?_
      refine qs_getR ffX1_39 (qs_k0 h0) rfl dX1_passStep_28 rfl ?_
      refine qs_iload_n dX1_passStep_31 rfl rfl rfl ?_
      refine qs_aald (kd := 2) (C := RX0) (g := fun j => r0 + 4 + j) rfl (by decide) (qs_kA h0) (by decide) dX1_passStep_32 rfl (fun g15 => ?_)
      refine qs_cV0i cfX1_79 (Nat.le_of_ble_eq_true rfl) (qs_kd h0 g15) rfl (fun Y hY => kX0_isCooking (qs_kd h0 g15) hY) (Nat.le_of_ble_eq_true rfl) dX1_passStep_33 rfl (fun x17 D16 g18 => ?_)
      refine qs_if_eq (tgt := 57) dX1_passStep_36 (by decide) rfl (fun g19 => ?_) (fun g19 => ?_)
      · refine qs_iinc (fun v20 => [(2, .int v20), (0, .ref r0), (1, .int w1)]) (1 : Int32) dX1_passStep_57 rfl (by decide) (by decide) (fun _ => rfl) rfl (fun v20 => ?_)
        refine qs_goto (tgt := 19) dX1_passStep_60 (by decide) ?_
        exact qs_sub [1, 2, 0] rfl (ih w1 v20 D16)
      · refine qs_aload_n dX1_passStep_39 rfl rfl rfl ?_
        refine qs_getR ffX1_39 (qs_k0 h0) rfl dX1_passStep_40 rfl ?_
        refine qs_iload_n dX1_passStep_43 rfl rfl rfl ?_
        refine qs_aald (kd := 2) (C := RX0) (g := fun j => r0 + 4 + j) rfl (by decide) (qs_kA h0) (by decide) dX1_passStep_44 rfl (fun g21 => ?_)
        refine qs_aload_n dX1_passStep_45 rfl rfl rfl ?_
        refine qs_getI ffX1_9 (qs_k0 h0) rfl dX1_passStep_46 rfl ?_
        refine qs_aload_n dX1_passStep_49 rfl rfl rfl ?_
        refine qs_getI ffX1_15 (qs_k0 h0) rfl dX1_passStep_50 rfl ?_
        refine qs_iload_n dX1_passStep_53 rfl rfl rfl ?_
        refine qs_cV3v cfX1_83 (Nat.le_of_ble_eq_true rfl) (qs_kd h0 g21) rfl (fun Y hY => kX0_cook (qs_kd h0 g21) hY) (Nat.le_of_ble_eq_true rfl) dX1_passStep_54 rfl (fun x23 D22 g24 => ?_)
        refine qs_iinc (fun v25 => [(2, .int v25), (0, .ref r0), (1, .int w1)]) (1 : Int32) dX1_passStep_57 rfl (by decide) (by decide) (fun _ => rfl) rfl (fun v25 => ?_)
        refine qs_goto (tgt := 19) dX1_passStep_60 (by decide) ?_
        exact qs_sub [1, 2, 0] rfl (ih w1 v25 D22)
def fX1_passStep (r0 : Nat) (D : qs_D) : Option (Unit × qs_D) := (qs_bind (fX1_deedNow r0 D) (fun x2 D1 => (qs_let x2 (fun v4 => (qs_bind (fX4_grudgeAfter (D1 r0 0) v4 D1) (fun x6 D5 => (qs_let (qs_u D5 r0 0 x6) (fun D8 => (qs_let (0 : Int32) (fun v9 => (fX1_passStep_L19 r0 qs_F v4 v9 D8)))))))))))
set_option maxRecDepth 20000 in
theorem kX1_passStep {l : Launch} {E : qs_E} {A : Nat → Prop} {r0 : Nat} {D : qs_D} {X : Unit × qs_D} (h0 : qs_isK r0) (hX : fX1_passStep r0 D = some X) : qs_Ctr l E A shX yX1_passStep mX1_passStep 2 qs_rv [.ref r0] D X := by
  refine qs_enter (plainFor_of_name (by decide)) rfl (Nat.le_of_ble_eq_true rfl) ?_ hX
  show qs_VO l E A shX mX1_passStep 2 qs_rv 0 [(0, .ref r0)] [] D (fX1_passStep r0 D)
  unfold fX1_passStep
  refine qs_aload_n dX1_passStep_0 rfl rfl rfl ?_
  refine qs_cV0i cfX1_71 (Nat.le_of_ble_eq_true rfl) (qs_k0 h0) rfl (fun Y hY => kX1_deedNow h0 hY) (Nat.le_of_ble_eq_true rfl) dX1_passStep_1 rfl (fun x2 D1 g3 => ?_)
  refine qs_istore_n (fun v4 => [(1, .int v4), (0, .ref r0)]) dX1_passStep_4 rfl (by decide) (fun _ => rfl) rfl (fun v4 => ?_)
  refine qs_aload_n dX1_passStep_5 rfl rfl rfl ?_
  refine qs_aload_n dX1_passStep_6 rfl rfl rfl ?_
  refine qs_getI ffX1_9 (qs_k0 h0) rfl dX1_passStep_7 rfl ?_
  refine qs_iload_n dX1_passStep_10 rfl rfl rfl ?_
  refine qs_cS2i cfX1_75 (Nat.le_of_ble_eq_true rfl) (fun Y hY => kX4_grudgeAfter  hY) (Nat.le_of_ble_eq_true rfl) dX1_passStep_11 rfl (fun x6 D5 g7 => ?_)
  refine qs_putI fwX1_9 (qs_k0 h0) rfl dX1_passStep_14 rfl (fun D8 => ?_)
  refine qs_iconst (0 : Int32) dX1_passStep_17 (by decide) rfl ?_
  refine qs_istore_n (fun v9 => [(2, .int v9), (1, .int v4), (0, .ref r0)]) dX1_passStep_18 rfl (by decide) (fun _ => rfl) rfl (fun v9 => ?_)
  exact qs_sub [2, 1, 0] rfl (lX1_passStep_L19 h0 qs_F v4 v9 D8)
def fX1_passSteps_L2 (r0 : Nat) : Nat → Int32 → Int32 → qs_D → Option (Unit × qs_D)
  | 0, _, _, _ => none
  | n + 1, w1, w2, D => (if w1 ≤ w2 then (some ((), D)) else (qs_bind (fX1_passStep r0 D) (fun x4 D3 => (qs_let (w2 + (1 : Int32)) (fun v6 => (fX1_passSteps_L2 r0 n w1 v6 D3))))))
set_option maxRecDepth 20000 in
theorem lX1_passSteps_L2 {l : Launch} {E : qs_E} {A : Nat → Prop} {r0 : Nat} (h0 : qs_isK r0) : ∀ (n : Nat) (w1 : Int32) (w2 : Int32) (D : qs_D), qs_VO l E A shX mX1_passSteps 3 qs_rv 2 [(0, .ref r0), (1, .int w1), (2, .int w2)] [] D (fX1_passSteps_L2 r0 n w1 w2 D) := by
  intro n
  induction n with
  | zero => intro w1 w2 D; exact qs_none
  | succ n ih =>
    intro w1 w2 D
    unfold fX1_passSteps_L2
    refine qs_iload_n dX1_passSteps_2 rfl rfl rfl ?_
    refine qs_iload_n dX1_passSteps_3 rfl rfl rfl ?_
    refine qs_icmp_ge (tgt := 17) dX1_passSteps_4 (by decide) rfl (fun g2 => ?_) (fun g2 => ?_)
    · exact qs_vret rfl dX1_passSteps_17
    · refine qs_aload_n dX1_passSteps_7 rfl rfl rfl ?_
      refine qs_cV0v cfX1_68 (Nat.le_of_ble_eq_true rfl) (qs_k0 h0) rfl (fun Y hY => kX1_passStep h0 hY) (Nat.le_of_ble_eq_true rfl) dX1_passSteps_8 rfl (fun x4 D3 g5 => ?_)
      refine qs_iinc (fun v6 => [(2, .int v6), (0, .ref r0), (1, .int w1)]) (1 : Int32) dX1_passSteps_11 rfl (by decide) (by decide) (fun _ => rfl) rfl (fun v6 => ?_)
      refine qs_goto (tgt := 2) dX1_passSteps_14 (by decide) ?_
      exact qs_sub [1, 2, 0] rfl (ih w1 v6 D3)
def fX1_passSteps (r0 : Nat) (p1 : Int32) (D : qs_D) : Option (Unit × qs_D) := (qs_let (0 : Int32) (fun v1 => (fX1_passSteps_L2 r0 qs_F p1 v1 D)))
set_option maxRecDepth 20000 in
theorem kX1_passSteps {l : Launch} {E : qs_E} {A : Nat → Prop} {r0 : Nat} {p1 : Int32} {D : qs_D} {X : Unit × qs_D} (h0 : qs_isK r0) (hX : fX1_passSteps r0 p1 D = some X) : qs_Ctr l E A shX yX1_passSteps mX1_passSteps 3 qs_rv [.ref r0, .int p1] D X := by
  refine qs_enter (plainFor_of_name (by decide)) rfl (Nat.le_of_ble_eq_true rfl) ?_ hX
  show qs_VO l E A shX mX1_passSteps 3 qs_rv 0 [(0, .ref r0), (1, .int p1)] [] D (fX1_passSteps r0 p1 D)
  unfold fX1_passSteps
  refine qs_iconst (0 : Int32) dX1_passSteps_0 (by decide) rfl ?_
  refine qs_istore_n (fun v1 => [(2, .int v1), (0, .ref r0), (1, .int p1)]) dX1_passSteps_1 rfl (by decide) (fun _ => rfl) rfl (fun v1 => ?_)
  exact qs_sub [1, 2, 0] rfl (lX1_passSteps_L2 h0 qs_F p1 v1 D)
def fX1_draw (r0 : Nat) (D : qs_D) : Option (Int32 × qs_D) := (qs_let (qs_u D r0 4 (((D r0 4) * (1103515245 : Int32)) + (12345 : Int32))) (fun D1 => (some ((((D1 r0 4).toUInt32 >>> ((8 : Int32).toUInt32 &&& Int32.toUInt32 31)).toInt32), D1))))
set_option maxRecDepth 20000 in
theorem kX1_draw {l : Launch} {E : qs_E} {A : Nat → Prop} {r0 : Nat} {D : qs_D} {X : Int32 × qs_D} (h0 : qs_isK r0) (hX : fX1_draw r0 D = some X) : qs_Ctr l E A shX yX1_draw mX1_draw 0 qs_ri [.ref r0] D X := by
  refine qs_enter (plainFor_of_name (by decide)) rfl (Nat.le_of_ble_eq_true rfl) ?_ hX
  show qs_VO l E A shX mX1_draw 0 qs_ri 0 [(0, .ref r0)] [] D (fX1_draw r0 D)
  unfold fX1_draw
  refine qs_aload_n dX1_draw_0 rfl rfl rfl ?_
  refine qs_aload_n dX1_draw_1 rfl rfl rfl ?_
  refine qs_getI ffX1_24 (qs_k0 h0) rfl dX1_draw_2 rfl ?_
  refine qs_ldc wcX1_103 dX1_draw_5 rfl ?_
  refine qs_imul dX1_draw_7 rfl ?_
  refine qs_sipush (12345 : Int32) dX1_draw_8 (by decide) rfl ?_
  refine qs_iadd dX1_draw_11 rfl ?_
  refine qs_putI fwX1_24 (qs_k0 h0) rfl dX1_draw_12 rfl (fun D1 => ?_)
  refine qs_aload_n dX1_draw_15 rfl rfl rfl ?_
  refine qs_getI ffX1_24 (qs_k0 h0) rfl dX1_draw_16 rfl ?_
  refine qs_bipush (8 : Int32) dX1_draw_19 (by decide) rfl ?_
  refine qs_iushr dX1_draw_21 rfl ?_
  exact qs_iret rfl dX1_draw_22
def fX1_given (r0 : Nat) (p1 : Int32) (D : qs_D) : Option (Int32 × qs_D) := (qs_g p1 8 (qs_bind (fX0_gives (r0 + 4 + p1.toNatClampNeg) (D r0 0) D) (fun x3 D2 => (some (x3, D2)))))
set_option maxRecDepth 20000 in
theorem kX1_given {l : Launch} {E : qs_E} {A : Nat → Prop} {r0 : Nat} {p1 : Int32} {D : qs_D} {X : Int32 × qs_D} (h0 : qs_isK r0) (hX : fX1_given r0 p1 D = some X) : qs_Ctr l E A shX yX1_given mX1_given 2 qs_ri [.ref r0, .int p1] D X := by
  refine qs_enter (plainFor_of_name (by decide)) rfl (Nat.le_of_ble_eq_true rfl) ?_ hX
  show qs_VO l E A shX mX1_given 2 qs_ri 0 [(0, .ref r0), (1, .int p1)] [] D (fX1_given r0 p1 D)
  unfold fX1_given
  refine qs_aload_n dX1_given_0 rfl rfl rfl ?_
  refine qs_getR ffX1_39 (qs_k0 h0) rfl dX1_given_1 rfl ?_
  refine qs_iload_n dX1_given_4 rfl rfl rfl ?_
  refine qs_aald (kd := 2) (C := RX0) (g := fun j => r0 + 4 + j) rfl (by decide) (qs_kA h0) (by decide) dX1_given_5 rfl (fun g1 => ?_)
  refine qs_aload_n dX1_given_6 rfl rfl rfl ?_
  refine qs_getI ffX1_9 (qs_k0 h0) rfl dX1_given_7 rfl ?_
  refine qs_cV1i cfX1_110 (Nat.le_of_ble_eq_true rfl) (qs_kd h0 g1) rfl (fun Y hY => kX0_gives (qs_kd h0 g1) hY) (Nat.le_of_ble_eq_true rfl) dX1_given_10 rfl (fun x3 D2 g4 => ?_)
  exact qs_iret rfl dX1_given_13
def fX1_serveDish (r0 : Nat) (p1 : Int32) (D : qs_D) : Option (Int32 × qs_D) := (qs_bind (fX1_given r0 p1 D) (fun x2 D1 => (qs_let x2 (fun v4 => (qs_bind (fJ9_min_7cf53 (99999 : Int32) ((D1 r0 2) + v4) D1) (fun x6 D5 => (qs_let (qs_u D5 r0 2 x6) (fun D8 => (qs_g p1 8 (qs_bind (fX0_startAnew (r0 + 4 + p1.toNatClampNeg) D8) (fun x11 D10 => (some (v4, D10)))))))))))))
set_option maxRecDepth 20000 in
theorem kX1_serveDish {l : Launch} {E : qs_E} {A : Nat → Prop} {r0 : Nat} {p1 : Int32} {D : qs_D} {X : Int32 × qs_D} (h0 : qs_isK r0) (hX : fX1_serveDish r0 p1 D = some X) : qs_Ctr l E A shX yX1_serveDish mX1_serveDish 3 qs_ri [.ref r0, .int p1] D X := by
  refine qs_enter (plainFor_of_name (by decide)) rfl (Nat.le_of_ble_eq_true rfl) ?_ hX
  show qs_VO l E A shX mX1_serveDish 3 qs_ri 0 [(0, .ref r0), (1, .int p1)] [] D (fX1_serveDish r0 p1 D)
  unfold fX1_serveDish
  refine qs_aload_n dX1_serveDish_0 rfl rfl rfl ?_
  refine qs_iload_n dX1_serveDish_1 rfl rfl rfl ?_
  refine qs_cV1i cfX1_104 (Nat.le_of_ble_eq_true rfl) (qs_k0 h0) rfl (fun Y hY => kX1_given h0 hY) (Nat.le_of_ble_eq_true rfl) dX1_serveDish_2 rfl (fun x2 D1 g3 => ?_)
  refine qs_istore_n (fun v4 => [(2, .int v4), (0, .ref r0), (1, .int p1)]) dX1_serveDish_5 rfl (by decide) (fun _ => rfl) rfl (fun v4 => ?_)
  refine qs_aload_n dX1_serveDish_6 rfl rfl rfl ?_
  refine qs_ldc wcX1_87 dX1_serveDish_7 rfl ?_
  refine qs_aload_n dX1_serveDish_9 rfl rfl rfl ?_
  refine qs_getI ffX1_18 (qs_k0 h0) rfl dX1_serveDish_10 rfl ?_
  refine qs_iload_n dX1_serveDish_13 rfl rfl rfl ?_
  refine qs_iadd dX1_serveDish_14 rfl ?_
  refine qs_cS2i cfX1_88 (Nat.le_of_ble_eq_true rfl) (fun Y hY => kJ9_min_7cf53  hY) (Nat.le_of_ble_eq_true rfl) dX1_serveDish_15 rfl (fun x6 D5 g7 => ?_)
  refine qs_putI fwX1_18 (qs_k0 h0) rfl dX1_serveDish_18 rfl (fun D8 => ?_)
  refine qs_aload_n dX1_serveDish_21 rfl rfl rfl ?_
  refine qs_getR ffX1_39 (qs_k0 h0) rfl dX1_serveDish_22 rfl ?_
  refine qs_iload_n dX1_serveDish_25 rfl rfl rfl ?_
  refine qs_aald (kd := 2) (C := RX0) (g := fun j => r0 + 4 + j) rfl (by decide) (qs_kA h0) (by decide) dX1_serveDish_26 rfl (fun g9 => ?_)
  refine qs_cV0v cfX1_107 (Nat.le_of_ble_eq_true rfl) (qs_kd h0 g9) rfl (fun Y hY => kX0_startAnew (qs_kd h0 g9) hY) (Nat.le_of_ble_eq_true rfl) dX1_serveDish_27 rfl (fun x11 D10 g12 => ?_)
  refine qs_iload_n dX1_serveDish_30 rfl rfl rfl ?_
  exact qs_iret rfl dX1_serveDish_31
def fX1_serviceStep (r0 : Nat) (D : qs_D) : Option (Unit × qs_D) := (qs_bind (fX1_draw r0 D) (fun x2 D1 => (qs_let x2 (fun v4 => (qs_bind (fX1_draw r0 D1) (fun x6 D5 => (qs_let x6 (fun v8 => (qs_g ((D5 r0 3) - (D5 r0 3) / (6 : Int32) * (6 : Int32)) 6 (qs_let (qs_u D5 (r0 + 1) ((D5 r0 3) - (D5 r0 3) / (6 : Int32) * (6 : Int32)).toNatClampNeg (v4 - v4 / (12 : Int32) * (12 : Int32))) (fun D9 => (qs_bind (fX1_passStep r0 D9) (fun x11 D10 => (qs_let (v8 - v8 / (8 : Int32) * (8 : Int32)) (fun v13 => (if (D10 r0 5) ≤ v13 then (some ((), D10)) else (qs_g v13 8 (if (D10 (r0 + 4 + v13.toNatClampNeg) 4) = 0 then (qs_bind (fX1_serveDish r0 v13 D10) (fun x18 D17 => (some ((), D17)))) else (some ((), D10))))))))))))))))))))
set_option maxRecDepth 20000 in
theorem kX1_serviceStep {l : Launch} {E : qs_E} {A : Nat → Prop} {r0 : Nat} {D : qs_D} {X : Unit × qs_D} (h0 : qs_isK r0) (hX : fX1_serviceStep r0 D = some X) : qs_Ctr l E A shX yX1_serviceStep mX1_serviceStep 4 qs_rv [.ref r0] D X := by
  refine qs_enter (plainFor_of_name (by decide)) rfl (Nat.le_of_ble_eq_true rfl) ?_ hX
  show qs_VO l E A shX mX1_serviceStep 4 qs_rv 0 [(0, .ref r0)] [] D (fX1_serviceStep r0 D)
  unfold fX1_serviceStep
  refine qs_aload_n dX1_serviceStep_0 rfl rfl rfl ?_
  refine qs_cV0i cfX1_93 (Nat.le_of_ble_eq_true rfl) (qs_k0 h0) rfl (fun Y hY => kX1_draw h0 hY) (Nat.le_of_ble_eq_true rfl) dX1_serviceStep_1 rfl (fun x2 D1 g3 => ?_)
  refine qs_istore_n (fun v4 => [(1, .int v4), (0, .ref r0)]) dX1_serviceStep_4 rfl (by decide) (fun _ => rfl) rfl (fun v4 => ?_)
  refine qs_aload_n dX1_serviceStep_5 rfl rfl rfl ?_
  refine qs_cV0i cfX1_93 (Nat.le_of_ble_eq_true rfl) (qs_k0 h0) rfl (fun Y hY => kX1_draw h0 hY) (Nat.le_of_ble_eq_true rfl) dX1_serviceStep_6 rfl (fun x6 D5 g7 => ?_)
  refine qs_istore_n (fun v8 => [(2, .int v8), (1, .int v4), (0, .ref r0)]) dX1_serviceStep_9 rfl (by decide) (fun _ => rfl) rfl (fun v8 => ?_)
  refine qs_aload_n dX1_serviceStep_10 rfl rfl rfl ?_
  refine qs_getR ffX1_30 (qs_k0 h0) rfl dX1_serviceStep_11 rfl ?_
  refine qs_aload_n dX1_serviceStep_14 rfl rfl rfl ?_
  refine qs_getI ffX1_21 (qs_k0 h0) rfl dX1_serviceStep_15 rfl ?_
  refine qs_bipush (6 : Int32) dX1_serviceStep_18 (by decide) rfl ?_
  refine qs_irem dX1_serviceStep_20 (by decide) rfl ?_
  refine qs_iload_n dX1_serviceStep_21 rfl rfl rfl ?_
  refine qs_bipush (12 : Int32) dX1_serviceStep_22 (by decide) rfl ?_
  refine qs_irem dX1_serviceStep_24 (by decide) rfl ?_
  refine qs_iast (qs_kL h0) (by decide) dX1_serviceStep_25 rfl (fun D9 => ?_)
  refine qs_aload_n dX1_serviceStep_26 rfl rfl rfl ?_
  refine qs_cV0v cfX1_68 (Nat.le_of_ble_eq_true rfl) (qs_k0 h0) rfl (fun Y hY => kX1_passStep h0 hY) (Nat.le_of_ble_eq_true rfl) dX1_serviceStep_27 rfl (fun x11 D10 g12 => ?_)
  refine qs_iload_n dX1_serviceStep_30 rfl rfl rfl ?_
  refine qs_bipush (8 : Int32) dX1_serviceStep_31 (by decide) rfl ?_
  refine qs_irem dX1_serviceStep_33 (by decide) rfl ?_
  refine qs_istore_n (fun v13 => [(3, .int v13), (2, .int v8), (1, .int v4), (0, .ref r0)]) dX1_serviceStep_34 rfl (by decide) (fun _ => rfl) rfl (fun v13 => ?_)
  refine qs_iload_n dX1_serviceStep_35 rfl rfl rfl ?_
  refine qs_aload_n dX1_serviceStep_36 rfl rfl rfl ?_
  refine qs_getI ffX1_27 (qs_k0 h0) rfl dX1_serviceStep_37 rfl ?_
  refine qs_icmp_ge (tgt := 61) dX1_serviceStep_40 (by decide) rfl (fun g14 => ?_) (fun g14 => ?_)
  · exact qs_vret rfl dX1_serviceStep_61
  · refine qs_aload_n dX1_serviceStep_43 rfl rfl rfl ?_
    refine qs_getR ffX1_39 (qs_k0 h0) rfl dX1_serviceStep_44 rfl ?_
    refine qs_iload_n dX1_serviceStep_47 rfl rfl rfl ?_
    refine qs_aald (kd := 2) (C := RX0) (g := fun j => r0 + 4 + j) rfl (by decide) (qs_kA h0) (by decide) dX1_serviceStep_48 rfl (fun g15 => ?_)
    refine qs_getI ffX1_96 (qs_kd h0 g15) rfl dX1_serviceStep_49 rfl ?_
    refine qs_if_ne (tgt := 61) dX1_serviceStep_52 (by decide) rfl (fun g16 => ?_) (fun g16 => ?_)
    · refine qs_aload_n dX1_serviceStep_55 rfl rfl rfl ?_
      refine qs_iload_n dX1_serviceStep_56 rfl rfl rfl ?_
      refine qs_cV1i cfX1_99 (Nat.le_of_ble_eq_true rfl) (qs_k0 h0) rfl (fun Y hY => kX1_serveDish h0 hY) (Nat.le_of_ble_eq_true rfl) dX1_serviceStep_57 rfl (fun x18 D17 g19 => ?_)
      refine qs_pop dX1_serviceStep_60 rfl rfl ?_
      exact qs_vret rfl dX1_serviceStep_61
    · exact qs_vret rfl dX1_serviceStep_61
def fX1_told (r0 : Nat) (p1 : Int32) (p2 : Int32) (D : qs_D) : Option (Int32 × qs_D) := (qs_g p1 8 (if p2 = (0 : Int32) then (some ((D (r0 + 4 + p1.toNatClampNeg) 0), D)) else (if p2 = (1 : Int32) then (some ((D (r0 + 4 + p1.toNatClampNeg) 1), D)) else (if p2 = (2 : Int32) then (some ((D (r0 + 4 + p1.toNatClampNeg) 2), D)) else (if p2 = (3 : Int32) then (some ((D (r0 + 4 + p1.toNatClampNeg) 3), D)) else (if p2 = (4 : Int32) then (some ((D (r0 + 4 + p1.toNatClampNeg) 4), D)) else (if p2 = (5 : Int32) then (some ((D (r0 + 4 + p1.toNatClampNeg) 5), D)) else (if p2 = (6 : Int32) then (qs_bind (fX0_needs (r0 + 4 + p1.toNatClampNeg) (D r0 1) D) (fun x10 D9 => (some (x10, D9)))) else (if p2 = (7 : Int32) then (qs_bind (fX1_deedNow r0 D) (fun x14 D13 => (qs_bind (fX0_thickens (r0 + 4 + p1.toNatClampNeg) (D r0 0) (D r0 1) x14 D13) (fun x17 D16 => (some (x17, D16)))))) else (if p2 = (8 : Int32) then (qs_bind (fX1_deedNow r0 D) (fun x21 D20 => (qs_bind (fX0_salts (r0 + 4 + p1.toNatClampNeg) x21 D20) (fun x24 D23 => (some (x24, D23)))))) else (if p2 = (9 : Int32) then (qs_bind (fX0_burns (r0 + 4 + p1.toNatClampNeg) D) (fun x28 D27 => (some (x28, D27)))) else (qs_bind (fX0_gives (r0 + 4 + p1.toNatClampNeg) (D r0 0) D) (fun x31 D30 => (some (x31, D30)))))))))))))))
set_option maxRecDepth 20000 in
theorem kX1_told {l : Launch} {E : qs_E} {A : Nat → Prop} {r0 : Nat} {p1 : Int32} {p2 : Int32} {D : qs_D} {X : Int32 × qs_D} (h0 : qs_isK r0) (hX : fX1_told r0 p1 p2 D = some X) : qs_Ctr l E A shX yX1_told mX1_told 2 qs_ri [.ref r0, .int p1, .int p2] D X := by
  refine qs_enter (plainFor_of_name (by decide)) rfl (Nat.le_of_ble_eq_true rfl) ?_ hX
  show qs_VO l E A shX mX1_told 2 qs_ri 0 [(0, .ref r0), (1, .int p1), (2, .int p2)] [] D (fX1_told r0 p1 p2 D)
  unfold fX1_told
  refine qs_aload_n dX1_told_0 rfl rfl rfl ?_
  refine qs_getR ffX1_39 (qs_k0 h0) rfl dX1_told_1 rfl ?_
  refine qs_iload_n dX1_told_4 rfl rfl rfl ?_
  refine qs_aald (kd := 2) (C := RX0) (g := fun j => r0 + 4 + j) rfl (by decide) (qs_kA h0) (by decide) dX1_told_5 rfl (fun g1 => ?_)
  refine qs_astore_n [(3, .ref (r0 + 4 + p1.toNatClampNeg)), (0, .ref r0), (1, .int p1), (2, .int p2)] dX1_told_6 rfl (by decide) rfl rfl ?_
  refine qs_iload_n dX1_told_7 rfl rfl rfl ?_
  refine qs_ite (fun g2 => ?_) (fun g2 => ?_)
  · refine qs_tsIn (off := 56) (tgt := 64) dX1_told_8 (by rw [g2]; decide) (by rw [g2]; decide) (by rw [g2]; rfl) (by decide) ?_
    refine qs_aload_n dX1_told_64 rfl rfl rfl ?_
    refine qs_getI ffX1_113 (qs_kd h0 g1) rfl dX1_told_65 rfl ?_
    exact qs_iret rfl dX1_told_68
  · refine qs_ite (fun g3 => ?_) (fun g3 => ?_)
    · refine qs_tsIn (off := 61) (tgt := 69) dX1_told_8 (by rw [g3]; decide) (by rw [g3]; decide) (by rw [g3]; rfl) (by decide) ?_
      refine qs_aload_n dX1_told_69 rfl rfl rfl ?_
      refine qs_getI ffX1_116 (qs_kd h0 g1) rfl dX1_told_70 rfl ?_
      exact qs_iret rfl dX1_told_73
    · refine qs_ite (fun g4 => ?_) (fun g4 => ?_)
      · refine qs_tsIn (off := 66) (tgt := 74) dX1_told_8 (by rw [g4]; decide) (by rw [g4]; decide) (by rw [g4]; rfl) (by decide) ?_
        refine qs_aload_n dX1_told_74 rfl rfl rfl ?_
        refine qs_getI ffX1_119 (qs_kd h0 g1) rfl dX1_told_75 rfl ?_
        exact qs_iret rfl dX1_told_78
      · refine qs_ite (fun g5 => ?_) (fun g5 => ?_)
        · refine qs_tsIn (off := 71) (tgt := 79) dX1_told_8 (by rw [g5]; decide) (by rw [g5]; decide) (by rw [g5]; rfl) (by decide) ?_
          refine qs_aload_n dX1_told_79 rfl rfl rfl ?_
          refine qs_getI ffX1_122 (qs_kd h0 g1) rfl dX1_told_80 rfl ?_
          exact qs_iret rfl dX1_told_83
        · refine qs_ite (fun g6 => ?_) (fun g6 => ?_)
          · refine qs_tsIn (off := 76) (tgt := 84) dX1_told_8 (by rw [g6]; decide) (by rw [g6]; decide) (by rw [g6]; rfl) (by decide) ?_
            refine qs_aload_n dX1_told_84 rfl rfl rfl ?_
            refine qs_getI ffX1_96 (qs_kd h0 g1) rfl dX1_told_85 rfl ?_
            exact qs_iret rfl dX1_told_88
          · refine qs_ite (fun g7 => ?_) (fun g7 => ?_)
            · refine qs_tsIn (off := 81) (tgt := 89) dX1_told_8 (by rw [g7]; decide) (by rw [g7]; decide) (by rw [g7]; rfl) (by decide) ?_
              refine qs_aload_n dX1_told_89 rfl rfl rfl ?_
              refine qs_getI ffX1_125 (qs_kd h0 g1) rfl dX1_told_90 rfl ?_
              exact qs_iret rfl dX1_told_93
            · refine qs_ite (fun g8 => ?_) (fun g8 => ?_)
              · refine qs_tsIn (off := 86) (tgt := 94) dX1_told_8 (by rw [g8]; decide) (by rw [g8]; decide) (by rw [g8]; rfl) (by decide) ?_
                refine qs_aload_n dX1_told_94 rfl rfl rfl ?_
                refine qs_aload_n dX1_told_95 rfl rfl rfl ?_
                refine qs_getI ffX1_15 (qs_k0 h0) rfl dX1_told_96 rfl ?_
                refine qs_cV1i cfX1_128 (Nat.le_of_ble_eq_true rfl) (qs_kd h0 g1) rfl (fun Y hY => kX0_needs (qs_kd h0 g1) hY) (Nat.le_of_ble_eq_true rfl) dX1_told_99 rfl (fun x10 D9 g11 => ?_)
                exact qs_iret rfl dX1_told_102
              · refine qs_ite (fun g12 => ?_) (fun g12 => ?_)
                · refine qs_tsIn (off := 95) (tgt := 103) dX1_told_8 (by rw [g12]; decide) (by rw [g12]; decide) (by rw [g12]; rfl) (by decide) ?_
                  refine qs_aload_n dX1_told_103 rfl rfl rfl ?_
                  refine qs_aload_n dX1_told_104 rfl rfl rfl ?_
                  refine qs_getI ffX1_9 (qs_k0 h0) rfl dX1_told_105 rfl ?_
                  refine qs_aload_n dX1_told_108 rfl rfl rfl ?_
                  refine qs_getI ffX1_15 (qs_k0 h0) rfl dX1_told_109 rfl ?_
                  refine qs_aload_n dX1_told_112 rfl rfl rfl ?_
                  refine qs_cV0i cfX1_71 (Nat.le_of_ble_eq_true rfl) (qs_k0 h0) rfl (fun Y hY => kX1_deedNow h0 hY) (Nat.le_of_ble_eq_true rfl) dX1_told_113 rfl (fun x14 D13 g15 => ?_)
                  refine qs_cV3i cfX1_131 (Nat.le_of_ble_eq_true rfl) (qs_kd h0 g1) rfl (fun Y hY => kX0_thickens (qs_kd h0 g1) hY) (Nat.le_of_ble_eq_true rfl) dX1_told_116 rfl (fun x17 D16 g18 => ?_)
                  exact qs_iret rfl dX1_told_119
                · refine qs_ite (fun g19 => ?_) (fun g19 => ?_)
                  · refine qs_tsIn (off := 112) (tgt := 120) dX1_told_8 (by rw [g19]; decide) (by rw [g19]; decide) (by rw [g19]; rfl) (by decide) ?_
                    refine qs_aload_n dX1_told_120 rfl rfl rfl ?_
                    refine qs_aload_n dX1_told_121 rfl rfl rfl ?_
                    refine qs_cV0i cfX1_71 (Nat.le_of_ble_eq_true rfl) (qs_k0 h0) rfl (fun Y hY => kX1_deedNow h0 hY) (Nat.le_of_ble_eq_true rfl) dX1_told_122 rfl (fun x21 D20 g22 => ?_)
                    refine qs_cV1i cfX1_135 (Nat.le_of_ble_eq_true rfl) (qs_kd h0 g1) rfl (fun Y hY => kX0_salts (qs_kd h0 g1) hY) (Nat.le_of_ble_eq_true rfl) dX1_told_125 rfl (fun x24 D23 g25 => ?_)
                    exact qs_iret rfl dX1_told_128
                  · refine qs_ite (fun g26 => ?_) (fun g26 => ?_)
                    · refine qs_tsIn (off := 121) (tgt := 129) dX1_told_8 (by rw [g26]; decide) (by rw [g26]; decide) (by rw [g26]; rfl) (by decide) ?_
                      refine qs_aload_n dX1_told_129 rfl rfl rfl ?_
                      refine qs_cV0i cfX1_138 (Nat.le_of_ble_eq_true rfl) (qs_kd h0 g1) rfl (fun Y hY => kX0_burns (qs_kd h0 g1) hY) (Nat.le_of_ble_eq_true rfl) dX1_told_130 rfl (fun x28 D27 g29 => ?_)
                      exact qs_iret rfl dX1_told_133
                    · refine qs_tsOut (tgt := 134) dX1_told_8 (by have eg2 := lv_neT (a := 0) g2 rfl; have eg3 := lv_neT (a := 1) g3 rfl; have eg4 := lv_neT (a := 2) g4 rfl; have eg5 := lv_neT (a := 3) g5 rfl; have eg6 := lv_neT (a := 4) g6 rfl; have eg7 := lv_neT (a := 5) g7 rfl; have eg8 := lv_neT (a := 6) g8 rfl; have eg12 := lv_neT (a := 7) g12 rfl; have eg19 := lv_neT (a := 8) g19 rfl; have eg26 := lv_neT (a := 9) g26 rfl; omega) (by decide) ?_
                      refine qs_aload_n dX1_told_134 rfl rfl rfl ?_
                      refine qs_aload_n dX1_told_135 rfl rfl rfl ?_
                      refine qs_getI ffX1_9 (qs_k0 h0) rfl dX1_told_136 rfl ?_
                      refine qs_cV1i cfX1_110 (Nat.le_of_ble_eq_true rfl) (qs_kd h0 g1) rfl (fun Y hY => kX0_gives (qs_kd h0 g1) hY) (Nat.le_of_ble_eq_true rfl) dX1_told_139 rfl (fun x31 D30 g32 => ?_)
                      exact qs_iret rfl dX1_told_142
