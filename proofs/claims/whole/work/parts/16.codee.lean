def fX4_isSpot (p0 : Int32) (D : qs_D) : Option (Int32 × qs_D) := (qs_bind (fX4_within p0 (0 : Int32) (9 : Int32) D) (fun x2 D1 => (qs_gb x2 (some (x2, D1)))))
set_option maxRecDepth 20000 in
theorem kX4_isSpot {l : Launch} {E : qs_E} {A : Nat → Prop} {p0 : Int32} {D : qs_D} {X : Int32 × qs_D}  (hX : fX4_isSpot p0 D = some X) : qs_Ctr l E A shX yX4_isSpot mX4_isSpot 1 qs_ri [.int p0] D X := by
  refine qs_enter (plainFor_of_name (by decide)) rfl (Nat.le_of_ble_eq_true rfl) ?_ hX
  show qs_VO l E A shX mX4_isSpot 1 qs_ri 0 [(0, .int p0)] [] D (fX4_isSpot p0 D)
  unfold fX4_isSpot
  refine qs_iload_n dX4_isSpot_0 rfl rfl rfl ?_
  refine qs_iconst (0 : Int32) dX4_isSpot_1 (by decide) rfl ?_
  refine qs_bipush (9 : Int32) dX4_isSpot_2 (by decide) rfl ?_
  refine qs_cS3i cfX4_44 (Nat.le_of_ble_eq_true rfl) (fun Y hY => kX4_within  hY) (Nat.le_of_ble_eq_true rfl) dX4_isSpot_4 rfl (fun x2 D1 g3 => ?_)
  exact qs_zretB rfl dX4_isSpot_7
abbrev mX4_hold : qs_M := (RX4, cX4_hold, 3, (some FieldType.int))
def fX4_hold (p1 : Int32) (p2 : Int32) (D : qs_D) : Option (Int32 × qs_D) := (qs_bind (fX4_isSpot p1 D) (fun x2 D1 => (if x2 = 0 then (qs_bind (fX4_found (0 : Int32) D1) (fun x6 D5 => (some (x6, D5)))) else (if p2 = (-1 : Int32) then (qs_g p1 10 (qs_let (qs_u D1 (1 + 2) p1.toNatClampNeg p2) (fun D9 => (some ((1 : Int32), D9))))) else (qs_bind (fX4_isDish p2 D1) (fun x11 D10 => (if x11 = 0 then (qs_bind (fX4_found (0 : Int32) D10) (fun x16 D15 => (some (x16, D15)))) else (qs_g p1 10 (qs_let (qs_u D10 (1 + 2) p1.toNatClampNeg p2) (fun D14 => (some ((1 : Int32), D14))))))))))))
set_option maxRecDepth 20000 in
theorem kX4_hold {l : Launch} {E : qs_E} {A : Nat → Prop} {p1 : Int32} {p2 : Int32} {D : qs_D} {X : Int32 × qs_D}  (hX : fX4_hold p1 p2 D = some X) : qs_Ctr l E A shX yX4_hold mX4_hold 2 qs_ri [.ref 0, .int p1, .int p2] D X := by
  refine qs_enter (plainFor_of_name (by decide)) rfl (Nat.le_of_ble_eq_true rfl) ?_ hX
  show qs_VO l E A shX mX4_hold 2 qs_ri 0 [(0, .ref 0), (1, .int p1), (2, .int p2)] [] D (fX4_hold p1 p2 D)
  unfold fX4_hold
  refine qs_iload_n dX4_hold_0 rfl rfl rfl ?_
  refine qs_cS1i cfX4_194 (Nat.le_of_ble_eq_true rfl) (fun Y hY => kX4_isSpot  hY) (Nat.le_of_ble_eq_true rfl) dX4_hold_1 rfl (fun x2 D1 g3 => ?_)
  refine qs_if_eq (tgt := 20) dX4_hold_4 (by decide) rfl (fun g4 => ?_) (fun g4 => ?_)
  · refine qs_aload_n dX4_hold_20 rfl rfl rfl ?_
    refine qs_iconst (0 : Int32) dX4_hold_21 (by decide) rfl ?_
    refine qs_cV1i cfX4_55 (Nat.le_of_ble_eq_true rfl) rfl rfl (fun Y hY => kX4_found  hY) (Nat.le_of_ble_eq_true rfl) dX4_hold_22 rfl (fun x6 D5 g7 => ?_)
    exact qs_iret rfl dX4_hold_25
  · refine qs_iload_n dX4_hold_7 rfl rfl rfl ?_
    refine qs_iconst (-1 : Int32) dX4_hold_8 (by decide) rfl ?_
    refine qs_icmp_eq (tgt := 26) dX4_hold_9 (by decide) rfl (fun g8 => ?_) (fun g8 => ?_)
    · refine qs_aload_n dX4_hold_26 rfl rfl rfl ?_
      refine qs_getR ffX4_10 rfl rfl dX4_hold_27 rfl ?_
      refine qs_getR ffX4_197 rfl rfl dX4_hold_30 rfl ?_
      refine qs_iload_n dX4_hold_33 rfl rfl rfl ?_
      refine qs_iload_n dX4_hold_34 rfl rfl rfl ?_
      refine qs_iast (qs_kS qs_k1) (by decide) dX4_hold_35 rfl (fun D9 => ?_)
      refine qs_iconst (1 : Int32) dX4_hold_36 (by decide) rfl ?_
      exact qs_iret rfl dX4_hold_37
    · refine qs_aload_n dX4_hold_12 rfl rfl rfl ?_
      refine qs_iload_n dX4_hold_13 rfl rfl rfl ?_
      refine qs_cV1i cfX4_84 (Nat.le_of_ble_eq_true rfl) rfl rfl (fun Y hY => kX4_isDish  hY) (Nat.le_of_ble_eq_true rfl) dX4_hold_14 rfl (fun x11 D10 g12 => ?_)
      refine qs_if_ne (tgt := 26) dX4_hold_17 (by decide) rfl (fun g13 => ?_) (fun g13 => ?_)
      · refine qs_aload_n dX4_hold_20 rfl rfl rfl ?_
        refine qs_iconst (0 : Int32) dX4_hold_21 (by decide) rfl ?_
        refine qs_cV1i cfX4_55 (Nat.le_of_ble_eq_true rfl) rfl rfl (fun Y hY => kX4_found  hY) (Nat.le_of_ble_eq_true rfl) dX4_hold_22 rfl (fun x16 D15 g17 => ?_)
        exact qs_iret rfl dX4_hold_25
      · refine qs_aload_n dX4_hold_26 rfl rfl rfl ?_
        refine qs_getR ffX4_10 rfl rfl dX4_hold_27 rfl ?_
        refine qs_getR ffX4_197 rfl rfl dX4_hold_30 rfl ?_
        refine qs_iload_n dX4_hold_33 rfl rfl rfl ?_
        refine qs_iload_n dX4_hold_34 rfl rfl rfl ?_
        refine qs_iast (qs_kS qs_k1) (by decide) dX4_hold_35 rfl (fun D14 => ?_)
        refine qs_iconst (1 : Int32) dX4_hold_36 (by decide) rfl ?_
        exact qs_iret rfl dX4_hold_37
def fX4_isUnder_L4 : Nat → Int32 → Int32 → Int32 → Int32 → qs_D → Option (Int32 × qs_D)
  | 0, _, _, _, _, _ => none
  | n + 1, w0, w1, w2, w3, D => (if (7 : Int32) ≤ w3 then (some ((0 : Int32), D)) else (if w2 < 0 then (some ((0 : Int32), D)) else (if w2 = w1 then (some ((1 : Int32), D)) else (qs_g w2 7 (qs_let ((qs_tab 1).getD w2.toNatClampNeg 0) (fun v7 => (qs_let (w3 + (1 : Int32)) (fun v8 => (fX4_isUnder_L4 n w0 w1 v7 v8 D)))))))))
set_option maxRecDepth 20000 in
theorem lX4_isUnder_L4 {l : Launch} {E : qs_E} {A : Nat → Prop}  : ∀ (n : Nat) (w0 : Int32) (w1 : Int32) (w2 : Int32) (w3 : Int32) (D : qs_D), qs_VO l E A shX mX4_isUnder 0 qs_ri 4 [(0, .int w0), (1, .int w1), (2, .int w2), (3, .int w3)] [] D (fX4_isUnder_L4 n w0 w1 w2 w3 D) := by
  intro n
  induction n with
  | zero => intro w0 w1 w2 w3 D; exact qs_none
  | succ n ih =>
    intro w0 w1 w2 w3 D
    unfold fX4_isUnder_L4
    refine qs_iload_n dX4_isUnder_4 rfl rfl rfl ?_
    refine qs_bipush (7 : Int32) dX4_isUnder_5 (by decide) rfl ?_
    refine qs_icmp_ge (tgt := 33) dX4_isUnder_7 (by decide) rfl (fun g3 => ?_) (fun g3 => ?_)
    · refine qs_iconst (0 : Int32) dX4_isUnder_33 (by decide) rfl ?_
      exact qs_zret (Or.inl rfl) rfl dX4_isUnder_34
    · refine qs_iload_n dX4_isUnder_10 rfl rfl rfl ?_
      refine qs_if_lt (tgt := 33) dX4_isUnder_11 (by decide) rfl (fun g4 => ?_) (fun g4 => ?_)
      · refine qs_iconst (0 : Int32) dX4_isUnder_33 (by decide) rfl ?_
        exact qs_zret (Or.inl rfl) rfl dX4_isUnder_34
      · refine qs_iload_n dX4_isUnder_14 rfl rfl rfl ?_
        refine qs_iload_n dX4_isUnder_15 rfl rfl rfl ?_
        refine qs_icmp_ne (tgt := 21) dX4_isUnder_16 (by decide) rfl (fun g5 => ?_) (fun g5 => ?_)
        · refine qs_iconst (1 : Int32) dX4_isUnder_19 (by decide) rfl ?_
          exact qs_zret (Or.inr rfl) rfl dX4_isUnder_20
        · refine qs_gets (t := 1) rfl wgX4_254 dX4_isUnder_21 rfl ?_
          refine qs_iload_n dX4_isUnder_24 rfl rfl rfl ?_
          refine qs_ialdT (t := 1) rfl (by decide) dX4_isUnder_25 rfl (fun g6 => ?_)
          refine qs_istore_n (fun v7 => [(2, .int v7), (0, .int w0), (1, .int w1), (3, .int w3)]) dX4_isUnder_26 rfl (by decide) (fun _ => rfl) rfl (fun v7 => ?_)
          refine qs_iinc (fun v8 => [(3, .int v8), (2, .int v7), (0, .int w0), (1, .int w1)]) (1 : Int32) dX4_isUnder_27 rfl (by decide) (by decide) (fun _ => rfl) rfl (fun v8 => ?_)
          refine qs_goto (tgt := 4) dX4_isUnder_30 (by decide) ?_
          exact qs_sub [2, 3, 1, 0] rfl (ih w0 w1 v7 v8 D)
def fX4_isUnder (p0 : Int32) (p1 : Int32) (D : qs_D) : Option (Int32 × qs_D) := (qs_let p0 (fun v1 => (qs_let (0 : Int32) (fun v2 => (fX4_isUnder_L4 qs_F p0 p1 v1 v2 D)))))
set_option maxRecDepth 20000 in
theorem kX4_isUnder {l : Launch} {E : qs_E} {A : Nat → Prop} {p0 : Int32} {p1 : Int32} {D : qs_D} {X : Int32 × qs_D}  (hX : fX4_isUnder p0 p1 D = some X) : qs_Ctr l E A shX yX4_isUnder mX4_isUnder 0 qs_ri [.int p0, .int p1] D X := by
  refine qs_enter (plainFor_of_name (by decide)) rfl (Nat.le_of_ble_eq_true rfl) ?_ hX
  show qs_VO l E A shX mX4_isUnder 0 qs_ri 0 [(0, .int p0), (1, .int p1)] [] D (fX4_isUnder p0 p1 D)
  unfold fX4_isUnder
  refine qs_iload_n dX4_isUnder_0 rfl rfl rfl ?_
  refine qs_istore_n (fun v1 => [(2, .int v1), (0, .int p0), (1, .int p1)]) dX4_isUnder_1 rfl (by decide) (fun _ => rfl) rfl (fun v1 => ?_)
  refine qs_iconst (0 : Int32) dX4_isUnder_2 (by decide) rfl ?_
  refine qs_istore_n (fun v2 => [(3, .int v2), (2, .int v1), (0, .int p0), (1, .int p1)]) dX4_isUnder_3 rfl (by decide) (fun _ => rfl) rfl (fun v2 => ?_)
  exact qs_sub [2, 3, 1, 0] rfl (lX4_isUnder_L4 qs_F p0 p1 v1 v2 D)
abbrev mX4_as : qs_M := (RX4, cX4_as, 4, (some FieldType.int))
def fX4_as (p1 : Int32) (p2 : Int32) (D : qs_D) : Option (Int32 × qs_D) := (qs_bind (fX4_isSpot p1 D) (fun x2 D1 => (if x2 = 0 then (qs_bind (fX4_found (0 : Int32) D1) (fun x6 D5 => (some (x6, D5)))) else (qs_bind (fX4_isKind p2 D1) (fun x9 D8 => (if x9 = 0 then (qs_bind (fX4_found (0 : Int32) D8) (fun x30 D29 => (some (x30, D29)))) else (qs_g p1 10 (qs_let (D8 (1 + 2) p1.toNatClampNeg) (fun v13 => (qs_bind (fX4_isDish v13 D8) (fun x15 D14 => (if x15 = 0 then (qs_bind (fX4_found (5 : Int32) D14) (fun x27 D26 => (some (x27, D26)))) else (qs_g v13 8 (qs_bind (fX4_isUnder (D14 (1 + 4 + v13.toNatClampNeg) 0) p2 D14) (fun x20 D19 => (if x20 = 0 then (qs_bind (fX4_found (2 : Int32) D19) (fun x24 D23 => (some (x24, D23)))) else (some (v13, D19))))))))))))))))))
set_option maxRecDepth 20000 in
theorem kX4_as {l : Launch} {E : qs_E} {A : Nat → Prop} {p1 : Int32} {p2 : Int32} {D : qs_D} {X : Int32 × qs_D}  (hX : fX4_as p1 p2 D = some X) : qs_Ctr l E A shX yX4_as mX4_as 2 qs_ri [.ref 0, .int p1, .int p2] D X := by
  refine qs_enter (plainFor_of_name (by decide)) rfl (Nat.le_of_ble_eq_true rfl) ?_ hX
  show qs_VO l E A shX mX4_as 2 qs_ri 0 [(0, .ref 0), (1, .int p1), (2, .int p2)] [] D (fX4_as p1 p2 D)
  unfold fX4_as
  refine qs_iload_n dX4_as_0 rfl rfl rfl ?_
  refine qs_cS1i cfX4_194 (Nat.le_of_ble_eq_true rfl) (fun Y hY => kX4_isSpot  hY) (Nat.le_of_ble_eq_true rfl) dX4_as_1 rfl (fun x2 D1 g3 => ?_)
  refine qs_if_eq (tgt := 14) dX4_as_4 (by decide) rfl (fun g4 => ?_) (fun g4 => ?_)
  · refine qs_aload_n dX4_as_14 rfl rfl rfl ?_
    refine qs_iconst (0 : Int32) dX4_as_15 (by decide) rfl ?_
    refine qs_cV1i cfX4_55 (Nat.le_of_ble_eq_true rfl) rfl rfl (fun Y hY => kX4_found  hY) (Nat.le_of_ble_eq_true rfl) dX4_as_16 rfl (fun x6 D5 g7 => ?_)
    exact qs_iret rfl dX4_as_19
  · refine qs_iload_n dX4_as_7 rfl rfl rfl ?_
    refine qs_cS1i cfX4_69 (Nat.le_of_ble_eq_true rfl) (fun Y hY => kX4_isKind  hY) (Nat.le_of_ble_eq_true rfl) dX4_as_8 rfl (fun x9 D8 g10 => ?_)
    refine qs_if_ne (tgt := 20) dX4_as_11 (by decide) rfl (fun g11 => ?_) (fun g11 => ?_)
    · refine qs_aload_n dX4_as_14 rfl rfl rfl ?_
      refine qs_iconst (0 : Int32) dX4_as_15 (by decide) rfl ?_
      refine qs_cV1i cfX4_55 (Nat.le_of_ble_eq_true rfl) rfl rfl (fun Y hY => kX4_found  hY) (Nat.le_of_ble_eq_true rfl) dX4_as_16 rfl (fun x30 D29 g31 => ?_)
      exact qs_iret rfl dX4_as_19
    · refine qs_aload_n dX4_as_20 rfl rfl rfl ?_
      refine qs_getR ffX4_10 rfl rfl dX4_as_21 rfl ?_
      refine qs_getR ffX4_197 rfl rfl dX4_as_24 rfl ?_
      refine qs_iload_n dX4_as_27 rfl rfl rfl ?_
      refine qs_iald (qs_kS qs_k1) (by decide) dX4_as_28 rfl (fun g12 => ?_)
      refine qs_istore_n (fun v13 => [(3, .int v13), (0, .ref 0), (1, .int p1), (2, .int p2)]) dX4_as_29 rfl (by decide) (fun _ => rfl) rfl (fun v13 => ?_)
      refine qs_aload_n dX4_as_30 rfl rfl rfl ?_
      refine qs_iload_n dX4_as_31 rfl rfl rfl ?_
      refine qs_cV1i cfX4_84 (Nat.le_of_ble_eq_true rfl) rfl rfl (fun Y hY => kX4_isDish  hY) (Nat.le_of_ble_eq_true rfl) dX4_as_32 rfl (fun x15 D14 g16 => ?_)
      refine qs_if_ne (tgt := 44) dX4_as_35 (by decide) rfl (fun g17 => ?_) (fun g17 => ?_)
      · refine qs_aload_n dX4_as_38 rfl rfl rfl ?_
        refine qs_iconst (5 : Int32) dX4_as_39 (by decide) rfl ?_
        refine qs_cV1i cfX4_55 (Nat.le_of_ble_eq_true rfl) rfl rfl (fun Y hY => kX4_found  hY) (Nat.le_of_ble_eq_true rfl) dX4_as_40 rfl (fun x27 D26 g28 => ?_)
        exact qs_iret rfl dX4_as_43
      · refine qs_aload_n dX4_as_44 rfl rfl rfl ?_
        refine qs_getR ffX4_10 rfl rfl dX4_as_45 rfl ?_
        refine qs_getR ffX4_94 rfl rfl dX4_as_48 rfl ?_
        refine qs_iload_n dX4_as_51 rfl rfl rfl ?_
        refine qs_aald (kd := 2) (C := RX0) (g := fun j => 1 + 4 + j) rfl (by decide) (qs_kA qs_k1) (by decide) dX4_as_52 rfl (fun g18 => ?_)
        refine qs_getI ffX4_158 (qs_kd qs_k1 g18) rfl dX4_as_53 rfl ?_
        refine qs_iload_n dX4_as_56 rfl rfl rfl ?_
        refine qs_cS2i cfX4_200 (Nat.le_of_ble_eq_true rfl) (fun Y hY => kX4_isUnder  hY) (Nat.le_of_ble_eq_true rfl) dX4_as_57 rfl (fun x20 D19 g21 => ?_)
        refine qs_if_ne (tgt := 69) dX4_as_60 (by decide) rfl (fun g22 => ?_) (fun g22 => ?_)
        · refine qs_aload_n dX4_as_63 rfl rfl rfl ?_
          refine qs_iconst (2 : Int32) dX4_as_64 (by decide) rfl ?_
          refine qs_cV1i cfX4_55 (Nat.le_of_ble_eq_true rfl) rfl rfl (fun Y hY => kX4_found  hY) (Nat.le_of_ble_eq_true rfl) dX4_as_65 rfl (fun x24 D23 g25 => ?_)
          exact qs_iret rfl dX4_as_68
        · refine qs_iload_n dX4_as_69 rfl rfl rfl ?_
          exact qs_iret rfl dX4_as_70
abbrev mX4_sheet : qs_M := (RX4, cX4_sheet, 5, (some FieldType.int))
def fX4_sheet (p1 : Int32) (p2 : Int32) (p3 : Int32) (D : qs_D) : Option (Int32 × qs_D) := (if p2 = 0 then (qs_let (1 : Int32) (fun v2 => (qs_bind (fX4_isSheet p1 D) (fun x4 D3 => (if x4 = 0 then (qs_bind (fX4_found (0 : Int32) D3) (fun x8 D7 => (some (x8, D7)))) else (if v2 = 0 then (qs_bind (fX4_found (0 : Int32) D3) (fun x30 D29 => (some (x30, D29)))) else (if 0 ≤ p3 then (if p3 ≤ (40 : Int32) then (qs_g p1 4 (if p2 = 0 then (qs_bind (fX2_renew (41 + 2 * p1.toNatClampNeg) p2 (0 : Int32) D3) (fun x20 D19 => (qs_g p1 4 (some ((D19 (41 + 2 * p1.toNatClampNeg) 1), D19))))) else (qs_bind (fX2_renew (41 + 2 * p1.toNatClampNeg) p2 p3 D3) (fun x16 D15 => (qs_g p1 4 (some ((D15 (41 + 2 * p1.toNatClampNeg) 1), D15))))))) else (qs_bind (fX4_found (0 : Int32) D3) (fun x24 D23 => (some (x24, D23))))) else (qs_bind (fX4_found (6 : Int32) D3) (fun x27 D26 => (some (x27, D26))))))))))) else (if p2 = (8 : Int32) then (qs_let (1 : Int32) (fun v33 => (qs_bind (fX4_isSheet p1 D) (fun x35 D34 => (if x35 = 0 then (qs_bind (fX4_found (0 : Int32) D34) (fun x39 D38 => (some (x39, D38)))) else (if v33 = 0 then (qs_bind (fX4_found (0 : Int32) D34) (fun x61 D60 => (some (x61, D60)))) else (if 0 ≤ p3 then (if p3 ≤ (40 : Int32) then (qs_g p1 4 (if p2 = 0 then (qs_bind (fX2_renew (41 + 2 * p1.toNatClampNeg) p2 (0 : Int32) D34) (fun x51 D50 => (qs_g p1 4 (some ((D50 (41 + 2 * p1.toNatClampNeg) 1), D50))))) else (qs_bind (fX2_renew (41 + 2 * p1.toNatClampNeg) p2 p3 D34) (fun x47 D46 => (qs_g p1 4 (some ((D46 (41 + 2 * p1.toNatClampNeg) 1), D46))))))) else (qs_bind (fX4_found (0 : Int32) D34) (fun x55 D54 => (some (x55, D54))))) else (qs_bind (fX4_found (6 : Int32) D34) (fun x58 D57 => (some (x58, D57))))))))))) else (if p2 = (16 : Int32) then (qs_let (1 : Int32) (fun v64 => (qs_bind (fX4_isSheet p1 D) (fun x66 D65 => (if x66 = 0 then (qs_bind (fX4_found (0 : Int32) D65) (fun x70 D69 => (some (x70, D69)))) else (if v64 = 0 then (qs_bind (fX4_found (0 : Int32) D65) (fun x92 D91 => (some (x92, D91)))) else (if 0 ≤ p3 then (if p3 ≤ (40 : Int32) then (qs_g p1 4 (if p2 = 0 then (qs_bind (fX2_renew (41 + 2 * p1.toNatClampNeg) p2 (0 : Int32) D65) (fun x82 D81 => (qs_g p1 4 (some ((D81 (41 + 2 * p1.toNatClampNeg) 1), D81))))) else (qs_bind (fX2_renew (41 + 2 * p1.toNatClampNeg) p2 p3 D65) (fun x78 D77 => (qs_g p1 4 (some ((D77 (41 + 2 * p1.toNatClampNeg) 1), D77))))))) else (qs_bind (fX4_found (0 : Int32) D65) (fun x86 D85 => (some (x86, D85))))) else (qs_bind (fX4_found (6 : Int32) D65) (fun x89 D88 => (some (x89, D88))))))))))) else (if p2 = (32 : Int32) then (qs_let (1 : Int32) (fun v125 => (qs_bind (fX4_isSheet p1 D) (fun x127 D126 => (if x127 = 0 then (qs_bind (fX4_found (0 : Int32) D126) (fun x131 D130 => (some (x131, D130)))) else (if v125 = 0 then (qs_bind (fX4_found (0 : Int32) D126) (fun x153 D152 => (some (x153, D152)))) else (if 0 ≤ p3 then (if p3 ≤ (40 : Int32) then (qs_g p1 4 (if p2 = 0 then (qs_bind (fX2_renew (41 + 2 * p1.toNatClampNeg) p2 (0 : Int32) D126) (fun x143 D142 => (qs_g p1 4 (some ((D142 (41 + 2 * p1.toNatClampNeg) 1), D142))))) else (qs_bind (fX2_renew (41 + 2 * p1.toNatClampNeg) p2 p3 D126) (fun x139 D138 => (qs_g p1 4 (some ((D138 (41 + 2 * p1.toNatClampNeg) 1), D138))))))) else (qs_bind (fX4_found (0 : Int32) D126) (fun x147 D146 => (some (x147, D146))))) else (qs_bind (fX4_found (6 : Int32) D126) (fun x150 D149 => (some (x150, D149))))))))))) else (qs_let (0 : Int32) (fun v95 => (qs_bind (fX4_isSheet p1 D) (fun x97 D96 => (if x97 = 0 then (qs_bind (fX4_found (0 : Int32) D96) (fun x101 D100 => (some (x101, D100)))) else (if v95 = 0 then (qs_bind (fX4_found (0 : Int32) D96) (fun x123 D122 => (some (x123, D122)))) else (if 0 ≤ p3 then (if p3 ≤ (40 : Int32) then (qs_g p1 4 (if p2 = 0 then (qs_bind (fX2_renew (41 + 2 * p1.toNatClampNeg) p2 (0 : Int32) D96) (fun x113 D112 => (qs_g p1 4 (some ((D112 (41 + 2 * p1.toNatClampNeg) 1), D112))))) else (qs_bind (fX2_renew (41 + 2 * p1.toNatClampNeg) p2 p3 D96) (fun x109 D108 => (qs_g p1 4 (some ((D108 (41 + 2 * p1.toNatClampNeg) 1), D108))))))) else (qs_bind (fX4_found (0 : Int32) D96) (fun x117 D116 => (some (x117, D116))))) else (qs_bind (fX4_found (6 : Int32) D96) (fun x120 D119 => (some (x120, D119)))))))))))))))
set_option maxRecDepth 20000 in
theorem kX4_sheet {l : Launch} {E : qs_E} {A : Nat → Prop} {p1 : Int32} {p2 : Int32} {p3 : Int32} {D : qs_D} {X : Int32 × qs_D}  (hX : fX4_sheet p1 p2 p3 D = some X) : qs_Ctr l E A shX yX4_sheet mX4_sheet 2 qs_ri [.ref 0, .int p1, .int p2, .int p3] D X := by
  refine qs_enter (plainFor_of_name (by decide)) rfl (Nat.le_of_ble_eq_true rfl) ?_ hX
  show qs_VO l E A shX mX4_sheet 2 qs_ri 0 [(0, .ref 0), (1, .int p1), (2, .int p2), (3, .int p3)] [] D (fX4_sheet p1 p2 p3 D)
  unfold fX4_sheet
  refine qs_iload_n dX4_sheet_0 rfl rfl rfl ?_
  refine qs_if_eq (tgt := 22) dX4_sheet_1 (by decide) rfl (fun g1 => ?_) (fun g1 => ?_)
  · refine qs_iconst (1 : Int32) dX4_sheet_22 (by decide) rfl ?_
    refine qs_goto (tgt := 27) dX4_sheet_23 (by decide) ?_
    refine qs_istore (fun v2 => [(4, .int v2), (0, .ref 0), (1, .int p1), (2, .int p2), (3, .int p3)]) dX4_sheet_27 (by decide) (fun _ => rfl) rfl (fun v2 => ?_)
    refine qs_iload_n dX4_sheet_29 rfl rfl rfl ?_
    refine qs_cS1i cfX4_204 (Nat.le_of_ble_eq_true rfl) (fun Y hY => kX4_isSheet  hY) (Nat.le_of_ble_eq_true rfl) dX4_sheet_30 rfl (fun x4 D3 g5 => ?_)
    refine qs_if_eq (tgt := 41) dX4_sheet_33 (by decide) rfl (fun g6 => ?_) (fun g6 => ?_)
    · refine qs_aload_n dX4_sheet_41 rfl rfl rfl ?_
      refine qs_iconst (0 : Int32) dX4_sheet_42 (by decide) rfl ?_
      refine qs_cV1i cfX4_55 (Nat.le_of_ble_eq_true rfl) rfl rfl (fun Y hY => kX4_found  hY) (Nat.le_of_ble_eq_true rfl) dX4_sheet_43 rfl (fun x8 D7 g9 => ?_)
      exact qs_iret rfl dX4_sheet_46
    · refine qs_iload dX4_sheet_36 rfl rfl ?_
      refine qs_if_ne (tgt := 47) dX4_sheet_38 (by decide) rfl (fun g10 => ?_) (fun g10 => ?_)
      · refine qs_aload_n dX4_sheet_41 rfl rfl rfl ?_
        refine qs_iconst (0 : Int32) dX4_sheet_42 (by decide) rfl ?_
        refine qs_cV1i cfX4_55 (Nat.le_of_ble_eq_true rfl) rfl rfl (fun Y hY => kX4_found  hY) (Nat.le_of_ble_eq_true rfl) dX4_sheet_43 rfl (fun x30 D29 g31 => ?_)
        exact qs_iret rfl dX4_sheet_46
      · refine qs_iload_n dX4_sheet_47 rfl rfl rfl ?_
        refine qs_if_ge (tgt := 58) dX4_sheet_48 (by decide) rfl (fun g11 => ?_) (fun g11 => ?_)
        · refine qs_iload_n dX4_sheet_58 rfl rfl rfl ?_
          refine qs_bipush (40 : Int32) dX4_sheet_59 (by decide) rfl ?_
          refine qs_icmp_le (tgt := 70) dX4_sheet_61 (by decide) rfl (fun g12 => ?_) (fun g12 => ?_)
          · refine qs_aload_n dX4_sheet_70 rfl rfl rfl ?_
            refine qs_getR ffX4_31 rfl rfl dX4_sheet_71 rfl ?_
            refine qs_iload_n dX4_sheet_74 rfl rfl rfl ?_
            refine qs_aald (kd := 3) (C := RX2) (g := fun j => 41 + 2 * j) rfl (by decide) rfl (by decide) dX4_sheet_75 rfl (fun g13 => ?_)
            refine qs_iload_n dX4_sheet_76 rfl rfl rfl ?_
            refine qs_iload_n dX4_sheet_77 rfl rfl rfl ?_
            refine qs_if_ne (tgt := 85) dX4_sheet_78 (by decide) rfl (fun g14 => ?_) (fun g14 => ?_)
            · refine qs_iconst (0 : Int32) dX4_sheet_81 (by decide) rfl ?_
              refine qs_goto (tgt := 86) dX4_sheet_82 (by decide) ?_
              refine qs_cV2v cfX4_207 (Nat.le_of_ble_eq_true rfl) ((qs_ss g13)).1 rfl (fun Y hY => kX2_renew (qs_ss g13) hY) (Nat.le_of_ble_eq_true rfl) dX4_sheet_86 rfl (fun x20 D19 g21 => ?_)
              refine qs_aload_n dX4_sheet_89 rfl rfl rfl ?_
              refine qs_getR ffX4_31 rfl rfl dX4_sheet_90 rfl ?_
              refine qs_iload_n dX4_sheet_93 rfl rfl rfl ?_
              refine qs_aald (kd := 3) (C := RX2) (g := fun j => 41 + 2 * j) rfl (by decide) rfl (by decide) dX4_sheet_94 rfl (fun g22 => ?_)
              refine qs_getI ffX4_210 ((qs_ss g22)).1 rfl dX4_sheet_95 rfl ?_
              exact qs_iret rfl dX4_sheet_98
            · refine qs_iload_n dX4_sheet_85 rfl rfl rfl ?_
              refine qs_cV2v cfX4_207 (Nat.le_of_ble_eq_true rfl) ((qs_ss g13)).1 rfl (fun Y hY => kX2_renew (qs_ss g13) hY) (Nat.le_of_ble_eq_true rfl) dX4_sheet_86 rfl (fun x16 D15 g17 => ?_)
              refine qs_aload_n dX4_sheet_89 rfl rfl rfl ?_
              refine qs_getR ffX4_31 rfl rfl dX4_sheet_90 rfl ?_
              refine qs_iload_n dX4_sheet_93 rfl rfl rfl ?_
              refine qs_aald (kd := 3) (C := RX2) (g := fun j => 41 + 2 * j) rfl (by decide) rfl (by decide) dX4_sheet_94 rfl (fun g18 => ?_)
              refine qs_getI ffX4_210 ((qs_ss g18)).1 rfl dX4_sheet_95 rfl ?_
              exact qs_iret rfl dX4_sheet_98
          · refine qs_aload_n dX4_sheet_64 rfl rfl rfl ?_
            refine qs_iconst (0 : Int32) dX4_sheet_65 (by decide) rfl ?_
            refine qs_cV1i cfX4_55 (Nat.le_of_ble_eq_true rfl) rfl rfl (fun Y hY => kX4_found  hY) (Nat.le_of_ble_eq_true rfl) dX4_sheet_66 rfl (fun x24 D23 g25 => ?_)
            exact qs_iret rfl dX4_sheet_69
        · refine qs_aload_n dX4_sheet_51 rfl rfl rfl ?_
          refine qs_bipush (6 : Int32) dX4_sheet_52 (by decide) rfl ?_
          refine qs_cV1i cfX4_55 (Nat.le_of_ble_eq_true rfl) rfl rfl (fun Y hY => kX4_found  hY) (Nat.le_of_ble_eq_true rfl) dX4_sheet_54 rfl (fun x27 D26 g28 => ?_)
          exact qs_iret rfl dX4_sheet_57
  · refine qs_iload_n dX4_sheet_4 rfl rfl rfl ?_
    refine qs_bipush (8 : Int32) dX4_sheet_5 (by decide) rfl ?_
    refine qs_icmp_eq (tgt := 22) dX4_sheet_7 (by decide) rfl (fun g32 => ?_) (fun g32 => ?_)
    · refine qs_iconst (1 : Int32) dX4_sheet_22 (by decide) rfl ?_
      refine qs_goto (tgt := 27) dX4_sheet_23 (by decide) ?_
      refine qs_istore (fun v33 => [(4, .int v33), (0, .ref 0), (1, .int p1), (2, .int p2), (3, .int p3)]) dX4_sheet_27 (by decide) (fun _ => rfl) rfl (fun v33 => ?_)
      refine qs_iload_n dX4_sheet_29 rfl rfl rfl ?_
      refine qs_cS1i cfX4_204 (Nat.le_of_ble_eq_true rfl) (fun Y hY => kX4_isSheet  hY) (Nat.le_of_ble_eq_true rfl) dX4_sheet_30 rfl (fun x35 D34 g36 => ?_)
      refine qs_if_eq (tgt := 41) dX4_sheet_33 (by decide) rfl (fun g37 => ?_) (fun g37 => ?_)
      · refine qs_aload_n dX4_sheet_41 rfl rfl rfl ?_
        refine qs_iconst (0 : Int32) dX4_sheet_42 (by decide) rfl ?_
        refine qs_cV1i cfX4_55 (Nat.le_of_ble_eq_true rfl) rfl rfl (fun Y hY => kX4_found  hY) (Nat.le_of_ble_eq_true rfl) dX4_sheet_43 rfl (fun x39 D38 g40 => ?_)
        exact qs_iret rfl dX4_sheet_46
      · refine qs_iload dX4_sheet_36 rfl rfl ?_
        refine qs_if_ne (tgt := 47) dX4_sheet_38 (by decide) rfl (fun g41 => ?_) (fun g41 => ?_)
        · refine qs_aload_n dX4_sheet_41 rfl rfl rfl ?_
          refine qs_iconst (0 : Int32) dX4_sheet_42 (by decide) rfl ?_
          refine qs_cV1i cfX4_55 (Nat.le_of_ble_eq_true rfl) rfl rfl (fun Y hY => kX4_found  hY) (Nat.le_of_ble_eq_true rfl) dX4_sheet_43 rfl (fun x61 D60 g62 => ?_)
          exact qs_iret rfl dX4_sheet_46
        · refine qs_iload_n dX4_sheet_47 rfl rfl rfl ?_
          refine qs_if_ge (tgt := 58) dX4_sheet_48 (by decide) rfl (fun g42 => ?_) (fun g42 => ?_)
          · refine qs_iload_n dX4_sheet_58 rfl rfl rfl ?_
            refine qs_bipush (40 : Int32) dX4_sheet_59 (by decide) rfl ?_
            refine qs_icmp_le (tgt := 70) dX4_sheet_61 (by decide) rfl (fun g43 => ?_) (fun g43 => ?_)
            · refine qs_aload_n dX4_sheet_70 rfl rfl rfl ?_
              refine qs_getR ffX4_31 rfl rfl dX4_sheet_71 rfl ?_
              refine qs_iload_n dX4_sheet_74 rfl rfl rfl ?_
              refine qs_aald (kd := 3) (C := RX2) (g := fun j => 41 + 2 * j) rfl (by decide) rfl (by decide) dX4_sheet_75 rfl (fun g44 => ?_)
              refine qs_iload_n dX4_sheet_76 rfl rfl rfl ?_
              refine qs_iload_n dX4_sheet_77 rfl rfl rfl ?_
              refine qs_if_ne (tgt := 85) dX4_sheet_78 (by decide) rfl (fun g45 => ?_) (fun g45 => ?_)
              · refine qs_iconst (0 : Int32) dX4_sheet_81 (by decide) rfl ?_
                refine qs_goto (tgt := 86) dX4_sheet_82 (by decide) ?_
                refine qs_cV2v cfX4_207 (Nat.le_of_ble_eq_true rfl) ((qs_ss g44)).1 rfl (fun Y hY => kX2_renew (qs_ss g44) hY) (Nat.le_of_ble_eq_true rfl) dX4_sheet_86 rfl (fun x51 D50 g52 => ?_)
                refine qs_aload_n dX4_sheet_89 rfl rfl rfl ?_
                refine qs_getR ffX4_31 rfl rfl dX4_sheet_90 rfl ?_
                refine qs_iload_n dX4_sheet_93 rfl rfl rfl ?_
                refine qs_aald (kd := 3) (C := RX2) (g := fun j => 41 + 2 * j) rfl (by decide) rfl (by decide) dX4_sheet_94 rfl (fun g53 => ?_)
                refine qs_getI ffX4_210 ((qs_ss g53)).1 rfl dX4_sheet_95 rfl ?_
                exact qs_iret rfl dX4_sheet_98
              · refine qs_iload_n dX4_sheet_85 rfl rfl rfl ?_
                refine qs_cV2v cfX4_207 (Nat.le_of_ble_eq_true rfl) ((qs_ss g44)).1 rfl (fun Y hY => kX2_renew (qs_ss g44) hY) (Nat.le_of_ble_eq_true rfl) dX4_sheet_86 rfl (fun x47 D46 g48 => ?_)
                refine qs_aload_n dX4_sheet_89 rfl rfl rfl ?_
                refine qs_getR ffX4_31 rfl rfl dX4_sheet_90 rfl ?_
                refine qs_iload_n dX4_sheet_93 rfl rfl rfl ?_
                refine qs_aald (kd := 3) (C := RX2) (g := fun j => 41 + 2 * j) rfl (by decide) rfl (by decide) dX4_sheet_94 rfl (fun g49 => ?_)
                refine qs_getI ffX4_210 ((qs_ss g49)).1 rfl dX4_sheet_95 rfl ?_
                exact qs_iret rfl dX4_sheet_98
            · refine qs_aload_n dX4_sheet_64 rfl rfl rfl ?_
              refine qs_iconst (0 : Int32) dX4_sheet_65 (by decide) rfl ?_
              refine qs_cV1i cfX4_55 (Nat.le_of_ble_eq_true rfl) rfl rfl (fun Y hY => kX4_found  hY) (Nat.le_of_ble_eq_true rfl) dX4_sheet_66 rfl (fun x55 D54 g56 => ?_)
              exact qs_iret rfl dX4_sheet_69
          · refine qs_aload_n dX4_sheet_51 rfl rfl rfl ?_
            refine qs_bipush (6 : Int32) dX4_sheet_52 (by decide) rfl ?_
            refine qs_cV1i cfX4_55 (Nat.le_of_ble_eq_true rfl) rfl rfl (fun Y hY => kX4_found  hY) (Nat.le_of_ble_eq_true rfl) dX4_sheet_54 rfl (fun x58 D57 g59 => ?_)
            exact qs_iret rfl dX4_sheet_57
    · refine qs_iload_n dX4_sheet_10 rfl rfl rfl ?_
      refine qs_bipush (16 : Int32) dX4_sheet_11 (by decide) rfl ?_
      refine qs_icmp_eq (tgt := 22) dX4_sheet_13 (by decide) rfl (fun g63 => ?_) (fun g63 => ?_)
      · refine qs_iconst (1 : Int32) dX4_sheet_22 (by decide) rfl ?_
        refine qs_goto (tgt := 27) dX4_sheet_23 (by decide) ?_
        refine qs_istore (fun v64 => [(4, .int v64), (0, .ref 0), (1, .int p1), (2, .int p2), (3, .int p3)]) dX4_sheet_27 (by decide) (fun _ => rfl) rfl (fun v64 => ?_)
        refine qs_iload_n dX4_sheet_29 rfl rfl rfl ?_
        refine qs_cS1i cfX4_204 (Nat.le_of_ble_eq_true rfl) (fun Y hY => kX4_isSheet  hY) (Nat.le_of_ble_eq_true rfl) dX4_sheet_30 rfl (fun x66 D65 g67 => ?_)
        refine qs_if_eq (tgt := 41) dX4_sheet_33 (by decide) rfl (fun g68 => ?_) (fun g68 => ?_)
        · refine qs_aload_n dX4_sheet_41 rfl rfl rfl ?_
          refine qs_iconst (0 : Int32) dX4_sheet_42 (by decide) rfl ?_
          refine qs_cV1i cfX4_55 (Nat.le_of_ble_eq_true rfl) rfl rfl (fun Y hY => kX4_found  hY) (Nat.le_of_ble_eq_true rfl) dX4_sheet_43 rfl (fun x70 D69 g71 => ?_)
          exact qs_iret rfl dX4_sheet_46
        · refine qs_iload dX4_sheet_36 rfl rfl ?_
          refine qs_if_ne (tgt := 47) dX4_sheet_38 (by decide) rfl (fun g72 => ?_) (fun g72 => ?_)
          · refine qs_aload_n dX4_sheet_41 rfl rfl rfl ?_
            refine qs_iconst (0 : Int32) dX4_sheet_42 (by decide) rfl ?_
            refine qs_cV1i cfX4_55 (Nat.le_of_ble_eq_true rfl) rfl rfl (fun Y hY => kX4_found  hY) (Nat.le_of_ble_eq_true rfl) dX4_sheet_43 rfl (fun x92 D91 g93 => ?_)
            exact qs_iret rfl dX4_sheet_46
          · refine qs_iload_n dX4_sheet_47 rfl rfl rfl ?_
            refine qs_if_ge (tgt := 58) dX4_sheet_48 (by decide) rfl (fun g73 => ?_) (fun g73 => ?_)
            · refine qs_iload_n dX4_sheet_58 rfl rfl rfl ?_
              refine qs_bipush (40 : Int32) dX4_sheet_59 (by decide) rfl ?_
              refine qs_icmp_le (tgt := 70) dX4_sheet_61 (by decide) rfl (fun g74 => ?_) (fun g74 => ?_)
              · refine qs_aload_n dX4_sheet_70 rfl rfl rfl ?_
                refine qs_getR ffX4_31 rfl rfl dX4_sheet_71 rfl ?_
                refine qs_iload_n dX4_sheet_74 rfl rfl rfl ?_
                refine qs_aald (kd := 3) (C := RX2) (g := fun j => 41 + 2 * j) rfl (by decide) rfl (by decide) dX4_sheet_75 rfl (fun g75 => ?_)
                refine qs_iload_n dX4_sheet_76 rfl rfl rfl ?_
                refine qs_iload_n dX4_sheet_77 rfl rfl rfl ?_
                refine qs_if_ne (tgt := 85) dX4_sheet_78 (by decide) rfl (fun g76 => ?_) (fun g76 => ?_)
                · refine qs_iconst (0 : Int32) dX4_sheet_81 (by decide) rfl ?_
                  refine qs_goto (tgt := 86) dX4_sheet_82 (by decide) ?_
                  refine qs_cV2v cfX4_207 (Nat.le_of_ble_eq_true rfl) ((qs_ss g75)).1 rfl (fun Y hY => kX2_renew (qs_ss g75) hY) (Nat.le_of_ble_eq_true rfl) dX4_sheet_86 rfl (fun x82 D81 g83 => ?_)
                  refine qs_aload_n dX4_sheet_89 rfl rfl rfl ?_
                  refine qs_getR ffX4_31 rfl rfl dX4_sheet_90 rfl ?_
                  refine qs_iload_n dX4_sheet_93 rfl rfl rfl ?_
                  refine qs_aald (kd := 3) (C := RX2) (g := fun j => 41 + 2 * j) rfl (by decide) rfl (by decide) dX4_sheet_94 rfl (fun g84 => ?_)
                  refine qs_getI ffX4_210 ((qs_ss g84)).1 rfl dX4_sheet_95 rfl ?_
                  exact qs_iret rfl dX4_sheet_98
                · refine qs_iload_n dX4_sheet_85 rfl rfl rfl ?_
                  refine qs_cV2v cfX4_207 (Nat.le_of_ble_eq_true rfl) ((qs_ss g75)).1 rfl (fun Y hY => kX2_renew (qs_ss g75) hY) (Nat.le_of_ble_eq_true rfl) dX4_sheet_86 rfl (fun x78 D77 g79 => ?_)
                  refine qs_aload_n dX4_sheet_89 rfl rfl rfl ?_
                  refine qs_getR ffX4_31 rfl rfl dX4_sheet_90 rfl ?_
                  refine qs_iload_n dX4_sheet_93 rfl rfl rfl ?_
                  refine qs_aald (kd := 3) (C := RX2) (g := fun j => 41 + 2 * j) rfl (by decide) rfl (by decide) dX4_sheet_94 rfl (fun g80 => ?_)
                  refine qs_getI ffX4_210 ((qs_ss g80)).1 rfl dX4_sheet_95 rfl ?_
                  exact qs_iret rfl dX4_sheet_98
              · refine qs_aload_n dX4_sheet_64 rfl rfl rfl ?_
                refine qs_iconst (0 : Int32) dX4_sheet_65 (by decide) rfl ?_
                refine qs_cV1i cfX4_55 (Nat.le_of_ble_eq_true rfl) rfl rfl (fun Y hY => kX4_found  hY) (Nat.le_of_ble_eq_true rfl) dX4_sheet_66 rfl (fun x86 D85 g87 => ?_)
                exact qs_iret rfl dX4_sheet_69
            · refine qs_aload_n dX4_sheet_51 rfl rfl rfl ?_
              refine qs_bipush (6 : Int32) dX4_sheet_52 (by decide) rfl ?_
              refine qs_cV1i cfX4_55 (Nat.le_of_ble_eq_true rfl) rfl rfl (fun Y hY => kX4_found  hY) (Nat.le_of_ble_eq_true rfl) dX4_sheet_54 rfl (fun x89 D88 g90 => ?_)
              exact qs_iret rfl dX4_sheet_57
      · refine qs_iload_n dX4_sheet_16 rfl rfl rfl ?_
        refine qs_bipush (32 : Int32) dX4_sheet_17 (by decide) rfl ?_
        refine qs_icmp_ne (tgt := 26) dX4_sheet_19 (by decide) rfl (fun g94 => ?_) (fun g94 => ?_)
        · refine qs_iconst (1 : Int32) dX4_sheet_22 (by decide) rfl ?_
          refine qs_goto (tgt := 27) dX4_sheet_23 (by decide) ?_
          refine qs_istore (fun v125 => [(4, .int v125), (0, .ref 0), (1, .int p1), (2, .int p2), (3, .int p3)]) dX4_sheet_27 (by decide) (fun _ => rfl) rfl (fun v125 => ?_)
          refine qs_iload_n dX4_sheet_29 rfl rfl rfl ?_
          refine qs_cS1i cfX4_204 (Nat.le_of_ble_eq_true rfl) (fun Y hY => kX4_isSheet  hY) (Nat.le_of_ble_eq_true rfl) dX4_sheet_30 rfl (fun x127 D126 g128 => ?_)
          refine qs_if_eq (tgt := 41) dX4_sheet_33 (by decide) rfl (fun g129 => ?_) (fun g129 => ?_)
          · refine qs_aload_n dX4_sheet_41 rfl rfl rfl ?_
            refine qs_iconst (0 : Int32) dX4_sheet_42 (by decide) rfl ?_
            refine qs_cV1i cfX4_55 (Nat.le_of_ble_eq_true rfl) rfl rfl (fun Y hY => kX4_found  hY) (Nat.le_of_ble_eq_true rfl) dX4_sheet_43 rfl (fun x131 D130 g132 => ?_)
            exact qs_iret rfl dX4_sheet_46
          · refine qs_iload dX4_sheet_36 rfl rfl ?_
            refine qs_if_ne (tgt := 47) dX4_sheet_38 (by decide) rfl (fun g133 => ?_) (fun g133 => ?_)
            · refine qs_aload_n dX4_sheet_41 rfl rfl rfl ?_
              refine qs_iconst (0 : Int32) dX4_sheet_42 (by decide) rfl ?_
              refine qs_cV1i cfX4_55 (Nat.le_of_ble_eq_true rfl) rfl rfl (fun Y hY => kX4_found  hY) (Nat.le_of_ble_eq_true rfl) dX4_sheet_43 rfl (fun x153 D152 g154 => ?_)
              exact qs_iret rfl dX4_sheet_46
            · refine qs_iload_n dX4_sheet_47 rfl rfl rfl ?_
              refine qs_if_ge (tgt := 58) dX4_sheet_48 (by decide) rfl (fun g134 => ?_) (fun g134 => ?_)
              · refine qs_iload_n dX4_sheet_58 rfl rfl rfl ?_
                refine qs_bipush (40 : Int32) dX4_sheet_59 (by decide) rfl ?_
                refine qs_icmp_le (tgt := 70) dX4_sheet_61 (by decide) rfl (fun g135 => ?_) (fun g135 => ?_)
                · refine qs_aload_n dX4_sheet_70 rfl rfl rfl ?_
                  refine qs_getR ffX4_31 rfl rfl dX4_sheet_71 rfl ?_
                  refine qs_iload_n dX4_sheet_74 rfl rfl rfl ?_
                  refine qs_aald (kd := 3) (C := RX2) (g := fun j => 41 + 2 * j) rfl (by decide) rfl (by decide) dX4_sheet_75 rfl (fun g136 => ?_)
                  refine qs_iload_n dX4_sheet_76 rfl rfl rfl ?_
                  refine qs_iload_n dX4_sheet_77 rfl rfl rfl ?_
                  refine qs_if_ne (tgt := 85) dX4_sheet_78 (by decide) rfl (fun g137 => ?_) (fun g137 => ?_)
                  · refine qs_iconst (0 : Int32) dX4_sheet_81 (by decide) rfl ?_
                    refine qs_goto (tgt := 86) dX4_sheet_82 (by decide) ?_
                    refine qs_cV2v cfX4_207 (Nat.le_of_ble_eq_true rfl) ((qs_ss g136)).1 rfl (fun Y hY => kX2_renew (qs_ss g136) hY) (Nat.le_of_ble_eq_true rfl) dX4_sheet_86 rfl (fun x143 D142 g144 => ?_)
                    refine qs_aload_n dX4_sheet_89 rfl rfl rfl ?_
                    refine qs_getR ffX4_31 rfl rfl dX4_sheet_90 rfl ?_
                    refine qs_iload_n dX4_sheet_93 rfl rfl rfl ?_
                    refine qs_aald (kd := 3) (C := RX2) (g := fun j => 41 + 2 * j) rfl (by decide) rfl (by decide) dX4_sheet_94 rfl (fun g145 => ?_)
                    refine qs_getI ffX4_210 ((qs_ss g145)).1 rfl dX4_sheet_95 rfl ?_
                    exact qs_iret rfl dX4_sheet_98
                  · refine qs_iload_n dX4_sheet_85 rfl rfl rfl ?_
                    refine qs_cV2v cfX4_207 (Nat.le_of_ble_eq_true rfl) ((qs_ss g136)).1 rfl (fun Y hY => kX2_renew (qs_ss g136) hY) (Nat.le_of_ble_eq_true rfl) dX4_sheet_86 rfl (fun x139 D138 g140 => ?_)
                    refine qs_aload_n dX4_sheet_89 rfl rfl rfl ?_
                    refine qs_getR ffX4_31 rfl rfl dX4_sheet_90 rfl ?_
                    refine qs_iload_n dX4_sheet_93 rfl rfl rfl ?_
                    refine qs_aald (kd := 3) (C := RX2) (g := fun j => 41 + 2 * j) rfl (by decide) rfl (by decide) dX4_sheet_94 rfl (fun g141 => ?_)
                    refine qs_getI ffX4_210 ((qs_ss g141)).1 rfl dX4_sheet_95 rfl ?_
                    exact qs_iret rfl dX4_sheet_98
                · refine qs_aload_n dX4_sheet_64 rfl rfl rfl ?_
                  refine qs_iconst (0 : Int32) dX4_sheet_65 (by decide) rfl ?_
                  refine qs_cV1i cfX4_55 (Nat.le_of_ble_eq_true rfl) rfl rfl (fun Y hY => kX4_found  hY) (Nat.le_of_ble_eq_true rfl) dX4_sheet_66 rfl (fun x147 D146 g148 => ?_)
                  exact qs_iret rfl dX4_sheet_69
              · refine qs_aload_n dX4_sheet_51 rfl rfl rfl ?_
                refine qs_bipush (6 : Int32) dX4_sheet_52 (by decide) rfl ?_
                refine qs_cV1i cfX4_55 (Nat.le_of_ble_eq_true rfl) rfl rfl (fun Y hY => kX4_found  hY) (Nat.le_of_ble_eq_true rfl) dX4_sheet_54 rfl (fun x150 D149 g151 => ?_)
                exact qs_iret rfl dX4_sheet_57
        · refine qs_iconst (0 : Int32) dX4_sheet_26 (by decide) rfl ?_
          refine qs_istore (fun v95 => [(4, .int v95), (0, .ref 0), (1, .int p1), (2, .int p2), (3, .int p3)]) dX4_sheet_27 (by decide) (fun _ => rfl) rfl (fun v95 => ?_)
          refine qs_iload_n dX4_sheet_29 rfl rfl rfl ?_
          refine qs_cS1i cfX4_204 (Nat.le_of_ble_eq_true rfl) (fun Y hY => kX4_isSheet  hY) (Nat.le_of_ble_eq_true rfl) dX4_sheet_30 rfl (fun x97 D96 g98 => ?_)
          refine qs_if_eq (tgt := 41) dX4_sheet_33 (by decide) rfl (fun g99 => ?_) (fun g99 => ?_)
          · refine qs_aload_n dX4_sheet_41 rfl rfl rfl ?_
            refine qs_iconst (0 : Int32) dX4_sheet_42 (by decide) rfl ?_
            refine qs_cV1i cfX4_55 (Nat.le_of_ble_eq_true rfl) rfl rfl (fun Y hY => kX4_found  hY) (Nat.le_of_ble_eq_true rfl) dX4_sheet_43 rfl (fun x101 D100 g102 => ?_)
            exact qs_iret rfl dX4_sheet_46
          · refine qs_iload dX4_sheet_36 rfl rfl ?_
            refine qs_if_ne (tgt := 47) dX4_sheet_38 (by decide) rfl (fun g103 => ?_) (fun g103 => ?_)
            · refine qs_aload_n dX4_sheet_41 rfl rfl rfl ?_
              refine qs_iconst (0 : Int32) dX4_sheet_42 (by decide) rfl ?_
              refine qs_cV1i cfX4_55 (Nat.le_of_ble_eq_true rfl) rfl rfl (fun Y hY => kX4_found  hY) (Nat.le_of_ble_eq_true rfl) dX4_sheet_43 rfl (fun x123 D122 g124 => ?_)
              exact qs_iret rfl dX4_sheet_46
            · refine qs_iload_n dX4_sheet_47 rfl rfl rfl ?_
              refine qs_if_ge (tgt := 58) dX4_sheet_48 (by decide) rfl (fun g104 => ?_) (fun g104 => ?_)
              · refine qs_iload_n dX4_sheet_58 rfl rfl rfl ?_
                refine qs_bipush (40 : Int32) dX4_sheet_59 (by decide) rfl ?_
                refine qs_icmp_le (tgt := 70) dX4_sheet_61 (by decide) rfl (fun g105 => ?_) (fun g105 => ?_)
                · refine qs_aload_n dX4_sheet_70 rfl rfl rfl ?_
                  refine qs_getR ffX4_31 rfl rfl dX4_sheet_71 rfl ?_
                  refine qs_iload_n dX4_sheet_74 rfl rfl rfl ?_
                  refine qs_aald (kd := 3) (C := RX2) (g := fun j => 41 + 2 * j) rfl (by decide) rfl (by decide) dX4_sheet_75 rfl (fun g106 => ?_)
                  refine qs_iload_n dX4_sheet_76 rfl rfl rfl ?_
                  refine qs_iload_n dX4_sheet_77 rfl rfl rfl ?_
                  refine qs_if_ne (tgt := 85) dX4_sheet_78 (by decide) rfl (fun g107 => ?_) (fun g107 => ?_)
                  · refine qs_iconst (0 : Int32) dX4_sheet_81 (by decide) rfl ?_
                    refine qs_goto (tgt := 86) dX4_sheet_82 (by decide) ?_
                    refine qs_cV2v cfX4_207 (Nat.le_of_ble_eq_true rfl) ((qs_ss g106)).1 rfl (fun Y hY => kX2_renew (qs_ss g106) hY) (Nat.le_of_ble_eq_true rfl) dX4_sheet_86 rfl (fun x113 D112 g114 => ?_)
                    refine qs_aload_n dX4_sheet_89 rfl rfl rfl ?_
                    refine qs_getR ffX4_31 rfl rfl dX4_sheet_90 rfl ?_
                    refine qs_iload_n dX4_sheet_93 rfl rfl rfl ?_
                    refine qs_aald (kd := 3) (C := RX2) (g := fun j => 41 + 2 * j) rfl (by decide) rfl (by decide) dX4_sheet_94 rfl (fun g115 => ?_)
                    refine qs_getI ffX4_210 ((qs_ss g115)).1 rfl dX4_sheet_95 rfl ?_
                    exact qs_iret rfl dX4_sheet_98
                  · refine qs_iload_n dX4_sheet_85 rfl rfl rfl ?_
                    refine qs_cV2v cfX4_207 (Nat.le_of_ble_eq_true rfl) ((qs_ss g106)).1 rfl (fun Y hY => kX2_renew (qs_ss g106) hY) (Nat.le_of_ble_eq_true rfl) dX4_sheet_86 rfl (fun x109 D108 g110 => ?_)
                    refine qs_aload_n dX4_sheet_89 rfl rfl rfl ?_
                    refine qs_getR ffX4_31 rfl rfl dX4_sheet_90 rfl ?_
                    refine qs_iload_n dX4_sheet_93 rfl rfl rfl ?_
                    refine qs_aald (kd := 3) (C := RX2) (g := fun j => 41 + 2 * j) rfl (by decide) rfl (by decide) dX4_sheet_94 rfl (fun g111 => ?_)
                    refine qs_getI ffX4_210 ((qs_ss g111)).1 rfl dX4_sheet_95 rfl ?_
                    exact qs_iret rfl dX4_sheet_98
                · refine qs_aload_n dX4_sheet_64 rfl rfl rfl ?_
                  refine qs_iconst (0 : Int32) dX4_sheet_65 (by decide) rfl ?_
                  refine qs_cV1i cfX4_55 (Nat.le_of_ble_eq_true rfl) rfl rfl (fun Y hY => kX4_found  hY) (Nat.le_of_ble_eq_true rfl) dX4_sheet_66 rfl (fun x117 D116 g118 => ?_)
                  exact qs_iret rfl dX4_sheet_69
              · refine qs_aload_n dX4_sheet_51 rfl rfl rfl ?_
                refine qs_bipush (6 : Int32) dX4_sheet_52 (by decide) rfl ?_
                refine qs_cV1i cfX4_55 (Nat.le_of_ble_eq_true rfl) rfl rfl (fun Y hY => kX4_found  hY) (Nat.le_of_ble_eq_true rfl) dX4_sheet_54 rfl (fun x120 D119 g121 => ?_)
                exact qs_iret rfl dX4_sheet_57
abbrev mX4_write : qs_M := (RX4, cX4_write, 5, (some FieldType.int))
def fX4_write (p1 : Int32) (p2 : Int32) (p3 : Int32) (D : qs_D) : Option (Int32 × qs_D) := (qs_bind (fX4_faultOfSheet p1 D) (fun x2 D1 => (qs_let x2 (fun v4 => (if v4 = (-1 : Int32) then (qs_g p1 4 (qs_bind (fX4_within p2 (0 : Int32) ((D1 (41 + 2 * p1.toNatClampNeg) 1) - (1 : Int32)) D1) (fun x8 D7 => (if x8 = 0 then (qs_bind (fX4_found (0 : Int32) D7) (fun x16 D15 => (some (x16, D15)))) else (qs_g p1 4 (qs_bind (fX2_put (41 + 2 * p1.toNatClampNeg) p2 p3 D7) (fun x13 D12 => (some ((1 : Int32), D12))))))))) else (qs_bind (fX4_found v4 D1) (fun x19 D18 => (some (x19, D18)))))))))
set_option maxRecDepth 20000 in
theorem kX4_write {l : Launch} {E : qs_E} {A : Nat → Prop} {p1 : Int32} {p2 : Int32} {p3 : Int32} {D : qs_D} {X : Int32 × qs_D}  (hX : fX4_write p1 p2 p3 D = some X) : qs_Ctr l E A shX yX4_write mX4_write 3 qs_ri [.ref 0, .int p1, .int p2, .int p3] D X := by
  refine qs_enter (plainFor_of_name (by decide)) rfl (Nat.le_of_ble_eq_true rfl) ?_ hX
  show qs_VO l E A shX mX4_write 3 qs_ri 0 [(0, .ref 0), (1, .int p1), (2, .int p2), (3, .int p3)] [] D (fX4_write p1 p2 p3 D)
  unfold fX4_write
  refine qs_aload_n dX4_write_0 rfl rfl rfl ?_
  refine qs_iload_n dX4_write_1 rfl rfl rfl ?_
  refine qs_cV1i cfX4_211 (Nat.le_of_ble_eq_true rfl) rfl rfl (fun Y hY => kX4_faultOfSheet  hY) (Nat.le_of_ble_eq_true rfl) dX4_write_2 rfl (fun x2 D1 g3 => ?_)
  refine qs_istore (fun v4 => [(4, .int v4), (0, .ref 0), (1, .int p1), (2, .int p2), (3, .int p3)]) dX4_write_5 (by decide) (fun _ => rfl) rfl (fun v4 => ?_)
  refine qs_iload dX4_write_7 rfl rfl ?_
  refine qs_iconst (-1 : Int32) dX4_write_9 (by decide) rfl ?_
  refine qs_icmp_eq (tgt := 20) dX4_write_10 (by decide) rfl (fun g5 => ?_) (fun g5 => ?_)
  · refine qs_iload_n dX4_write_20 rfl rfl rfl ?_
    refine qs_iconst (0 : Int32) dX4_write_21 (by decide) rfl ?_
    refine qs_aload_n dX4_write_22 rfl rfl rfl ?_
    refine qs_getR ffX4_31 rfl rfl dX4_write_23 rfl ?_
    refine qs_iload_n dX4_write_26 rfl rfl rfl ?_
    refine qs_aald (kd := 3) (C := RX2) (g := fun j => 41 + 2 * j) rfl (by decide) rfl (by decide) dX4_write_27 rfl (fun g6 => ?_)
    refine qs_getI ffX4_210 ((qs_ss g6)).1 rfl dX4_write_28 rfl ?_
    refine qs_iconst (1 : Int32) dX4_write_31 (by decide) rfl ?_
    refine qs_isub dX4_write_32 rfl ?_
    refine qs_cS3i cfX4_44 (Nat.le_of_ble_eq_true rfl) (fun Y hY => kX4_within  hY) (Nat.le_of_ble_eq_true rfl) dX4_write_33 rfl (fun x8 D7 g9 => ?_)
    refine qs_if_ne (tgt := 45) dX4_write_36 (by decide) rfl (fun g10 => ?_) (fun g10 => ?_)
    · refine qs_aload_n dX4_write_39 rfl rfl rfl ?_
      refine qs_iconst (0 : Int32) dX4_write_40 (by decide) rfl ?_
      refine qs_cV1i cfX4_55 (Nat.le_of_ble_eq_true rfl) rfl rfl (fun Y hY => kX4_found  hY) (Nat.le_of_ble_eq_true rfl) dX4_write_41 rfl (fun x16 D15 g17 => ?_)
      exact qs_iret rfl dX4_write_44
    · refine qs_aload_n dX4_write_45 rfl rfl rfl ?_
      refine qs_getR ffX4_31 rfl rfl dX4_write_46 rfl ?_
      refine qs_iload_n dX4_write_49 rfl rfl rfl ?_
      refine qs_aald (kd := 3) (C := RX2) (g := fun j => 41 + 2 * j) rfl (by decide) rfl (by decide) dX4_write_50 rfl (fun g11 => ?_)
      refine qs_iload_n dX4_write_51 rfl rfl rfl ?_
      refine qs_iload_n dX4_write_52 rfl rfl rfl ?_
      refine qs_cV2v cfX4_214 (Nat.le_of_ble_eq_true rfl) ((qs_ss g11)).1 rfl (fun Y hY => kX2_put (qs_ss g11) hY) (Nat.le_of_ble_eq_true rfl) dX4_write_53 rfl (fun x13 D12 g14 => ?_)
      refine qs_iconst (1 : Int32) dX4_write_56 (by decide) rfl ?_
      exact qs_iret rfl dX4_write_57
  · refine qs_aload_n dX4_write_13 rfl rfl rfl ?_
    refine qs_iload dX4_write_14 rfl rfl ?_
    refine qs_cV1i cfX4_55 (Nat.le_of_ble_eq_true rfl) rfl rfl (fun Y hY => kX4_found  hY) (Nat.le_of_ble_eq_true rfl) dX4_write_16 rfl (fun x19 D18 g20 => ?_)
    exact qs_iret rfl dX4_write_19
abbrev mX4_copy : qs_M := (RX4, cX4_copy, 6, (some FieldType.int))
def fX4_copy (p1 : Int32) (p2 : Int32) (p3 : Int32) (p4 : Int32) (p5 : Int32) (D : qs_D) : Option (Int32 × qs_D) := (qs_bind (fX4_isSheet p1 D) (fun x2 D1 => (if x2 = 0 then (qs_bind (fX4_found (0 : Int32) D1) (fun x6 D5 => (some (x6, D5)))) else (qs_bind (fX4_isSheet p3 D1) (fun x9 D8 => (if x9 = 0 then (qs_bind (fX4_found (0 : Int32) D8) (fun x54 D53 => (some (x54, D53)))) else (qs_g p1 4 (qs_bind (fX2_isMissing (41 + 2 * p1.toNatClampNeg) D8) (fun x14 D13 => (if x14 = 0 then (qs_g p3 4 (qs_bind (fX2_isMissing (41 + 2 * p3.toNatClampNeg) D13) (fun x22 D21 => (if x22 = 0 then (qs_g p1 4 (qs_g p3 4 (if (D21 (41 + 2 * p1.toNatClampNeg) 0) = (D21 (41 + 2 * p3.toNatClampNeg) 0) then (qs_g p1 4 (qs_bind (fX2_hasPart (41 + 2 * p1.toNatClampNeg) p2 p5 D21) (fun x30 D29 => (if x30 = 0 then (qs_bind (fX4_found (0 : Int32) D29) (fun x34 D33 => (some (x34, D33)))) else (qs_g p3 4 (qs_bind (fX2_hasPart (41 + 2 * p3.toNatClampNeg) p4 p5 D29) (fun x38 D37 => (if x38 = 0 then (qs_bind (fX4_found (0 : Int32) D37) (fun x45 D44 => (some (x45, D44)))) else (qs_g p1 4 (qs_g p3 4 (qs_gcp p2 p4 p5 40 40 (qs_let (qs_w D37 ((41 + 2 * p3.toNatClampNeg) + 1) (va_cpy (D37 ((41 + 2 * p1.toNatClampNeg) + 1)) (D37 ((41 + 2 * p3.toNatClampNeg) + 1)) p2.toNatClampNeg p4.toNatClampNeg p5.toNatClampNeg)) (fun D43 => (some (p5, D43))))))))))))))) else (qs_bind (fX4_found (2 : Int32) D21) (fun x48 D47 => (some (x48, D47))))))) else (qs_bind (fX4_found (5 : Int32) D21) (fun x51 D50 => (some (x51, D50)))))))) else (qs_bind (fX4_found (5 : Int32) D13) (fun x18 D17 => (some (x18, D17))))))))))))))
set_option maxRecDepth 20000 in
theorem kX4_copy {l : Launch} {E : qs_E} {A : Nat → Prop} {p1 : Int32} {p2 : Int32} {p3 : Int32} {p4 : Int32} {p5 : Int32} {D : qs_D} {X : Int32 × qs_D}  (hX : fX4_copy p1 p2 p3 p4 p5 D = some X) : qs_Ctr l E A shX yX4_copy mX4_copy 2 qs_ri [.ref 0, .int p1, .int p2, .int p3, .int p4, .int p5] D X := by
  refine qs_enter (plainFor_of_name (by decide)) rfl (Nat.le_of_ble_eq_true rfl) ?_ hX
  show qs_VO l E A shX mX4_copy 2 qs_ri 0 [(0, .ref 0), (1, .int p1), (2, .int p2), (3, .int p3), (4, .int p4), (5, .int p5)] [] D (fX4_copy p1 p2 p3 p4 p5 D)
  unfold fX4_copy
  refine qs_iload_n dX4_copy_0 rfl rfl rfl ?_
  refine qs_cS1i cfX4_204 (Nat.le_of_ble_eq_true rfl) (fun Y hY => kX4_isSheet  hY) (Nat.le_of_ble_eq_true rfl) dX4_copy_1 rfl (fun x2 D1 g3 => ?_)
  refine qs_if_eq (tgt := 14) dX4_copy_4 (by decide) rfl (fun g4 => ?_) (fun g4 => ?_)
  · refine qs_aload_n dX4_copy_14 rfl rfl rfl ?_
    refine qs_iconst (0 : Int32) dX4_copy_15 (by decide) rfl ?_
    refine qs_cV1i cfX4_55 (Nat.le_of_ble_eq_true rfl) rfl rfl (fun Y hY => kX4_found  hY) (Nat.le_of_ble_eq_true rfl) dX4_copy_16 rfl (fun x6 D5 g7 => ?_)
    exact qs_iret rfl dX4_copy_19
  · refine qs_iload_n dX4_copy_7 rfl rfl rfl ?_
    refine qs_cS1i cfX4_204 (Nat.le_of_ble_eq_true rfl) (fun Y hY => kX4_isSheet  hY) (Nat.le_of_ble_eq_true rfl) dX4_copy_8 rfl (fun x9 D8 g10 => ?_)
    refine qs_if_ne (tgt := 20) dX4_copy_11 (by decide) rfl (fun g11 => ?_) (fun g11 => ?_)
    · refine qs_aload_n dX4_copy_14 rfl rfl rfl ?_
      refine qs_iconst (0 : Int32) dX4_copy_15 (by decide) rfl ?_
      refine qs_cV1i cfX4_55 (Nat.le_of_ble_eq_true rfl) rfl rfl (fun Y hY => kX4_found  hY) (Nat.le_of_ble_eq_true rfl) dX4_copy_16 rfl (fun x54 D53 g55 => ?_)
      exact qs_iret rfl dX4_copy_19
    · refine qs_aload_n dX4_copy_20 rfl rfl rfl ?_
      refine qs_getR ffX4_31 rfl rfl dX4_copy_21 rfl ?_
      refine qs_iload_n dX4_copy_24 rfl rfl rfl ?_
      refine qs_aald (kd := 3) (C := RX2) (g := fun j => 41 + 2 * j) rfl (by decide) rfl (by decide) dX4_copy_25 rfl (fun g12 => ?_)
      refine qs_cV0i cfX4_215 (Nat.le_of_ble_eq_true rfl) ((qs_ss g12)).1 rfl (fun Y hY => kX2_isMissing (qs_ss g12) hY) (Nat.le_of_ble_eq_true rfl) dX4_copy_26 rfl (fun x14 D13 g15 => ?_)
      refine qs_if_ne (tgt := 44) dX4_copy_29 (by decide) rfl (fun g16 => ?_) (fun g16 => ?_)
      · refine qs_aload_n dX4_copy_32 rfl rfl rfl ?_
        refine qs_getR ffX4_31 rfl rfl dX4_copy_33 rfl ?_
        refine qs_iload_n dX4_copy_36 rfl rfl rfl ?_
        refine qs_aald (kd := 3) (C := RX2) (g := fun j => 41 + 2 * j) rfl (by decide) rfl (by decide) dX4_copy_37 rfl (fun g20 => ?_)
        refine qs_cV0i cfX4_215 (Nat.le_of_ble_eq_true rfl) ((qs_ss g20)).1 rfl (fun Y hY => kX2_isMissing (qs_ss g20) hY) (Nat.le_of_ble_eq_true rfl) dX4_copy_38 rfl (fun x22 D21 g23 => ?_)
        refine qs_if_eq (tgt := 50) dX4_copy_41 (by decide) rfl (fun g24 => ?_) (fun g24 => ?_)
        · refine qs_aload_n dX4_copy_50 rfl rfl rfl ?_
          refine qs_getR ffX4_31 rfl rfl dX4_copy_51 rfl ?_
          refine qs_iload_n dX4_copy_54 rfl rfl rfl ?_
          refine qs_aald (kd := 3) (C := RX2) (g := fun j => 41 + 2 * j) rfl (by decide) rfl (by decide) dX4_copy_55 rfl (fun g25 => ?_)
          refine qs_getI ffX4_219 ((qs_ss g25)).1 rfl dX4_copy_56 rfl ?_
          refine qs_aload_n dX4_copy_59 rfl rfl rfl ?_
          refine qs_getR ffX4_31 rfl rfl dX4_copy_60 rfl ?_
          refine qs_iload_n dX4_copy_63 rfl rfl rfl ?_
          refine qs_aald (kd := 3) (C := RX2) (g := fun j => 41 + 2 * j) rfl (by decide) rfl (by decide) dX4_copy_64 rfl (fun g26 => ?_)
          refine qs_getI ffX4_219 ((qs_ss g26)).1 rfl dX4_copy_65 rfl ?_
          refine qs_icmp_eq (tgt := 77) dX4_copy_68 (by decide) rfl (fun g27 => ?_) (fun g27 => ?_)
          · refine qs_aload_n dX4_copy_77 rfl rfl rfl ?_
            refine qs_getR ffX4_31 rfl rfl dX4_copy_78 rfl ?_
            refine qs_iload_n dX4_copy_81 rfl rfl rfl ?_
            refine qs_aald (kd := 3) (C := RX2) (g := fun j => 41 + 2 * j) rfl (by decide) rfl (by decide) dX4_copy_82 rfl (fun g28 => ?_)
            refine qs_iload_n dX4_copy_83 rfl rfl rfl ?_
            refine qs_iload dX4_copy_84 rfl rfl ?_
            refine qs_cV2i cfX4_222 (Nat.le_of_ble_eq_true rfl) ((qs_ss g28)).1 rfl (fun Y hY => kX2_hasPart (qs_ss g28) hY) (Nat.le_of_ble_eq_true rfl) dX4_copy_86 rfl (fun x30 D29 g31 => ?_)
            refine qs_if_eq (tgt := 108) dX4_copy_89 (by decide) rfl (fun g32 => ?_) (fun g32 => ?_)
            · refine qs_aload_n dX4_copy_108 rfl rfl rfl ?_
              refine qs_iconst (0 : Int32) dX4_copy_109 (by decide) rfl ?_
              refine qs_cV1i cfX4_55 (Nat.le_of_ble_eq_true rfl) rfl rfl (fun Y hY => kX4_found  hY) (Nat.le_of_ble_eq_true rfl) dX4_copy_110 rfl (fun x34 D33 g35 => ?_)
              exact qs_iret rfl dX4_copy_113
            · refine qs_aload_n dX4_copy_92 rfl rfl rfl ?_
              refine qs_getR ffX4_31 rfl rfl dX4_copy_93 rfl ?_
              refine qs_iload_n dX4_copy_96 rfl rfl rfl ?_
              refine qs_aald (kd := 3) (C := RX2) (g := fun j => 41 + 2 * j) rfl (by decide) rfl (by decide) dX4_copy_97 rfl (fun g36 => ?_)
              refine qs_iload dX4_copy_98 rfl rfl ?_
              refine qs_iload dX4_copy_100 rfl rfl ?_
              refine qs_cV2i cfX4_222 (Nat.le_of_ble_eq_true rfl) ((qs_ss g36)).1 rfl (fun Y hY => kX2_hasPart (qs_ss g36) hY) (Nat.le_of_ble_eq_true rfl) dX4_copy_102 rfl (fun x38 D37 g39 => ?_)
              refine qs_if_ne (tgt := 114) dX4_copy_105 (by decide) rfl (fun g40 => ?_) (fun g40 => ?_)
              · refine qs_aload_n dX4_copy_108 rfl rfl rfl ?_
                refine qs_iconst (0 : Int32) dX4_copy_109 (by decide) rfl ?_
                refine qs_cV1i cfX4_55 (Nat.le_of_ble_eq_true rfl) rfl rfl (fun Y hY => kX4_found  hY) (Nat.le_of_ble_eq_true rfl) dX4_copy_110 rfl (fun x45 D44 g46 => ?_)
                exact qs_iret rfl dX4_copy_113
              · refine qs_aload_n dX4_copy_114 rfl rfl rfl ?_
                refine qs_getR ffX4_31 rfl rfl dX4_copy_115 rfl ?_
                refine qs_iload_n dX4_copy_118 rfl rfl rfl ?_
                refine qs_aald (kd := 3) (C := RX2) (g := fun j => 41 + 2 * j) rfl (by decide) rfl (by decide) dX4_copy_119 rfl (fun g41 => ?_)
                refine qs_getR ffX4_225 ((qs_ss g41)).1 rfl dX4_copy_120 rfl ?_
                refine qs_iload_n dX4_copy_123 rfl rfl rfl ?_
                refine qs_aload_n dX4_copy_124 rfl rfl rfl ?_
                refine qs_getR ffX4_31 rfl rfl dX4_copy_125 rfl ?_
                refine qs_iload_n dX4_copy_128 rfl rfl rfl ?_
                refine qs_aald (kd := 3) (C := RX2) (g := fun j => 41 + 2 * j) rfl (by decide) rfl (by decide) dX4_copy_129 rfl (fun g42 => ?_)
                refine qs_getR ffX4_225 ((qs_ss g42)).1 rfl dX4_copy_130 rfl ?_
                refine qs_iload dX4_copy_133 rfl rfl ?_
                refine qs_iload dX4_copy_135 rfl rfl ?_
                refine qs_copy wyX4_228 ((qs_ss g41)).2 ((qs_ss g42)).2 (Nat.le_of_ble_eq_true rfl) (Nat.le_of_ble_eq_true rfl) dX4_copy_137 rfl (fun D43 => ?_)
                refine qs_iload dX4_copy_140 rfl rfl ?_
                exact qs_iret rfl dX4_copy_142
          · refine qs_aload_n dX4_copy_71 rfl rfl rfl ?_
            refine qs_iconst (2 : Int32) dX4_copy_72 (by decide) rfl ?_
            refine qs_cV1i cfX4_55 (Nat.le_of_ble_eq_true rfl) rfl rfl (fun Y hY => kX4_found  hY) (Nat.le_of_ble_eq_true rfl) dX4_copy_73 rfl (fun x48 D47 g49 => ?_)
            exact qs_iret rfl dX4_copy_76
        · refine qs_aload_n dX4_copy_44 rfl rfl rfl ?_
          refine qs_iconst (5 : Int32) dX4_copy_45 (by decide) rfl ?_
          refine qs_cV1i cfX4_55 (Nat.le_of_ble_eq_true rfl) rfl rfl (fun Y hY => kX4_found  hY) (Nat.le_of_ble_eq_true rfl) dX4_copy_46 rfl (fun x51 D50 g52 => ?_)
          exact qs_iret rfl dX4_copy_49
      · refine qs_aload_n dX4_copy_44 rfl rfl rfl ?_
        refine qs_iconst (5 : Int32) dX4_copy_45 (by decide) rfl ?_
        refine qs_cV1i cfX4_55 (Nat.le_of_ble_eq_true rfl) rfl rfl (fun Y hY => kX4_found  hY) (Nat.le_of_ble_eq_true rfl) dX4_copy_46 rfl (fun x18 D17 g19 => ?_)
        exact qs_iret rfl dX4_copy_49
abbrev mX4_load : qs_M := (RX4, cX4_load, 5, (some FieldType.int))
def fX4_load_L27 (r3 : Nat) : Nat → Int32 → Int32 → Int32 → qs_D → Option (Int32 × qs_D)
  | 0, _, _, _, _ => none
  | n + 1, w1, w2, w4, D => (if (6 : Int32) ≤ w4 then (some (w4, D)) else (if (D r3 1) ≤ w4 then (some (w4, D)) else (qs_g w4 40 (qs_bind (fX4_isDeed (D (r3 + 1) w4.toNatClampNeg) D) (fun x12 D11 => (if x12 = 0 then (some (w4, D11)) else (qs_g w4 40 (qs_g w4 6 (qs_let (qs_u D11 (1 + 1) w4.toNatClampNeg (D11 (r3 + 1) w4.toNatClampNeg)) (fun D16 => (qs_let (w4 + (1 : Int32)) (fun v17 => (fX4_load_L27 r3 n w1 w2 v17 D16)))))))))))))
set_option maxRecDepth 20000 in
theorem lX4_load_L27 {l : Launch} {E : qs_E} {A : Nat → Prop} {r3 : Nat} (h3 : qs_isS r3) : ∀ (n : Nat) (w1 : Int32) (w2 : Int32) (w4 : Int32) (D : qs_D), qs_VO l E A shX mX4_load 3 qs_ri 27 [(0, .ref 0), (1, .int w1), (2, .int w2), (3, .ref r3), (4, .int w4)] [] D (fX4_load_L27 r3 n w1 w2 w4 D) := by
  intro n
  induction n with
  | zero => intro w1 w2 w4 D; exact qs_none
  | succ n ih =>
    intro w1 w2 w4 D
    unfold fX4_load_L27
    refine qs_iload dX4_load_27 rfl rfl ?_
    refine qs_bipush (6 : Int32) dX4_load_29 (by decide) rfl ?_
    refine qs_icmp_ge (tgt := 79) dX4_load_31 (by decide) rfl (fun g8 => ?_) (fun g8 => ?_)
    · refine qs_iload dX4_load_79 rfl rfl ?_
      exact qs_iret rfl dX4_load_81
    · refine qs_iload dX4_load_34 rfl rfl ?_
      refine qs_aload_n dX4_load_36 rfl rfl rfl ?_
      refine qs_getI ffX4_210 (h3).1 rfl dX4_load_37 rfl ?_
      refine qs_icmp_ge (tgt := 79) dX4_load_40 (by decide) rfl (fun g9 => ?_) (fun g9 => ?_)
      · refine qs_iload dX4_load_79 rfl rfl ?_
        exact qs_iret rfl dX4_load_81
      · refine qs_aload_n dX4_load_43 rfl rfl rfl ?_
        refine qs_getR ffX4_225 (h3).1 rfl dX4_load_44 rfl ?_
        refine qs_iload dX4_load_47 rfl rfl ?_
        refine qs_iald (h3).2 (by decide) dX4_load_49 rfl (fun g10 => ?_)
        refine qs_cS1i cfX4_63 (Nat.le_of_ble_eq_true rfl) (fun Y hY => kX4_isDeed  hY) (Nat.le_of_ble_eq_true rfl) dX4_load_50 rfl (fun x12 D11 g13 => ?_)
        refine qs_if_eq (tgt := 79) dX4_load_53 (by decide) rfl (fun g14 => ?_) (fun g14 => ?_)
        · refine qs_iload dX4_load_79 rfl rfl ?_
          exact qs_iret rfl dX4_load_81
        · refine qs_aload_n dX4_load_56 rfl rfl rfl ?_
          refine qs_getR ffX4_10 rfl rfl dX4_load_57 rfl ?_
          refine qs_getR ffX4_66 rfl rfl dX4_load_60 rfl ?_
          refine qs_iload dX4_load_63 rfl rfl ?_
          refine qs_aload_n dX4_load_65 rfl rfl rfl ?_
          refine qs_getR ffX4_225 (h3).1 rfl dX4_load_66 rfl ?_
          refine qs_iload dX4_load_69 rfl rfl ?_
          refine qs_iald (h3).2 (by decide) dX4_load_71 rfl (fun g15 => ?_)
          refine qs_iast (qs_kL qs_k1) (by decide) dX4_load_72 rfl (fun D16 => ?_)
          refine qs_iinc (fun v17 => [(4, .int v17), (0, .ref 0), (1, .int w1), (2, .int w2), (3, .ref r3)]) (1 : Int32) dX4_load_73 rfl (by decide) (by decide) (fun _ => rfl) rfl (fun v17 => ?_)
          refine qs_goto (tgt := 27) dX4_load_76 (by decide) ?_
          exact qs_sub [1, 2, 3, 4, 0] rfl (ih w1 w2 v17 D16)
def fX4_load (p1 : Int32) (D : qs_D) : Option (Int32 × qs_D) := (qs_bind (fX4_faultOfSheet p1 D) (fun x2 D1 => (qs_let x2 (fun v4 => (if v4 = (-1 : Int32) then (qs_g p1 4 (qs_let (0 : Int32) (fun v7 => (fX4_load_L27 (41 + 2 * p1.toNatClampNeg) qs_F p1 v4 v7 D1)))) else (qs_bind (fX4_found v4 D1) (fun x19 D18 => (some (x19, D18)))))))))
set_option maxRecDepth 20000 in
theorem kX4_load {l : Launch} {E : qs_E} {A : Nat → Prop} {p1 : Int32} {D : qs_D} {X : Int32 × qs_D}  (hX : fX4_load p1 D = some X) : qs_Ctr l E A shX yX4_load mX4_load 3 qs_ri [.ref 0, .int p1] D X := by
  refine qs_enter (plainFor_of_name (by decide)) rfl (Nat.le_of_ble_eq_true rfl) ?_ hX
  show qs_VO l E A shX mX4_load 3 qs_ri 0 [(0, .ref 0), (1, .int p1)] [] D (fX4_load p1 D)
  unfold fX4_load
  refine qs_aload_n dX4_load_0 rfl rfl rfl ?_
  refine qs_iload_n dX4_load_1 rfl rfl rfl ?_
  refine qs_cV1i cfX4_211 (Nat.le_of_ble_eq_true rfl) rfl rfl (fun Y hY => kX4_faultOfSheet  hY) (Nat.le_of_ble_eq_true rfl) dX4_load_2 rfl (fun x2 D1 g3 => ?_)
  refine qs_istore_n (fun v4 => [(2, .int v4), (0, .ref 0), (1, .int p1)]) dX4_load_5 rfl (by decide) (fun _ => rfl) rfl (fun v4 => ?_)
  refine qs_iload_n dX4_load_6 rfl rfl rfl ?_
  refine qs_iconst (-1 : Int32) dX4_load_7 (by decide) rfl ?_
  refine qs_icmp_eq (tgt := 17) dX4_load_8 (by decide) rfl (fun g5 => ?_) (fun g5 => ?_)
  · refine qs_aload_n dX4_load_17 rfl rfl rfl ?_
    refine qs_getR ffX4_31 rfl rfl dX4_load_18 rfl ?_
    refine qs_iload_n dX4_load_21 rfl rfl rfl ?_
    refine qs_aald (kd := 3) (C := RX2) (g := fun j => 41 + 2 * j) rfl (by decide) rfl (by decide) dX4_load_22 rfl (fun g6 => ?_)
    refine qs_astore_n [(3, .ref (41 + 2 * p1.toNatClampNeg)), (2, .int v4), (0, .ref 0), (1, .int p1)] dX4_load_23 rfl (by decide) rfl rfl ?_
    refine qs_iconst (0 : Int32) dX4_load_24 (by decide) rfl ?_
    refine qs_istore (fun v7 => [(4, .int v7), (3, .ref (41 + 2 * p1.toNatClampNeg)), (2, .int v4), (0, .ref 0), (1, .int p1)]) dX4_load_25 (by decide) (fun _ => rfl) rfl (fun v7 => ?_)
    exact qs_sub [3, 4, 2, 1, 0] rfl (lX4_load_L27 (qs_ss g6) qs_F p1 v4 v7 D1)
  · refine qs_aload_n dX4_load_11 rfl rfl rfl ?_
    refine qs_iload_n dX4_load_12 rfl rfl rfl ?_
    refine qs_cV1i cfX4_55 (Nat.le_of_ble_eq_true rfl) rfl rfl (fun Y hY => kX4_found  hY) (Nat.le_of_ble_eq_true rfl) dX4_load_13 rfl (fun x19 D18 g20 => ?_)
    exact qs_iret rfl dX4_load_16
abbrev mX4_judge : qs_M := (RX4, cX4_judge, 5, (some FieldType.int))
def fX4_judge_L27 (r3 : Nat) : Nat → Int32 → Int32 → Int32 → qs_D → Option (Int32 × qs_D)
  | 0, _, _, _, _ => none
  | n + 1, w1, w2, w4, D => (if (D r3 1) ≤ w4 then (some ((0 : Int32), D)) else (qs_bind (fX4_isDish w4 D) (fun x10 D9 => (if x10 = 0 then (some (((1 : Int32) + w4), D9)) else (qs_g w4 8 (qs_g w4 40 (if (D9 (1 + 4 + w4.toNatClampNeg) 1) = (D9 (r3 + 1) w4.toNatClampNeg) then (qs_let (w4 + (1 : Int32)) (fun v16 => (fX4_judge_L27 r3 n w1 w2 v16 D9))) else (some (((1 : Int32) + w4), D9)))))))))
set_option maxRecDepth 20000 in
theorem lX4_judge_L27 {l : Launch} {E : qs_E} {A : Nat → Prop} {r3 : Nat} (h3 : qs_isS r3) : ∀ (n : Nat) (w1 : Int32) (w2 : Int32) (w4 : Int32) (D : qs_D), qs_VO l E A shX mX4_judge 3 qs_ri 27 [(0, .ref 0), (1, .int w1), (2, .int w2), (3, .ref r3), (4, .int w4)] [] D (fX4_judge_L27 r3 n w1 w2 w4 D) := by
  intro n
  induction n with
  | zero => intro w1 w2 w4 D; exact qs_none
  | succ n ih =>
    intro w1 w2 w4 D
    unfold fX4_judge_L27
    refine qs_iload dX4_judge_27 rfl rfl ?_
    refine qs_aload_n dX4_judge_29 rfl rfl rfl ?_
    refine qs_getI ffX4_210 (h3).1 rfl dX4_judge_30 rfl ?_
    refine qs_icmp_ge (tgt := 79) dX4_judge_33 (by decide) rfl (fun g8 => ?_) (fun g8 => ?_)
    · refine qs_iconst (0 : Int32) dX4_judge_79 (by decide) rfl ?_
      exact qs_iret rfl dX4_judge_80
    · refine qs_aload_n dX4_judge_36 rfl rfl rfl ?_
      refine qs_iload dX4_judge_37 rfl rfl ?_
      refine qs_cV1i cfX4_84 (Nat.le_of_ble_eq_true rfl) rfl rfl (fun Y hY => kX4_isDish  hY) (Nat.le_of_ble_eq_true rfl) dX4_judge_39 rfl (fun x10 D9 g11 => ?_)
      refine qs_if_eq (tgt := 68) dX4_judge_42 (by decide) rfl (fun g12 => ?_) (fun g12 => ?_)
      · refine qs_iconst (1 : Int32) dX4_judge_68 (by decide) rfl ?_
        refine qs_iload dX4_judge_69 rfl rfl ?_
        refine qs_iadd dX4_judge_71 rfl ?_
        exact qs_iret rfl dX4_judge_72
      · refine qs_aload_n dX4_judge_45 rfl rfl rfl ?_
        refine qs_getR ffX4_10 rfl rfl dX4_judge_46 rfl ?_
        refine qs_getR ffX4_94 rfl rfl dX4_judge_49 rfl ?_
        refine qs_iload dX4_judge_52 rfl rfl ?_
        refine qs_aald (kd := 2) (C := RX0) (g := fun j => 1 + 4 + j) rfl (by decide) (qs_kA qs_k1) (by decide) dX4_judge_54 rfl (fun g13 => ?_)
        refine qs_getI ffX4_79 (qs_kd qs_k1 g13) rfl dX4_judge_55 rfl ?_
        refine qs_aload_n dX4_judge_58 rfl rfl rfl ?_
        refine qs_getR ffX4_225 (h3).1 rfl dX4_judge_59 rfl ?_
        refine qs_iload dX4_judge_62 rfl rfl ?_
        refine qs_iald (h3).2 (by decide) dX4_judge_64 rfl (fun g14 => ?_)
        refine qs_icmp_eq (tgt := 73) dX4_judge_65 (by decide) rfl (fun g15 => ?_) (fun g15 => ?_)
        · refine qs_iinc (fun v16 => [(4, .int v16), (0, .ref 0), (1, .int w1), (2, .int w2), (3, .ref r3)]) (1 : Int32) dX4_judge_73 rfl (by decide) (by decide) (fun _ => rfl) rfl (fun v16 => ?_)
          refine qs_goto (tgt := 27) dX4_judge_76 (by decide) ?_
          exact qs_sub [1, 2, 3, 4, 0] rfl (ih w1 w2 v16 D9)
        · refine qs_iconst (1 : Int32) dX4_judge_68 (by decide) rfl ?_
          refine qs_iload dX4_judge_69 rfl rfl ?_
          refine qs_iadd dX4_judge_71 rfl ?_
          exact qs_iret rfl dX4_judge_72
def fX4_judge (p1 : Int32) (D : qs_D) : Option (Int32 × qs_D) := (qs_bind (fX4_faultOfSheet p1 D) (fun x2 D1 => (qs_let x2 (fun v4 => (if v4 = (-1 : Int32) then (qs_g p1 4 (qs_let (0 : Int32) (fun v7 => (fX4_judge_L27 (41 + 2 * p1.toNatClampNeg) qs_F p1 v4 v7 D1)))) else (qs_bind (fX4_found v4 D1) (fun x18 D17 => (some (x18, D17)))))))))
set_option maxRecDepth 20000 in
theorem kX4_judge {l : Launch} {E : qs_E} {A : Nat → Prop} {p1 : Int32} {D : qs_D} {X : Int32 × qs_D}  (hX : fX4_judge p1 D = some X) : qs_Ctr l E A shX yX4_judge mX4_judge 3 qs_ri [.ref 0, .int p1] D X := by
  refine qs_enter (plainFor_of_name (by decide)) rfl (Nat.le_of_ble_eq_true rfl) ?_ hX
  show qs_VO l E A shX mX4_judge 3 qs_ri 0 [(0, .ref 0), (1, .int p1)] [] D (fX4_judge p1 D)
  unfold fX4_judge
  refine qs_aload_n dX4_judge_0 rfl rfl rfl ?_
  refine qs_iload_n dX4_judge_1 rfl rfl rfl ?_
  refine qs_cV1i cfX4_211 (Nat.le_of_ble_eq_true rfl) rfl rfl (fun Y hY => kX4_faultOfSheet  hY) (Nat.le_of_ble_eq_true rfl) dX4_judge_2 rfl (fun x2 D1 g3 => ?_)
  refine qs_istore_n (fun v4 => [(2, .int v4), (0, .ref 0), (1, .int p1)]) dX4_judge_5 rfl (by decide) (fun _ => rfl) rfl (fun v4 => ?_)
  refine qs_iload_n dX4_judge_6 rfl rfl rfl ?_
  refine qs_iconst (-1 : Int32) dX4_judge_7 (by decide) rfl ?_
  refine qs_icmp_eq (tgt := 17) dX4_judge_8 (by decide) rfl (fun g5 => ?_) (fun g5 => ?_)
  · refine qs_aload_n dX4_judge_17 rfl rfl rfl ?_
    refine qs_getR ffX4_31 rfl rfl dX4_judge_18 rfl ?_
    refine qs_iload_n dX4_judge_21 rfl rfl rfl ?_
    refine qs_aald (kd := 3) (C := RX2) (g := fun j => 41 + 2 * j) rfl (by decide) rfl (by decide) dX4_judge_22 rfl (fun g6 => ?_)
    refine qs_astore_n [(3, .ref (41 + 2 * p1.toNatClampNeg)), (2, .int v4), (0, .ref 0), (1, .int p1)] dX4_judge_23 rfl (by decide) rfl rfl ?_
    refine qs_iconst (0 : Int32) dX4_judge_24 (by decide) rfl ?_
    refine qs_istore (fun v7 => [(4, .int v7), (3, .ref (41 + 2 * p1.toNatClampNeg)), (2, .int v4), (0, .ref 0), (1, .int p1)]) dX4_judge_25 (by decide) (fun _ => rfl) rfl (fun v7 => ?_)
    exact qs_sub [3, 4, 2, 1, 0] rfl (lX4_judge_L27 (qs_ss g6) qs_F p1 v4 v7 D1)
  · refine qs_aload_n dX4_judge_11 rfl rfl rfl ?_
    refine qs_iload_n dX4_judge_12 rfl rfl rfl ?_
    refine qs_cV1i cfX4_55 (Nat.le_of_ble_eq_true rfl) rfl rfl (fun Y hY => kX4_found  hY) (Nat.le_of_ble_eq_true rfl) dX4_judge_13 rfl (fun x18 D17 g19 => ?_)
    exact qs_iret rfl dX4_judge_16
abbrev mX4_image : qs_M := (RX4, cX4_image, 1, (some FieldType.int))
def fX4_image (D : qs_D) : Option (Int32 × qs_D) := (qs_bind (fX1_takeAll 13 1 D) (fun x2 D1 => (qs_let (qs_u D1 0 6 (1 : Int32)) (fun D4 => (some ((1 : Int32), D4))))))
set_option maxRecDepth 20000 in
theorem kX4_image {l : Launch} {E : qs_E} {A : Nat → Prop} {D : qs_D} {X : Int32 × qs_D}  (hX : fX4_image  D = some X) : qs_Ctr l E A shX yX4_image mX4_image 3 qs_ri [.ref 0] D X := by
  refine qs_enter (plainFor_of_name (by decide)) rfl (Nat.le_of_ble_eq_true rfl) ?_ hX
  show qs_VO l E A shX mX4_image 3 qs_ri 0 [(0, .ref 0)] [] D (fX4_image  D)
  unfold fX4_image
  refine qs_aload_n dX4_image_0 rfl rfl rfl ?_
  refine qs_getR ffX4_16 rfl rfl dX4_image_1 rfl ?_
  refine qs_aload_n dX4_image_4 rfl rfl rfl ?_
  refine qs_getR ffX4_10 rfl rfl dX4_image_5 rfl ?_
  refine qs_cV1v cfX4_155 (Nat.le_of_ble_eq_true rfl) rfl rfl (fun Y hY => kX1_takeAll qs_k13 qs_k1 hY) (Nat.le_of_ble_eq_true rfl) dX4_image_8 rfl (fun x2 D1 g3 => ?_)
  refine qs_aload_n dX4_image_11 rfl rfl rfl ?_
  refine qs_iconst (1 : Int32) dX4_image_12 (by decide) rfl ?_
  refine qs_putZ (Or.inr rfl) fwX4_39 rfl rfl dX4_image_13 rfl (fun D4 => ?_)
  refine qs_iconst (1 : Int32) dX4_image_16 (by decide) rfl ?_
  exact qs_iret rfl dX4_image_17
abbrev mX4_undo : qs_M := (RX4, cX4_undo, 1, (some FieldType.int))
def fX4_undo (D : qs_D) : Option (Int32 × qs_D) := (if (D 0 6) = 0 then (qs_bind (fX4_found (3 : Int32) D) (fun x6 D5 => (some (x6, D5)))) else (qs_bind (fX1_takeAll 1 13 D) (fun x3 D2 => (some ((D2 1 3), D2)))))
set_option maxRecDepth 20000 in
theorem kX4_undo {l : Launch} {E : qs_E} {A : Nat → Prop} {D : qs_D} {X : Int32 × qs_D}  (hX : fX4_undo  D = some X) : qs_Ctr l E A shX yX4_undo mX4_undo 3 qs_ri [.ref 0] D X := by
  refine qs_enter (plainFor_of_name (by decide)) rfl (Nat.le_of_ble_eq_true rfl) ?_ hX
  show qs_VO l E A shX mX4_undo 3 qs_ri 0 [(0, .ref 0)] [] D (fX4_undo  D)
  unfold fX4_undo
  refine qs_aload_n dX4_undo_0 rfl rfl rfl ?_
  refine qs_getI ffX4_39 rfl rfl dX4_undo_1 rfl ?_
  refine qs_if_ne (tgt := 13) dX4_undo_4 (by decide) rfl (fun g1 => ?_) (fun g1 => ?_)
  · refine qs_aload_n dX4_undo_7 rfl rfl rfl ?_
    refine qs_iconst (3 : Int32) dX4_undo_8 (by decide) rfl ?_
    refine qs_cV1i cfX4_55 (Nat.le_of_ble_eq_true rfl) rfl rfl (fun Y hY => kX4_found  hY) (Nat.le_of_ble_eq_true rfl) dX4_undo_9 rfl (fun x6 D5 g7 => ?_)
    exact qs_iret rfl dX4_undo_12
  · refine qs_aload_n dX4_undo_13 rfl rfl rfl ?_
    refine qs_getR ffX4_10 rfl rfl dX4_undo_14 rfl ?_
    refine qs_aload_n dX4_undo_17 rfl rfl rfl ?_
    refine qs_getR ffX4_16 rfl rfl dX4_undo_18 rfl ?_
    refine qs_cV1v cfX4_155 (Nat.le_of_ble_eq_true rfl) rfl rfl (fun Y hY => kX1_takeAll qs_k1 qs_k13 hY) (Nat.le_of_ble_eq_true rfl) dX4_undo_21 rfl (fun x3 D2 g4 => ?_)
    refine qs_aload_n dX4_undo_24 rfl rfl rfl ?_
    refine qs_getR ffX4_10 rfl rfl dX4_undo_25 rfl ?_
    refine qs_getI ffX4_111 rfl rfl dX4_undo_28 rfl ?_
    exact qs_iret rfl dX4_undo_31
abbrev mX4_tear : qs_M := (RX4, cX4_tear, 2, (some FieldType.int))
def fX4_tear (D : qs_D) : Option (Int32 × qs_D) := (if (D 0 6) = 0 then (qs_let (0 : Int32) (fun v2 => (qs_let (qs_u D 0 6 (0 : Int32)) (fun D3 => (some (v2, D3)))))) else (qs_let (1 : Int32) (fun v4 => (qs_let (qs_u D 0 6 (0 : Int32)) (fun D5 => (some (v4, D5)))))))
set_option maxRecDepth 20000 in
theorem kX4_tear {l : Launch} {E : qs_E} {A : Nat → Prop} {D : qs_D} {X : Int32 × qs_D}  (hX : fX4_tear  D = some X) : qs_Ctr l E A shX yX4_tear mX4_tear 0 qs_ri [.ref 0] D X := by
  refine qs_enter (plainFor_of_name (by decide)) rfl (Nat.le_of_ble_eq_true rfl) ?_ hX
  show qs_VO l E A shX mX4_tear 0 qs_ri 0 [(0, .ref 0)] [] D (fX4_tear  D)
  unfold fX4_tear
  refine qs_aload_n dX4_tear_0 rfl rfl rfl ?_
  refine qs_getI ffX4_39 rfl rfl dX4_tear_1 rfl ?_
  refine qs_if_eq (tgt := 11) dX4_tear_4 (by decide) rfl (fun g1 => ?_) (fun g1 => ?_)
  · refine qs_iconst (0 : Int32) dX4_tear_11 (by decide) rfl ?_
    refine qs_istore_n (fun v2 => [(1, .int v2), (0, .ref 0)]) dX4_tear_12 rfl (by decide) (fun _ => rfl) rfl (fun v2 => ?_)
    refine qs_aload_n dX4_tear_13 rfl rfl rfl ?_
    refine qs_iconst (0 : Int32) dX4_tear_14 (by decide) rfl ?_
    refine qs_putZ (Or.inl rfl) fwX4_39 rfl rfl dX4_tear_15 rfl (fun D3 => ?_)
    refine qs_iload_n dX4_tear_18 rfl rfl rfl ?_
    exact qs_iret rfl dX4_tear_19
  · refine qs_iconst (1 : Int32) dX4_tear_7 (by decide) rfl ?_
    refine qs_goto (tgt := 12) dX4_tear_8 (by decide) ?_
    refine qs_istore_n (fun v4 => [(1, .int v4), (0, .ref 0)]) dX4_tear_12 rfl (by decide) (fun _ => rfl) rfl (fun v4 => ?_)
    refine qs_aload_n dX4_tear_13 rfl rfl rfl ?_
    refine qs_iconst (0 : Int32) dX4_tear_14 (by decide) rfl ?_
    refine qs_putZ (Or.inl rfl) fwX4_39 rfl rfl dX4_tear_15 rfl (fun D5 => ?_)
    refine qs_iload_n dX4_tear_18 rfl rfl rfl ?_
    exact qs_iret rfl dX4_tear_19
def fJ6_bitCount_0f7a4 (p0 : Int32) (D : qs_D) : Option (Int32 × qs_D) := (qs_let (p0 - (((p0.toUInt32 >>> ((1 : Int32).toUInt32 &&& Int32.toUInt32 31)).toInt32) &&& (1431655765 : Int32))) (fun v1 => (qs_let ((v1 &&& (858993459 : Int32)) + (((v1.toUInt32 >>> ((2 : Int32).toUInt32 &&& Int32.toUInt32 31)).toInt32) &&& (858993459 : Int32))) (fun v2 => (qs_let ((v2 + ((v2.toUInt32 >>> ((4 : Int32).toUInt32 &&& Int32.toUInt32 31)).toInt32)) &&& (252645135 : Int32)) (fun v3 => (qs_let (v3 + ((v3.toUInt32 >>> ((8 : Int32).toUInt32 &&& Int32.toUInt32 31)).toInt32)) (fun v4 => (qs_let (v4 + ((v4.toUInt32 >>> ((16 : Int32).toUInt32 &&& Int32.toUInt32 31)).toInt32)) (fun v5 => (some ((v5 &&& (63 : Int32)), D))))))))))))
set_option maxRecDepth 20000 in
theorem kJ6_bitCount_0f7a4 {l : Launch} {E : qs_E} {A : Nat → Prop} {p0 : Int32} {D : qs_D} {X : Int32 × qs_D}  (hX : fJ6_bitCount_0f7a4 p0 D = some X) : qs_Ctr l E A shX yJ6_bitCount_0f7a4 mJ6_bitCount_0f7a4 0 qs_ri [.int p0] D X := by
  refine qs_enter (by decide +kernel) rfl (Nat.le_of_ble_eq_true rfl) ?_ hX
  show qs_VO l E A shX mJ6_bitCount_0f7a4 0 qs_ri 0 [(0, .int p0)] [] D (fJ6_bitCount_0f7a4 p0 D)
  unfold fJ6_bitCount_0f7a4
  refine qs_iload_n dJ6_bitCount_0f7a4_0 rfl rfl rfl ?_
  refine qs_iload_n dJ6_bitCount_0f7a4_1 rfl rfl rfl ?_
  refine qs_iconst (1 : Int32) dJ6_bitCount_0f7a4_2 (by decide) rfl ?_
  refine qs_iushr dJ6_bitCount_0f7a4_3 rfl ?_
  refine qs_ldcw wcJ6_265 dJ6_bitCount_0f7a4_4 rfl ?_
  refine qs_iand dJ6_bitCount_0f7a4_7 rfl ?_
  refine qs_isub dJ6_bitCount_0f7a4_8 rfl ?_
  refine qs_istore_n (fun v1 => [(0, .int v1)]) dJ6_bitCount_0f7a4_9 rfl (by decide) (fun _ => rfl) rfl (fun v1 => ?_)
  refine qs_iload_n dJ6_bitCount_0f7a4_10 rfl rfl rfl ?_
  refine qs_ldcw wcJ6_266 dJ6_bitCount_0f7a4_11 rfl ?_
  refine qs_iand dJ6_bitCount_0f7a4_14 rfl ?_
  refine qs_iload_n dJ6_bitCount_0f7a4_15 rfl rfl rfl ?_
  refine qs_iconst (2 : Int32) dJ6_bitCount_0f7a4_16 (by decide) rfl ?_
  refine qs_iushr dJ6_bitCount_0f7a4_17 rfl ?_
  refine qs_ldcw wcJ6_266 dJ6_bitCount_0f7a4_18 rfl ?_
  refine qs_iand dJ6_bitCount_0f7a4_21 rfl ?_
  refine qs_iadd dJ6_bitCount_0f7a4_22 rfl ?_
  refine qs_istore_n (fun v2 => [(0, .int v2)]) dJ6_bitCount_0f7a4_23 rfl (by decide) (fun _ => rfl) rfl (fun v2 => ?_)
  refine qs_iload_n dJ6_bitCount_0f7a4_24 rfl rfl rfl ?_
  refine qs_iload_n dJ6_bitCount_0f7a4_25 rfl rfl rfl ?_
  refine qs_iconst (4 : Int32) dJ6_bitCount_0f7a4_26 (by decide) rfl ?_
  refine qs_iushr dJ6_bitCount_0f7a4_27 rfl ?_
  refine qs_iadd dJ6_bitCount_0f7a4_28 rfl ?_
  refine qs_ldcw wcJ6_267 dJ6_bitCount_0f7a4_29 rfl ?_
  refine qs_iand dJ6_bitCount_0f7a4_32 rfl ?_
  refine qs_istore_n (fun v3 => [(0, .int v3)]) dJ6_bitCount_0f7a4_33 rfl (by decide) (fun _ => rfl) rfl (fun v3 => ?_)
  refine qs_iload_n dJ6_bitCount_0f7a4_34 rfl rfl rfl ?_
  refine qs_iload_n dJ6_bitCount_0f7a4_35 rfl rfl rfl ?_
  refine qs_bipush (8 : Int32) dJ6_bitCount_0f7a4_36 (by decide) rfl ?_
  refine qs_iushr dJ6_bitCount_0f7a4_38 rfl ?_
  refine qs_iadd dJ6_bitCount_0f7a4_39 rfl ?_
  refine qs_istore_n (fun v4 => [(0, .int v4)]) dJ6_bitCount_0f7a4_40 rfl (by decide) (fun _ => rfl) rfl (fun v4 => ?_)
  refine qs_iload_n dJ6_bitCount_0f7a4_41 rfl rfl rfl ?_
  refine qs_iload_n dJ6_bitCount_0f7a4_42 rfl rfl rfl ?_
  refine qs_bipush (16 : Int32) dJ6_bitCount_0f7a4_43 (by decide) rfl ?_
  refine qs_iushr dJ6_bitCount_0f7a4_45 rfl ?_
  refine qs_iadd dJ6_bitCount_0f7a4_46 rfl ?_
  refine qs_istore_n (fun v5 => [(0, .int v5)]) dJ6_bitCount_0f7a4_47 rfl (by decide) (fun _ => rfl) rfl (fun v5 => ?_)
  refine qs_iload_n dJ6_bitCount_0f7a4_48 rfl rfl rfl ?_
  refine qs_bipush (63 : Int32) dJ6_bitCount_0f7a4_49 (by decide) rfl ?_
  refine qs_iand dJ6_bitCount_0f7a4_51 rfl ?_
  exact qs_iret rfl dJ6_bitCount_0f7a4_52
abbrev mX4_count : qs_M := (RX4, cX4_count, 2, (some FieldType.int))
def fX4_count (p1 : Int32) (D : qs_D) : Option (Int32 × qs_D) := (if p1 = (0 : Int32) then (some ((D 1 3), D)) else (if p1 = (1 : Int32) then (some ((D 1 5), D)) else (if p1 = (2 : Int32) then (some ((D 1 0), D)) else (if p1 = (3 : Int32) then (some ((D 1 2), D)) else (if p1 = (4 : Int32) then (qs_bind (fX1_splitSet 1 D) (fun x7 D6 => (qs_bind (fJ6_bitCount_0f7a4 x7 D6) (fun x10 D9 => (some (x10, D9)))))) else (if p1 = (5 : Int32) then (some ((D 37 1), D)) else (if p1 = (6 : Int32) then (some ((D 1 4), D)) else (if p1 = (7 : Int32) then (qs_bind (fX1_heldSpots 1 D) (fun x16 D15 => (some (x16, D15)))) else (qs_bind (fX4_found (0 : Int32) D) (fun x19 D18 => (some (x19, D18))))))))))))
set_option maxRecDepth 20000 in
theorem kX4_count {l : Launch} {E : qs_E} {A : Nat → Prop} {p1 : Int32} {D : qs_D} {X : Int32 × qs_D}  (hX : fX4_count p1 D = some X) : qs_Ctr l E A shX yX4_count mX4_count 1 qs_ri [.ref 0, .int p1] D X := by
  refine qs_enter (plainFor_of_name (by decide)) rfl (Nat.le_of_ble_eq_true rfl) ?_ hX
  show qs_VO l E A shX mX4_count 1 qs_ri 0 [(0, .ref 0), (1, .int p1)] [] D (fX4_count p1 D)
  unfold fX4_count
  refine qs_iload_n dX4_count_0 rfl rfl rfl ?_
  refine qs_ite (fun g1 => ?_) (fun g1 => ?_)
  · refine qs_tsIn (off := 47) (tgt := 48) dX4_count_1 (by rw [g1]; decide) (by rw [g1]; decide) (by rw [g1]; rfl) (by decide) ?_
    refine qs_aload_n dX4_count_48 rfl rfl rfl ?_
    refine qs_getR ffX4_10 rfl rfl dX4_count_49 rfl ?_
    refine qs_getI ffX4_111 rfl rfl dX4_count_52 rfl ?_
    exact qs_iret rfl dX4_count_55
  · refine qs_ite (fun g2 => ?_) (fun g2 => ?_)
    · refine qs_tsIn (off := 55) (tgt := 56) dX4_count_1 (by rw [g2]; decide) (by rw [g2]; decide) (by rw [g2]; rfl) (by decide) ?_
      refine qs_aload_n dX4_count_56 rfl rfl rfl ?_
      refine qs_getR ffX4_10 rfl rfl dX4_count_57 rfl ?_
      refine qs_getI ffX4_72 rfl rfl dX4_count_60 rfl ?_
      exact qs_iret rfl dX4_count_63
    · refine qs_ite (fun g3 => ?_) (fun g3 => ?_)
      · refine qs_tsIn (off := 63) (tgt := 64) dX4_count_1 (by rw [g3]; decide) (by rw [g3]; decide) (by rw [g3]; rfl) (by decide) ?_
        refine qs_aload_n dX4_count_64 rfl rfl rfl ?_
        refine qs_getR ffX4_10 rfl rfl dX4_count_65 rfl ?_
        refine qs_getI ffX4_48 rfl rfl dX4_count_68 rfl ?_
        exact qs_iret rfl dX4_count_71
      · refine qs_ite (fun g4 => ?_) (fun g4 => ?_)
        · refine qs_tsIn (off := 71) (tgt := 72) dX4_count_1 (by rw [g4]; decide) (by rw [g4]; decide) (by rw [g4]; rfl) (by decide) ?_
          refine qs_aload_n dX4_count_72 rfl rfl rfl ?_
          refine qs_getR ffX4_10 rfl rfl dX4_count_73 rfl ?_
          refine qs_getI ffX4_119 rfl rfl dX4_count_76 rfl ?_
          exact qs_iret rfl dX4_count_79
        · refine qs_ite (fun g5 => ?_) (fun g5 => ?_)
          · refine qs_tsIn (off := 79) (tgt := 80) dX4_count_1 (by rw [g5]; decide) (by rw [g5]; decide) (by rw [g5]; rfl) (by decide) ?_
            refine qs_aload_n dX4_count_80 rfl rfl rfl ?_
            refine qs_getR ffX4_10 rfl rfl dX4_count_81 rfl ?_
            refine qs_cV0i cfX4_122 (Nat.le_of_ble_eq_true rfl) rfl rfl (fun Y hY => kX1_splitSet qs_k1 hY) (Nat.le_of_ble_eq_true rfl) dX4_count_84 rfl (fun x7 D6 g8 => ?_)
            refine qs_cS1i cfX4_234 (Nat.le_of_ble_eq_true rfl) (fun Y hY => kJ6_bitCount_0f7a4  hY) (Nat.le_of_ble_eq_true rfl) dX4_count_87 rfl (fun x10 D9 g11 => ?_)
            exact qs_iret rfl dX4_count_90
          · refine qs_ite (fun g12 => ?_) (fun g12 => ?_)
            · refine qs_tsIn (off := 90) (tgt := 91) dX4_count_1 (by rw [g12]; decide) (by rw [g12]; decide) (by rw [g12]; rfl) (by decide) ?_
              refine qs_aload_n dX4_count_91 rfl rfl rfl ?_
              refine qs_getR ffX4_25 rfl rfl dX4_count_92 rfl ?_
              refine qs_getI ffX4_184 rfl rfl dX4_count_95 rfl ?_
              exact qs_iret rfl dX4_count_98
            · refine qs_ite (fun g13 => ?_) (fun g13 => ?_)
              · refine qs_tsIn (off := 98) (tgt := 99) dX4_count_1 (by rw [g13]; decide) (by rw [g13]; decide) (by rw [g13]; rfl) (by decide) ?_
                refine qs_aload_n dX4_count_99 rfl rfl rfl ?_
                refine qs_getR ffX4_10 rfl rfl dX4_count_100 rfl ?_
                refine qs_getI ffX4_181 rfl rfl dX4_count_103 rfl ?_
                exact qs_iret rfl dX4_count_106
              · refine qs_ite (fun g14 => ?_) (fun g14 => ?_)
                · refine qs_tsIn (off := 106) (tgt := 107) dX4_count_1 (by rw [g14]; decide) (by rw [g14]; decide) (by rw [g14]; rfl) (by decide) ?_
                  refine qs_aload_n dX4_count_107 rfl rfl rfl ?_
                  refine qs_getR ffX4_10 rfl rfl dX4_count_108 rfl ?_
                  refine qs_cV0i cfX4_239 (Nat.le_of_ble_eq_true rfl) rfl rfl (fun Y hY => kX1_heldSpots qs_k1 hY) (Nat.le_of_ble_eq_true rfl) dX4_count_111 rfl (fun x16 D15 g17 => ?_)
                  exact qs_iret rfl dX4_count_114
                · refine qs_tsOut (tgt := 115) dX4_count_1 (by have eg1 := lv_neT (a := 0) g1 rfl; have eg2 := lv_neT (a := 1) g2 rfl; have eg3 := lv_neT (a := 2) g3 rfl; have eg4 := lv_neT (a := 3) g4 rfl; have eg5 := lv_neT (a := 4) g5 rfl; have eg12 := lv_neT (a := 5) g12 rfl; have eg13 := lv_neT (a := 6) g13 rfl; have eg14 := lv_neT (a := 7) g14 rfl; omega) (by decide) ?_
                  refine qs_aload_n dX4_count_115 rfl rfl rfl ?_
                  refine qs_iconst (0 : Int32) dX4_count_116 (by decide) rfl ?_
                  refine qs_cV1i cfX4_55 (Nat.le_of_ble_eq_true rfl) rfl rfl (fun Y hY => kX4_found  hY) (Nat.le_of_ble_eq_true rfl) dX4_count_117 rfl (fun x19 D18 g20 => ?_)
                  exact qs_iret rfl dX4_count_120
