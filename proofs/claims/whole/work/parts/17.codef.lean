abbrev mX4_status : qs_M := (RX4, cX4_status, 7, (some FieldType.int))
def fX4_status_L41 : Nat → Int32 → Int32 → Int32 → Int32 → qs_D → Option (Int32 × qs_D)
  | 0, _, _, _, _, _ => none
  | n + 1, w1, w2, w4, w5, D => (if w4 ≤ w5 then (some (w2, D)) else (qs_g w5 7 (qs_let (D 40 w5.toNatClampNeg) (fun v11 => (qs_let (w2 + v11) (fun v12 => (qs_let (w5 + (1 : Int32)) (fun v13 => (fX4_status_L41 n w1 v12 w4 v13 D)))))))))
set_option maxRecDepth 20000 in
theorem lX4_status_L41 {l : Launch} {E : qs_E} {A : Nat → Prop}  : ∀ (n : Nat) (w1 : Int32) (w2 : Int32) (w4 : Int32) (w5 : Int32) (D : qs_D), qs_VO l E A shX mX4_status 1 qs_ri 41 [(0, .ref 0), (1, .int w1), (2, .int w2), (3, .ref 40), (4, .int w4), (5, .int w5)] [] D (fX4_status_L41 n w1 w2 w4 w5 D) := by
  intro n
  induction n with
  | zero => intro w1 w2 w4 w5 D; exact qs_none
  | succ n ih =>
    intro w1 w2 w4 w5 D
    unfold fX4_status_L41
    refine qs_iload dX4_status_41 rfl rfl ?_
    refine qs_iload dX4_status_43 rfl rfl ?_
    refine qs_icmp_ge (tgt := 65) dX4_status_45 (by decide) rfl (fun g9 => ?_) (fun g9 => ?_)
    · refine qs_iload_n dX4_status_65 rfl rfl rfl ?_
      exact qs_iret rfl dX4_status_66
    · refine qs_aload_n dX4_status_48 rfl rfl rfl ?_
      refine qs_iload dX4_status_49 rfl rfl ?_
      refine qs_iald rfl (by decide) dX4_status_51 rfl (fun g10 => ?_)
      refine qs_istore (fun v11 => [(6, .int v11), (0, .ref 0), (1, .int w1), (2, .int w2), (3, .ref 40), (4, .int w4), (5, .int w5)]) dX4_status_52 (by decide) (fun _ => rfl) rfl (fun v11 => ?_)
      refine qs_iload_n dX4_status_54 rfl rfl rfl ?_
      refine qs_iload dX4_status_55 rfl rfl ?_
      refine qs_iadd dX4_status_57 rfl ?_
      refine qs_istore_n (fun v12 => [(2, .int v12), (6, .int v11), (0, .ref 0), (1, .int w1), (3, .ref 40), (4, .int w4), (5, .int w5)]) dX4_status_58 rfl (by decide) (fun _ => rfl) rfl (fun v12 => ?_)
      refine qs_iinc (fun v13 => [(5, .int v13), (2, .int v12), (6, .int v11), (0, .ref 0), (1, .int w1), (3, .ref 40), (4, .int w4)]) (1 : Int32) dX4_status_59 rfl (by decide) (by decide) (fun _ => rfl) rfl (fun v13 => ?_)
      refine qs_goto (tgt := 41) dX4_status_62 (by decide) ?_
      exact qs_sub [3, 4, 1, 5, 6, 0] rfl (ih w1 v12 w4 v13 D)
def fX4_status (p1 : Int32) (D : qs_D) : Option (Int32 × qs_D) := (qs_bind (fX4_within p1 (-1 : Int32) (6 : Int32) D) (fun x2 D1 => (if x2 = 0 then (qs_bind (fX4_found (0 : Int32) D1) (fun x16 D15 => (some (x16, D15)))) else (if p1 < 0 then (qs_let (0 : Int32) (fun v6 => (qs_let (Int32.ofNat 7) (fun v7 => (qs_let (0 : Int32) (fun v8 => (fX4_status_L41 qs_F p1 v6 v7 v8 D1))))))) else (qs_g p1 7 (some ((D1 40 p1.toNatClampNeg), D1)))))))
set_option maxRecDepth 20000 in
theorem kX4_status {l : Launch} {E : qs_E} {A : Nat → Prop} {p1 : Int32} {D : qs_D} {X : Int32 × qs_D}  (hX : fX4_status p1 D = some X) : qs_Ctr l E A shX yX4_status mX4_status 1 qs_ri [.ref 0, .int p1] D X := by
  refine qs_enter (plainFor_of_name (by decide)) rfl (Nat.le_of_ble_eq_true rfl) ?_ hX
  show qs_VO l E A shX mX4_status 1 qs_ri 0 [(0, .ref 0), (1, .int p1)] [] D (fX4_status p1 D)
  unfold fX4_status
  refine qs_iload_n dX4_status_0 rfl rfl rfl ?_
  refine qs_iconst (-1 : Int32) dX4_status_1 (by decide) rfl ?_
  refine qs_bipush (6 : Int32) dX4_status_2 (by decide) rfl ?_
  refine qs_cS3i cfX4_44 (Nat.le_of_ble_eq_true rfl) (fun Y hY => kX4_within  hY) (Nat.le_of_ble_eq_true rfl) dX4_status_4 rfl (fun x2 D1 g3 => ?_)
  refine qs_if_ne (tgt := 16) dX4_status_7 (by decide) rfl (fun g4 => ?_) (fun g4 => ?_)
  · refine qs_aload_n dX4_status_10 rfl rfl rfl ?_
    refine qs_iconst (0 : Int32) dX4_status_11 (by decide) rfl ?_
    refine qs_cV1i cfX4_55 (Nat.le_of_ble_eq_true rfl) rfl rfl (fun Y hY => kX4_found  hY) (Nat.le_of_ble_eq_true rfl) dX4_status_12 rfl (fun x16 D15 g17 => ?_)
    exact qs_iret rfl dX4_status_15
  · refine qs_iload_n dX4_status_16 rfl rfl rfl ?_
    refine qs_if_lt (tgt := 27) dX4_status_17 (by decide) rfl (fun g5 => ?_) (fun g5 => ?_)
    · refine qs_iconst (0 : Int32) dX4_status_27 (by decide) rfl ?_
      refine qs_istore_n (fun v6 => [(2, .int v6), (0, .ref 0), (1, .int p1)]) dX4_status_28 rfl (by decide) (fun _ => rfl) rfl (fun v6 => ?_)
      refine qs_aload_n dX4_status_29 rfl rfl rfl ?_
      refine qs_getR ffX4_35 rfl rfl dX4_status_30 rfl ?_
      refine qs_astore_n [(3, .ref 40), (2, .int v6), (0, .ref 0), (1, .int p1)] dX4_status_33 rfl (by decide) rfl rfl ?_
      refine qs_aload_n dX4_status_34 rfl rfl rfl ?_
      refine qs_alen rfl dX4_status_35 rfl ?_
      refine qs_istore (fun v7 => [(4, .int v7), (3, .ref 40), (2, .int v6), (0, .ref 0), (1, .int p1)]) dX4_status_36 (by decide) (fun _ => rfl) rfl (fun v7 => ?_)
      refine qs_iconst (0 : Int32) dX4_status_38 (by decide) rfl ?_
      refine qs_istore (fun v8 => [(5, .int v8), (4, .int v7), (3, .ref 40), (2, .int v6), (0, .ref 0), (1, .int p1)]) dX4_status_39 (by decide) (fun _ => rfl) rfl (fun v8 => ?_)
      exact qs_sub [4, 5, 3, 2, 1, 0] rfl (lX4_status_L41 qs_F p1 v6 v7 v8 D1)
    · refine qs_aload_n dX4_status_20 rfl rfl rfl ?_
      refine qs_getR ffX4_35 rfl rfl dX4_status_21 rfl ?_
      refine qs_iload_n dX4_status_24 rfl rfl rfl ?_
      refine qs_iald rfl (by decide) dX4_status_25 rfl (fun g14 => ?_)
      exact qs_iret rfl dX4_status_26
def fX5_finds (p1 : Int32) (D : qs_D) : Option (Int32 × qs_D) := (qs_g ((-1000001 : Int32) - p1) 7 (qs_g ((-1000001 : Int32) - p1) 7 (qs_let (qs_u D 4 ((-1000001 : Int32) - p1).toNatClampNeg ((D 4 ((-1000001 : Int32) - p1).toNatClampNeg) + (1 : Int32))) (fun D2 => (some (p1, D2))))))
set_option maxRecDepth 20000 in
theorem kX5_finds {l : Launch} {E : qs_E} {A : Nat → Prop} {p1 : Int32} {D : qs_D} {X : Int32 × qs_D}  (hX : fX5_finds p1 D = some X) : qs_Ctr l E A shM yX5_finds mX5_finds 0 qs_ri [.ref 0, .int p1] D X := by
  refine qs_enter (plainFor_of_name (by decide)) rfl (Nat.le_of_ble_eq_true rfl) ?_ hX
  show qs_VO l E A shM mX5_finds 0 qs_ri 0 [(0, .ref 0), (1, .int p1)] [] D (fX5_finds p1 D)
  unfold fX5_finds
  refine qs_aload_n dX5_finds_0 rfl rfl rfl ?_
  refine qs_getR ffX5_19 rfl rfl dX5_finds_1 rfl ?_
  refine qs_ldc wcX5_34 dX5_finds_4 rfl ?_
  refine qs_iload_n dX5_finds_6 rfl rfl rfl ?_
  refine qs_isub dX5_finds_7 rfl ?_
  refine qs_dup2 dX5_finds_8 rfl rfl rfl ?_
  refine qs_iald rfl (by decide) dX5_finds_9 rfl (fun g1 => ?_)
  refine qs_iconst (1 : Int32) dX5_finds_10 (by decide) rfl ?_
  refine qs_iadd dX5_finds_11 rfl ?_
  refine qs_iast rfl (by decide) dX5_finds_12 rfl (fun D2 => ?_)
  refine qs_iload_n dX5_finds_13 rfl rfl rfl ?_
  exact qs_iret rfl dX5_finds_14
def fX5_orNone (p1 : Int32) (D : qs_D) : Option (Int32 × qs_D) := (if 0 ≤ p1 then (some (p1, D)) else (qs_bind (fX5_finds (-1000004 : Int32) D) (fun x3 D2 => (some (x3, D2)))))
set_option maxRecDepth 20000 in
theorem kX5_orNone {l : Launch} {E : qs_E} {A : Nat → Prop} {p1 : Int32} {D : qs_D} {X : Int32 × qs_D}  (hX : fX5_orNone p1 D = some X) : qs_Ctr l E A shM yX5_orNone mX5_orNone 1 qs_ri [.ref 0, .int p1] D X := by
  refine qs_enter (plainFor_of_name (by decide)) rfl (Nat.le_of_ble_eq_true rfl) ?_ hX
  show qs_VO l E A shM mX5_orNone 1 qs_ri 0 [(0, .ref 0), (1, .int p1)] [] D (fX5_orNone p1 D)
  unfold fX5_orNone
  refine qs_iload_n dX5_orNone_0 rfl rfl rfl ?_
  refine qs_if_ge (tgt := 13) dX5_orNone_1 (by decide) rfl (fun g1 => ?_) (fun g1 => ?_)
  · refine qs_iload_n dX5_orNone_13 rfl rfl rfl ?_
    exact qs_iret rfl dX5_orNone_14
  · refine qs_aload_n dX5_orNone_4 rfl rfl rfl ?_
    refine qs_ldc wcX5_35 dX5_orNone_5 rfl ?_
    refine qs_cV1i cfX5_36 (Nat.le_of_ble_eq_true rfl) rfl rfl (fun Y hY => kX5_finds  hY) (Nat.le_of_ble_eq_true rfl) dX5_orNone_7 rfl (fun x3 D2 g4 => ?_)
    refine qs_goto (tgt := 14) dX5_orNone_10 (by decide) ?_
    exact qs_iret rfl dX5_orNone_14
def fX5_in (p0 : Int32) (p1 : Int32) (p2 : Int32) (D : qs_D) : Option (Int32 × qs_D) := (if p0 < p1 then (some ((0 : Int32), D)) else (if p2 < p0 then (some ((0 : Int32), D)) else (some ((1 : Int32), D))))
set_option maxRecDepth 20000 in
theorem kX5_in {l : Launch} {E : qs_E} {A : Nat → Prop} {p0 : Int32} {p1 : Int32} {p2 : Int32} {D : qs_D} {X : Int32 × qs_D}  (hX : fX5_in p0 p1 p2 D = some X) : qs_Ctr l E A shM yX5_in mX5_in 0 qs_ri [.int p0, .int p1, .int p2] D X := by
  refine qs_enter (plainFor_of_name (by decide)) rfl (Nat.le_of_ble_eq_true rfl) ?_ hX
  show qs_VO l E A shM mX5_in 0 qs_ri 0 [(0, .int p0), (1, .int p1), (2, .int p2)] [] D (fX5_in p0 p1 p2 D)
  unfold fX5_in
  refine qs_iload_n dX5_in_0 rfl rfl rfl ?_
  refine qs_iload_n dX5_in_1 rfl rfl rfl ?_
  refine qs_icmp_lt (tgt := 14) dX5_in_2 (by decide) rfl (fun g1 => ?_) (fun g1 => ?_)
  · refine qs_iconst (0 : Int32) dX5_in_14 (by decide) rfl ?_
    exact qs_zret (Or.inl rfl) rfl dX5_in_15
  · refine qs_iload_n dX5_in_5 rfl rfl rfl ?_
    refine qs_iload_n dX5_in_6 rfl rfl rfl ?_
    refine qs_icmp_gt (tgt := 14) dX5_in_7 (by decide) rfl (fun g2 => ?_) (fun g2 => ?_)
    · refine qs_iconst (0 : Int32) dX5_in_14 (by decide) rfl ?_
      exact qs_zret (Or.inl rfl) rfl dX5_in_15
    · refine qs_iconst (1 : Int32) dX5_in_10 (by decide) rfl ?_
      refine qs_goto (tgt := 15) dX5_in_11 (by decide) ?_
      exact qs_zret (Or.inr rfl) rfl dX5_in_15
def fX5_held (p0 : Int32) (p1 : Int32) (p2 : Int32) (D : qs_D) : Option (Int32 × qs_D) := (if p1 ≤ p0 then (if p0 ≤ p2 then (some (p0, D)) else (some (p2, D))) else (some (p1, D)))
set_option maxRecDepth 20000 in
theorem kX5_held {l : Launch} {E : qs_E} {A : Nat → Prop} {p0 : Int32} {p1 : Int32} {p2 : Int32} {D : qs_D} {X : Int32 × qs_D}  (hX : fX5_held p0 p1 p2 D = some X) : qs_Ctr l E A shM yX5_held mX5_held 0 qs_ri [.int p0, .int p1, .int p2] D X := by
  refine qs_enter (plainFor_of_name (by decide)) rfl (Nat.le_of_ble_eq_true rfl) ?_ hX
  show qs_VO l E A shM mX5_held 0 qs_ri 0 [(0, .int p0), (1, .int p1), (2, .int p2)] [] D (fX5_held p0 p1 p2 D)
  unfold fX5_held
  refine qs_iload_n dX5_held_0 rfl rfl rfl ?_
  refine qs_iload_n dX5_held_1 rfl rfl rfl ?_
  refine qs_icmp_ge (tgt := 9) dX5_held_2 (by decide) rfl (fun g1 => ?_) (fun g1 => ?_)
  · refine qs_iload_n dX5_held_9 rfl rfl rfl ?_
    refine qs_iload_n dX5_held_10 rfl rfl rfl ?_
    refine qs_icmp_le (tgt := 18) dX5_held_11 (by decide) rfl (fun g2 => ?_) (fun g2 => ?_)
    · refine qs_iload_n dX5_held_18 rfl rfl rfl ?_
      exact qs_iret rfl dX5_held_19
    · refine qs_iload_n dX5_held_14 rfl rfl rfl ?_
      refine qs_goto (tgt := 19) dX5_held_15 (by decide) ?_
      exact qs_iret rfl dX5_held_19
  · refine qs_iload_n dX5_held_5 rfl rfl rfl ?_
    refine qs_goto (tgt := 19) dX5_held_6 (by decide) ?_
    exact qs_iret rfl dX5_held_19
def fX5_copyAll_L2 (r0 r1 : Nat) : Nat → Int32 → qs_D → Option (Unit × qs_D)
  | 0, _, _ => none
  | n + 1, w2, D => (if (70 : Int32) ≤ w2 then (some ((), D)) else (qs_g w2 70 (qs_g w2 70 (qs_let (qs_u D r1 w2.toNatClampNeg (D r0 w2.toNatClampNeg)) (fun D4 => (qs_let (w2 + (1 : Int32)) (fun v5 => (fX5_copyAll_L2 r0 r1 n v5 D4))))))))
set_option maxRecDepth 20000 in
theorem lX5_copyAll_L2 {l : Launch} {E : qs_E} {A : Nat → Prop} {r0 r1 : Nat} (h0 : shM[r0]? = some (.inr (0, 70, fun _ => none))) (h1 : shM[r1]? = some (.inr (0, 70, fun _ => none))) : ∀ (n : Nat) (w2 : Int32) (D : qs_D), qs_VO l E A shM mX5_copyAll 0 qs_rv 2 [(0, .ref r0), (1, .ref r1), (2, .int w2)] [] D (fX5_copyAll_L2 r0 r1 n w2 D) := by
  intro n
  induction n with
  | zero => intro w2 D; exact qs_none
  | succ n ih =>
    intro w2 D
    unfold fX5_copyAll_L2
    refine qs_iload_n dX5_copyAll_2 rfl rfl rfl ?_
    refine qs_bipush (70 : Int32) dX5_copyAll_3 (by decide) rfl ?_
    refine qs_icmp_ge (tgt := 20) dX5_copyAll_5 (by decide) rfl (fun g2 => ?_) (fun g2 => ?_)
    · exact qs_vret rfl dX5_copyAll_20
    · refine qs_aload_n dX5_copyAll_8 rfl rfl rfl ?_
      refine qs_iload_n dX5_copyAll_9 rfl rfl rfl ?_
      refine qs_aload_n dX5_copyAll_10 rfl rfl rfl ?_
      refine qs_iload_n dX5_copyAll_11 rfl rfl rfl ?_
      refine qs_iald h0 (by decide) dX5_copyAll_12 rfl (fun g3 => ?_)
      refine qs_iast h1 (by decide) dX5_copyAll_13 rfl (fun D4 => ?_)
      refine qs_iinc (fun v5 => [(2, .int v5), (0, .ref r0), (1, .ref r1)]) (1 : Int32) dX5_copyAll_14 rfl (by decide) (by decide) (fun _ => rfl) rfl (fun v5 => ?_)
      refine qs_goto (tgt := 2) dX5_copyAll_17 (by decide) ?_
      exact qs_sub [1, 2, 0] rfl (ih v5 D4)
def fX5_copyAll (r0 : Nat) (r1 : Nat) (D : qs_D) : Option (Unit × qs_D) := (qs_let (0 : Int32) (fun v1 => (fX5_copyAll_L2 r0 r1 qs_F v1 D)))
set_option maxRecDepth 20000 in
theorem kX5_copyAll {l : Launch} {E : qs_E} {A : Nat → Prop} {r0 : Nat} {r1 : Nat} {D : qs_D} {X : Unit × qs_D} (h0 : shM[r0]? = some (.inr (0, 70, fun _ => none))) (h1 : shM[r1]? = some (.inr (0, 70, fun _ => none))) (hX : fX5_copyAll r0 r1 D = some X) : qs_Ctr l E A shM yX5_copyAll mX5_copyAll 0 qs_rv [.ref r0, .ref r1] D X := by
  refine qs_enter (plainFor_of_name (by decide)) rfl (Nat.le_of_ble_eq_true rfl) ?_ hX
  show qs_VO l E A shM mX5_copyAll 0 qs_rv 0 [(0, .ref r0), (1, .ref r1)] [] D (fX5_copyAll r0 r1 D)
  unfold fX5_copyAll
  refine qs_iconst (0 : Int32) dX5_copyAll_0 (by decide) rfl ?_
  refine qs_istore_n (fun v1 => [(2, .int v1), (0, .ref r0), (1, .ref r1)]) dX5_copyAll_1 rfl (by decide) (fun _ => rfl) rfl (fun v1 => ?_)
  exact qs_sub [1, 2, 0] rfl (lX5_copyAll_L2 h0 h1 qs_F v1 D)
def fX5_becomes (p1 : Int32) (p2 : Int32) (D : qs_D) : Option (Int32 × qs_D) := (qs_g p1 70 (qs_let (D 1 p1.toNatClampNeg) (fun v2 => (qs_g p1 70 (qs_let (qs_u D 1 p1.toNatClampNeg p2) (fun D3 => (some (v2, D3))))))))
set_option maxRecDepth 20000 in
theorem kX5_becomes {l : Launch} {E : qs_E} {A : Nat → Prop} {p1 : Int32} {p2 : Int32} {D : qs_D} {X : Int32 × qs_D}  (hX : fX5_becomes p1 p2 D = some X) : qs_Ctr l E A shM yX5_becomes mX5_becomes 0 qs_ri [.ref 0, .int p1, .int p2] D X := by
  refine qs_enter (plainFor_of_name (by decide)) rfl (Nat.le_of_ble_eq_true rfl) ?_ hX
  show qs_VO l E A shM mX5_becomes 0 qs_ri 0 [(0, .ref 0), (1, .int p1), (2, .int p2)] [] D (fX5_becomes p1 p2 D)
  unfold fX5_becomes
  refine qs_aload_n dX5_becomes_0 rfl rfl rfl ?_
  refine qs_getR ffX5_9 rfl rfl dX5_becomes_1 rfl ?_
  refine qs_iload_n dX5_becomes_4 rfl rfl rfl ?_
  refine qs_iald rfl (by decide) dX5_becomes_5 rfl (fun g1 => ?_)
  refine qs_istore_n (fun v2 => [(3, .int v2), (0, .ref 0), (1, .int p1), (2, .int p2)]) dX5_becomes_6 rfl (by decide) (fun _ => rfl) rfl (fun v2 => ?_)
  refine qs_aload_n dX5_becomes_7 rfl rfl rfl ?_
  refine qs_getR ffX5_9 rfl rfl dX5_becomes_8 rfl ?_
  refine qs_iload_n dX5_becomes_11 rfl rfl rfl ?_
  refine qs_iload_n dX5_becomes_12 rfl rfl rfl ?_
  refine qs_iast rfl (by decide) dX5_becomes_13 rfl (fun D3 => ?_)
  refine qs_iload_n dX5_becomes_14 rfl rfl rfl ?_
  exact qs_iret rfl dX5_becomes_15
def fX5_isDish (p1 : Int32) (D : qs_D) : Option (Int32 × qs_D) := (qs_g (5 : Int32) 70 (qs_bind (fX5_in p1 (0 : Int32) ((D 1 (5 : Int32).toNatClampNeg) - (1 : Int32)) D) (fun x3 D2 => (qs_gb x3 (some (x3, D2))))))
set_option maxRecDepth 20000 in
theorem kX5_isDish {l : Launch} {E : qs_E} {A : Nat → Prop} {p1 : Int32} {D : qs_D} {X : Int32 × qs_D}  (hX : fX5_isDish p1 D = some X) : qs_Ctr l E A shM yX5_isDish mX5_isDish 1 qs_ri [.ref 0, .int p1] D X := by
  refine qs_enter (plainFor_of_name (by decide)) rfl (Nat.le_of_ble_eq_true rfl) ?_ hX
  show qs_VO l E A shM mX5_isDish 1 qs_ri 0 [(0, .ref 0), (1, .int p1)] [] D (fX5_isDish p1 D)
  unfold fX5_isDish
  refine qs_iload_n dX5_isDish_0 rfl rfl rfl ?_
  refine qs_iconst (0 : Int32) dX5_isDish_1 (by decide) rfl ?_
  refine qs_aload_n dX5_isDish_2 rfl rfl rfl ?_
  refine qs_getR ffX5_9 rfl rfl dX5_isDish_3 rfl ?_
  refine qs_iconst (5 : Int32) dX5_isDish_6 (by decide) rfl ?_
  refine qs_iald rfl (by decide) dX5_isDish_7 rfl (fun g1 => ?_)
  refine qs_iconst (1 : Int32) dX5_isDish_8 (by decide) rfl ?_
  refine qs_isub dX5_isDish_9 rfl ?_
  refine qs_cS3i cfX5_40 (Nat.le_of_ble_eq_true rfl) (fun Y hY => kX5_in  hY) (Nat.le_of_ble_eq_true rfl) dX5_isDish_10 rfl (fun x3 D2 g4 => ?_)
  exact qs_zretB rfl dX5_isDish_13
def fX5_isDeed (p0 : Int32) (D : qs_D) : Option (Int32 × qs_D) := (qs_bind (fX5_in p0 (0 : Int32) (11 : Int32) D) (fun x2 D1 => (qs_gb x2 (some (x2, D1)))))
set_option maxRecDepth 20000 in
theorem kX5_isDeed {l : Launch} {E : qs_E} {A : Nat → Prop} {p0 : Int32} {D : qs_D} {X : Int32 × qs_D}  (hX : fX5_isDeed p0 D = some X) : qs_Ctr l E A shM yX5_isDeed mX5_isDeed 1 qs_ri [.int p0] D X := by
  refine qs_enter (plainFor_of_name (by decide)) rfl (Nat.le_of_ble_eq_true rfl) ?_ hX
  show qs_VO l E A shM mX5_isDeed 1 qs_ri 0 [(0, .int p0)] [] D (fX5_isDeed p0 D)
  unfold fX5_isDeed
  refine qs_iload_n dX5_isDeed_0 rfl rfl rfl ?_
  refine qs_iconst (0 : Int32) dX5_isDeed_1 (by decide) rfl ?_
  refine qs_bipush (11 : Int32) dX5_isDeed_2 (by decide) rfl ?_
  refine qs_cS3i cfX5_40 (Nat.le_of_ble_eq_true rfl) (fun Y hY => kX5_in  hY) (Nat.le_of_ble_eq_true rfl) dX5_isDeed_4 rfl (fun x2 D1 g3 => ?_)
  exact qs_zretB rfl dX5_isDeed_7
def fX5_it (p1 : Int32) (p2 : Int32) (D : qs_D) : Option (Int32 × qs_D) := (qs_g (((12 : Int32) + ((6 : Int32) * p1)) + p2) 70 (some ((D 1 (((12 : Int32) + ((6 : Int32) * p1)) + p2).toNatClampNeg), D)))
set_option maxRecDepth 20000 in
theorem kX5_it {l : Launch} {E : qs_E} {A : Nat → Prop} {p1 : Int32} {p2 : Int32} {D : qs_D} {X : Int32 × qs_D}  (hX : fX5_it p1 p2 D = some X) : qs_Ctr l E A shM yX5_it mX5_it 0 qs_ri [.ref 0, .int p1, .int p2] D X := by
  refine qs_enter (plainFor_of_name (by decide)) rfl (Nat.le_of_ble_eq_true rfl) ?_ hX
  show qs_VO l E A shM mX5_it 0 qs_ri 0 [(0, .ref 0), (1, .int p1), (2, .int p2)] [] D (fX5_it p1 p2 D)
  unfold fX5_it
  refine qs_aload_n dX5_it_0 rfl rfl rfl ?_
  refine qs_getR ffX5_9 rfl rfl dX5_it_1 rfl ?_
  refine qs_bipush (12 : Int32) dX5_it_4 (by decide) rfl ?_
  refine qs_bipush (6 : Int32) dX5_it_6 (by decide) rfl ?_
  refine qs_iload_n dX5_it_8 rfl rfl rfl ?_
  refine qs_imul dX5_it_9 rfl ?_
  refine qs_iadd dX5_it_10 rfl ?_
  refine qs_iload_n dX5_it_11 rfl rfl rfl ?_
  refine qs_iadd dX5_it_12 rfl ?_
  refine qs_iald rfl (by decide) dX5_it_13 rfl (fun g1 => ?_)
  exact qs_iret rfl dX5_it_14
def fX5_put (p1 : Int32) (p2 : Int32) (p3 : Int32) (D : qs_D) : Option (Unit × qs_D) := (qs_g (((12 : Int32) + ((6 : Int32) * p1)) + p2) 70 (qs_let (qs_u D 1 (((12 : Int32) + ((6 : Int32) * p1)) + p2).toNatClampNeg p3) (fun D1 => (some ((), D1)))))
set_option maxRecDepth 20000 in
theorem kX5_put {l : Launch} {E : qs_E} {A : Nat → Prop} {p1 : Int32} {p2 : Int32} {p3 : Int32} {D : qs_D} {X : Unit × qs_D}  (hX : fX5_put p1 p2 p3 D = some X) : qs_Ctr l E A shM yX5_put mX5_put 0 qs_rv [.ref 0, .int p1, .int p2, .int p3] D X := by
  refine qs_enter (plainFor_of_name (by decide)) rfl (Nat.le_of_ble_eq_true rfl) ?_ hX
  show qs_VO l E A shM mX5_put 0 qs_rv 0 [(0, .ref 0), (1, .int p1), (2, .int p2), (3, .int p3)] [] D (fX5_put p1 p2 p3 D)
  unfold fX5_put
  refine qs_aload_n dX5_put_0 rfl rfl rfl ?_
  refine qs_getR ffX5_9 rfl rfl dX5_put_1 rfl ?_
  refine qs_bipush (12 : Int32) dX5_put_4 (by decide) rfl ?_
  refine qs_bipush (6 : Int32) dX5_put_6 (by decide) rfl ?_
  refine qs_iload_n dX5_put_8 rfl rfl rfl ?_
  refine qs_imul dX5_put_9 rfl ?_
  refine qs_iadd dX5_put_10 rfl ?_
  refine qs_iload_n dX5_put_11 rfl rfl rfl ?_
  refine qs_iadd dX5_put_12 rfl ?_
  refine qs_iload_n dX5_put_13 rfl rfl rfl ?_
  refine qs_iast rfl (by decide) dX5_put_14 rfl (fun D1 => ?_)
  exact qs_vret rfl dX5_put_15
def fX5_bits_L4 : Nat → Int32 → Int32 → Int32 → qs_D → Option (Int32 × qs_D)
  | 0, _, _, _, _ => none
  | n + 1, w0, w1, w2, D => (if w2 = 0 then (some (w1, D)) else (qs_let (w1 + (1 : Int32)) (fun v4 => (qs_let (w2 &&& (w2 - (1 : Int32))) (fun v5 => (fX5_bits_L4 n w0 v4 v5 D))))))
set_option maxRecDepth 20000 in
theorem lX5_bits_L4 {l : Launch} {E : qs_E} {A : Nat → Prop}  : ∀ (n : Nat) (w0 : Int32) (w1 : Int32) (w2 : Int32) (D : qs_D), qs_VO l E A shM mX5_bits 0 qs_ri 4 [(0, .int w0), (1, .int w1), (2, .int w2)] [] D (fX5_bits_L4 n w0 w1 w2 D) := by
  intro n
  induction n with
  | zero => intro w0 w1 w2 D; exact qs_none
  | succ n ih =>
    intro w0 w1 w2 D
    unfold fX5_bits_L4
    refine qs_iload_n dX5_bits_4 rfl rfl rfl ?_
    refine qs_if_eq (tgt := 20) dX5_bits_5 (by decide) rfl (fun g3 => ?_) (fun g3 => ?_)
    · refine qs_iload_n dX5_bits_20 rfl rfl rfl ?_
      exact qs_iret rfl dX5_bits_21
    · refine qs_iinc (fun v4 => [(1, .int v4), (0, .int w0), (2, .int w2)]) (1 : Int32) dX5_bits_8 rfl (by decide) (by decide) (fun _ => rfl) rfl (fun v4 => ?_)
      refine qs_iload_n dX5_bits_11 rfl rfl rfl ?_
      refine qs_iload_n dX5_bits_12 rfl rfl rfl ?_
      refine qs_iconst (1 : Int32) dX5_bits_13 (by decide) rfl ?_
      refine qs_isub dX5_bits_14 rfl ?_
      refine qs_iand dX5_bits_15 rfl ?_
      refine qs_istore_n (fun v5 => [(2, .int v5), (1, .int v4), (0, .int w0)]) dX5_bits_16 rfl (by decide) (fun _ => rfl) rfl (fun v5 => ?_)
      refine qs_goto (tgt := 4) dX5_bits_17 (by decide) ?_
      exact qs_sub [2, 1, 0] rfl (ih w0 v4 v5 D)
def fX5_bits (p0 : Int32) (D : qs_D) : Option (Int32 × qs_D) := (qs_let (0 : Int32) (fun v1 => (qs_let p0 (fun v2 => (fX5_bits_L4 qs_F p0 v1 v2 D)))))
set_option maxRecDepth 20000 in
theorem kX5_bits {l : Launch} {E : qs_E} {A : Nat → Prop} {p0 : Int32} {D : qs_D} {X : Int32 × qs_D}  (hX : fX5_bits p0 D = some X) : qs_Ctr l E A shM yX5_bits mX5_bits 0 qs_ri [.int p0] D X := by
  refine qs_enter (plainFor_of_name (by decide)) rfl (Nat.le_of_ble_eq_true rfl) ?_ hX
  show qs_VO l E A shM mX5_bits 0 qs_ri 0 [(0, .int p0)] [] D (fX5_bits p0 D)
  unfold fX5_bits
  refine qs_iconst (0 : Int32) dX5_bits_0 (by decide) rfl ?_
  refine qs_istore_n (fun v1 => [(1, .int v1), (0, .int p0)]) dX5_bits_1 rfl (by decide) (fun _ => rfl) rfl (fun v1 => ?_)
  refine qs_iload_n dX5_bits_2 rfl rfl rfl ?_
  refine qs_istore_n (fun v2 => [(2, .int v2), (1, .int v1), (0, .int p0)]) dX5_bits_3 rfl (by decide) (fun _ => rfl) rfl (fun v2 => ?_)
  exact qs_sub [2, 1, 0] rfl (lX5_bits_L4 qs_F p0 v1 v2 D)
def fX5_setOf_L4 : Nat → Int32 → Int32 → Int32 → qs_D → Option (Int32 × qs_D)
  | 0, _, _, _, _ => none
  | n + 1, w1, w2, w3, D => (qs_g (5 : Int32) 70 (if (D 1 (5 : Int32).toNatClampNeg) ≤ w3 then (some (w2, D)) else (qs_bind (fX5_it w3 w1 D) (fun x6 D5 => (qs_let (w2 ||| (x6 <<< (w3 &&& 31))) (fun v8 => (qs_let (w3 + (1 : Int32)) (fun v9 => (fX5_setOf_L4 n w1 v8 v9 D5)))))))))
set_option maxRecDepth 20000 in
theorem lX5_setOf_L4 {l : Launch} {E : qs_E} {A : Nat → Prop}  : ∀ (n : Nat) (w1 : Int32) (w2 : Int32) (w3 : Int32) (D : qs_D), qs_VO l E A shM mX5_setOf 1 qs_ri 4 [(0, .ref 0), (1, .int w1), (2, .int w2), (3, .int w3)] [] D (fX5_setOf_L4 n w1 w2 w3 D) := by
  intro n
  induction n with
  | zero => intro w1 w2 w3 D; exact qs_none
  | succ n ih =>
    intro w1 w2 w3 D
    unfold fX5_setOf_L4
    refine qs_iload_n dX5_setOf_4 rfl rfl rfl ?_
    refine qs_aload_n dX5_setOf_5 rfl rfl rfl ?_
    refine qs_getR ffX5_9 rfl rfl dX5_setOf_6 rfl ?_
    refine qs_iconst (5 : Int32) dX5_setOf_9 (by decide) rfl ?_
    refine qs_iald rfl (by decide) dX5_setOf_10 rfl (fun g3 => ?_)
    refine qs_icmp_ge (tgt := 31) dX5_setOf_11 (by decide) rfl (fun g4 => ?_) (fun g4 => ?_)
    · refine qs_iload_n dX5_setOf_31 rfl rfl rfl ?_
      exact qs_iret rfl dX5_setOf_32
    · refine qs_iload_n dX5_setOf_14 rfl rfl rfl ?_
      refine qs_aload_n dX5_setOf_15 rfl rfl rfl ?_
      refine qs_iload_n dX5_setOf_16 rfl rfl rfl ?_
      refine qs_iload_n dX5_setOf_17 rfl rfl rfl ?_
      refine qs_cV2i cfX5_44 (Nat.le_of_ble_eq_true rfl) rfl rfl (fun Y hY => kX5_it  hY) (Nat.le_of_ble_eq_true rfl) dX5_setOf_18 rfl (fun x6 D5 g7 => ?_)
      refine qs_iload_n dX5_setOf_21 rfl rfl rfl ?_
      refine qs_ishl dX5_setOf_22 rfl ?_
      refine qs_ior dX5_setOf_23 rfl ?_
      refine qs_istore_n (fun v8 => [(2, .int v8), (0, .ref 0), (1, .int w1), (3, .int w3)]) dX5_setOf_24 rfl (by decide) (fun _ => rfl) rfl (fun v8 => ?_)
      refine qs_iinc (fun v9 => [(3, .int v9), (2, .int v8), (0, .ref 0), (1, .int w1)]) (1 : Int32) dX5_setOf_25 rfl (by decide) (by decide) (fun _ => rfl) rfl (fun v9 => ?_)
      refine qs_goto (tgt := 4) dX5_setOf_28 (by decide) ?_
      exact qs_sub [2, 3, 1, 0] rfl (ih w1 v8 v9 D5)
def fX5_setOf (p1 : Int32) (D : qs_D) : Option (Int32 × qs_D) := (qs_let (0 : Int32) (fun v1 => (qs_let (0 : Int32) (fun v2 => (fX5_setOf_L4 qs_F p1 v1 v2 D)))))
set_option maxRecDepth 20000 in
theorem kX5_setOf {l : Launch} {E : qs_E} {A : Nat → Prop} {p1 : Int32} {D : qs_D} {X : Int32 × qs_D}  (hX : fX5_setOf p1 D = some X) : qs_Ctr l E A shM yX5_setOf mX5_setOf 1 qs_ri [.ref 0, .int p1] D X := by
  refine qs_enter (plainFor_of_name (by decide)) rfl (Nat.le_of_ble_eq_true rfl) ?_ hX
  show qs_VO l E A shM mX5_setOf 1 qs_ri 0 [(0, .ref 0), (1, .int p1)] [] D (fX5_setOf p1 D)
  unfold fX5_setOf
  refine qs_iconst (0 : Int32) dX5_setOf_0 (by decide) rfl ?_
  refine qs_istore_n (fun v1 => [(2, .int v1), (0, .ref 0), (1, .int p1)]) dX5_setOf_1 rfl (by decide) (fun _ => rfl) rfl (fun v1 => ?_)
  refine qs_iconst (0 : Int32) dX5_setOf_2 (by decide) rfl ?_
  refine qs_istore_n (fun v2 => [(3, .int v2), (2, .int v1), (0, .ref 0), (1, .int p1)]) dX5_setOf_3 rfl (by decide) (fun _ => rfl) rfl (fun v2 => ?_)
  exact qs_sub [2, 3, 1, 0] rfl (lX5_setOf_L4 qs_F p1 v1 v2 D)
def fX5_deedNow (D : qs_D) : Option (Int32 × qs_D) := (qs_g (0 : Int32) 70 (qs_g ((6 : Int32) + ((D 1 (0 : Int32).toNatClampNeg) - (D 1 (0 : Int32).toNatClampNeg) / (6 : Int32) * (6 : Int32))) 70 (some ((D 1 ((6 : Int32) + ((D 1 (0 : Int32).toNatClampNeg) - (D 1 (0 : Int32).toNatClampNeg) / (6 : Int32) * (6 : Int32))).toNatClampNeg), D))))
set_option maxRecDepth 20000 in
theorem kX5_deedNow {l : Launch} {E : qs_E} {A : Nat → Prop} {D : qs_D} {X : Int32 × qs_D}  (hX : fX5_deedNow  D = some X) : qs_Ctr l E A shM yX5_deedNow mX5_deedNow 0 qs_ri [.ref 0] D X := by
  refine qs_enter (plainFor_of_name (by decide)) rfl (Nat.le_of_ble_eq_true rfl) ?_ hX
  show qs_VO l E A shM mX5_deedNow 0 qs_ri 0 [(0, .ref 0)] [] D (fX5_deedNow  D)
  unfold fX5_deedNow
  refine qs_aload_n dX5_deedNow_0 rfl rfl rfl ?_
  refine qs_getR ffX5_9 rfl rfl dX5_deedNow_1 rfl ?_
  refine qs_bipush (6 : Int32) dX5_deedNow_4 (by decide) rfl ?_
  refine qs_aload_n dX5_deedNow_6 rfl rfl rfl ?_
  refine qs_getR ffX5_9 rfl rfl dX5_deedNow_7 rfl ?_
  refine qs_iconst (0 : Int32) dX5_deedNow_10 (by decide) rfl ?_
  refine qs_iald rfl (by decide) dX5_deedNow_11 rfl (fun g1 => ?_)
  refine qs_bipush (6 : Int32) dX5_deedNow_12 (by decide) rfl ?_
  refine qs_irem dX5_deedNow_14 (by decide) rfl ?_
  refine qs_iadd dX5_deedNow_15 rfl ?_
  refine qs_iald rfl (by decide) dX5_deedNow_16 rfl (fun g2 => ?_)
  exact qs_iret rfl dX5_deedNow_17
def fX5_needs (p1 : Int32) (D : qs_D) : Option (Int32 × qs_D) := (qs_bind (fX5_it p1 (0 : Int32) D) (fun x2 D1 => (if x2 = (1 : Int32) then (some ((30 : Int32), D1)) else (if x2 = (2 : Int32) then (some ((0 : Int32), D1)) else (if x2 = (3 : Int32) then (qs_bind (fX5_it p1 (1 : Int32) D1) (fun x8 D7 => (some ((x8 / (4 : Int32)), D7)))) else (if x2 = (4 : Int32) then (qs_bind (fX5_it p1 (1 : Int32) D1) (fun x12 D11 => (some (((x12 / (4 : Int32)) + (25 : Int32)), D11)))) else (if x2 = (5 : Int32) then (some ((0 : Int32), D1)) else (if x2 = (6 : Int32) then (qs_g (2 : Int32) 70 (some (((30 : Int32) + (D1 1 (2 : Int32).toNatClampNeg)), D1))) else (some ((10 : Int32), D1))))))))))
set_option maxRecDepth 20000 in
theorem kX5_needs {l : Launch} {E : qs_E} {A : Nat → Prop} {p1 : Int32} {D : qs_D} {X : Int32 × qs_D}  (hX : fX5_needs p1 D = some X) : qs_Ctr l E A shM yX5_needs mX5_needs 1 qs_ri [.ref 0, .int p1] D X := by
  refine qs_enter (plainFor_of_name (by decide)) rfl (Nat.le_of_ble_eq_true rfl) ?_ hX
  show qs_VO l E A shM mX5_needs 1 qs_ri 0 [(0, .ref 0), (1, .int p1)] [] D (fX5_needs p1 D)
  unfold fX5_needs
  refine qs_aload_n dX5_needs_0 rfl rfl rfl ?_
  refine qs_iload_n dX5_needs_1 rfl rfl rfl ?_
  refine qs_iconst (0 : Int32) dX5_needs_2 (by decide) rfl ?_
  refine qs_cV2i cfX5_44 (Nat.le_of_ble_eq_true rfl) rfl rfl (fun Y hY => kX5_it  hY) (Nat.le_of_ble_eq_true rfl) dX5_needs_3 rfl (fun x2 D1 g3 => ?_)
  refine qs_ite (fun g4 => ?_) (fun g4 => ?_)
  · refine qs_tsIn (off := 38) (tgt := 44) dX5_needs_6 (by rw [g4]; decide) (by rw [g4]; decide) (by rw [g4]; rfl) (by decide) ?_
    refine qs_bipush (30 : Int32) dX5_needs_44 (by decide) rfl ?_
    exact qs_iret rfl dX5_needs_46
  · refine qs_ite (fun g5 => ?_) (fun g5 => ?_)
    · refine qs_tsIn (off := 51) (tgt := 57) dX5_needs_6 (by rw [g5]; decide) (by rw [g5]; decide) (by rw [g5]; rfl) (by decide) ?_
      refine qs_iconst (0 : Int32) dX5_needs_57 (by decide) rfl ?_
      exact qs_iret rfl dX5_needs_58
    · refine qs_ite (fun g6 => ?_) (fun g6 => ?_)
      · refine qs_tsIn (off := 53) (tgt := 59) dX5_needs_6 (by rw [g6]; decide) (by rw [g6]; decide) (by rw [g6]; rfl) (by decide) ?_
        refine qs_aload_n dX5_needs_59 rfl rfl rfl ?_
        refine qs_iload_n dX5_needs_60 rfl rfl rfl ?_
        refine qs_iconst (1 : Int32) dX5_needs_61 (by decide) rfl ?_
        refine qs_cV2i cfX5_44 (Nat.le_of_ble_eq_true rfl) rfl rfl (fun Y hY => kX5_it  hY) (Nat.le_of_ble_eq_true rfl) dX5_needs_62 rfl (fun x8 D7 g9 => ?_)
        refine qs_iconst (4 : Int32) dX5_needs_65 (by decide) rfl ?_
        refine qs_idiv dX5_needs_66 (by decide) rfl ?_
        exact qs_iret rfl dX5_needs_67
      · refine qs_ite (fun g10 => ?_) (fun g10 => ?_)
        · refine qs_tsIn (off := 62) (tgt := 68) dX5_needs_6 (by rw [g10]; decide) (by rw [g10]; decide) (by rw [g10]; rfl) (by decide) ?_
          refine qs_aload_n dX5_needs_68 rfl rfl rfl ?_
          refine qs_iload_n dX5_needs_69 rfl rfl rfl ?_
          refine qs_iconst (1 : Int32) dX5_needs_70 (by decide) rfl ?_
          refine qs_cV2i cfX5_44 (Nat.le_of_ble_eq_true rfl) rfl rfl (fun Y hY => kX5_it  hY) (Nat.le_of_ble_eq_true rfl) dX5_needs_71 rfl (fun x12 D11 g13 => ?_)
          refine qs_iconst (4 : Int32) dX5_needs_74 (by decide) rfl ?_
          refine qs_idiv dX5_needs_75 (by decide) rfl ?_
          refine qs_bipush (25 : Int32) dX5_needs_76 (by decide) rfl ?_
          refine qs_iadd dX5_needs_78 rfl ?_
          exact qs_iret rfl dX5_needs_79
        · refine qs_ite (fun g14 => ?_) (fun g14 => ?_)
          · refine qs_tsIn (off := 51) (tgt := 57) dX5_needs_6 (by rw [g14]; decide) (by rw [g14]; decide) (by rw [g14]; rfl) (by decide) ?_
            refine qs_iconst (0 : Int32) dX5_needs_57 (by decide) rfl ?_
            exact qs_iret rfl dX5_needs_58
          · refine qs_ite (fun g15 => ?_) (fun g15 => ?_)
            · refine qs_tsIn (off := 41) (tgt := 47) dX5_needs_6 (by rw [g15]; decide) (by rw [g15]; decide) (by rw [g15]; rfl) (by decide) ?_
              refine qs_bipush (30 : Int32) dX5_needs_47 (by decide) rfl ?_
              refine qs_aload_n dX5_needs_49 rfl rfl rfl ?_
              refine qs_getR ffX5_9 rfl rfl dX5_needs_50 rfl ?_
              refine qs_iconst (2 : Int32) dX5_needs_53 (by decide) rfl ?_
              refine qs_iald rfl (by decide) dX5_needs_54 rfl (fun g16 => ?_)
              refine qs_iadd dX5_needs_55 rfl ?_
              exact qs_iret rfl dX5_needs_56
            · refine qs_tsOut (tgt := 80) dX5_needs_6 (by have eg4 := lv_neT (a := 1) g4 rfl; have eg5 := lv_neT (a := 2) g5 rfl; have eg6 := lv_neT (a := 3) g6 rfl; have eg10 := lv_neT (a := 4) g10 rfl; have eg14 := lv_neT (a := 5) g14 rfl; have eg15 := lv_neT (a := 6) g15 rfl; omega) (by decide) ?_
              refine qs_bipush (10 : Int32) dX5_needs_80 (by decide) rfl ?_
              exact qs_iret rfl dX5_needs_82
def fX5_thickens (p1 : Int32) (D : qs_D) : Option (Int32 × qs_D) := (qs_g (1 : Int32) 70 (qs_let ((D 1 (1 : Int32).toNatClampNeg) / (10 : Int32)) (fun v2 => (qs_g (2 : Int32) 70 (qs_let ((v2 / (2 : Int32)) + (D 1 (2 : Int32).toNatClampNeg)) (fun v4 => (qs_bind (fX5_it p1 (0 : Int32) D) (fun x6 D5 => (if x6 = (1 : Int32) then (some ((v2 + (1 : Int32)), D5)) else (if x6 = (2 : Int32) then (some ((v2 / (2 : Int32)), D5)) else (if x6 = (3 : Int32) then (some (v4, D5)) else (if x6 = (4 : Int32) then (qs_bind (fX5_deedNow D5) (fun x13 D12 => (if x13 = (1 : Int32) then (some ((v4 + (10 : Int32)), D12)) else (some (v4, D12))))) else (if x6 = (5 : Int32) then (some ((0 : Int32), D5)) else (if x6 = (6 : Int32) then (some ((((2 : Int32) * v2) + (2 : Int32)), D5)) else (some (v2, D5))))))))))))))))
set_option maxRecDepth 20000 in
theorem kX5_thickens {l : Launch} {E : qs_E} {A : Nat → Prop} {p1 : Int32} {D : qs_D} {X : Int32 × qs_D}  (hX : fX5_thickens p1 D = some X) : qs_Ctr l E A shM yX5_thickens mX5_thickens 1 qs_ri [.ref 0, .int p1] D X := by
  refine qs_enter (plainFor_of_name (by decide)) rfl (Nat.le_of_ble_eq_true rfl) ?_ hX
  show qs_VO l E A shM mX5_thickens 1 qs_ri 0 [(0, .ref 0), (1, .int p1)] [] D (fX5_thickens p1 D)
  unfold fX5_thickens
  refine qs_aload_n dX5_thickens_0 rfl rfl rfl ?_
  refine qs_getR ffX5_9 rfl rfl dX5_thickens_1 rfl ?_
  refine qs_iconst (1 : Int32) dX5_thickens_4 (by decide) rfl ?_
  refine qs_iald rfl (by decide) dX5_thickens_5 rfl (fun g1 => ?_)
  refine qs_bipush (10 : Int32) dX5_thickens_6 (by decide) rfl ?_
  refine qs_idiv dX5_thickens_8 (by decide) rfl ?_
  refine qs_istore_n (fun v2 => [(2, .int v2), (0, .ref 0), (1, .int p1)]) dX5_thickens_9 rfl (by decide) (fun _ => rfl) rfl (fun v2 => ?_)
  refine qs_iload_n dX5_thickens_10 rfl rfl rfl ?_
  refine qs_iconst (2 : Int32) dX5_thickens_11 (by decide) rfl ?_
  refine qs_idiv dX5_thickens_12 (by decide) rfl ?_
  refine qs_aload_n dX5_thickens_13 rfl rfl rfl ?_
  refine qs_getR ffX5_9 rfl rfl dX5_thickens_14 rfl ?_
  refine qs_iconst (2 : Int32) dX5_thickens_17 (by decide) rfl ?_
  refine qs_iald rfl (by decide) dX5_thickens_18 rfl (fun g3 => ?_)
  refine qs_iadd dX5_thickens_19 rfl ?_
  refine qs_istore_n (fun v4 => [(3, .int v4), (2, .int v2), (0, .ref 0), (1, .int p1)]) dX5_thickens_20 rfl (by decide) (fun _ => rfl) rfl (fun v4 => ?_)
  refine qs_aload_n dX5_thickens_21 rfl rfl rfl ?_
  refine qs_iload_n dX5_thickens_22 rfl rfl rfl ?_
  refine qs_iconst (0 : Int32) dX5_thickens_23 (by decide) rfl ?_
  refine qs_cV2i cfX5_44 (Nat.le_of_ble_eq_true rfl) rfl rfl (fun Y hY => kX5_it  hY) (Nat.le_of_ble_eq_true rfl) dX5_thickens_24 rfl (fun x6 D5 g7 => ?_)
  refine qs_ite (fun g8 => ?_) (fun g8 => ?_)
  · refine qs_tsIn (off := 37) (tgt := 64) dX5_thickens_27 (by rw [g8]; decide) (by rw [g8]; decide) (by rw [g8]; rfl) (by decide) ?_
    refine qs_iload_n dX5_thickens_64 rfl rfl rfl ?_
    refine qs_iconst (1 : Int32) dX5_thickens_65 (by decide) rfl ?_
    refine qs_iadd dX5_thickens_66 rfl ?_
    exact qs_iret rfl dX5_thickens_67
  · refine qs_ite (fun g9 => ?_) (fun g9 => ?_)
    · refine qs_tsIn (off := 47) (tgt := 74) dX5_thickens_27 (by rw [g9]; decide) (by rw [g9]; decide) (by rw [g9]; rfl) (by decide) ?_
      refine qs_iload_n dX5_thickens_74 rfl rfl rfl ?_
      refine qs_iconst (2 : Int32) dX5_thickens_75 (by decide) rfl ?_
      refine qs_idiv dX5_thickens_76 (by decide) rfl ?_
      exact qs_iret rfl dX5_thickens_77
    · refine qs_ite (fun g10 => ?_) (fun g10 => ?_)
      · refine qs_tsIn (off := 51) (tgt := 78) dX5_thickens_27 (by rw [g10]; decide) (by rw [g10]; decide) (by rw [g10]; rfl) (by decide) ?_
        refine qs_iload_n dX5_thickens_78 rfl rfl rfl ?_
        exact qs_iret rfl dX5_thickens_79
      · refine qs_ite (fun g11 => ?_) (fun g11 => ?_)
        · refine qs_tsIn (off := 53) (tgt := 80) dX5_thickens_27 (by rw [g11]; decide) (by rw [g11]; decide) (by rw [g11]; rfl) (by decide) ?_
          refine qs_aload_n dX5_thickens_80 rfl rfl rfl ?_
          refine qs_cV0i cfX5_48 (Nat.le_of_ble_eq_true rfl) rfl rfl (fun Y hY => kX5_deedNow  hY) (Nat.le_of_ble_eq_true rfl) dX5_thickens_81 rfl (fun x13 D12 g14 => ?_)
          refine qs_iconst (1 : Int32) dX5_thickens_84 (by decide) rfl ?_
          refine qs_icmp_ne (tgt := 95) dX5_thickens_85 (by decide) rfl (fun g15 => ?_) (fun g15 => ?_)
          · refine qs_iload_n dX5_thickens_88 rfl rfl rfl ?_
            refine qs_bipush (10 : Int32) dX5_thickens_89 (by decide) rfl ?_
            refine qs_iadd dX5_thickens_91 rfl ?_
            refine qs_goto (tgt := 96) dX5_thickens_92 (by decide) ?_
            exact qs_iret rfl dX5_thickens_96
          · refine qs_iload_n dX5_thickens_95 rfl rfl rfl ?_
            exact qs_iret rfl dX5_thickens_96
        · refine qs_ite (fun g16 => ?_) (fun g16 => ?_)
          · refine qs_tsIn (off := 70) (tgt := 97) dX5_thickens_27 (by rw [g16]; decide) (by rw [g16]; decide) (by rw [g16]; rfl) (by decide) ?_
            refine qs_iconst (0 : Int32) dX5_thickens_97 (by decide) rfl ?_
            exact qs_iret rfl dX5_thickens_98
          · refine qs_ite (fun g17 => ?_) (fun g17 => ?_)
            · refine qs_tsIn (off := 41) (tgt := 68) dX5_thickens_27 (by rw [g17]; decide) (by rw [g17]; decide) (by rw [g17]; rfl) (by decide) ?_
              refine qs_iconst (2 : Int32) dX5_thickens_68 (by decide) rfl ?_
              refine qs_iload_n dX5_thickens_69 rfl rfl rfl ?_
              refine qs_imul dX5_thickens_70 rfl ?_
              refine qs_iconst (2 : Int32) dX5_thickens_71 (by decide) rfl ?_
              refine qs_iadd dX5_thickens_72 rfl ?_
              exact qs_iret rfl dX5_thickens_73
            · refine qs_tsOut (tgt := 99) dX5_thickens_27 (by have eg8 := lv_neT (a := 1) g8 rfl; have eg9 := lv_neT (a := 2) g9 rfl; have eg10 := lv_neT (a := 3) g10 rfl; have eg11 := lv_neT (a := 4) g11 rfl; have eg16 := lv_neT (a := 5) g16 rfl; have eg17 := lv_neT (a := 6) g17 rfl; omega) (by decide) ?_
              refine qs_iload_n dX5_thickens_99 rfl rfl rfl ?_
              exact qs_iret rfl dX5_thickens_100
def fX5_salts (p1 : Int32) (D : qs_D) : Option (Int32 × qs_D) := (qs_bind (fX5_deedNow D) (fun x2 D1 => (if x2 = (2 : Int32) then (qs_let (5 : Int32) (fun v18 => (qs_bind (fX5_it p1 (0 : Int32) D1) (fun x20 D19 => (if x20 = (2 : Int32) then (some ((v18 + (1 : Int32)), D19)) else (if x20 = (3 : Int32) then (some ((((2 : Int32) * v18) + (2 : Int32)), D19)) else (if x20 = (4 : Int32) then (some ((((2 : Int32) * v18) + (2 : Int32)), D19)) else (if x20 = (5 : Int32) then (qs_bind (fX5_deedNow D19) (fun x27 D26 => (if x27 = (8 : Int32) then (some ((v18 + (3 : Int32)), D26)) else (some (v18, D26))))) else (if x20 = (6 : Int32) then (some ((0 : Int32), D19)) else (some (v18, D19))))))))))) else (qs_let (0 : Int32) (fun v5 => (qs_bind (fX5_it p1 (0 : Int32) D1) (fun x7 D6 => (if x7 = (2 : Int32) then (some ((v5 + (1 : Int32)), D6)) else (if x7 = (3 : Int32) then (some ((((2 : Int32) * v5) + (2 : Int32)), D6)) else (if x7 = (4 : Int32) then (some ((((2 : Int32) * v5) + (2 : Int32)), D6)) else (if x7 = (5 : Int32) then (qs_bind (fX5_deedNow D6) (fun x14 D13 => (if x14 = (8 : Int32) then (some ((v5 + (3 : Int32)), D13)) else (some (v5, D13))))) else (if x7 = (6 : Int32) then (some ((0 : Int32), D6)) else (some (v5, D6))))))))))))))
set_option maxRecDepth 20000 in
theorem kX5_salts {l : Launch} {E : qs_E} {A : Nat → Prop} {p1 : Int32} {D : qs_D} {X : Int32 × qs_D}  (hX : fX5_salts p1 D = some X) : qs_Ctr l E A shM yX5_salts mX5_salts 1 qs_ri [.ref 0, .int p1] D X := by
  refine qs_enter (plainFor_of_name (by decide)) rfl (Nat.le_of_ble_eq_true rfl) ?_ hX
  show qs_VO l E A shM mX5_salts 1 qs_ri 0 [(0, .ref 0), (1, .int p1)] [] D (fX5_salts p1 D)
  unfold fX5_salts
  refine qs_aload_n dX5_salts_0 rfl rfl rfl ?_
  refine qs_cV0i cfX5_48 (Nat.le_of_ble_eq_true rfl) rfl rfl (fun Y hY => kX5_deedNow  hY) (Nat.le_of_ble_eq_true rfl) dX5_salts_1 rfl (fun x2 D1 g3 => ?_)
  refine qs_iconst (2 : Int32) dX5_salts_4 (by decide) rfl ?_
  refine qs_icmp_ne (tgt := 12) dX5_salts_5 (by decide) rfl (fun g4 => ?_) (fun g4 => ?_)
  · refine qs_iconst (5 : Int32) dX5_salts_8 (by decide) rfl ?_
    refine qs_goto (tgt := 13) dX5_salts_9 (by decide) ?_
    refine qs_istore_n (fun v18 => [(2, .int v18), (0, .ref 0), (1, .int p1)]) dX5_salts_13 rfl (by decide) (fun _ => rfl) rfl (fun v18 => ?_)
    refine qs_aload_n dX5_salts_14 rfl rfl rfl ?_
    refine qs_iload_n dX5_salts_15 rfl rfl rfl ?_
    refine qs_iconst (0 : Int32) dX5_salts_16 (by decide) rfl ?_
    refine qs_cV2i cfX5_44 (Nat.le_of_ble_eq_true rfl) rfl rfl (fun Y hY => kX5_it  hY) (Nat.le_of_ble_eq_true rfl) dX5_salts_17 rfl (fun x20 D19 g21 => ?_)
    refine qs_ite (fun g22 => ?_) (fun g22 => ?_)
    · refine qs_tsIn (off := 38) (tgt := 58) dX5_salts_20 (by rw [g22]; decide) (by rw [g22]; decide) (by rw [g22]; rfl) (by decide) ?_
      refine qs_iload_n dX5_salts_58 rfl rfl rfl ?_
      refine qs_iconst (1 : Int32) dX5_salts_59 (by decide) rfl ?_
      refine qs_iadd dX5_salts_60 rfl ?_
      exact qs_iret rfl dX5_salts_61
    · refine qs_ite (fun g23 => ?_) (fun g23 => ?_)
      · refine qs_tsIn (off := 42) (tgt := 62) dX5_salts_20 (by rw [g23]; decide) (by rw [g23]; decide) (by rw [g23]; rfl) (by decide) ?_
        refine qs_iconst (2 : Int32) dX5_salts_62 (by decide) rfl ?_
        refine qs_iload_n dX5_salts_63 rfl rfl rfl ?_
        refine qs_imul dX5_salts_64 rfl ?_
        refine qs_iconst (2 : Int32) dX5_salts_65 (by decide) rfl ?_
        refine qs_iadd dX5_salts_66 rfl ?_
        exact qs_iret rfl dX5_salts_67
      · refine qs_ite (fun g24 => ?_) (fun g24 => ?_)
        · refine qs_tsIn (off := 42) (tgt := 62) dX5_salts_20 (by rw [g24]; decide) (by rw [g24]; decide) (by rw [g24]; rfl) (by decide) ?_
          refine qs_iconst (2 : Int32) dX5_salts_62 (by decide) rfl ?_
          refine qs_iload_n dX5_salts_63 rfl rfl rfl ?_
          refine qs_imul dX5_salts_64 rfl ?_
          refine qs_iconst (2 : Int32) dX5_salts_65 (by decide) rfl ?_
          refine qs_iadd dX5_salts_66 rfl ?_
          exact qs_iret rfl dX5_salts_67
        · refine qs_ite (fun g25 => ?_) (fun g25 => ?_)
          · refine qs_tsIn (off := 48) (tgt := 68) dX5_salts_20 (by rw [g25]; decide) (by rw [g25]; decide) (by rw [g25]; rfl) (by decide) ?_
            refine qs_aload_n dX5_salts_68 rfl rfl rfl ?_
            refine qs_cV0i cfX5_48 (Nat.le_of_ble_eq_true rfl) rfl rfl (fun Y hY => kX5_deedNow  hY) (Nat.le_of_ble_eq_true rfl) dX5_salts_69 rfl (fun x27 D26 g28 => ?_)
            refine qs_bipush (8 : Int32) dX5_salts_72 (by decide) rfl ?_
            refine qs_icmp_ne (tgt := 83) dX5_salts_74 (by decide) rfl (fun g29 => ?_) (fun g29 => ?_)
            · refine qs_iload_n dX5_salts_77 rfl rfl rfl ?_
              refine qs_iconst (3 : Int32) dX5_salts_78 (by decide) rfl ?_
              refine qs_iadd dX5_salts_79 rfl ?_
              refine qs_goto (tgt := 84) dX5_salts_80 (by decide) ?_
              exact qs_iret rfl dX5_salts_84
            · refine qs_iload_n dX5_salts_83 rfl rfl rfl ?_
              exact qs_iret rfl dX5_salts_84
          · refine qs_ite (fun g30 => ?_) (fun g30 => ?_)
            · refine qs_tsIn (off := 36) (tgt := 56) dX5_salts_20 (by rw [g30]; decide) (by rw [g30]; decide) (by rw [g30]; rfl) (by decide) ?_
              refine qs_iconst (0 : Int32) dX5_salts_56 (by decide) rfl ?_
              exact qs_iret rfl dX5_salts_57
            · refine qs_tsOut (tgt := 85) dX5_salts_20 (by have eg22 := lv_neT (a := 2) g22 rfl; have eg23 := lv_neT (a := 3) g23 rfl; have eg24 := lv_neT (a := 4) g24 rfl; have eg25 := lv_neT (a := 5) g25 rfl; have eg30 := lv_neT (a := 6) g30 rfl; omega) (by decide) ?_
              refine qs_iload_n dX5_salts_85 rfl rfl rfl ?_
              exact qs_iret rfl dX5_salts_86
  · refine qs_iconst (0 : Int32) dX5_salts_12 (by decide) rfl ?_
    refine qs_istore_n (fun v5 => [(2, .int v5), (0, .ref 0), (1, .int p1)]) dX5_salts_13 rfl (by decide) (fun _ => rfl) rfl (fun v5 => ?_)
    refine qs_aload_n dX5_salts_14 rfl rfl rfl ?_
    refine qs_iload_n dX5_salts_15 rfl rfl rfl ?_
    refine qs_iconst (0 : Int32) dX5_salts_16 (by decide) rfl ?_
    refine qs_cV2i cfX5_44 (Nat.le_of_ble_eq_true rfl) rfl rfl (fun Y hY => kX5_it  hY) (Nat.le_of_ble_eq_true rfl) dX5_salts_17 rfl (fun x7 D6 g8 => ?_)
    refine qs_ite (fun g9 => ?_) (fun g9 => ?_)
    · refine qs_tsIn (off := 38) (tgt := 58) dX5_salts_20 (by rw [g9]; decide) (by rw [g9]; decide) (by rw [g9]; rfl) (by decide) ?_
      refine qs_iload_n dX5_salts_58 rfl rfl rfl ?_
      refine qs_iconst (1 : Int32) dX5_salts_59 (by decide) rfl ?_
      refine qs_iadd dX5_salts_60 rfl ?_
      exact qs_iret rfl dX5_salts_61
    · refine qs_ite (fun g10 => ?_) (fun g10 => ?_)
      · refine qs_tsIn (off := 42) (tgt := 62) dX5_salts_20 (by rw [g10]; decide) (by rw [g10]; decide) (by rw [g10]; rfl) (by decide) ?_
        refine qs_iconst (2 : Int32) dX5_salts_62 (by decide) rfl ?_
        refine qs_iload_n dX5_salts_63 rfl rfl rfl ?_
        refine qs_imul dX5_salts_64 rfl ?_
        refine qs_iconst (2 : Int32) dX5_salts_65 (by decide) rfl ?_
        refine qs_iadd dX5_salts_66 rfl ?_
        exact qs_iret rfl dX5_salts_67
      · refine qs_ite (fun g11 => ?_) (fun g11 => ?_)
        · refine qs_tsIn (off := 42) (tgt := 62) dX5_salts_20 (by rw [g11]; decide) (by rw [g11]; decide) (by rw [g11]; rfl) (by decide) ?_
          refine qs_iconst (2 : Int32) dX5_salts_62 (by decide) rfl ?_
          refine qs_iload_n dX5_salts_63 rfl rfl rfl ?_
          refine qs_imul dX5_salts_64 rfl ?_
          refine qs_iconst (2 : Int32) dX5_salts_65 (by decide) rfl ?_
          refine qs_iadd dX5_salts_66 rfl ?_
          exact qs_iret rfl dX5_salts_67
        · refine qs_ite (fun g12 => ?_) (fun g12 => ?_)
          · refine qs_tsIn (off := 48) (tgt := 68) dX5_salts_20 (by rw [g12]; decide) (by rw [g12]; decide) (by rw [g12]; rfl) (by decide) ?_
            refine qs_aload_n dX5_salts_68 rfl rfl rfl ?_
            refine qs_cV0i cfX5_48 (Nat.le_of_ble_eq_true rfl) rfl rfl (fun Y hY => kX5_deedNow  hY) (Nat.le_of_ble_eq_true rfl) dX5_salts_69 rfl (fun x14 D13 g15 => ?_)
            refine qs_bipush (8 : Int32) dX5_salts_72 (by decide) rfl ?_
            refine qs_icmp_ne (tgt := 83) dX5_salts_74 (by decide) rfl (fun g16 => ?_) (fun g16 => ?_)
            · refine qs_iload_n dX5_salts_77 rfl rfl rfl ?_
              refine qs_iconst (3 : Int32) dX5_salts_78 (by decide) rfl ?_
              refine qs_iadd dX5_salts_79 rfl ?_
              refine qs_goto (tgt := 84) dX5_salts_80 (by decide) ?_
              exact qs_iret rfl dX5_salts_84
            · refine qs_iload_n dX5_salts_83 rfl rfl rfl ?_
              exact qs_iret rfl dX5_salts_84
          · refine qs_ite (fun g17 => ?_) (fun g17 => ?_)
            · refine qs_tsIn (off := 36) (tgt := 56) dX5_salts_20 (by rw [g17]; decide) (by rw [g17]; decide) (by rw [g17]; rfl) (by decide) ?_
              refine qs_iconst (0 : Int32) dX5_salts_56 (by decide) rfl ?_
              exact qs_iret rfl dX5_salts_57
            · refine qs_tsOut (tgt := 85) dX5_salts_20 (by have eg9 := lv_neT (a := 2) g9 rfl; have eg10 := lv_neT (a := 3) g10 rfl; have eg11 := lv_neT (a := 4) g11 rfl; have eg12 := lv_neT (a := 5) g12 rfl; have eg17 := lv_neT (a := 6) g17 rfl; omega) (by decide) ?_
              refine qs_iload_n dX5_salts_85 rfl rfl rfl ?_
              exact qs_iret rfl dX5_salts_86
def fX5_burns (p1 : Int32) (D : qs_D) : Option (Int32 × qs_D) := (qs_bind (fX5_it p1 (0 : Int32) D) (fun x2 D1 => (if x2 = (1 : Int32) then (some ((70 : Int32), D1)) else (if x2 = (2 : Int32) then (some ((99 : Int32), D1)) else (if x2 = (3 : Int32) then (some ((99 : Int32), D1)) else (if x2 = (4 : Int32) then (some ((90 : Int32), D1)) else (if x2 = (5 : Int32) then (some ((99 : Int32), D1)) else (if x2 = (6 : Int32) then (some ((70 : Int32), D1)) else (some ((80 : Int32), D1))))))))))
set_option maxRecDepth 20000 in
theorem kX5_burns {l : Launch} {E : qs_E} {A : Nat → Prop} {p1 : Int32} {D : qs_D} {X : Int32 × qs_D}  (hX : fX5_burns p1 D = some X) : qs_Ctr l E A shM yX5_burns mX5_burns 1 qs_ri [.ref 0, .int p1] D X := by
  refine qs_enter (plainFor_of_name (by decide)) rfl (Nat.le_of_ble_eq_true rfl) ?_ hX
  show qs_VO l E A shM mX5_burns 1 qs_ri 0 [(0, .ref 0), (1, .int p1)] [] D (fX5_burns p1 D)
  unfold fX5_burns
  refine qs_aload_n dX5_burns_0 rfl rfl rfl ?_
  refine qs_iload_n dX5_burns_1 rfl rfl rfl ?_
  refine qs_iconst (0 : Int32) dX5_burns_2 (by decide) rfl ?_
  refine qs_cV2i cfX5_44 (Nat.le_of_ble_eq_true rfl) rfl rfl (fun Y hY => kX5_it  hY) (Nat.le_of_ble_eq_true rfl) dX5_burns_3 rfl (fun x2 D1 g3 => ?_)
  refine qs_ite (fun g4 => ?_) (fun g4 => ?_)
  · refine qs_tsIn (off := 38) (tgt := 44) dX5_burns_6 (by rw [g4]; decide) (by rw [g4]; decide) (by rw [g4]; rfl) (by decide) ?_
    refine qs_bipush (70 : Int32) dX5_burns_44 (by decide) rfl ?_
    exact qs_iret rfl dX5_burns_46
  · refine qs_ite (fun g5 => ?_) (fun g5 => ?_)
    · refine qs_tsIn (off := 44) (tgt := 50) dX5_burns_6 (by rw [g5]; decide) (by rw [g5]; decide) (by rw [g5]; rfl) (by decide) ?_
      refine qs_bipush (99 : Int32) dX5_burns_50 (by decide) rfl ?_
      exact qs_iret rfl dX5_burns_52
    · refine qs_ite (fun g6 => ?_) (fun g6 => ?_)
      · refine qs_tsIn (off := 44) (tgt := 50) dX5_burns_6 (by rw [g6]; decide) (by rw [g6]; decide) (by rw [g6]; rfl) (by decide) ?_
        refine qs_bipush (99 : Int32) dX5_burns_50 (by decide) rfl ?_
        exact qs_iret rfl dX5_burns_52
      · refine qs_ite (fun g7 => ?_) (fun g7 => ?_)
        · refine qs_tsIn (off := 41) (tgt := 47) dX5_burns_6 (by rw [g7]; decide) (by rw [g7]; decide) (by rw [g7]; rfl) (by decide) ?_
          refine qs_bipush (90 : Int32) dX5_burns_47 (by decide) rfl ?_
          exact qs_iret rfl dX5_burns_49
        · refine qs_ite (fun g8 => ?_) (fun g8 => ?_)
          · refine qs_tsIn (off := 44) (tgt := 50) dX5_burns_6 (by rw [g8]; decide) (by rw [g8]; decide) (by rw [g8]; rfl) (by decide) ?_
            refine qs_bipush (99 : Int32) dX5_burns_50 (by decide) rfl ?_
            exact qs_iret rfl dX5_burns_52
          · refine qs_ite (fun g9 => ?_) (fun g9 => ?_)
            · refine qs_tsIn (off := 38) (tgt := 44) dX5_burns_6 (by rw [g9]; decide) (by rw [g9]; decide) (by rw [g9]; rfl) (by decide) ?_
              refine qs_bipush (70 : Int32) dX5_burns_44 (by decide) rfl ?_
              exact qs_iret rfl dX5_burns_46
            · refine qs_tsOut (tgt := 53) dX5_burns_6 (by have eg4 := lv_neT (a := 1) g4 rfl; have eg5 := lv_neT (a := 2) g5 rfl; have eg6 := lv_neT (a := 3) g6 rfl; have eg7 := lv_neT (a := 4) g7 rfl; have eg8 := lv_neT (a := 5) g8 rfl; have eg9 := lv_neT (a := 6) g9 rfl; omega) (by decide) ?_
              refine qs_bipush (80 : Int32) dX5_burns_53 (by decide) rfl ?_
              exact qs_iret rfl dX5_burns_55
def fX5_gives (p1 : Int32) (D : qs_D) : Option (Int32 × qs_D) := (qs_bind (fX5_it p1 (3 : Int32) D) (fun x2 D1 => (if x2 = (1 : Int32) then (some ((0 : Int32), D1)) else (qs_bind (fX5_it p1 (2 : Int32) D1) (fun x6 D5 => (if (30 : Int32) ≤ x6 then (qs_bind (fX5_it p1 (2 : Int32) D5) (fun x10 D9 => (qs_let (x10 - (30 : Int32)) (fun v12 => (qs_bind (fX5_it p1 (1 : Int32) D9) (fun x14 D13 => (if x14 ≤ v12 then (qs_let (0 : Int32) (fun v17 => (qs_bind (fX5_it p1 (0 : Int32) D13) (fun x19 D18 => (if x19 = (1 : Int32) then (qs_g (1 : Int32) 70 (some ((v17 + ((D18 1 (1 : Int32).toNatClampNeg) / (5 : Int32))), D18))) else (if x19 = (2 : Int32) then (some ((v17 / (2 : Int32)), D18)) else (if x19 = (3 : Int32) then (some (((v17 / (2 : Int32)) + (20 : Int32)), D18)) else (if x19 = (4 : Int32) then (some (((2 : Int32) * ((v17 / (2 : Int32)) + (20 : Int32))), D18)) else (if x19 = (5 : Int32) then (some ((10 : Int32), D18)) else (if x19 = (6 : Int32) then (qs_g (1 : Int32) 70 (some ((v17 + ((D18 1 (1 : Int32).toNatClampNeg) / (5 : Int32))), D18))) else (some (v17, D18)))))))))))) else (qs_bind (fX5_it p1 (1 : Int32) D13) (fun x30 D29 => (qs_let (x30 - v12) (fun v32 => (qs_bind (fX5_it p1 (0 : Int32) D29) (fun x34 D33 => (if x34 = (1 : Int32) then (qs_g (1 : Int32) 70 (some ((v32 + ((D33 1 (1 : Int32).toNatClampNeg) / (5 : Int32))), D33))) else (if x34 = (2 : Int32) then (some ((v32 / (2 : Int32)), D33)) else (if x34 = (3 : Int32) then (some (((v32 / (2 : Int32)) + (20 : Int32)), D33)) else (if x34 = (4 : Int32) then (some (((2 : Int32) * ((v32 / (2 : Int32)) + (20 : Int32))), D33)) else (if x34 = (5 : Int32) then (some ((10 : Int32), D33)) else (if x34 = (6 : Int32) then (qs_g (1 : Int32) 70 (some ((v32 + ((D33 1 (1 : Int32).toNatClampNeg) / (5 : Int32))), D33))) else (some (v32, D33))))))))))))))))))))) else (qs_bind (fX5_it p1 (2 : Int32) D5) (fun x45 D44 => (qs_let ((30 : Int32) - x45) (fun v47 => (qs_bind (fX5_it p1 (1 : Int32) D44) (fun x49 D48 => (if x49 ≤ v47 then (qs_let (0 : Int32) (fun v52 => (qs_bind (fX5_it p1 (0 : Int32) D48) (fun x54 D53 => (if x54 = (1 : Int32) then (qs_g (1 : Int32) 70 (some ((v52 + ((D53 1 (1 : Int32).toNatClampNeg) / (5 : Int32))), D53))) else (if x54 = (2 : Int32) then (some ((v52 / (2 : Int32)), D53)) else (if x54 = (3 : Int32) then (some (((v52 / (2 : Int32)) + (20 : Int32)), D53)) else (if x54 = (4 : Int32) then (some (((2 : Int32) * ((v52 / (2 : Int32)) + (20 : Int32))), D53)) else (if x54 = (5 : Int32) then (some ((10 : Int32), D53)) else (if x54 = (6 : Int32) then (qs_g (1 : Int32) 70 (some ((v52 + ((D53 1 (1 : Int32).toNatClampNeg) / (5 : Int32))), D53))) else (some (v52, D53)))))))))))) else (qs_bind (fX5_it p1 (1 : Int32) D48) (fun x65 D64 => (qs_let (x65 - v47) (fun v67 => (qs_bind (fX5_it p1 (0 : Int32) D64) (fun x69 D68 => (if x69 = (1 : Int32) then (qs_g (1 : Int32) 70 (some ((v67 + ((D68 1 (1 : Int32).toNatClampNeg) / (5 : Int32))), D68))) else (if x69 = (2 : Int32) then (some ((v67 / (2 : Int32)), D68)) else (if x69 = (3 : Int32) then (some (((v67 / (2 : Int32)) + (20 : Int32)), D68)) else (if x69 = (4 : Int32) then (some (((2 : Int32) * ((v67 / (2 : Int32)) + (20 : Int32))), D68)) else (if x69 = (5 : Int32) then (some ((10 : Int32), D68)) else (if x69 = (6 : Int32) then (qs_g (1 : Int32) 70 (some ((v67 + ((D68 1 (1 : Int32).toNatClampNeg) / (5 : Int32))), D68))) else (some (v67, D68)))))))))))))))))))))))))))
set_option maxRecDepth 20000 in
theorem kX5_gives {l : Launch} {E : qs_E} {A : Nat → Prop} {p1 : Int32} {D : qs_D} {X : Int32 × qs_D}  (hX : fX5_gives p1 D = some X) : qs_Ctr l E A shM yX5_gives mX5_gives 1 qs_ri [.ref 0, .int p1] D X := by
  refine qs_enter (plainFor_of_name (by decide)) rfl (Nat.le_of_ble_eq_true rfl) ?_ hX
  show qs_VO l E A shM mX5_gives 1 qs_ri 0 [(0, .ref 0), (1, .int p1)] [] D (fX5_gives p1 D)
  unfold fX5_gives
  refine qs_aload_n dX5_gives_0 rfl rfl rfl ?_
  refine qs_iload_n dX5_gives_1 rfl rfl rfl ?_
  refine qs_iconst (3 : Int32) dX5_gives_2 (by decide) rfl ?_
  refine qs_cV2i cfX5_44 (Nat.le_of_ble_eq_true rfl) rfl rfl (fun Y hY => kX5_it  hY) (Nat.le_of_ble_eq_true rfl) dX5_gives_3 rfl (fun x2 D1 g3 => ?_)
  refine qs_iconst (1 : Int32) dX5_gives_6 (by decide) rfl ?_
  refine qs_icmp_ne (tgt := 12) dX5_gives_7 (by decide) rfl (fun g4 => ?_) (fun g4 => ?_)
  · refine qs_iconst (0 : Int32) dX5_gives_10 (by decide) rfl ?_
    exact qs_iret rfl dX5_gives_11
  · refine qs_aload_n dX5_gives_12 rfl rfl rfl ?_
    refine qs_iload_n dX5_gives_13 rfl rfl rfl ?_
    refine qs_iconst (2 : Int32) dX5_gives_14 (by decide) rfl ?_
    refine qs_cV2i cfX5_44 (Nat.le_of_ble_eq_true rfl) rfl rfl (fun Y hY => kX5_it  hY) (Nat.le_of_ble_eq_true rfl) dX5_gives_15 rfl (fun x6 D5 g7 => ?_)
    refine qs_bipush (30 : Int32) dX5_gives_18 (by decide) rfl ?_
    refine qs_icmp_ge (tgt := 35) dX5_gives_20 (by decide) rfl (fun g8 => ?_) (fun g8 => ?_)
    · refine qs_aload_n dX5_gives_35 rfl rfl rfl ?_
      refine qs_iload_n dX5_gives_36 rfl rfl rfl ?_
      refine qs_iconst (2 : Int32) dX5_gives_37 (by decide) rfl ?_
      refine qs_cV2i cfX5_44 (Nat.le_of_ble_eq_true rfl) rfl rfl (fun Y hY => kX5_it  hY) (Nat.le_of_ble_eq_true rfl) dX5_gives_38 rfl (fun x10 D9 g11 => ?_)
      refine qs_bipush (30 : Int32) dX5_gives_41 (by decide) rfl ?_
      refine qs_isub dX5_gives_43 rfl ?_
      refine qs_istore_n (fun v12 => [(2, .int v12), (0, .ref 0), (1, .int p1)]) dX5_gives_44 rfl (by decide) (fun _ => rfl) rfl (fun v12 => ?_)
      refine qs_aload_n dX5_gives_45 rfl rfl rfl ?_
      refine qs_iload_n dX5_gives_46 rfl rfl rfl ?_
      refine qs_iconst (1 : Int32) dX5_gives_47 (by decide) rfl ?_
      refine qs_cV2i cfX5_44 (Nat.le_of_ble_eq_true rfl) rfl rfl (fun Y hY => kX5_it  hY) (Nat.le_of_ble_eq_true rfl) dX5_gives_48 rfl (fun x14 D13 g15 => ?_)
      refine qs_iload_n dX5_gives_51 rfl rfl rfl ?_
      refine qs_icmp_le (tgt := 66) dX5_gives_52 (by decide) rfl (fun g16 => ?_) (fun g16 => ?_)
      · refine qs_iconst (0 : Int32) dX5_gives_66 (by decide) rfl ?_
        refine qs_istore_n (fun v17 => [(3, .int v17), (2, .int v12), (0, .ref 0), (1, .int p1)]) dX5_gives_67 rfl (by decide) (fun _ => rfl) rfl (fun v17 => ?_)
        refine qs_aload_n dX5_gives_68 rfl rfl rfl ?_
        refine qs_iload_n dX5_gives_69 rfl rfl rfl ?_
        refine qs_iconst (0 : Int32) dX5_gives_70 (by decide) rfl ?_
        refine qs_cV2i cfX5_44 (Nat.le_of_ble_eq_true rfl) rfl rfl (fun Y hY => kX5_it  hY) (Nat.le_of_ble_eq_true rfl) dX5_gives_71 rfl (fun x19 D18 g20 => ?_)
        refine qs_ite (fun g21 => ?_) (fun g21 => ?_)
        · refine qs_tsIn (off := 38) (tgt := 112) dX5_gives_74 (by rw [g21]; decide) (by rw [g21]; decide) (by rw [g21]; rfl) (by decide) ?_
          refine qs_iload_n dX5_gives_112 rfl rfl rfl ?_
          refine qs_aload_n dX5_gives_113 rfl rfl rfl ?_
          refine qs_getR ffX5_9 rfl rfl dX5_gives_114 rfl ?_
          refine qs_iconst (1 : Int32) dX5_gives_117 (by decide) rfl ?_
          refine qs_iald rfl (by decide) dX5_gives_118 rfl (fun g22 => ?_)
          refine qs_iconst (5 : Int32) dX5_gives_119 (by decide) rfl ?_
          refine qs_idiv dX5_gives_120 (by decide) rfl ?_
          refine qs_iadd dX5_gives_121 rfl ?_
          exact qs_iret rfl dX5_gives_122
        · refine qs_ite (fun g23 => ?_) (fun g23 => ?_)
          · refine qs_tsIn (off := 49) (tgt := 123) dX5_gives_74 (by rw [g23]; decide) (by rw [g23]; decide) (by rw [g23]; rfl) (by decide) ?_
            refine qs_iload_n dX5_gives_123 rfl rfl rfl ?_
            refine qs_iconst (2 : Int32) dX5_gives_124 (by decide) rfl ?_
            refine qs_idiv dX5_gives_125 (by decide) rfl ?_
            exact qs_iret rfl dX5_gives_126
          · refine qs_ite (fun g24 => ?_) (fun g24 => ?_)
            · refine qs_tsIn (off := 53) (tgt := 127) dX5_gives_74 (by rw [g24]; decide) (by rw [g24]; decide) (by rw [g24]; rfl) (by decide) ?_
              refine qs_iload_n dX5_gives_127 rfl rfl rfl ?_
              refine qs_iconst (2 : Int32) dX5_gives_128 (by decide) rfl ?_
              refine qs_idiv dX5_gives_129 (by decide) rfl ?_
              refine qs_bipush (20 : Int32) dX5_gives_130 (by decide) rfl ?_
              refine qs_iadd dX5_gives_132 rfl ?_
              exact qs_iret rfl dX5_gives_133
            · refine qs_ite (fun g25 => ?_) (fun g25 => ?_)
              · refine qs_tsIn (off := 60) (tgt := 134) dX5_gives_74 (by rw [g25]; decide) (by rw [g25]; decide) (by rw [g25]; rfl) (by decide) ?_
                refine qs_iconst (2 : Int32) dX5_gives_134 (by decide) rfl ?_
                refine qs_iload_n dX5_gives_135 rfl rfl rfl ?_
                refine qs_iconst (2 : Int32) dX5_gives_136 (by decide) rfl ?_
                refine qs_idiv dX5_gives_137 (by decide) rfl ?_
                refine qs_bipush (20 : Int32) dX5_gives_138 (by decide) rfl ?_
                refine qs_iadd dX5_gives_140 rfl ?_
                refine qs_imul dX5_gives_141 rfl ?_
                exact qs_iret rfl dX5_gives_142
              · refine qs_ite (fun g26 => ?_) (fun g26 => ?_)
                · refine qs_tsIn (off := 69) (tgt := 143) dX5_gives_74 (by rw [g26]; decide) (by rw [g26]; decide) (by rw [g26]; rfl) (by decide) ?_
                  refine qs_bipush (10 : Int32) dX5_gives_143 (by decide) rfl ?_
                  exact qs_iret rfl dX5_gives_145
                · refine qs_ite (fun g27 => ?_) (fun g27 => ?_)
                  · refine qs_tsIn (off := 38) (tgt := 112) dX5_gives_74 (by rw [g27]; decide) (by rw [g27]; decide) (by rw [g27]; rfl) (by decide) ?_
                    refine qs_iload_n dX5_gives_112 rfl rfl rfl ?_
                    refine qs_aload_n dX5_gives_113 rfl rfl rfl ?_
                    refine qs_getR ffX5_9 rfl rfl dX5_gives_114 rfl ?_
                    refine qs_iconst (1 : Int32) dX5_gives_117 (by decide) rfl ?_
                    refine qs_iald rfl (by decide) dX5_gives_118 rfl (fun g28 => ?_)
                    refine qs_iconst (5 : Int32) dX5_gives_119 (by decide) rfl ?_
                    refine qs_idiv dX5_gives_120 (by decide) rfl ?_
                    refine qs_iadd dX5_gives_121 rfl ?_
                    exact qs_iret rfl dX5_gives_122
                  · refine qs_tsOut (tgt := 146) dX5_gives_74 (by have eg21 := lv_neT (a := 1) g21 rfl; have eg23 := lv_neT (a := 2) g23 rfl; have eg24 := lv_neT (a := 3) g24 rfl; have eg25 := lv_neT (a := 4) g25 rfl; have eg26 := lv_neT (a := 5) g26 rfl; have eg27 := lv_neT (a := 6) g27 rfl; omega) (by decide) ?_
                    refine qs_iload_n dX5_gives_146 rfl rfl rfl ?_
                    exact qs_iret rfl dX5_gives_147
      · refine qs_aload_n dX5_gives_55 rfl rfl rfl ?_
        refine qs_iload_n dX5_gives_56 rfl rfl rfl ?_
        refine qs_iconst (1 : Int32) dX5_gives_57 (by decide) rfl ?_
        refine qs_cV2i cfX5_44 (Nat.le_of_ble_eq_true rfl) rfl rfl (fun Y hY => kX5_it  hY) (Nat.le_of_ble_eq_true rfl) dX5_gives_58 rfl (fun x30 D29 g31 => ?_)
        refine qs_iload_n dX5_gives_61 rfl rfl rfl ?_
        refine qs_isub dX5_gives_62 rfl ?_
        refine qs_goto (tgt := 67) dX5_gives_63 (by decide) ?_
        refine qs_istore_n (fun v32 => [(3, .int v32), (2, .int v12), (0, .ref 0), (1, .int p1)]) dX5_gives_67 rfl (by decide) (fun _ => rfl) rfl (fun v32 => ?_)
        refine qs_aload_n dX5_gives_68 rfl rfl rfl ?_
        refine qs_iload_n dX5_gives_69 rfl rfl rfl ?_
        refine qs_iconst (0 : Int32) dX5_gives_70 (by decide) rfl ?_
        refine qs_cV2i cfX5_44 (Nat.le_of_ble_eq_true rfl) rfl rfl (fun Y hY => kX5_it  hY) (Nat.le_of_ble_eq_true rfl) dX5_gives_71 rfl (fun x34 D33 g35 => ?_)
        refine qs_ite (fun g36 => ?_) (fun g36 => ?_)
        · refine qs_tsIn (off := 38) (tgt := 112) dX5_gives_74 (by rw [g36]; decide) (by rw [g36]; decide) (by rw [g36]; rfl) (by decide) ?_
          refine qs_iload_n dX5_gives_112 rfl rfl rfl ?_
          refine qs_aload_n dX5_gives_113 rfl rfl rfl ?_
          refine qs_getR ffX5_9 rfl rfl dX5_gives_114 rfl ?_
          refine qs_iconst (1 : Int32) dX5_gives_117 (by decide) rfl ?_
          refine qs_iald rfl (by decide) dX5_gives_118 rfl (fun g37 => ?_)
          refine qs_iconst (5 : Int32) dX5_gives_119 (by decide) rfl ?_
          refine qs_idiv dX5_gives_120 (by decide) rfl ?_
          refine qs_iadd dX5_gives_121 rfl ?_
          exact qs_iret rfl dX5_gives_122
        · refine qs_ite (fun g38 => ?_) (fun g38 => ?_)
          · refine qs_tsIn (off := 49) (tgt := 123) dX5_gives_74 (by rw [g38]; decide) (by rw [g38]; decide) (by rw [g38]; rfl) (by decide) ?_
            refine qs_iload_n dX5_gives_123 rfl rfl rfl ?_
            refine qs_iconst (2 : Int32) dX5_gives_124 (by decide) rfl ?_
            refine qs_idiv dX5_gives_125 (by decide) rfl ?_
            exact qs_iret rfl dX5_gives_126
          · refine qs_ite (fun g39 => ?_) (fun g39 => ?_)
            · refine qs_tsIn (off := 53) (tgt := 127) dX5_gives_74 (by rw [g39]; decide) (by rw [g39]; decide) (by rw [g39]; rfl) (by decide) ?_
              refine qs_iload_n dX5_gives_127 rfl rfl rfl ?_
              refine qs_iconst (2 : Int32) dX5_gives_128 (by decide) rfl ?_
              refine qs_idiv dX5_gives_129 (by decide) rfl ?_
              refine qs_bipush (20 : Int32) dX5_gives_130 (by decide) rfl ?_
              refine qs_iadd dX5_gives_132 rfl ?_
              exact qs_iret rfl dX5_gives_133
            · refine qs_ite (fun g40 => ?_) (fun g40 => ?_)
              · refine qs_tsIn (off := 60) (tgt := 134) dX5_gives_74 (by rw [g40]; decide) (by rw [g40]; decide) (by rw [g40]; rfl) (by decide) ?_
                refine qs_iconst (2 : Int32) dX5_gives_134 (by decide) rfl ?_
                refine qs_iload_n dX5_gives_135 rfl rfl rfl ?_
                refine qs_iconst (2 : Int32) dX5_gives_136 (by decide) rfl ?_
                refine qs_idiv dX5_gives_137 (by decide) rfl ?_
                refine qs_bipush (20 : Int32) dX5_gives_138 (by decide) rfl ?_
                refine qs_iadd dX5_gives_140 rfl ?_
                refine qs_imul dX5_gives_141 rfl ?_
                exact qs_iret rfl dX5_gives_142
              · refine qs_ite (fun g41 => ?_) (fun g41 => ?_)
                · refine qs_tsIn (off := 69) (tgt := 143) dX5_gives_74 (by rw [g41]; decide) (by rw [g41]; decide) (by rw [g41]; rfl) (by decide) ?_
                  refine qs_bipush (10 : Int32) dX5_gives_143 (by decide) rfl ?_
                  exact qs_iret rfl dX5_gives_145
                · refine qs_ite (fun g42 => ?_) (fun g42 => ?_)
                  · refine qs_tsIn (off := 38) (tgt := 112) dX5_gives_74 (by rw [g42]; decide) (by rw [g42]; decide) (by rw [g42]; rfl) (by decide) ?_
                    refine qs_iload_n dX5_gives_112 rfl rfl rfl ?_
                    refine qs_aload_n dX5_gives_113 rfl rfl rfl ?_
                    refine qs_getR ffX5_9 rfl rfl dX5_gives_114 rfl ?_
                    refine qs_iconst (1 : Int32) dX5_gives_117 (by decide) rfl ?_
                    refine qs_iald rfl (by decide) dX5_gives_118 rfl (fun g43 => ?_)
                    refine qs_iconst (5 : Int32) dX5_gives_119 (by decide) rfl ?_
                    refine qs_idiv dX5_gives_120 (by decide) rfl ?_
                    refine qs_iadd dX5_gives_121 rfl ?_
                    exact qs_iret rfl dX5_gives_122
                  · refine qs_tsOut (tgt := 146) dX5_gives_74 (by have eg36 := lv_neT (a := 1) g36 rfl; have eg38 := lv_neT (a := 2) g38 rfl; have eg39 := lv_neT (a := 3) g39 rfl; have eg40 := lv_neT (a := 4) g40 rfl; have eg41 := lv_neT (a := 5) g41 rfl; have eg42 := lv_neT (a := 6) g42 rfl; omega) (by decide) ?_
                    refine qs_iload_n dX5_gives_146 rfl rfl rfl ?_
                    exact qs_iret rfl dX5_gives_147
    · refine qs_bipush (30 : Int32) dX5_gives_23 (by decide) rfl ?_
      refine qs_aload_n dX5_gives_25 rfl rfl rfl ?_
      refine qs_iload_n dX5_gives_26 rfl rfl rfl ?_
      refine qs_iconst (2 : Int32) dX5_gives_27 (by decide) rfl ?_
      refine qs_cV2i cfX5_44 (Nat.le_of_ble_eq_true rfl) rfl rfl (fun Y hY => kX5_it  hY) (Nat.le_of_ble_eq_true rfl) dX5_gives_28 rfl (fun x45 D44 g46 => ?_)
      refine qs_isub dX5_gives_31 rfl ?_
      refine qs_goto (tgt := 44) dX5_gives_32 (by decide) ?_
      refine qs_istore_n (fun v47 => [(2, .int v47), (0, .ref 0), (1, .int p1)]) dX5_gives_44 rfl (by decide) (fun _ => rfl) rfl (fun v47 => ?_)
      refine qs_aload_n dX5_gives_45 rfl rfl rfl ?_
      refine qs_iload_n dX5_gives_46 rfl rfl rfl ?_
      refine qs_iconst (1 : Int32) dX5_gives_47 (by decide) rfl ?_
      refine qs_cV2i cfX5_44 (Nat.le_of_ble_eq_true rfl) rfl rfl (fun Y hY => kX5_it  hY) (Nat.le_of_ble_eq_true rfl) dX5_gives_48 rfl (fun x49 D48 g50 => ?_)
      refine qs_iload_n dX5_gives_51 rfl rfl rfl ?_
      refine qs_icmp_le (tgt := 66) dX5_gives_52 (by decide) rfl (fun g51 => ?_) (fun g51 => ?_)
      · refine qs_iconst (0 : Int32) dX5_gives_66 (by decide) rfl ?_
        refine qs_istore_n (fun v52 => [(3, .int v52), (2, .int v47), (0, .ref 0), (1, .int p1)]) dX5_gives_67 rfl (by decide) (fun _ => rfl) rfl (fun v52 => ?_)
        refine qs_aload_n dX5_gives_68 rfl rfl rfl ?_
        refine qs_iload_n dX5_gives_69 rfl rfl rfl ?_
        refine qs_iconst (0 : Int32) dX5_gives_70 (by decide) rfl ?_
        refine qs_cV2i cfX5_44 (Nat.le_of_ble_eq_true rfl) rfl rfl (fun Y hY => kX5_it  hY) (Nat.le_of_ble_eq_true rfl) dX5_gives_71 rfl (fun x54 D53 g55 => ?_)
        refine qs_ite (fun g56 => ?_) (fun g56 => ?_)
        · refine qs_tsIn (off := 38) (tgt := 112) dX5_gives_74 (by rw [g56]; decide) (by rw [g56]; decide) (by rw [g56]; rfl) (by decide) ?_
          refine qs_iload_n dX5_gives_112 rfl rfl rfl ?_
          refine qs_aload_n dX5_gives_113 rfl rfl rfl ?_
          refine qs_getR ffX5_9 rfl rfl dX5_gives_114 rfl ?_
          refine qs_iconst (1 : Int32) dX5_gives_117 (by decide) rfl ?_
          refine qs_iald rfl (by decide) dX5_gives_118 rfl (fun g57 => ?_)
          refine qs_iconst (5 : Int32) dX5_gives_119 (by decide) rfl ?_
          refine qs_idiv dX5_gives_120 (by decide) rfl ?_
          refine qs_iadd dX5_gives_121 rfl ?_
          exact qs_iret rfl dX5_gives_122
        · refine qs_ite (fun g58 => ?_) (fun g58 => ?_)
          · refine qs_tsIn (off := 49) (tgt := 123) dX5_gives_74 (by rw [g58]; decide) (by rw [g58]; decide) (by rw [g58]; rfl) (by decide) ?_
            refine qs_iload_n dX5_gives_123 rfl rfl rfl ?_
            refine qs_iconst (2 : Int32) dX5_gives_124 (by decide) rfl ?_
            refine qs_idiv dX5_gives_125 (by decide) rfl ?_
            exact qs_iret rfl dX5_gives_126
          · refine qs_ite (fun g59 => ?_) (fun g59 => ?_)
            · refine qs_tsIn (off := 53) (tgt := 127) dX5_gives_74 (by rw [g59]; decide) (by rw [g59]; decide) (by rw [g59]; rfl) (by decide) ?_
              refine qs_iload_n dX5_gives_127 rfl rfl rfl ?_
              refine qs_iconst (2 : Int32) dX5_gives_128 (by decide) rfl ?_
              refine qs_idiv dX5_gives_129 (by decide) rfl ?_
              refine qs_bipush (20 : Int32) dX5_gives_130 (by decide) rfl ?_
              refine qs_iadd dX5_gives_132 rfl ?_
              exact qs_iret rfl dX5_gives_133
            · refine qs_ite (fun g60 => ?_) (fun g60 => ?_)
              · refine qs_tsIn (off := 60) (tgt := 134) dX5_gives_74 (by rw [g60]; decide) (by rw [g60]; decide) (by rw [g60]; rfl) (by decide) ?_
                refine qs_iconst (2 : Int32) dX5_gives_134 (by decide) rfl ?_
                refine qs_iload_n dX5_gives_135 rfl rfl rfl ?_
                refine qs_iconst (2 : Int32) dX5_gives_136 (by decide) rfl ?_
                refine qs_idiv dX5_gives_137 (by decide) rfl ?_
                refine qs_bipush (20 : Int32) dX5_gives_138 (by decide) rfl ?_
                refine qs_iadd dX5_gives_140 rfl ?_
                refine qs_imul dX5_gives_141 rfl ?_
                exact qs_iret rfl dX5_gives_142
              · refine qs_ite (fun g61 => ?_) (fun g61 => ?_)
                · refine qs_tsIn (off := 69) (tgt := 143) dX5_gives_74 (by rw [g61]; decide) (by rw [g61]; decide) (by rw [g61]; rfl) (by decide) ?_
                  refine qs_bipush (10 : Int32) dX5_gives_143 (by decide) rfl ?_
                  exact qs_iret rfl dX5_gives_145
                · refine qs_ite (fun g62 => ?_) (fun g62 => ?_)
                  · refine qs_tsIn (off := 38) (tgt := 112) dX5_gives_74 (by rw [g62]; decide) (by rw [g62]; decide) (by rw [g62]; rfl) (by decide) ?_
                    refine qs_iload_n dX5_gives_112 rfl rfl rfl ?_
                    refine qs_aload_n dX5_gives_113 rfl rfl rfl ?_
                    refine qs_getR ffX5_9 rfl rfl dX5_gives_114 rfl ?_
                    refine qs_iconst (1 : Int32) dX5_gives_117 (by decide) rfl ?_
                    refine qs_iald rfl (by decide) dX5_gives_118 rfl (fun g63 => ?_)
                    refine qs_iconst (5 : Int32) dX5_gives_119 (by decide) rfl ?_
                    refine qs_idiv dX5_gives_120 (by decide) rfl ?_
                    refine qs_iadd dX5_gives_121 rfl ?_
                    exact qs_iret rfl dX5_gives_122
                  · refine qs_tsOut (tgt := 146) dX5_gives_74 (by have eg56 := lv_neT (a := 1) g56 rfl; have eg58 := lv_neT (a := 2) g58 rfl; have eg59 := lv_neT (a := 3) g59 rfl; have eg60 := lv_neT (a := 4) g60 rfl; have eg61 := lv_neT (a := 5) g61 rfl; have eg62 := lv_neT (a := 6) g62 rfl; omega) (by decide) ?_
                    refine qs_iload_n dX5_gives_146 rfl rfl rfl ?_
                    exact qs_iret rfl dX5_gives_147
      · refine qs_aload_n dX5_gives_55 rfl rfl rfl ?_
        refine qs_iload_n dX5_gives_56 rfl rfl rfl ?_
        refine qs_iconst (1 : Int32) dX5_gives_57 (by decide) rfl ?_
        refine qs_cV2i cfX5_44 (Nat.le_of_ble_eq_true rfl) rfl rfl (fun Y hY => kX5_it  hY) (Nat.le_of_ble_eq_true rfl) dX5_gives_58 rfl (fun x65 D64 g66 => ?_)
        refine qs_iload_n dX5_gives_61 rfl rfl rfl ?_
        refine qs_isub dX5_gives_62 rfl ?_
        refine qs_goto (tgt := 67) dX5_gives_63 (by decide) ?_
        refine qs_istore_n (fun v67 => [(3, .int v67), (2, .int v47), (0, .ref 0), (1, .int p1)]) dX5_gives_67 rfl (by decide) (fun _ => rfl) rfl (fun v67 => ?_)
        refine qs_aload_n dX5_gives_68 rfl rfl rfl ?_
        refine qs_iload_n dX5_gives_69 rfl rfl rfl ?_
        refine qs_iconst (0 : Int32) dX5_gives_70 (by decide) rfl ?_
        refine qs_cV2i cfX5_44 (Nat.le_of_ble_eq_true rfl) rfl rfl (fun Y hY => kX5_it  hY) (Nat.le_of_ble_eq_true rfl) dX5_gives_71 rfl (fun x69 D68 g70 => ?_)
        refine qs_ite (fun g71 => ?_) (fun g71 => ?_)
        · refine qs_tsIn (off := 38) (tgt := 112) dX5_gives_74 (by rw [g71]; decide) (by rw [g71]; decide) (by rw [g71]; rfl) (by decide) ?_
          refine qs_iload_n dX5_gives_112 rfl rfl rfl ?_
          refine qs_aload_n dX5_gives_113 rfl rfl rfl ?_
          refine qs_getR ffX5_9 rfl rfl dX5_gives_114 rfl ?_
          refine qs_iconst (1 : Int32) dX5_gives_117 (by decide) rfl ?_
          refine qs_iald rfl (by decide) dX5_gives_118 rfl (fun g72 => ?_)
          refine qs_iconst (5 : Int32) dX5_gives_119 (by decide) rfl ?_
          refine qs_idiv dX5_gives_120 (by decide) rfl ?_
          refine qs_iadd dX5_gives_121 rfl ?_
          exact qs_iret rfl dX5_gives_122
        · refine qs_ite (fun g73 => ?_) (fun g73 => ?_)
          · refine qs_tsIn (off := 49) (tgt := 123) dX5_gives_74 (by rw [g73]; decide) (by rw [g73]; decide) (by rw [g73]; rfl) (by decide) ?_
            refine qs_iload_n dX5_gives_123 rfl rfl rfl ?_
            refine qs_iconst (2 : Int32) dX5_gives_124 (by decide) rfl ?_
            refine qs_idiv dX5_gives_125 (by decide) rfl ?_
            exact qs_iret rfl dX5_gives_126
          · refine qs_ite (fun g74 => ?_) (fun g74 => ?_)
            · refine qs_tsIn (off := 53) (tgt := 127) dX5_gives_74 (by rw [g74]; decide) (by rw [g74]; decide) (by rw [g74]; rfl) (by decide) ?_
              refine qs_iload_n dX5_gives_127 rfl rfl rfl ?_
              refine qs_iconst (2 : Int32) dX5_gives_128 (by decide) rfl ?_
              refine qs_idiv dX5_gives_129 (by decide) rfl ?_
              refine qs_bipush (20 : Int32) dX5_gives_130 (by decide) rfl ?_
              refine qs_iadd dX5_gives_132 rfl ?_
              exact qs_iret rfl dX5_gives_133
            · refine qs_ite (fun g75 => ?_) (fun g75 => ?_)
              · refine qs_tsIn (off := 60) (tgt := 134) dX5_gives_74 (by rw [g75]; decide) (by rw [g75]; decide) (by rw [g75]; rfl) (by decide) ?_
                refine qs_iconst (2 : Int32) dX5_gives_134 (by decide) rfl ?_
                refine qs_iload_n dX5_gives_135 rfl rfl rfl ?_
                refine qs_iconst (2 : Int32) dX5_gives_136 (by decide) rfl ?_
                refine qs_idiv dX5_gives_137 (by decide) rfl ?_
                refine qs_bipush (20 : Int32) dX5_gives_138 (by decide) rfl ?_
                refine qs_iadd dX5_gives_140 rfl ?_
                refine qs_imul dX5_gives_141 rfl ?_
                exact qs_iret rfl dX5_gives_142
              · refine qs_ite (fun g76 => ?_) (fun g76 => ?_)
                · refine qs_tsIn (off := 69) (tgt := 143) dX5_gives_74 (by rw [g76]; decide) (by rw [g76]; decide) (by rw [g76]; rfl) (by decide) ?_
                  refine qs_bipush (10 : Int32) dX5_gives_143 (by decide) rfl ?_
                  exact qs_iret rfl dX5_gives_145
                · refine qs_ite (fun g77 => ?_) (fun g77 => ?_)
                  · refine qs_tsIn (off := 38) (tgt := 112) dX5_gives_74 (by rw [g77]; decide) (by rw [g77]; decide) (by rw [g77]; rfl) (by decide) ?_
                    refine qs_iload_n dX5_gives_112 rfl rfl rfl ?_
                    refine qs_aload_n dX5_gives_113 rfl rfl rfl ?_
                    refine qs_getR ffX5_9 rfl rfl dX5_gives_114 rfl ?_
                    refine qs_iconst (1 : Int32) dX5_gives_117 (by decide) rfl ?_
                    refine qs_iald rfl (by decide) dX5_gives_118 rfl (fun g78 => ?_)
                    refine qs_iconst (5 : Int32) dX5_gives_119 (by decide) rfl ?_
                    refine qs_idiv dX5_gives_120 (by decide) rfl ?_
                    refine qs_iadd dX5_gives_121 rfl ?_
                    exact qs_iret rfl dX5_gives_122
                  · refine qs_tsOut (tgt := 146) dX5_gives_74 (by have eg71 := lv_neT (a := 1) g71 rfl; have eg73 := lv_neT (a := 2) g73 rfl; have eg74 := lv_neT (a := 3) g74 rfl; have eg75 := lv_neT (a := 4) g75 rfl; have eg76 := lv_neT (a := 5) g76 rfl; have eg77 := lv_neT (a := 6) g77 rfl; omega) (by decide) ?_
                    refine qs_iload_n dX5_gives_146 rfl rfl rfl ?_
                    exact qs_iret rfl dX5_gives_147
def fX5_isOn (p1 : Int32) (D : qs_D) : Option (Int32 × qs_D) := (qs_bind (fX5_it p1 (3 : Int32) D) (fun x2 D1 => (if x2 = 0 then (qs_bind (fX5_it p1 (4 : Int32) D1) (fun x6 D5 => (if x6 = 0 then (some ((1 : Int32), D5)) else (some ((0 : Int32), D5))))) else (some ((0 : Int32), D1)))))
set_option maxRecDepth 20000 in
theorem kX5_isOn {l : Launch} {E : qs_E} {A : Nat → Prop} {p1 : Int32} {D : qs_D} {X : Int32 × qs_D}  (hX : fX5_isOn p1 D = some X) : qs_Ctr l E A shM yX5_isOn mX5_isOn 1 qs_ri [.ref 0, .int p1] D X := by
  refine qs_enter (plainFor_of_name (by decide)) rfl (Nat.le_of_ble_eq_true rfl) ?_ hX
  show qs_VO l E A shM mX5_isOn 1 qs_ri 0 [(0, .ref 0), (1, .int p1)] [] D (fX5_isOn p1 D)
  unfold fX5_isOn
  refine qs_aload_n dX5_isOn_0 rfl rfl rfl ?_
  refine qs_iload_n dX5_isOn_1 rfl rfl rfl ?_
  refine qs_iconst (3 : Int32) dX5_isOn_2 (by decide) rfl ?_
  refine qs_cV2i cfX5_44 (Nat.le_of_ble_eq_true rfl) rfl rfl (fun Y hY => kX5_it  hY) (Nat.le_of_ble_eq_true rfl) dX5_isOn_3 rfl (fun x2 D1 g3 => ?_)
  refine qs_if_ne (tgt := 22) dX5_isOn_6 (by decide) rfl (fun g4 => ?_) (fun g4 => ?_)
  · refine qs_aload_n dX5_isOn_9 rfl rfl rfl ?_
    refine qs_iload_n dX5_isOn_10 rfl rfl rfl ?_
    refine qs_iconst (4 : Int32) dX5_isOn_11 (by decide) rfl ?_
    refine qs_cV2i cfX5_44 (Nat.le_of_ble_eq_true rfl) rfl rfl (fun Y hY => kX5_it  hY) (Nat.le_of_ble_eq_true rfl) dX5_isOn_12 rfl (fun x6 D5 g7 => ?_)
    refine qs_if_ne (tgt := 22) dX5_isOn_15 (by decide) rfl (fun g8 => ?_) (fun g8 => ?_)
    · refine qs_iconst (1 : Int32) dX5_isOn_18 (by decide) rfl ?_
      refine qs_goto (tgt := 23) dX5_isOn_19 (by decide) ?_
      exact qs_zret (Or.inr rfl) rfl dX5_isOn_23
    · refine qs_iconst (0 : Int32) dX5_isOn_22 (by decide) rfl ?_
      exact qs_zret (Or.inl rfl) rfl dX5_isOn_23
  · refine qs_iconst (0 : Int32) dX5_isOn_22 (by decide) rfl ?_
    exact qs_zret (Or.inl rfl) rfl dX5_isOn_23
abbrev mX5_set : qs_M := (RX5, cX5_set, 3, (some FieldType.int))
def fX5_set (p1 : Int32) (p2 : Int32) (D : qs_D) : Option (Int32 × qs_D) := (qs_bind (fX5_in p1 (0 : Int32) (1 : Int32) D) (fun x2 D1 => (if x2 = 0 then (qs_bind (fX5_finds (-1000001 : Int32) D1) (fun x6 D5 => (some (x6, D5)))) else (if p1 = 0 then (qs_bind (fX5_in p2 (0 : Int32) (99 : Int32) D1) (fun x20 D19 => (if x20 = 0 then (qs_bind (fX5_finds (-1000001 : Int32) D19) (fun x24 D23 => (some (x24, D23)))) else (qs_bind (fX5_becomes ((1 : Int32) + p1) p2 D19) (fun x27 D26 => (some (x27, D26))))))) else (qs_bind (fX5_in p2 (0 : Int32) (9 : Int32) D1) (fun x10 D9 => (if x10 = 0 then (qs_bind (fX5_finds (-1000001 : Int32) D9) (fun x14 D13 => (some (x14, D13)))) else (qs_bind (fX5_becomes ((1 : Int32) + p1) p2 D9) (fun x17 D16 => (some (x17, D16)))))))))))
set_option maxRecDepth 20000 in
theorem kX5_set {l : Launch} {E : qs_E} {A : Nat → Prop} {p1 : Int32} {p2 : Int32} {D : qs_D} {X : Int32 × qs_D}  (hX : fX5_set p1 p2 D = some X) : qs_Ctr l E A shM yX5_set mX5_set 1 qs_ri [.ref 0, .int p1, .int p2] D X := by
  refine qs_enter (plainFor_of_name (by decide)) rfl (Nat.le_of_ble_eq_true rfl) ?_ hX
  show qs_VO l E A shM mX5_set 1 qs_ri 0 [(0, .ref 0), (1, .int p1), (2, .int p2)] [] D (fX5_set p1 p2 D)
  unfold fX5_set
  refine qs_iload_n dX5_set_0 rfl rfl rfl ?_
  refine qs_iconst (0 : Int32) dX5_set_1 (by decide) rfl ?_
  refine qs_iconst (1 : Int32) dX5_set_2 (by decide) rfl ?_
  refine qs_cS3i cfX5_40 (Nat.le_of_ble_eq_true rfl) (fun Y hY => kX5_in  hY) (Nat.le_of_ble_eq_true rfl) dX5_set_3 rfl (fun x2 D1 g3 => ?_)
  refine qs_if_eq (tgt := 39) dX5_set_6 (by decide) rfl (fun g4 => ?_) (fun g4 => ?_)
  · refine qs_aload_n dX5_set_39 rfl rfl rfl ?_
    refine qs_ldc wcX5_34 dX5_set_40 rfl ?_
    refine qs_cV1i cfX5_36 (Nat.le_of_ble_eq_true rfl) rfl rfl (fun Y hY => kX5_finds  hY) (Nat.le_of_ble_eq_true rfl) dX5_set_42 rfl (fun x6 D5 g7 => ?_)
    exact qs_iret rfl dX5_set_45
  · refine qs_iload_n dX5_set_9 rfl rfl rfl ?_
    refine qs_iconst (0 : Int32) dX5_set_10 (by decide) rfl ?_
    refine qs_iload_n dX5_set_11 rfl rfl rfl ?_
    refine qs_if_ne (tgt := 20) dX5_set_12 (by decide) rfl (fun g8 => ?_) (fun g8 => ?_)
    · refine qs_bipush (99 : Int32) dX5_set_15 (by decide) rfl ?_
      refine qs_goto (tgt := 22) dX5_set_17 (by decide) ?_
      refine qs_cS3i cfX5_40 (Nat.le_of_ble_eq_true rfl) (fun Y hY => kX5_in  hY) (Nat.le_of_ble_eq_true rfl) dX5_set_22 rfl (fun x20 D19 g21 => ?_)
      refine qs_if_eq (tgt := 39) dX5_set_25 (by decide) rfl (fun g22 => ?_) (fun g22 => ?_)
      · refine qs_aload_n dX5_set_39 rfl rfl rfl ?_
        refine qs_ldc wcX5_34 dX5_set_40 rfl ?_
        refine qs_cV1i cfX5_36 (Nat.le_of_ble_eq_true rfl) rfl rfl (fun Y hY => kX5_finds  hY) (Nat.le_of_ble_eq_true rfl) dX5_set_42 rfl (fun x24 D23 g25 => ?_)
        exact qs_iret rfl dX5_set_45
      · refine qs_aload_n dX5_set_28 rfl rfl rfl ?_
        refine qs_iconst (1 : Int32) dX5_set_29 (by decide) rfl ?_
        refine qs_iload_n dX5_set_30 rfl rfl rfl ?_
        refine qs_iadd dX5_set_31 rfl ?_
        refine qs_iload_n dX5_set_32 rfl rfl rfl ?_
        refine qs_cV2i cfX5_52 (Nat.le_of_ble_eq_true rfl) rfl rfl (fun Y hY => kX5_becomes  hY) (Nat.le_of_ble_eq_true rfl) dX5_set_33 rfl (fun x27 D26 g28 => ?_)
        refine qs_goto (tgt := 45) dX5_set_36 (by decide) ?_
        exact qs_iret rfl dX5_set_45
    · refine qs_bipush (9 : Int32) dX5_set_20 (by decide) rfl ?_
      refine qs_cS3i cfX5_40 (Nat.le_of_ble_eq_true rfl) (fun Y hY => kX5_in  hY) (Nat.le_of_ble_eq_true rfl) dX5_set_22 rfl (fun x10 D9 g11 => ?_)
      refine qs_if_eq (tgt := 39) dX5_set_25 (by decide) rfl (fun g12 => ?_) (fun g12 => ?_)
      · refine qs_aload_n dX5_set_39 rfl rfl rfl ?_
        refine qs_ldc wcX5_34 dX5_set_40 rfl ?_
        refine qs_cV1i cfX5_36 (Nat.le_of_ble_eq_true rfl) rfl rfl (fun Y hY => kX5_finds  hY) (Nat.le_of_ble_eq_true rfl) dX5_set_42 rfl (fun x14 D13 g15 => ?_)
        exact qs_iret rfl dX5_set_45
      · refine qs_aload_n dX5_set_28 rfl rfl rfl ?_
        refine qs_iconst (1 : Int32) dX5_set_29 (by decide) rfl ?_
        refine qs_iload_n dX5_set_30 rfl rfl rfl ?_
        refine qs_iadd dX5_set_31 rfl ?_
        refine qs_iload_n dX5_set_32 rfl rfl rfl ?_
        refine qs_cV2i cfX5_52 (Nat.le_of_ble_eq_true rfl) rfl rfl (fun Y hY => kX5_becomes  hY) (Nat.le_of_ble_eq_true rfl) dX5_set_33 rfl (fun x17 D16 g18 => ?_)
        refine qs_goto (tgt := 45) dX5_set_36 (by decide) ?_
        exact qs_iret rfl dX5_set_45
abbrev mX5_deed : qs_M := (RX5, cX5_deed, 3, (some FieldType.int))
def fX5_deed (p1 : Int32) (p2 : Int32) (D : qs_D) : Option (Int32 × qs_D) := (qs_bind (fX5_in p1 (0 : Int32) (5 : Int32) D) (fun x2 D1 => (if x2 = 0 then (qs_bind (fX5_finds (-1000001 : Int32) D1) (fun x6 D5 => (some (x6, D5)))) else (qs_bind (fX5_isDeed p2 D1) (fun x9 D8 => (if x9 = 0 then (qs_bind (fX5_finds (-1000001 : Int32) D8) (fun x13 D12 => (some (x13, D12)))) else (qs_bind (fX5_becomes ((6 : Int32) + p1) p2 D8) (fun x16 D15 => (some (x16, D15))))))))))
set_option maxRecDepth 20000 in
theorem kX5_deed {l : Launch} {E : qs_E} {A : Nat → Prop} {p1 : Int32} {p2 : Int32} {D : qs_D} {X : Int32 × qs_D}  (hX : fX5_deed p1 p2 D = some X) : qs_Ctr l E A shM yX5_deed mX5_deed 2 qs_ri [.ref 0, .int p1, .int p2] D X := by
  refine qs_enter (plainFor_of_name (by decide)) rfl (Nat.le_of_ble_eq_true rfl) ?_ hX
  show qs_VO l E A shM mX5_deed 2 qs_ri 0 [(0, .ref 0), (1, .int p1), (2, .int p2)] [] D (fX5_deed p1 p2 D)
  unfold fX5_deed
  refine qs_iload_n dX5_deed_0 rfl rfl rfl ?_
  refine qs_iconst (0 : Int32) dX5_deed_1 (by decide) rfl ?_
  refine qs_iconst (5 : Int32) dX5_deed_2 (by decide) rfl ?_
  refine qs_cS3i cfX5_40 (Nat.le_of_ble_eq_true rfl) (fun Y hY => kX5_in  hY) (Nat.le_of_ble_eq_true rfl) dX5_deed_3 rfl (fun x2 D1 g3 => ?_)
  refine qs_if_eq (tgt := 28) dX5_deed_6 (by decide) rfl (fun g4 => ?_) (fun g4 => ?_)
  · refine qs_aload_n dX5_deed_28 rfl rfl rfl ?_
    refine qs_ldc wcX5_34 dX5_deed_29 rfl ?_
    refine qs_cV1i cfX5_36 (Nat.le_of_ble_eq_true rfl) rfl rfl (fun Y hY => kX5_finds  hY) (Nat.le_of_ble_eq_true rfl) dX5_deed_31 rfl (fun x6 D5 g7 => ?_)
    exact qs_iret rfl dX5_deed_34
  · refine qs_iload_n dX5_deed_9 rfl rfl rfl ?_
    refine qs_cS1i cfX5_55 (Nat.le_of_ble_eq_true rfl) (fun Y hY => kX5_isDeed  hY) (Nat.le_of_ble_eq_true rfl) dX5_deed_10 rfl (fun x9 D8 g10 => ?_)
    refine qs_if_eq (tgt := 28) dX5_deed_13 (by decide) rfl (fun g11 => ?_) (fun g11 => ?_)
    · refine qs_aload_n dX5_deed_28 rfl rfl rfl ?_
      refine qs_ldc wcX5_34 dX5_deed_29 rfl ?_
      refine qs_cV1i cfX5_36 (Nat.le_of_ble_eq_true rfl) rfl rfl (fun Y hY => kX5_finds  hY) (Nat.le_of_ble_eq_true rfl) dX5_deed_31 rfl (fun x13 D12 g14 => ?_)
      exact qs_iret rfl dX5_deed_34
    · refine qs_aload_n dX5_deed_16 rfl rfl rfl ?_
      refine qs_bipush (6 : Int32) dX5_deed_17 (by decide) rfl ?_
      refine qs_iload_n dX5_deed_19 rfl rfl rfl ?_
      refine qs_iadd dX5_deed_20 rfl ?_
      refine qs_iload_n dX5_deed_21 rfl rfl rfl ?_
      refine qs_cV2i cfX5_52 (Nat.le_of_ble_eq_true rfl) rfl rfl (fun Y hY => kX5_becomes  hY) (Nat.le_of_ble_eq_true rfl) dX5_deed_22 rfl (fun x16 D15 g17 => ?_)
      refine qs_goto (tgt := 34) dX5_deed_25 (by decide) ?_
      exact qs_iret rfl dX5_deed_34
