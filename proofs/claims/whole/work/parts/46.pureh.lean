/-! the text's tokens, on both sides -/
/-- only the tape object has changed, and not its length -/
def tfX (X X' : qs_D) : Prop := (∀ x, x ≠ 37 → X' x = X x) ∧ X' 37 1 = X 37 1
def tfM (M M' : qs_D) : Prop := (∀ x, x ≠ 0 → M' x = M x) ∧ ∀ k, k ≠ 10 → k ≠ 11 → k ≠ 12 → k ≠ 13 → M' 0 k = M 0 k
theorem tfX_tr {A B C : qs_D} (h : tfX A B) (h2 : tfX B C) : tfX A C := ⟨fun x hx => (h2.1 x hx).trans (h.1 x hx), h2.2.trans h.2⟩
theorem tfM_tr {A B C : qs_D} (h : tfM A B) (h2 : tfM B C) : tfM A C := ⟨fun x hx => (h2.1 x hx).trans (h.1 x hx), fun k a b c d => (h2.2 k a b c d).trans (h.2 k a b c d)⟩
theorem tfX_rf (A : qs_D) : tfX A A := ⟨fun _ _ => rfl, rfl⟩
theorem tfM_rf (A : qs_D) : tfM A A := ⟨fun _ _ => rfl, fun _ _ _ _ _ => rfl⟩
theorem tfX_u (X : qs_D) {k : Nat} (v : Int32) (hk : k ≠ 1) : tfX X (qs_u X 37 k v) := ⟨fun x hx => by rw [pu_eq, pw_ne _ _ hx], by rw [pu_eq, pw_self, up_ne _ _ (fun q => hk q.symm)]⟩
theorem tfM_u (M : qs_D) {k : Nat} (v : Int32) (hk : k = 10 ∨ k = 11 ∨ k = 12 ∨ k = 13) : tfM M (qs_u M 0 k v) := ⟨fun x hx => by rw [pu_eq, pw_ne _ _ hx], fun j a b c d => by rw [pu_eq, pw_self, up_ne _ _ (by omega)]⟩
theorem uu (D : qs_D) (i k : Nat) (v : Int32) : (qs_u D i k v) i k = v := by rw [pu_eq, pw_self, up_self]
theorem un (D : qs_D) (i : Nat) {k j : Nat} (v : Int32) (h : j ≠ k) : (qs_u D i k v) i j = D i j := by rw [pu_eq, pw_self, up_ne _ _ h]
theorem TP_fr {X M X' M' : qs_D} {t : Nat} {B : Nat → Nat} (h : TP X M t B) (hx : tfX X X') (hm : tfM M M') : TP X' M' t B := by
  obtain ⟨t1, t2, t3, t4⟩ := h
  refine ⟨t1, hx.2.trans t2, (hm.2 9 (by decide) (by decide) (by decide) (by decide)).trans t3, fun k hk => ?_⟩
  rw [hx.1 38 (by decide), hm.1 8 (by decide)]
  exact t4 k hk
theorem wscan {t : Nat} {B : Nat → Nat} : ∀ (k k2 e : Nat) (Y N : qs_D), t - e < k → t - e < k2 → e ≤ t → TP Y N t B → Y 37 2 = 0 → Y 37 4 = nI e → N 0 12 = nI e → ∃ en Y' N', e ≤ en ∧ en ≤ t ∧ (∀ j, e ≤ j → j < en → 97 ≤ B j ∧ B j ≤ 122) ∧ fX3_nextToken_L118 k 1 Y = some ((), Y') ∧ Y' 37 4 = nI en ∧ Y' 37 2 = 0 ∧ Y' 37 3 = Y 37 3 ∧ tfX Y Y' ∧ fX5_reads_L76 k2 N = qs_bind (fX5_wordHere N') (fun x D => some ((), qs_u D 0 10 x)) ∧ N' 0 12 = nI en ∧ N' 0 11 = N 0 11 ∧ tfM N N' := by
  intro k
  induction k with
  | zero => intro k2 e Y N h; omega
  | succ k ih =>
    intro k2 e Y N hk hk2 he hT h2 h4 h12
    obtain ⟨k2, rfl⟩ : ∃ q, k2 = q + 1 := ⟨k2 - 1, by omega⟩
    obtain ⟨t1, t2, t3, t4⟩ := id hT
    rw [fX3_nextToken_L118, fX5_reads_L76, h12]
    have hby := rByte (lo := 97) (hi := 122) hT he (by decide) (by decide)
    have hby : fX5_isByte (nI e) 97 122 N = some (if e < t ∧ 97 ≤ B e ∧ B e ≤ 122 then 1 else 0, N) := hby
    rw [hby, pl_bind, if_neg one0, t2, h4]
    by_cases het : t ≤ e
    · rw [if_pos (nI_le het (by omega)), if_neg (c := e < t ∧ 97 ≤ B e ∧ B e ≤ 122) (by omega), if_pos rfl]
      exact ⟨e, Y, N, Nat.le_refl _, he, fun j a b => by omega, rfl, h4, h2, rfl, tfX_rf Y, rfl, h12, rfl, tfM_rf N⟩
    · obtain ⟨b1, b2, b3⟩ := t4 e (by omega)
      rw [if_neg (nI_ge (by omega) (by omega)), pl_gN (d := e) (n := 120) (by decide) (by omega), tnN (d := e) (by omega), b3, cSort b1, pl_bind, h2]
      by_cases hlo : 97 ≤ B e ∧ B e ≤ 122
      · rw [srt_0.mpr hlo, if_pos (c := e < t ∧ 97 ≤ B e ∧ B e ≤ 122) ⟨by omega, hlo⟩, if_neg one0, if_pos (by decide), pl_let, pl_let, h4, h12, nI_s]
        obtain ⟨en, Y', N', q1, q2, q3, q4, q5, q6, q7, q8, q9, q10, q11, q12⟩ := ih k2 (e + 1) (qs_u Y 37 4 (nI (e + 1))) (qs_u N 0 12 (nI (e + 1))) (by omega) (by omega) (by omega) (TP_fr hT (tfX_u Y _ (by decide)) (tfM_u N _ (by decide))) (by rw [un _ _ _ (by decide)]; exact h2) (uu _ _ _ _) (uu _ _ _ _)
        refine ⟨en, Y', N', by omega, q2, fun j a b => ?_, q4, q5, q6, by rw [q7, un _ _ _ (by decide)], tfX_tr (tfX_u Y _ (by decide)) q8, ?_, q10, by rw [q11, un _ _ _ (by decide)], tfM_tr (tfM_u N _ (by decide)) q12⟩
        · by_cases hje : j = e
          · subst hje; exact hlo
          · exact q3 j (by omega) b
        · exact q9
      · have hs0 : ¬ nI (srt (B e)) = 0 := by
          intro q
          have q2 := srt_4 (B e)
          exact hlo (srt_0.mp ((nI_eq (b := 0) (by omega) (by decide)).mp q))
        rw [if_neg hs0, if_neg (c := e < t ∧ 97 ≤ B e ∧ B e ≤ 122) (fun q => hlo q.2), if_pos rfl]
        exact ⟨e, Y, N, Nat.le_refl _, he, fun j a b => by omega, rfl, h4, h2, rfl, tfX_rf Y, rfl, h12, rfl, tfM_rf N⟩
/-- the value of j digits from st on, as the reference counts it -/
def rvN (B : Nat → Nat) (st : Nat) : Nat → Nat
  | 0 => 0
  | j + 1 => if rvN B st j ≤ 999 then 10 * rvN B st j + B (st + j) - 48 else rvN B st j
theorem rvN_b {B : Nat → Nat} {st : Nat} : ∀ j, (∀ i, i < j → 48 ≤ B (st + i) ∧ B (st + i) ≤ 57) → rvN B st j ≤ 9999 := by
  intro j
  induction j with
  | zero => intro h; unfold rvN; omega
  | succ j ih =>
    intro h
    have h1 := ih (fun i hi => h i (by omega))
    have h2 := h j (by omega)
    unfold rvN
    by_cases q : rvN B st j ≤ 999
    · rw [if_pos q]; omega
    · rw [if_neg q]; exact h1
theorem nscan {t st : Nat} {B : Nat → Nat} : ∀ (k k2 e : Nat) (Y N : qs_D), t - e < k → t - e < k2 → st ≤ e → e ≤ t → TP Y N t B → Y 37 2 = 1 → Y 37 4 = nI e → N 0 12 = nI e → (∀ j, st ≤ j → j < e → 48 ≤ B j ∧ B j ≤ 57) → N 0 13 = nI (rvN B st (e - st)) → ∃ en Y', e ≤ en ∧ en ≤ t ∧ (∀ j, st ≤ j → j < en → 48 ≤ B j ∧ B j ≤ 57) ∧ fX3_nextToken_L118 k 1 Y = some ((), Y') ∧ Y' 37 4 = nI en ∧ Y' 37 2 = 1 ∧ Y' 37 3 = Y 37 3 ∧ tfX Y Y' ∧ (∃ N', fX5_reads_L130 k2 N = some ((), N') ∧ N' 0 10 = 20 ∧ N' 0 12 = nI en ∧ N' 0 11 = N 0 11 ∧ N' 0 13 = nI (rvN B st (en - st)) ∧ tfM N N') := by
  intro k
  induction k with
  | zero => intro k2 e Y N h; omega
  | succ k ih =>
    intro k2 e Y N hk hk2 hse he hT h2 h4 h12 hdg h13
    obtain ⟨k2, rfl⟩ : ∃ q, k2 = q + 1 := ⟨k2 - 1, by omega⟩
    obtain ⟨t1, t2, t3, t4⟩ := id hT
    rw [fX3_nextToken_L118, fX5_reads_L130]
    have hby := rByte (lo := 48) (hi := 57) hT he (by decide) (by decide)
    have hby : fX5_isByte (nI e) 48 57 N = some (if e < t ∧ 48 ≤ B e ∧ B e ≤ 57 then 1 else 0, N) := hby
    rw [h12, hby, pl_bind, if_neg one0, t2, h4]
    have hstop : ∃ N', (some ((), qs_u N 0 10 20) : Option (Unit × qs_D)) = some ((), N') ∧ N' 0 10 = 20 ∧ N' 0 12 = nI e ∧ N' 0 11 = N 0 11 ∧ N' 0 13 = nI (rvN B st (e - st)) ∧ tfM N N' := ⟨_, rfl, uu _ _ _ _, by rw [un _ _ _ (by decide)]; exact h12, by rw [un _ _ _ (by decide)], by rw [un _ _ _ (by decide)]; exact h13, tfM_u N _ (by decide)⟩
    by_cases het : t ≤ e
    · rw [if_pos (nI_le het (by omega)), if_neg (c := e < t ∧ 48 ≤ B e ∧ B e ≤ 57) (by omega), if_pos rfl, pl_let]
      exact ⟨e, Y, Nat.le_refl _, he, hdg, rfl, h4, h2, rfl, tfX_rf Y, hstop⟩
    · obtain ⟨b1, b2, b3⟩ := t4 e (by omega)
      rw [if_neg (nI_ge (by omega) (by omega)), pl_gN (d := e) (n := 120) (by decide) (by omega), tnN (d := e) (by omega), b3, cSort b1, pl_bind, h2]
      by_cases hlo : 48 ≤ B e ∧ B e ≤ 57
      · have hst0 : st + (e - st) = e := by omega
        have hrb := rvN_b (B := B) (st := st) (e - st) (fun i hi => hdg (st + i) (by omega) (by omega))
        rw [srt_1.mpr hlo, if_pos (c := e < t ∧ 48 ≤ B e ∧ B e ≤ 57) ⟨by omega, hlo⟩, if_neg one0, if_pos (by decide), pl_let, h4, nI_s, h12, pl_gN (d := e) (n := 120) (by decide) (by omega), tnN (d := e) (by omega), b2, h13]
        have hdg2 : ∀ j, st ≤ j → j < e + 1 → 48 ≤ B j ∧ B j ≤ 57 := by
          intro j a b
          by_cases hje : j = e
          · subst hje; exact hlo
          · exact hdg j a (by omega)
        have hrv : rvN B st (e + 1 - st) = if rvN B st (e - st) ≤ 999 then 10 * rvN B st (e - st) + B e - 48 else rvN B st (e - st) := by
          rw [show e + 1 - st = (e - st) + 1 by omega]
          show (if rvN B st (e - st) ≤ 999 then 10 * rvN B st (e - st) + B (st + (e - st)) - 48 else rvN B st (e - st)) = _
          rw [hst0]
        have fin : ∀ N1 : qs_D, tfM N N1 → N1 0 11 = N 0 11 → N1 0 12 = nI (e + 1) → N1 0 13 = nI (rvN B st (e + 1 - st)) → ∃ en Y', e ≤ en ∧ en ≤ t ∧ (∀ j, st ≤ j → j < en → 48 ≤ B j ∧ B j ≤ 57) ∧ fX3_nextToken_L118 k 1 (qs_u Y 37 4 (nI (e + 1))) = some ((), Y') ∧ Y' 37 4 = nI en ∧ Y' 37 2 = 1 ∧ Y' 37 3 = Y 37 3 ∧ tfX Y Y' ∧ (∃ N', fX5_reads_L130 k2 N1 = some ((), N') ∧ N' 0 10 = 20 ∧ N' 0 12 = nI en ∧ N' 0 11 = N 0 11 ∧ N' 0 13 = nI (rvN B st (en - st)) ∧ tfM N N') := by
          intro N1 f1 f2 f3 f4
          obtain ⟨en, Y', q1, q2, q3, q4, q5, q6, q7, q8, N', q9, q10, q11, q12, q13, q14⟩ := ih k2 (e + 1) (qs_u Y 37 4 (nI (e + 1))) N1 (by omega) (by omega) (by omega) (by omega) (TP_fr hT (tfX_u Y _ (by decide)) f1) (by rw [un _ _ _ (by decide)]; exact h2) (uu _ _ _ _) f3 hdg2 f4
          exact ⟨en, Y', by omega, q2, q3, q4, q5, q6, by rw [q7, un _ _ _ (by decide)], tfX_tr (tfX_u Y _ (by decide)) q8, N', q9, q10, q11, q12.trans f2, q13, tfM_tr f1 q14⟩
        by_cases h999 : rvN B st (e - st) ≤ 999
        · have hval : (10 : Int32) * nI (rvN B st (e - st)) + nI (B e) - 48 = nI (rvN B st (e + 1 - st)) := by
            rw [hrv, if_pos h999]
            have e1 : (10 : Int32) * nI (rvN B st (e - st)) = nI (10 * rvN B st (e - st)) := pk_mul 10 _
            rw [e1, nI_add]
            exact pk_sub (b := 48) (by omega)
          rw [if_pos (show nI (rvN B st (e - st)) ≤ 999 from nI_le (b := 999) h999 (by decide)), hval, pl_let, pl_let, un _ _ _ (by decide), h12, nI_s]
          exact fin _ (tfM_tr (tfM_u N _ (by decide)) (tfM_u _ _ (by decide))) (by rw [un _ _ _ (by decide), un _ _ _ (by decide)]) (uu _ _ _ _) (by rw [un _ _ _ (by decide), uu])
        · rw [if_neg (show ¬ nI (rvN B st (e - st)) ≤ 999 from nI_ge (a := 999) (by omega) (by omega)), pl_let, pl_let, un _ _ _ (by decide), h12, nI_s]
          exact fin _ (tfM_tr (tfM_u N _ (by decide)) (tfM_u _ _ (by decide))) (by rw [un _ _ _ (by decide), un _ _ _ (by decide)]) (uu _ _ _ _) (by rw [un _ _ _ (by decide), uu, hrv, if_neg h999])
      · have hs0 : ¬ nI (srt (B e)) = 1 := by
          intro q
          have q2 := srt_4 (B e)
          exact hlo (srt_1.mp ((nI_eq (b := 1) (by omega) (by decide)).mp q))
        rw [if_neg hs0, if_neg (c := e < t ∧ 48 ≤ B e ∧ B e ≤ 57) (fun q => hlo q.2), if_pos rfl, pl_let]
        exact ⟨e, Y, Nat.le_refl _, he, hdg, rfl, h4, h2, rfl, tfX_rf Y, hstop⟩
/-- the token that both have read -/
def Tok (X M : qs_D) (t : Nat) (B : Nat → Nat) (st en tk : Nat) : Prop :=
  st ≤ en ∧ en ≤ t ∧ X 37 3 = nI st ∧ X 37 4 = nI en ∧ M 0 10 = nI tk ∧ M 0 11 = nI st ∧ M 0 12 = nI en ∧
  ((X 37 2 = 0 ∧ st < en ∧ (∀ j, st ≤ j → j < en → 97 ≤ B j ∧ B j ≤ 122) ∧ ((tk < 14 ∧ wm B st (en - st) tk) ∨ (tk = 23 ∧ ∀ w, w < 14 → ¬ wm B st (en - st) w)))
  ∨ (X 37 2 = 1 ∧ tk = 20 ∧ (∀ j, st ≤ j → j < en → 48 ≤ B j ∧ B j ≤ 57) ∧ M 0 13 = nI (rvN B st (en - st)))
  ∨ (X 37 2 = 2 ∧ tk = 21 ∧ st < en) ∨ (X 37 2 = 3 ∧ tk = 22 ∧ st = t) ∨ (X 37 2 = 4 ∧ tk = 23))
theorem wordEnd {X M X1 M1 : qs_D} {t st : Nat} {B : Nat → Nat} (hT : TP X M t B) (hst : st < t) (hx : tfX X X1) (hm : tfM M M1) (e3 : X1 37 3 = nI st) (e4 : X1 37 4 = nI (st + 1)) (e2 : X1 37 2 = 0) (m11 : M1 0 11 = nI st) (m12 : M1 0 12 = nI st) (hb : 97 ≤ B st ∧ B st ≤ 122) {F : Nat} (hF : F = 4096) : ∃ X' M' en tk, fX3_nextToken_L118 F 1 X1 = some ((), X') ∧ fX5_reads_L76 F M1 = some ((), M') ∧ Tok X' M' t B st en tk ∧ tfX X X' ∧ tfM M M' := by
  obtain ⟨t1, t2, t3, t4⟩ := id hT
  obtain ⟨F2, rfl⟩ : ∃ F2, F = F2 + 1 := ⟨F - 1, by omega⟩
  have hT1 := TP_fr hT hx hm
  have hby := rByte (lo := 97) (hi := 122) hT1 (by omega : st ≤ t) (by decide) (by decide)
  have hby : fX5_isByte (nI st) 97 122 M1 = some (if st < t ∧ 97 ≤ B st ∧ B st ≤ 122 then 1 else 0, M1) := hby
  obtain ⟨en, Y', N', q1, q2, q3, q4, q5, q6, q7, q8, q9, q10, q11, q12⟩ := wscan (F2 + 1) F2 (st + 1) X1 (qs_u M1 0 12 (nI (st + 1))) (by omega) (by omega) (by omega) (TP_fr hT1 (tfX_rf X1) (tfM_u M1 _ (by decide))) e2 e4 (uu _ _ _ _)
  have hq : ∀ j, st ≤ j → j < en → 97 ≤ B j ∧ B j ≤ 122 := by
    intro j a b
    by_cases hj : j = st
    · subst hj; exact hb
    · exact q3 j (by omega) b
  have n11 : N' 0 11 = nI st := by rw [q11, un _ _ _ (by decide)]; exact m11
  have hm2 : tfM M N' := tfM_tr hm (tfM_tr (tfM_u M1 _ (by decide)) q12)
  obtain ⟨tk, w1, w2⟩ := rHere (M := N') (B := B) n11 q10 (by omega) (by omega) (fun k hk => by rw [hm2.1 8 (by decide)]; exact (t4 (st + k) (by omega)).2.1) (fun k hk => hq (st + k) (by omega) (by omega))
  refine ⟨Y', qs_u N' 0 10 (nI tk), en, tk, q4, ?_, ⟨by omega, q2, q7.trans e3, q5, uu _ _ _ _, by rw [un _ _ _ (by decide)]; exact n11, by rw [un _ _ _ (by decide)]; exact q10, Or.inl ⟨q6, by omega, hq, w2⟩⟩, tfX_tr hx q8, tfM_tr hm2 (tfM_u _ _ (by decide))⟩
  rw [fX5_reads_L76, m12, hby, pl_bind, if_pos (c := st < t ∧ 97 ≤ B st ∧ B st ≤ 122) ⟨hst, hb⟩, if_neg one0, pl_let, m12, nI_s, q9, w1, pl_bind]
theorem numEnd {X M X1 M1 : qs_D} {t st : Nat} {B : Nat → Nat} (hT : TP X M t B) (hst : st < t) (hx : tfX X X1) (hm : tfM M M1) (e3 : X1 37 3 = nI st) (e4 : X1 37 4 = nI (st + 1)) (e2 : X1 37 2 = 1) (m11 : M1 0 11 = nI st) (m12 : M1 0 12 = nI st) (m13 : M1 0 13 = 0) (hb : 48 ≤ B st ∧ B st ≤ 57) {F : Nat} (hF : F = 4096) : ∃ X' M' en tk, fX3_nextToken_L118 F 1 X1 = some ((), X') ∧ fX5_reads_L130 F M1 = some ((), M') ∧ Tok X' M' t B st en tk ∧ tfX X X' ∧ tfM M M' := by
  obtain ⟨t1, t2, t3, t4⟩ := id hT
  obtain ⟨F2, rfl⟩ : ∃ F2, F = F2 + 1 := ⟨F - 1, by omega⟩
  have hT1 := TP_fr hT hx hm
  obtain ⟨b1, b2, b3⟩ := (TP_fr hT hx hm).2.2.2 st hst
  have hby := rByte (lo := 48) (hi := 57) hT1 (by omega : st ≤ t) (by decide) (by decide)
  have hby : fX5_isByte (nI st) 48 57 M1 = some (if st < t ∧ 48 ≤ B st ∧ B st ≤ 57 then 1 else 0, M1) := hby
  have hrv : rvN B st (st + 1 - st) = B st - 48 := by
    rw [show st + 1 - st = 0 + 1 by omega]
    show (if rvN B st 0 ≤ 999 then 10 * rvN B st 0 + B (st + 0) - 48 else rvN B st 0) = _
    rw [if_pos (by show 0 ≤ 999; decide)]
    show 10 * 0 + B st - 48 = _
    omega
  have hval : (10 : Int32) * 0 + nI (B st) - 48 = nI (B st - 48) := by
    have e1 : (10 : Int32) * 0 = nI 0 := by decide
    rw [e1, nI_add, Nat.zero_add]
    exact pk_sub (b := 48) hb.1
  obtain ⟨en, Y', q1, q2, q3, q4, q5, q6, q7, q8, N', q9, q10, q11, q12, q13, q14⟩ := nscan (st := st) (F2 + 1) F2 (st + 1) X1 (qs_u (qs_u M1 0 13 (nI (B st - 48))) 0 12 (nI (st + 1))) (by omega) (by omega) (by omega) (by omega) (TP_fr hT1 (tfX_rf X1) (tfM_tr (tfM_u M1 _ (by decide)) (tfM_u _ _ (by decide)))) e2 e4 (uu _ _ _ _) (fun j a b => by
    have : j = st := by omega
    subst this; exact hb) (by rw [un _ _ _ (by decide), uu, hrv])
  refine ⟨Y', N', en, 20, q4, ?_, ⟨by omega, q2, q7.trans e3, q5, q10, by rw [q12, un _ _ _ (by decide), un _ _ _ (by decide)]; exact m11, q11, Or.inr (Or.inl ⟨q6, rfl, q3, q13⟩)⟩, tfX_tr hx q8, tfM_tr hm (tfM_tr (tfM_tr (tfM_u M1 _ (by decide)) (tfM_u _ _ (by decide))) q14)⟩
  rw [fX5_reads_L130, m12, hby, pl_bind, if_pos (c := st < t ∧ 48 ≤ B st ∧ B st ≤ 57) ⟨hst, hb⟩, if_neg one0, m13, if_pos (by decide), m12, pl_gN (d := st) (n := 120) (by decide) (by omega), tnN (d := st) (by omega), b2, hval, pl_let, pl_let, un _ _ _ (by decide), m12, nI_s]
  exact q9
