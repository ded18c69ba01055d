/-! the text's items -/
theorem ltn1 : (-1 : Int32) < 0 := by decide
theorem kf_1' {D : qs_D} {kb c : Nat} {g : Nat → Int32} {v : Int32} (hk : kf D kb g c) : kf (qs_u D kb 0 v) kb (upd g 1 v) c := kf_1 hk
theorem iNO_f {A A' X M : qs_D} {t st st' en tk : Nat} {B : Nat → Nat} (hT : TP A A' t B) (hx : xfr A X) (hm : mfr A' M) (h : Tok X M t B st' en tk) {X2 M2 : qs_D} (hx2 : xfr A X2) (hm2 : mfr A' M2) (e37 : X2 37 = X 37) (e11 : M2 0 11 = M 0 11) (e14 : M2 0 14 = 1) {a : Option (Int32 × qs_D)} {b : Option (Unit × qs_D)} (ha : a = some (0, X2)) (hb : b = some ((), M2)) : iR A A' t B st a b := by
  have ht := hT.1
  refine ⟨X2, M2, hx2, hm2, Or.inr ⟨ha, hb, e14, st', ?_, ?_, ?_⟩⟩
  · have := h.1; have := h.2.1; omega
  · rw [e37]; exact h.2.2.1
  · rw [e11]; exact h.2.2.2.2.2.1
theorem deedR {A A' X M : qs_D} {t st st' en tk c n : Nat} {B : Nat → Nat} (hT : TP A A' t B) (hw : wfr (M 1) c n) (hk : kf X 25 (M 1) c) (hx : xfr A X) (hm : mfr A' M) (hs : st ≤ st') (h : Tok X M t B st' en tk) (h14 : M 0 14 = 0) : iR A A' t B st (qs_bind (fX3_readDeed 25 X) (fun x29 D28 => (qs_gb x29 (some (x29, D28))))) (qs_bind (fX5_deedItem M) (fun _ D23 => (some ((), D23)))) := by
  have hc8 := RR.c8 hw
  unfold fX3_readDeed fX5_deedItem
  have e5 : (5 : Int32) = nI 5 := rfl
  have e11 : (11 : Int32) = nI 11 := rfl
  rcases numR' hT hx hm h h14 (by decide : 5 ≤ 99) with ⟨q, X2, M2, st3, en3, tk3, r0, r1, r2, r3, r4, r5, r6, r7, r8, r9⟩ | ⟨v, r1, r2⟩
  · rw [e5, r1, r2, pl_bind, pl_bind, pl_let, pl_let, if_pos (nI_pos' (by omega)), e11]
    rcases numR' hT r7 r8 r4 r9 (by decide : 11 ≤ 99) with ⟨d, X3, M3, st4, en4, tk4, s0, s1, s2, s3, s4, s5, s6, s7, s8, s9⟩ | ⟨v, s1, s2⟩
    · rw [s1, s2]
      simp only [pl_bind, pl_let]
      rw [if_pos (nI_pos' (by omega)), if_pos s9, ix6 q (by omega), pl_gN (d := q) (n := 6) (by decide) (by omega), pl_gN (d := 6 + q) (n := 70) (by decide) (by omega), tnN (d := q) (by omega), tnN (d := 6 + q) (by omega)]
      simp only [pl_bind, pl_let]
      rw [pl_gb1]
      have hM3 : M3 1 = M 1 := by rw [s6.1 1 (by decide), r6.1 1 (by decide)]
      have hX3 : kf X3 25 (M 1) c := kf_fr hc8 (fun x h1 h2 => by rw [s5.1 x (by omega), r5.1 x (by omega)]) hk
      refine ⟨_, _, xfr_u s7 (by decide) (by decide), by rw [pu_eq]; exact mfr_w s8, Or.inl ⟨rfl, rfl, ⟨c, n, ?_, ?_⟩, ?_, st4, en4, tk4, by omega, Tok_c s4 (by rw [pu_eq, pw_ne _ _ (by decide)]) (fun k _ => by rw [pu_eq, pw_ne _ _ (by decide)])⟩⟩
      · rw [pu_eq, pw_self, hM3]; exact wfr_l hw (by omega) ⟨d, s0, rfl⟩
      · rw [pu_eq M3, pw_self, hM3]; exact kf_l (by omega) hX3
      · rw [pu_eq, pw_ne _ _ (by decide)]; exact s9
    · rw [s1, s2]
      simp only [pl_bind, pl_let]
      rw [uu, if_neg neg0, if_neg one0]
      simp only [pl_bind, pl_let]
      rw [pl_gb0]
      exact iNO_f hT r7 r8 r4 r7 (mfr_14 r8) rfl (un _ _ _ (by decide)) (uu _ _ _ _) rfl rfl
  · obtain ⟨v2, z⟩ := numberF (M := qs_u M 0 14 1) (a := 0) (b := 11) (uu _ _ _ _)
    rw [e5, r1, r2]
    simp only [pl_bind, pl_let]
    rw [if_neg neg0, z]
    simp only [pl_bind, pl_let]
    rw [uu, if_neg one0]
    simp only [pl_bind, pl_let]
    rw [pl_gb0]
    exact iNO_f hT hx hm h hx (mfr_14 hm) rfl (un _ _ _ (by decide)) (uu _ _ _ _) rfl rfl
theorem itemR {A A' X M : qs_D} {t st en tk c n : Nat} {B : Nat → Nat} (hT : TP A A' t B) (hw : wfr (M 1) c n) (hk : kf X 25 (M 1) c) (hx : xfr A X) (hm : mfr A' M) (h : Tok X M t B st en tk) (h14 : M 0 14 = 0) : iR A A' t B st (fX3_readItem 25 X) (fX5_item M) := by
  have hc8 := RR.c8 hw
  have hb := h.b
  have hT2 := TP_ab hT hx hm
  unfold fX3_readItem fX5_item
  rw [kindR hT2 h, pl_bind, pl_let, h.2.2.2.2.1]
  by_cases h7 : tk < 7
  · rw [if_pos h7, if_neg (nI_pos (by omega)), if_neg (show ¬ (6 : Int32) < nI tk from nI_nlt (a := 6) (by omega) (by decide)), dishItem_eq, pl_let, g70_5, tn5, hk.1.2.2.2.1, hw.2.2.2.2.2.1, h.2.2.2.2.1]
    by_cases h8 : c = 8
    · rw [if_pos (show (8 : Int32) ≤ nI c from nI_le (a := 8) (by omega) (by omega)), if_pos (by rw [h8]; rfl), pl_let, uu, if_neg one0, pl_bind]
      exact iNO_f hT hx hm h hx (mfr_14 hm) rfl (un _ _ _ (by decide)) (uu _ _ _ _) rfl rfl
    · have hc : c < 8 := by omega
      obtain ⟨f, a1, a2⟩ := cAdd hc hk.1.2.2.2.1 (nI tk)
      rw [if_neg (show ¬ (8 : Int32) ≤ nI c from nI_ge (b := 8) hc (by decide)), if_neg (show ¬ nI c = (8 : Int32) from fun q => h8 ((nI_eq (b := 8) (by omega) (by decide)).mp q)), pl_let, pu_id h14, if_pos h14, a1, pl_bind]
      have hX1 : xfr A (qs_u (qs_w X (25 + 4 + c) f) 25 5 (nI (c + 1))) := ⟨fun x a b => by rw [pu_eq, pw_ne _ _ (by omega), pw_ne _ _ (by omega)]; exact hx.1 x a b, by rw [pu_eq, pw_ne _ _ (by decide), pw_ne _ _ (by omega)]; exact hx.2⟩
      have hT1 : Tok (qs_u (qs_w X (25 + 4 + c) f) 25 5 (nI (c + 1))) M t B st en tk := Tok_c h (by rw [pu_eq, pw_ne _ _ (by decide), pw_ne _ _ (by omega)]) (fun _ _ => rfl)
      have hH : HD X (qs_u (qs_w X (25 + 4 + c) f) 25 5 (nI (c + 1))) c f := by
        refine ⟨fun x q1 q2 q3 => by rw [pu_eq, pw_ne _ _ (by omega), pw_ne _ _ q3], by rw [pu_eq, pw_self, pw_ne _ _ (by omega)], fun i hi => by rw [pu_eq, pw_ne _ _ (by omega), pw_self]⟩
      obtain ⟨X', M', x1, x2, x3⟩ := dishR (st := st) hT hc hw hk hX1 hm (Nat.le_refl _) hT1 h14 rfl hH (by omega : tk ≤ 6) (a2 0 (by decide)) (a2 1 (by decide)) (a2 2 (by decide)) (a2 5 (by decide))
      refine ⟨X', M', x1, x2, ?_⟩
      rcases x3 with ⟨y1, y2, y3⟩ | ⟨y1, y2, y3⟩
      · rw [y1, y2, pl_bind, pl_bind, if_neg one0]
        exact Or.inl ⟨rfl, rfl, y3⟩
      · rw [y1, y2, pl_bind, pl_bind, if_pos rfl]
        exact Or.inr ⟨rfl, rfl, y3⟩
  · rw [if_neg h7, if_pos ltn1, if_pos (show (6 : Int32) < nI tk from nI_lt (a := 6) (by omega) (by omega))]
    have e11 : (11 : Int32) = nI 11 := rfl
    have e12 : (12 : Int32) = nI 12 := rfl
    have e13 : (13 : Int32) = nI 13 := rfl
    have e99 : (99 : Int32) = nI 99 := rfl
    have e9 : (9 : Int32) = nI 9 := rfl
    rcases takeW' hT hx hm h h14 (by decide : 11 < 14) with ⟨-, X', M', st2, en2, tk2, q1, q2, q3, q4, q5, q6, q7, q8, q9⟩ | ⟨-, q1, q2⟩
    · rw [q1, e11, q2, pl_bind, pl_bind, if_neg one0, if_neg one0]
      have hM : M' 1 = M 1 := q6.1 1 (by decide)
      exact deedR hT (by rw [hM]; exact hw) (by rw [hM]; exact kf_fr hc8 (fun x h1 h2 => q5.1 x (by omega)) hk) q7 q8 q3 q4 q9
    · rw [q1, e11, q2, pl_bind, pl_bind, if_pos rfl, if_pos rfl]
      rcases takeW' hT hx hm h h14 (by decide : 12 < 14) with ⟨-, X', M', st2, en2, tk2, q1, q2, q3, q4, q5, q6, q7, q8, q9⟩ | ⟨-, q1, q2⟩
      · rw [q1, e12, q2, pl_bind, pl_bind, if_neg one0, if_neg one0, e99]
        rcases numR' hT q7 q8 q4 q9 (by decide : 99 ≤ 99) with ⟨q, X2, M2, st3, en3, tk3, r0, r1, r2, r3, r4, r5, r6, r7, r8, r9⟩ | ⟨v, r1, r2⟩
        · rw [r1, r2, pl_bind, pl_bind, pl_let, uu, if_neg (nI_pos (by omega)), g70_1, tn1, pl_let]
          have hM2 : M2 1 = M 1 := by rw [r6.1 1 (by decide), q6.1 1 (by decide)]
          have hX2 : kf X2 25 (M 1) c := kf_fr hc8 (fun x h1 h2 => by rw [r5.1 x (by omega), q5.1 x (by omega)]) hk
          refine ⟨_, _, xfr_u r7 (by decide) (by decide), by rw [pu_eq]; exact mfr_w r8, Or.inl ⟨rfl, rfl, ⟨c, n, ?_, ?_⟩, ?_, st3, en3, tk3, by omega, Tok_c r4 (by rw [pu_eq, pw_ne _ _ (by decide)]) (fun k _ => by rw [pu_eq, pw_ne _ _ (by decide)])⟩⟩
          · rw [pu_eq, pw_self, hM2]; exact wfr_1 hw ⟨q, r0, rfl⟩
          · rw [pu_eq M2, pw_self, hM2]; exact kf_1 hX2
          · rw [pu_eq, pw_ne _ _ (by decide)]; exact r9
        · rw [r1, r2, pl_bind, pl_bind, pl_let, uu, if_pos ltn1, g70_1, tn1, pl_let]
          exact iNO_f hT q7 q8 q4 (xfr_u q7 (by decide) (by decide)) (by rw [pu_eq]; exact mfr_w (mfr_14 q8)) (by rw [pu_eq, pw_ne _ _ (by decide)]) (by rw [pu_eq, pw_ne _ _ (by decide), un _ _ _ (by decide)]) (by rw [pu_eq, pw_ne _ _ (by decide), uu]) rfl rfl
      · rw [q1, e12, q2, pl_bind, pl_bind, if_pos rfl, if_pos rfl]
        rcases takeW' hT hx hm h h14 (by decide : 13 < 14) with ⟨-, X', M', st2, en2, tk2, q1, q2, q3, q4, q5, q6, q7, q8, q9⟩ | ⟨-, q1, q2⟩
        · rw [q1, e13, q2, pl_bind, pl_bind, if_neg one0, if_neg one0, e9]
          rcases numR' hT q7 q8 q4 q9 (by decide : 9 ≤ 99) with ⟨q, X2, M2, st3, en3, tk3, r0, r1, r2, r3, r4, r5, r6, r7, r8, r9⟩ | ⟨v, r1, r2⟩
          · rw [r1, r2, pl_bind, pl_bind, pl_let, uu, if_neg (nI_pos (by omega)), g70_2, tn2, pl_let]
            have hM2 : M2 1 = M 1 := by rw [r6.1 1 (by decide), q6.1 1 (by decide)]
            have hX2 : kf X2 25 (M 1) c := kf_fr hc8 (fun x h1 h2 => by rw [r5.1 x (by omega), q5.1 x (by omega)]) hk
            refine ⟨_, _, xfr_u r7 (by decide) (by decide), by rw [pu_eq]; exact mfr_w r8, Or.inl ⟨rfl, rfl, ⟨c, n, ?_, ?_⟩, ?_, st3, en3, tk3, by omega, Tok_c r4 (by rw [pu_eq, pw_ne _ _ (by decide)]) (fun k _ => by rw [pu_eq, pw_ne _ _ (by decide)])⟩⟩
            · rw [pu_eq, pw_self, hM2]; exact wfr_2 hw ⟨q, r0, rfl⟩
            · rw [pu_eq M2, pw_self, hM2]; exact kf_2 hX2
            · rw [pu_eq, pw_ne _ _ (by decide)]; exact r9
          · rw [r1, r2, pl_bind, pl_bind, pl_let, uu, if_pos ltn1, g70_2, tn2, pl_let]
            exact iNO_f hT q7 q8 q4 (xfr_u q7 (by decide) (by decide)) (by rw [pu_eq]; exact mfr_w (mfr_14 q8)) (by rw [pu_eq, pw_ne _ _ (by decide)]) (by rw [pu_eq, pw_ne _ _ (by decide), un _ _ _ (by decide)]) (by rw [pu_eq, pw_ne _ _ (by decide), uu]) rfl rfl
        · rw [q1, e13, q2, pl_bind, pl_bind, if_pos rfl, if_pos rfl, pl_let]
          exact iNO_f hT hx hm h hx (mfr_14 hm) rfl (un _ _ _ (by decide)) (uu _ _ _ _) rfl rfl
/-! the text itself -/
/-- how both end: with a refusal, or with a draft that both share -/
def tR (A A' : qs_D) (a b : Option (Int32 × qs_D)) : Prop := ∃ X' M', xfr A X' ∧ (∀ x, x ≠ 0 → x ≠ 1 → M' x = A' x) ∧ M' 0 3 = A' 0 3 ∧ M' 0 9 = 0 ∧ ((∃ st, st ≤ 120 ∧ a = some (-1 - nI st, X') ∧ b = some (-1 - nI st, M') ∧ e70 (A' 3) (M' 1)) ∨ (∃ w, 1 ≤ w ∧ w ≤ 120 ∧ a = some (nI w, X') ∧ b = some (nI w, M') ∧ ∃ c n, wfr (M' 1) c n ∧ kf X' 25 (M' 1) c))
theorem refuse {A A' X M : qs_D} {st : Nat} {w : Int32} (hx : xfr A X) (hm : mfr A' M) (hst : st ≤ 120) (h11 : M 0 11 = nI st) : tR A A' (some (-1 - nI st, X)) (qs_let (qs_u M 0 14 1) (fun D18 => (qs_let (qs_u D18 0 9 (0 : Int32)) (fun D19 => (if (D19 0 14) = 0 then (some (w, D19)) else (qs_bind (fX5_putsBack D19) (fun _ D21 => (some (((-1 : Int32) - (D21 0 11)), D21)))))))) ) := by
  obtain ⟨g, r1, r2⟩ := rBack (qs_u (qs_u M 0 14 1) 0 9 0)
  rw [pl_let, pl_let, un _ _ _ (by decide), uu, if_neg one0, r1, pl_bind, pw_ne _ _ (by decide), un _ _ _ (by decide), un _ _ _ (by decide), h11]
  refine ⟨X, _, hx, fun x a b => ?_, ?_, ?_, Or.inl ⟨st, hst, rfl, rfl, ?_⟩⟩
  · rw [pw_ne _ _ b, pu_eq, pw_ne _ _ a, pu_eq, pw_ne _ _ a]; exact hm.1 x a b
  · rw [pw_ne _ _ (by decide), un _ _ _ (by decide), un _ _ _ (by decide)]
    exact hm.2 3 (by decide) (by decide) (by decide) (by decide) (by decide)
  · rw [pw_ne _ _ (by decide), uu]
  · rw [pw_self, ← hm.1 3 (by decide) (by decide)]
    rw [pu_eq, pw_ne _ _ (by decide), pu_eq, pw_ne _ _ (by decide)] at r2
    exact r2
