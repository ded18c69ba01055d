/-! PURE, 9: dishes that come, spots, sheets, the tape, counts -/
def nwr (k t s sp of : Int32) : Nat → Int32 := fun i => if i = 0 then k else if i = 1 then t else if i = 2 then s else if i = 3 then sp else if i = 4 then of else 0
theorem kf_add {D : qs_D} {kb c : Nat} {g f f2 : Nat → Int32} (hc : c < 8) (hk : kf D kb g c) (hf : ∀ k, k < 6 → f k = f2 k) : kf (qs_u (qs_w D (kb + 4 + c) f) kb 5 (nI (c + 1))) kb (sW (upd g 5 (nI (c + 1))) c f2) (c + 1) := by
  obtain ⟨⟨k0, k1, k3, k5, kl, kd⟩, a1, a2, a3⟩ := hk
  have hne : kb ≠ kb + 4 + c := by omega
  rw [pu_eq]
  refine ⟨⟨?_, ?_, ?_, ?_, ?_, ?_⟩, ?_, ?_, ?_⟩
  · rw [pw_self, up_ne _ _ (by decide), pw_ne _ _ hne, sW_out (by omega), up_ne _ _ (by decide)]; exact k0
  · rw [pw_self, up_ne _ _ (by decide), pw_ne _ _ hne, sW_out (by omega), up_ne _ _ (by decide)]; exact k1
  · rw [pw_self, up_ne _ _ (by decide), pw_ne _ _ hne, sW_out (by omega), up_ne _ _ (by decide)]; exact k3
  · rw [pw_self, up_self]
  · intro j hj
    rw [pw_ne _ _ (by omega), pw_ne _ _ (by omega), sW_out (by omega), up_ne _ _ (by omega)]; exact kl j hj
  · intro x hx k hk2
    rw [pw_ne _ _ (by omega)]
    by_cases h : x = c
    · subst h
      rw [pw_self, hf k hk2]
      exact (sR_sW (g := upd g 5 (nI (x + 1))) (d := x) hk2).symm
    · rw [pw_ne _ _ (by omega)]
      have e := sR_other (g := upd g 5 (nI (c + 1))) (d := c) (e := x) (f := f2) hk2 h
      exact ((kd x (by omega) k hk2).trans (up_ne g (nI (c + 1)) (show 12 + 6 * x + k ≠ 5 by omega)).symm).trans e.symm
  · rw [pw_self, up_ne _ _ (by decide), pw_ne _ _ hne, sW_out (by omega), up_ne _ _ (by decide)]; exact a1
  · rw [pw_self, up_ne _ _ (by decide), pw_ne _ _ hne, sW_out (by omega), up_ne _ _ (by decide)]; exact a2
  · intro j hj
    rw [pw_ne _ _ (by omega), pw_ne _ _ (by omega), sW_out (by omega), up_ne _ _ (by omega)]; exact a3 j hj
theorem wfr_add {g f2 : Nat → Int32} {c n : Nat} (hw : wfr g c n) (hc : c < 8) (hf : dw f2) : wfr (sW (upd g 5 (nI (c + 1))) c f2) (c + 1) n := by
  obtain ⟨w0, wn, w1, w2, w3, w5, wc, wl, wd, ws⟩ := hw
  refine ⟨by rw [sW_out (by omega), up_ne _ _ (by decide)]; exact w0, wn, by rw [sW_out (by omega), up_ne _ _ (by decide)]; exact w1, by rw [sW_out (by omega), up_ne _ _ (by decide)]; exact w2, by rw [sW_out (by omega), up_ne _ _ (by decide)]; exact w3, by rw [sW_out (by omega), up_self], by omega, fun j hj => by rw [sW_out (by omega), up_ne _ _ (by omega)]; exact wl j hj, fun d hd => ?_, fun j hj => ?_⟩
  · by_cases h : d = c
    · subst h; exact dw_congr (fun k hk => sR_sW hk) hf
    · exact dw_congr (f := sR g d) (fun k hk => (sR_other hk h).trans (up_ne g (nI (c + 1)) (show 12 + 6 * d + k ≠ 5 by omega))) (wd d (by omega))
  · rw [sW_out (by omega), up_ne _ _ (by omega)]
    rcases ws j hj with h | ⟨k, hk, e⟩
    · exact Or.inl h
    · exact Or.inr ⟨k, by omega, e⟩
theorem cAdd {X : qs_D} {kb c : Nat} (hc : c < 8) (h5 : X kb 5 = nI c) (k : Int32) : ∃ f, fX1_addDish kb k X = some (kb + 4 + c, qs_u (qs_w X (kb + 4 + c) f) kb 5 (nI (c + 1))) ∧ ∀ i, i < 6 → f i = nwr k 10 10 0 0 i := by
  refine ⟨upd (upd (upd (upd (upd (upd (X (kb + 4 + c)) 0 k) 1 10) 2 10) 3 0) 4 0) 5 0, ?_, ?_⟩
  · unfold fX1_addDish
    rw [h5, pl_gN (by decide) hc, tnN (by omega)]
    have e : fX0_renew (kb + 4 + c) k X = some ((), qs_w X (kb + 4 + c) (upd (upd (upd (upd (upd (upd (X (kb + 4 + c)) 0 k) 1 10) 2 10) 3 0) 4 0) 5 0)) := by
      simp only [fX0_renew, pl_let, pu_eq, pw_self, pw_w]
    rw [e, pl_bind, pl_let, pw_ne _ _ (by omega), h5, nI_s]
  · intro i hi
    have hcs : i = 0 ∨ i = 1 ∨ i = 2 ∨ i = 3 ∨ i = 4 ∨ i = 5 := by omega
    rcases hcs with rfl | rfl | rfl | rfl | rfl | rfl <;> simp [upd, nwr]
theorem rComes {M : qs_D} {c : Nat} (hc : c < 8) (h5 : M 1 5 = nI c) (p1 p2 p3 p4 p5 : Int32) : fX5_comes p1 p2 p3 p4 p5 M = some (nI c, qs_w M 1 (sW (upd (M 1) 5 (nI (c + 1))) c (nwr p1 p2 p3 p5 p4))) := by
  unfold fX5_comes
  rw [g70_5, tn5, h5, pl_let, g70_5, g70_5, pl_let, nI_s, pt0 hc, pl_bind, pt1 hc, pl_bind, pt2 hc, pl_bind, pt3 hc, pl_bind, pt4 hc, pl_bind, pt5 hc, pl_bind]
  simp only [pu_eq, pw_self, pw_w]
  congr 3
  funext x
  unfold sW nwr
  by_cases hx : 12 + 6 * c ≤ x ∧ x < 12 + 6 * c + 6
  · rw [if_pos hx]
    have e : 12 + 6 * c + (x - (12 + 6 * c)) = x := by omega
    have hq : x - (12 + 6 * c) = 0 ∨ x - (12 + 6 * c) = 1 ∨ x - (12 + 6 * c) = 2 ∨ x - (12 + 6 * c) = 3 ∨ x - (12 + 6 * c) = 4 ∨ x - (12 + 6 * c) = 5 := by omega
    rcases hq with q | q | q | q | q | q <;> rw [q] at e ⊢ <;> subst e <;> simp [upd]
  · rw [if_neg hx, up_ne _ _ (by omega), up_ne _ _ (by omega), up_ne _ _ (by omega), up_ne _ _ (by omega), up_ne _ _ (by omega), up_ne _ _ (by omega)]
theorem dw_nwr {k t s sp of : Int32} (h0 : qb k 6) (h1 : qb t 99) (h2 : qb s 99) (h3 : qb sp 1) (h4 : qb of 1) : dw (nwr k t s sp of) := ⟨h0, h1, h2, h3, h4, ⟨0, by decide, rfl⟩⟩
theorem m_dish {X M : qs_D} (h : RR X M) (p1 p2 : Int32) : OK (fX4_dish p1 p2 X) (fX5_dish p1 p2 M) := by
  obtain ⟨⟨c, n, hw, hk⟩, -⟩ := id h
  have hc8 := RR.c8 hw
  unfold fX4_dish fX5_dish
  rw [cKind, rIn, pl_bind, pl_bind]
  by_cases h1 : 0 ≤ p1 ∧ p1 ≤ 6
  · rw [if_pos h1, if_neg one0, if_neg one0, cWithin, rIn, pl_bind, pl_bind]
    by_cases h2 : 0 ≤ p2 ∧ p2 ≤ 99
    · rw [if_pos h2, if_neg one0, if_neg one0, g70_5, tn5, hk.1.2.2.2.1, hw.2.2.2.2.2.1]
      by_cases h8 : c = 8
      · subst h8
        rw [if_neg (by decide), if_pos (by decide)]
        exact ok_f h (by decide : 1 < 7) (by decide)
      · have hc : c < 8 := by omega
        rw [if_pos (show nI c < (8 : Int32) from nI_lt (b := 8) hc (by decide)), if_neg (show ¬ nI c = (8 : Int32) from fun q => h8 ((nI_eq (b := 8) (by omega) (by decide)).mp q))]
        obtain ⟨f, a1, a2⟩ := cAdd hc hk.1.2.2.2.1 p1
        rw [a1, pl_bind, pl_let, rComes hc hw.2.2.2.2.2.1, pl_bind]
        have eX : qs_u (qs_u (qs_w X (1 + 4 + c) f) 1 5 (nI (c + 1))) (1 + 4 + c) 1 p2 = qs_u (qs_w X (1 + 4 + c) (upd f 1 p2)) 1 5 (nI (c + 1)) := by
          funext x
          simp only [pu_eq]
          by_cases hx : x = 1
          · subst hx
            rw [pw_ne _ _ (by omega), pw_self, pw_self, pw_ne _ _ (by omega), pw_ne _ _ (by omega)]
          · by_cases hx2 : x = 1 + 4 + c
            · subst hx2
              rw [pw_self, pw_ne _ _ hx, pw_ne _ _ hx, pw_self, pw_self]
            · rw [pw_ne _ _ hx2, pw_ne _ _ hx, pw_ne _ _ hx, pw_ne _ _ hx2, pw_ne _ _ hx2]
        rw [eX, show (qs_u (qs_w X (1 + 4 + c) (upd f 1 p2)) 1 5 (nI (c + 1))) 1 5 = nI (c + 1) from by rw [pu_eq, pw_self, up_self], nI_pred]
        have hf2 : ∀ k, k < 6 → upd f 1 p2 k = nwr p1 p2 10 0 0 k := by
          intro k hk2
          by_cases hk1 : k = 1
          · subst hk1; rw [up_self]; rfl
          · rw [up_ne _ _ hk1, a2 k hk2]; simp [nwr, hk1]
        refine OK.mk (RR_k h (fun x h1 _ => by rw [pu_eq, pw_ne _ _ (by omega), pw_ne _ _ (by omega)]) (fun x h1 _ => pw_ne _ _ h1) (c := c + 1) (n := n) ?_ ?_)
        · rw [pw_self]
          exact wfr_add hw hc (dw_nwr (nat_le rfl (by decide) h1) (nat_le rfl (by decide) h2) ⟨10, by decide, rfl⟩ ⟨0, by decide, rfl⟩ ⟨0, by decide, rfl⟩)
        · rw [pw_self]
          exact kf_add hc hk hf2
    · rw [if_neg h2, if_pos rfl, if_pos rfl]
      exact ok_f h (by decide : 0 < 7) (by decide)
  · rw [if_neg h1, if_pos rfl, if_pos rfl]
    exact ok_f h (by decide : 0 < 7) (by decide)
/-! as -/
def uT (j q : Nat) : Int32 := if q = 0 ∨ q = j ∨ (q = 1 ∧ j = 6) ∨ (q = 2 ∧ (j = 3 ∨ j = 4)) ∨ (q = 3 ∧ j = 4) then 1 else 0
theorem cUnder {j q : Nat} (hj : j ≤ 6) (hq : q ≤ 6) (D : qs_D) : fX4_isUnder (nI j) (nI q) D = some (uT j q, D) := by
  rcases k7 hj with rfl | rfl | rfl | rfl | rfl | rfl | rfl <;> rcases k7 hq with rfl | rfl | rfl | rfl | rfl | rfl | rfl <;> rfl
theorem rUnder {j q : Nat} (hj : j ≤ 6) (hq : q ≤ 6) (D : qs_D) : fX5_isUnder (nI j) (nI q) D = some (uT j q, D) := by
  rcases k7 hj with rfl | rfl | rfl | rfl | rfl | rfl | rfl <;> rcases k7 hq with rfl | rfl | rfl | rfl | rfl | rfl | rfl <;> rfl
theorem dish_ok {c k : Nat} (hc : c ≤ 8) (hk : k < c) : 0 ≤ nI k ∧ nI k ≤ nI c - 1 := by
  cases c with
  | zero => omega
  | succ c => rw [nI_pred]; exact ⟨nI_pos' (by omega), nI_le (by omega) (by omega)⟩
theorem m_as {X M : qs_D} (h : RR X M) (p1 p2 : Int32) : OK (fX4_as p1 p2 X) (fX5_as p1 p2 M) := by
  obtain ⟨⟨c, n, hw, hk⟩, -⟩ := id h
  have hc8 := RR.c8 hw
  unfold fX4_as fX5_as
  rw [cSpot, rIn, pl_bind, pl_bind]
  by_cases h1 : 0 ≤ p1 ∧ p1 ≤ 9
  · obtain ⟨i, hi, rfl⟩ := nat_le (n := 9) rfl (by decide) h1
    have e : (60 : Int32) + nI i = nI (60 + i) := nI_add 60 i
    rw [if_pos h1, if_neg one0, if_neg one0, cKind, rIn, pl_bind, pl_bind]
    by_cases h2 : 0 ≤ p2 ∧ p2 ≤ 6
    · obtain ⟨q, hq, rfl⟩ := nat_le (n := 6) rfl (by decide) h2
      rw [if_pos h2, if_neg one0, if_neg one0, e, pl_gN (by decide) (by omega), pl_gN (by decide) (by omega), pl_let, pl_let, tnN (by omega), tnN (by omega), hk.2.2.2 i (by omega), cIsDish hk.1.2.2.2.1, pl_bind]
      rcases hw.2.2.2.2.2.2.2.2.2 i (by omega) with hs | ⟨k, hk1, hs⟩
      · rw [hs, if_neg (c := 0 ≤ (-1 : Int32) ∧ (-1 : Int32) ≤ nI c - 1) (fun q => absurd q.1 (by decide)), if_pos rfl, if_neg (by decide)]
        exact ok_f h (by decide : 5 < 7) (by decide)
      · obtain ⟨j, hj, ej⟩ := (hw.2.2.2.2.2.2.2.2.1 k hk1).1
        have ej : M 1 (12 + 6 * k) = nI j := ej
        have e0 : X (1 + 4 + k) 0 = nI j := (hk.1.2.2.2.2.2 k hk1 0 (by decide)).trans ej
        rw [hs, if_pos (dish_ok hc8 hk1), if_neg one0, if_pos (nI_pos' (by omega)), pl_gN (by decide) (by omega), tnN (by omega), it0 (by omega), pl_bind, e0, ej, cUnder hj hq, rUnder hj hq, pl_bind, pl_bind]
        by_cases hu : uT j q = 0
        · rw [if_pos hu, if_pos hu]
          exact ok_f h (by decide : 2 < 7) (by decide)
        · rw [if_neg hu, if_neg hu]
          exact OK.mk h
    · rw [if_neg h2, if_pos rfl, if_pos rfl]
      exact ok_f h (by decide : 0 < 7) (by decide)
  · rw [if_neg h1, if_pos rfl, if_pos rfl]
    exact ok_f h (by decide : 0 < 7) (by decide)
/-! counts -/
theorem RR_t {X M X2 M2 : qs_D} (h : RR X M) (hx : ∀ x, x ≠ 37 → x ≠ 38 → ¬ (25 ≤ x ∧ x < 37) → X2 x = X x) (h3 : M2 0 3 = M 0 3) (h1 : e70 (M 1) (M2 1)) (hm : ∀ x, x ≠ 0 → x ≠ 1 → x ≠ 3 → x ≠ 8 → M2 x = M x) (ht : tpr X2 M2) : RR X2 M2 := by
  obtain ⟨⟨c, n, hw, hk⟩, ⟨b1, b2⟩, d1, d2, -⟩ := h
  have hc8 := RR.c8 hw
  refine ⟨⟨c, n, wfr_congr h1 hw, kf_congr h1 hc8 (kf_fr hc8 (fun x _ _ => hx x (by omega) (by omega) (by omega)) hk)⟩, ⟨by rw [hx 0 (by decide) (by decide) (by omega), h3]; exact b1, ?_⟩, ?_, ?_, ht⟩
  · rw [h3, hm 2 (by decide) (by decide) (by decide) (by decide)]
    rcases b2 with b2 | ⟨b2, c2, n2, b3, b4⟩
    · exact Or.inl b2
    · exact Or.inr ⟨b2, c2, n2, b3, kf_fr b3.2.2.2.2.2.2.1 (fun x _ _ => hx x (by omega) (by omega) (by omega)) b4⟩
  · intro j hj
    rw [hx 40 (by decide) (by decide) (by omega), hm 4 (by decide) (by decide) (by decide) (by decide)]
    exact d1 j hj
  · intro s hs
    rw [hx _ (by omega) (by omega) (by omega), hx _ (by omega) (by omega) (by omega), hm 5 (by decide) (by decide) (by decide) (by decide), hm 6 (by decide) (by decide) (by decide) (by decide), hm 7 (by decide) (by decide) (by decide) (by decide)]
    exact d2 s hs
theorem m_wipe {X M : qs_D} (h : RR X M) : OK (fX4_wipe X) (fX5_wipe M) := by
  obtain ⟨-, -, -, -, ⟨t, t1, t2, t3, t4⟩⟩ := id h
  unfold fX4_wipe fX5_wipe
  rw [t2, t3, pl_let, pl_let, pl_let, pl_let]
  refine OK.mk (RR_t h (fun x h1 h2 _ => by rw [pu_eq, pw_ne _ _ h1]) (by rw [pu_eq, pw_self, up_ne _ _ (by decide)]) (by rw [pu_eq, pw_ne _ _ (by decide)]; exact fun _ _ => rfl) (fun x h0 h1 h3 h8 => by rw [pu_eq, pw_ne _ _ h0]) ⟨0, by decide, by rw [pu_eq, pw_self, up_self]; rfl, by rw [pu_eq, pw_self, up_self]; rfl, fun k hk => absurd hk (by omega)⟩)
theorem add_0 (x : Int32) : x + 0 = x := by
  apply Int32.toBitVec_inj.mp
  rw [Int32.toBitVec_add]
  exact BitVec.add_zero _
theorem zero_add' (x : Int32) : (0 : Int32) + x = x := by rw [Int32.add_comm]; exact add_0 x
theorem statA {X M : qs_D} {p1 : Int32} (hd : ∀ j, j < 7 → X 40 j = M 4 j) (hp : p1 < 0) : ∀ (k i : Nat) (acc : Int32), 7 - i < k → i ≤ 7 → ∃ r, fX4_status_L41 k p1 acc (Int32.ofNat 7) (nI i) X = some (r, X) ∧ fX5_status_L21 k p1 acc (nI i) M = some (r, M) := by
  intro k
  induction k with
  | zero => intro i acc h; omega
  | succ k ih =>
    intro i acc hk hi
    unfold fX4_status_L41 fX5_status_L21
    by_cases h7 : i = 7
    · subst h7
      rw [if_pos (by decide), if_pos (by decide)]
      exact ⟨acc, rfl, rfl⟩
    · have hlt : ¬ (7 : Int32) ≤ nI i := nI_ge (a := i) (b := 7) (by omega) (by decide)
      rw [if_neg (show ¬ Int32.ofNat 7 ≤ nI i from hlt), if_neg hlt, if_pos hp, pl_gN (by decide) (by omega), pl_gN (by decide) (by omega)]
      simp only [pl_let]
      rw [tnN (by omega), hd i (by omega), nI_s]
      exact ih (i + 1) _ (by omega) (by omega)
theorem statB {M : qs_D} {w : Nat} (hw : w < 7) : ∀ (k i : Nat) (acc : Int32), 7 - i < k → i ≤ 7 → fX5_status_L21 k (nI w) acc (nI i) M = some (if i ≤ w then acc + M 4 w else acc, M) := by
  intro k
  induction k with
  | zero => intro i acc h; omega
  | succ k ih =>
    intro i acc hk hi
    unfold fX5_status_L21
    by_cases h7 : i = 7
    · subst h7
      rw [if_pos (by decide), if_neg (by omega)]
    · have hlt : ¬ (7 : Int32) ≤ nI i := nI_ge (a := i) (b := 7) (by omega) (by decide)
      rw [if_neg hlt, if_neg (nI_pos (by omega))]
      by_cases he : w = i
      · subst he
        rw [if_pos rfl, pl_gN (by decide) hw]
        simp only [pl_let]
        rw [tnN (by omega), nI_s, ih (w + 1) _ (by omega) (by omega), if_neg (by omega), if_pos (Nat.le_refl _)]
      · rw [if_neg (fun q => he ((nI_eq (by omega) (by omega)).mp q))]
        simp only [pl_let]
        rw [add_0, nI_s, ih (i + 1) _ (by omega) (by omega)]
        by_cases hle : i ≤ w
        · rw [if_pos hle, if_pos (by omega)]
        · rw [if_neg hle, if_neg (by omega)]
theorem m_status {X M : qs_D} (h : RR X M) (p1 : Int32) : OK (fX4_status p1 X) (fX5_status p1 M) := by
  obtain ⟨-, -, hd, -⟩ := id h
  unfold fX4_status fX5_status
  obtain ⟨F, hF⟩ : ∃ F, F = qs_F := ⟨_, rfl⟩
  rw [← hF]
  rw [qs_F_eq] at hF
  rw [cWithin, rIn, pl_bind, pl_bind]
  by_cases h1 : -1 ≤ p1 ∧ p1 ≤ 6
  · rw [if_pos h1, if_neg one0, if_neg one0]
    by_cases hp : p1 < 0
    · rw [if_pos hp]
      simp only [pl_let]
      obtain ⟨r, a1, a2⟩ := statA hd hp F 0 0 (by omega) (by omega)
      have a1 : fX4_status_L41 F p1 0 (Int32.ofNat 7) 0 X = some (r, X) := a1
      have a2 : fX5_status_L21 F p1 0 0 M = some (r, M) := a2
      rw [a1, a2]
      exact OK.mk h
    · obtain ⟨w, hw, rfl⟩ := nat_le (n := 6) rfl (by decide) ⟨Int32.not_lt.mp hp, h1.2⟩
      rw [if_neg hp, pl_gN (by decide) (by omega), tnN (by omega)]
      simp only [pl_let]
      have a2 : fX5_status_L21 F (nI w) 0 0 M = some (if 0 ≤ w then 0 + M 4 w else 0, M) := statB (by omega) F 0 0 (by omega) (by omega)
      rw [a2, if_pos (Nat.zero_le _), zero_add', hd w (by omega)]
      exact OK.mk h
  · rw [if_neg h1, if_pos rfl, if_pos rfl]
    exact ok_f h (by decide : 0 < 7) (by decide)
