/-! fits, kinds -/
theorem tellEnd {X M : qs_D} {f g : Nat → Int32} {s L : Nat} {w2 w3 w4 : Int32} {k : Nat} (h : RR X M) (hf : e70 (M 1) f) (hs : s < 4) (eL : M 6 s = nI L) (hw3 : w3 = 0 ∨ w3 = 1) (hend : nI L ≤ w4 ∨ w3 = 0) : ∃ g2, fX5_isTold_L5 (k + 1) (nI s) w2 w3 w4 (qs_w (qs_w M 3 f) 1 g) = some (w3, qs_w (qs_w M 3 f) 1 g2) ∧ e70 (M 1) g2 := by
  obtain ⟨g2, a1, a2, -⟩ := thEnd (X2 := X) (g := g) h hf (bfr_rf X 25)
  refine ⟨g2, ?_, a2⟩
  unfold fX5_isTold_L5
  have e6 : (qs_w (qs_w M 3 f) 1 g) 6 = M 6 := by rw [pw_ne _ _ (by decide), pw_ne _ _ (by decide)]
  have gb : ∀ T : Option (Int32 × qs_D), qs_gb w3 T = T := by
    intro T
    rcases hw3 with q | q
    · subst q; exact pl_gb0
    · subst q; exact pl_gb1
  rw [pl_gN (by decide) hs, tnN (d := s) (by omega), e6, eL]
  by_cases h1 : nI L ≤ w4
  · rw [if_pos h1, a1, pl_bind, gb]
  · rw [if_neg h1, if_pos (hend.resolve_left h1), a1, pl_bind, gb]
theorem tellL {X M : qs_D} {f : Nat → Int32} {c d s L : Nat} (h : RR X M) (hf : e70 (M 1) f) (hd : d < c) (hc8 : c ≤ 8) (hs : s < 4) (hL : L ≤ 40) (eL : M 6 s = nI L) (hx1 : X (41 + 2 * s) 1 = nI L) (hx2 : ∀ i, i < 40 → X (41 + 2 * s + 1) i = M 7 (40 * s + i)) : ∀ (k i : Nat) (X1 X2 : qs_D) (g : Nat → Int32) (n : Nat), L + 1 - i < k → i ≤ L → wfr g c n → kr X2 25 g 1 (fun _ => d) → bfr X X1 25 → bfr X X2 25 → ((i = 0 ∧ X2 = X1) ∨ (0 < i ∧ fX1_passStep 25 X1 = some ((), X2))) → ∃ r Y g2, (r = 0 ∨ r = 1) ∧ fX4_draftGoesAs_L2 (41 + 2 * s) k (nI i) X1 = some (r, Y) ∧ bfr X Y 25 ∧ fX5_isTold_L5 k (nI s) (nI d) 1 (nI i) (qs_w (qs_w M 3 f) 1 g) = some (r, qs_w (qs_w M 3 f) 1 g2) ∧ e70 (M 1) g2 := by
  intro k
  induction k with
  | zero => intro i X1 X2 g n h; omega
  | succ k ih =>
    intro i X1 X2 g n hk hi hw hkr hb1 hb2 hst
    have y1 : X1 (41 + 2 * s) 1 = nI L := by rw [hb1 _ (by omega)]; exact hx1
    by_cases hin : L ≤ i
    · obtain ⟨g2, a1, a2⟩ := tellEnd (w2 := nI d) (w3 := 1) (w4 := nI i) (k := k) (g := g) h hf hs eL (Or.inr rfl) (Or.inl (nI_le hin (by omega)))
      refine ⟨1, X1, g2, Or.inr rfl, ?_, hb1, a1, a2⟩
      unfold fX4_draftGoesAs_L2
      rw [y1, if_pos (nI_le hin (by omega))]
    · obtain ⟨X3, g3, b1, b2, b3, b4, b5, b6⟩ := sim1T (M := M) (X := X) (f := f) hw (by decide) (fun _ _ => hd) hkr
      have hb3 : bfr X X3 25 := bfr_tr hb2 (kfr_b b5)
      have y2 : X2 (41 + 2 * s + 1) i = M 7 (40 * s + i) := by rw [hb2 _ (by omega)]; exact hx2 i (by omega)
      have y3 : X2 (25 + 4 + 0) 1 = g (12 + 6 * d + 1) := hkr.2.2.2.2.2 0 (by decide) 1 (by decide)
      have e7 : (qs_w (qs_w M 3 f) 1 g) 7 = M 7 := by rw [pw_ne _ _ (by decide), pw_ne _ _ (by decide)]
      have e6 : (qs_w (qs_w M 3 f) 1 g) 6 = M 6 := by rw [pw_ne _ _ (by decide), pw_ne _ _ (by decide)]
      have hcls : fX4_draftGoesAs_L2 (41 + 2 * s) (k + 1) (nI i) X1 = (if M 7 (40 * s + i) = -1 then fX4_draftGoesAs_L2 (41 + 2 * s) k (nI (i + 1)) X2 else if M 7 (40 * s + i) = g (12 + 6 * d + 1) then fX4_draftGoesAs_L2 (41 + 2 * s) k (nI (i + 1)) X2 else some (0, X2)) := by
        rcases hst with ⟨h0, e⟩ | ⟨h0, e⟩
        · subst e
          have hi0 : nI i ≤ 0 := by rw [h0]; decide
          rw [fX4_draftGoesAs_L2, y1, if_neg (nI_ge (by omega) (by omega)), if_pos hi0, pl_gN (d := i) (n := 40) (by decide) (by omega), pl_gN (d := i) (n := 40) (by decide) (by omega), tnN (d := i) (by omega), y2, g8_0, tn0, y3, pl_let, nI_s]
        · rw [fX4_draftGoesAs_L2, y1, if_neg (nI_ge (by omega) (by omega)), if_neg (nI_nle h0 (by omega)), e, pl_bind, pl_gN (d := i) (n := 40) (by decide) (by omega), pl_gN (d := i) (n := 40) (by decide) (by omega), tnN (d := i) (by omega), y2, g8_0, tn0, y3, pl_let, nI_s]
      have hit : fX5_it (nI d) 1 (qs_w (qs_w M 3 f) 1 g) = some (g (12 + 6 * d + 1), qs_w (qs_w M 3 f) 1 g) := by
        rw [it1 (by omega), pw_self]
      have href : fX5_isTold_L5 (k + 1) (nI s) (nI d) 1 (nI i) (qs_w (qs_w M 3 f) 1 g) = (if M 7 (40 * s + i) = -1 then fX5_isTold_L5 k (nI s) (nI d) 1 (nI (i + 1)) (qs_w (qs_w M 3 f) 1 g3) else if M 7 (40 * s + i) = g (12 + 6 * d + 1) then fX5_isTold_L5 k (nI s) (nI d) 1 (nI (i + 1)) (qs_w (qs_w M 3 f) 1 g3) else fX5_isTold_L5 k (nI s) (nI d) 0 (nI (i + 1)) (qs_w (qs_w M 3 f) 1 g3)) := by
        rw [fX5_isTold_L5, pl_gN (by decide) hs, tnN (d := s) (by omega), e6, eL, if_neg (nI_ge (by omega) (by omega)), if_neg one0, ix160 s hs i (by omega), pl_gN (d := 40 * s + i) (by decide) (by omega), tnN (d := 40 * s + i) (by omega), e7]
        simp only [pl_let, hit, pl_bind, b2, nI_s]
      rw [hcls, href]
      have hgo := ih (i + 1) X2 X3 g3 _ (by omega) (by omega) b3 b4 hb2 hb3 (Or.inr ⟨by omega, b1⟩)
      by_cases hm : M 7 (40 * s + i) = -1
      · rw [if_pos hm, if_pos hm]
        exact hgo
      · rw [if_neg hm, if_neg hm]
        by_cases he : M 7 (40 * s + i) = g (12 + 6 * d + 1)
        · rw [if_pos he, if_pos he]
          exact hgo
        · rw [if_neg he, if_neg he]
          obtain ⟨k2, rfl⟩ : ∃ k2, k = k2 + 1 := ⟨k - 1, by omega⟩
          obtain ⟨g2, a1, a2⟩ := tellEnd (w2 := nI d) (w3 := 0) (w4 := nI (i + 1)) (k := k2) (g := g3) h hf hs eL (Or.inl rfl) (Or.inr rfl)
          exact ⟨0, X2, g2, Or.inl rfl, rfl, hb2, a1, a2⟩
theorem tell {X M X1 : qs_D} {f g : Nat → Int32} {c n d s L : Nat} (h : RR X M) (hf : e70 (M 1) f) (hd : d < c) (hc8 : c ≤ 8) (hs : s < 4) (hL : L ≤ 40) (eL : M 6 s = nI L) (hx1 : X (41 + 2 * s) 1 = nI L) (hx2 : ∀ i, i < 40 → X (41 + 2 * s + 1) i = M 7 (40 * s + i)) (hw : wfr g c n) (hk : kr X1 25 g 1 (fun _ => d)) (hb : bfr X X1 25) : ∃ r Y g2, (r = 0 ∨ r = 1) ∧ fX4_draftGoesAs (41 + 2 * s) X1 = some (r, Y) ∧ bfr X Y 25 ∧ fX5_isTold (nI s) (nI d) (qs_w (qs_w M 3 f) 1 g) = some (r, qs_w (qs_w M 3 f) 1 g2) ∧ e70 (M 1) g2 := by
  unfold fX4_draftGoesAs fX5_isTold
  obtain ⟨F, hF⟩ : ∃ F, F = qs_F := ⟨_, rfl⟩
  rw [← hF]
  rw [qs_F_eq] at hF
  simp only [pl_let]
  exact tellL h hf hd hc8 hs hL eL hx1 hx2 F 0 X1 X1 g n (by omega) (by omega) hw hk hb hb (Or.inl ⟨rfl, rfl⟩)
theorem fitsL {X M : qs_D} {f : Nat → Int32} {c n d s L : Nat} {w3 v3 : Int32} (h : RR X M) (hf : e70 (M 1) f) (hw : wfr (M 1) c n) (hk : kf X 1 (M 1) c) (hd : d < c) (hs : s < 4) (hL : L ≤ 40) (eL : M 6 s = nI L) (hx1 : X (41 + 2 * s) 1 = nI L) (hx2 : ∀ i, i < 40 → X (41 + 2 * s + 1) i = M 7 (40 * s + i)) : ∀ (k v : Nat) (X1 : qs_D) (g : Nat → Int32) (acc : Int32), 100 - v < k → v ≤ 100 → e70 (M 1) g → bfr X X1 25 → OK (fX4_fits_L24 k (nI s) (nI d) w3 acc (nI v) X1) (fX5_fits_L27 k (nI s) (nI d) v3 acc (nI v) (qs_w (qs_w M 3 f) 1 g)) := by
  have hc8 := RR.c8 hw
  intro k
  induction k with
  | zero => intro e X1 g b h; omega
  | succ k ih =>
    intro v X1 g acc hk2 hv hg hb
    unfold fX4_fits_L24 fX5_fits_L27
    by_cases h7 : v = 100
    · subst h7
      rw [if_pos (by decide), if_pos (by decide)]
      exact OK.mk (RR_fr h (fun x hx => hb x (by omega)) (by rw [pw_self]; exact hg) (fun x h1 h3 => by rw [pw_ne _ _ h1, pw_ne _ _ h3]))
    · have hlt : ¬ (99 : Int32) < nI v := nI_nlt (b := v) (a := 99) (by omega) (by decide)
      obtain ⟨X2, a1, a2, a3⟩ := cOne apt25 (kf_congr hg hc8 (kf_out hc8 hk hb)).1 hd hc8
      rw [if_neg hlt, if_neg hlt, a1, pl_bind, g70_1, tn1, pl_let, pl_let, pl_gN (d := s) (n := 4) (by decide) hs, tnN (d := s) (by omega), pu_eq (qs_w (qs_w M 3 f) 1 g), pw_self, pw_w]
      have hw2 : wfr (upd g 1 (nI v)) c n := wfr_1 (th_wf hw hg) ⟨v, by omega, rfl⟩
      have hb3 : bfr X (qs_u X2 25 0 (nI v)) 25 := bfr_tr hb (bfr_tr a3 (fun x hx => by rw [pu_eq, pw_ne _ _ (by omega)]))
      obtain ⟨r, Y, g2, r1, r2, r3, r4, r5⟩ := tell (f := f) h hf hd hc8 hs hL eL hx1 hx2 hw2 (kr_1 a2) hb3
      rw [r2, r4, pl_bind, pl_bind]
      rcases r1 with rfl | rfl
      · rw [if_pos rfl, if_pos rfl, pl_let, pl_let, pl_let, add_0, nI_s]
        exact ih (v + 1) Y g2 acc (by omega) (by omega) r5 r3
      · rw [if_neg one0, if_neg one0, pl_let, pl_let, pl_let, pl_let, nI_s]
        exact ih (v + 1) Y g2 _ (by omega) (by omega) r5 r3
theorem kindsL {X M : qs_D} {f : Nat → Int32} {c n d s L : Nat} {w3 v3 : Int32} (h : RR X M) (hf : e70 (M 1) f) (hw : wfr (M 1) c n) (hk : kf X 1 (M 1) c) (hd : d < c) (hs : s < 4) (hL : L ≤ 40) (eL : M 6 s = nI L) (hx1 : X (41 + 2 * s) 1 = nI L) (hx2 : ∀ i, i < 40 → X (41 + 2 * s + 1) i = M 7 (40 * s + i)) : ∀ (k v : Nat) (X1 : qs_D) (g : Nat → Int32) (acc : Int32), 7 - v < k → v ≤ 7 → e70 (M 1) g → bfr X X1 25 → OK (fX4_kinds_L24 k (nI s) (nI d) w3 acc (nI v) X1) (fX5_kinds_L27 k (nI s) (nI d) v3 acc (nI v) (qs_w (qs_w M 3 f) 1 g)) := by
  have hc8 := RR.c8 hw
  intro k
  induction k with
  | zero => intro e X1 g b h; omega
  | succ k ih =>
    intro v X1 g acc hk2 hv hg hb
    unfold fX4_kinds_L24 fX5_kinds_L27
    by_cases h7 : v = 7
    · subst h7
      rw [if_pos (by decide), if_pos (by decide)]
      exact OK.mk (RR_fr h (fun x hx => hb x (by omega)) (by rw [pw_self]; exact hg) (fun x h1 h3 => by rw [pw_ne _ _ h1, pw_ne _ _ h3]))
    · have hlt : ¬ (7 : Int32) ≤ nI v := nI_ge (a := v) (b := 7) (by omega) (by decide)
      have hlt2 : ¬ (6 : Int32) < nI v := nI_nlt (b := v) (a := 6) (by omega) (by decide)
      obtain ⟨X2, a1, a2, a3⟩ := cOne apt25 (kf_congr hg hc8 (kf_out hc8 hk hb)).1 hd hc8
      rw [if_neg hlt, if_neg hlt2, a1, pl_bind, g8_0, pl_let, tn0, pt0 (by omega), pl_bind, pl_gN (d := s) (n := 4) (by decide) hs, tnN (d := s) (by omega), pu_eq (qs_w (qs_w M 3 f) 1 g), pw_self, pw_w]
      have hw2 : wfr (upd g (12 + 6 * d) (nI v)) c n := wfr_k0 (th_wf hw hg) hd ⟨v, by omega, rfl⟩
      have hb3 : bfr X (qs_u X2 (25 + 4 + 0) 0 (nI v)) 25 := bfr_tr hb (bfr_tr a3 (fun x hx => by rw [pu_eq, pw_ne _ _ (by omega)]))
      obtain ⟨r, Y, g2, r1, r2, r3, r4, r5⟩ := tell (f := f) h hf hd hc8 hs hL eL hx1 hx2 hw2 (kr_k0 a2) hb3
      rw [r2, r4, pl_bind, pl_bind]
      rcases r1 with rfl | rfl
      · rw [if_pos rfl, if_pos rfl, pl_let, pl_let, pl_let, or_0, nI_s]
        exact ih (v + 1) Y g2 acc (by omega) (by omega) r5 r3
      · rw [if_neg one0, if_neg one0, pl_let, pl_let, pl_let, pl_let, nI_s]
        exact ih (v + 1) Y g2 _ (by omega) (by omega) r5 r3
theorem m_fits {X M : qs_D} (h : RR X M) (p1 p2 : Int32) : OK (fX4_fits p1 p2 X) (fX5_fits p1 p2 M) := by
  obtain ⟨⟨c, n, hw, hkf⟩, -, -, hsh, -⟩ := id h
  have hc8 := RR.c8 hw
  unfold fX4_fits fX5_fits fX4_faultOfTold fX5_notAsked
  obtain ⟨F, hF⟩ : ∃ F, F = qs_F := ⟨_, rfl⟩
  rw [← hF]
  rw [qs_F_eq] at hF
  by_cases h1 : 0 ≤ p1 ∧ p1 ≤ 3
  · obtain ⟨s, hs, rfl⟩ := nat_le (n := 3) rfl (by decide) h1
    have hs4 : s < 4 := by omega
    obtain ⟨q0, q1, q2, ⟨L, hL, eL⟩, q4⟩ := hsh s hs4
    rw [cFault hs4, rFault hs4, pl_bind, pl_bind, q0]
    by_cases hb : M 5 s = 0
    · simp (decide := true) only [if_pos hb, pl_let, pl_bind, ↓reduceIte]
      exact ok_f5 h
    · simp only [if_neg hb, pl_let, if_true, cIsDish hkf.1.2.2.2.1, rIsDish hw.2.2.2.2.2.1, pl_bind]
      by_cases h2 : 0 ≤ p2 ∧ p2 ≤ nI c - 1
      · obtain ⟨d, hd, rfl⟩ := nat_dish hc8 h2
        obtain ⟨f, t1, t2⟩ := rThinks M
        simp only [if_pos h2, if_neg one0, pl_bind, if_true, t1]
        rw [th_id]
        exact fitsL h t2 hw hkf hd hs4 hL eL (q1.trans eL) (fun i hi => by rw [show 41 + 2 * s + 1 = 42 + 2 * s by omega]; exact q4 i hi) F 0 X (M 1) 0 (by omega) (by omega) (fun _ _ => rfl) (bfr_rf X 25)
      · simp (decide := true) only [if_neg h2, pl_bind, ↓reduceIte]
        exact ok_f0 h
  · rw [cFaultN h1, rFaultN h1, pl_bind, pl_bind]
    simp (decide := true) only [pl_let, pl_bind, ↓reduceIte]
    exact ok_f0 h
theorem m_kinds {X M : qs_D} (h : RR X M) (p1 p2 : Int32) : OK (fX4_kinds p1 p2 X) (fX5_kinds p1 p2 M) := by
  obtain ⟨⟨c, n, hw, hkf⟩, -, -, hsh, -⟩ := id h
  have hc8 := RR.c8 hw
  unfold fX4_kinds fX5_kinds fX4_faultOfTold fX5_notAsked
  obtain ⟨F, hF⟩ : ∃ F, F = qs_F := ⟨_, rfl⟩
  rw [← hF]
  rw [qs_F_eq] at hF
  by_cases h1 : 0 ≤ p1 ∧ p1 ≤ 3
  · obtain ⟨s, hs, rfl⟩ := nat_le (n := 3) rfl (by decide) h1
    have hs4 : s < 4 := by omega
    obtain ⟨q0, q1, q2, ⟨L, hL, eL⟩, q4⟩ := hsh s hs4
    rw [cFault hs4, rFault hs4, pl_bind, pl_bind, q0]
    by_cases hb : M 5 s = 0
    · simp (decide := true) only [if_pos hb, pl_let, pl_bind, ↓reduceIte]
      exact ok_f5 h
    · simp only [if_neg hb, pl_let, if_true, cIsDish hkf.1.2.2.2.1, rIsDish hw.2.2.2.2.2.1, pl_bind]
      by_cases h2 : 0 ≤ p2 ∧ p2 ≤ nI c - 1
      · obtain ⟨d, hd, rfl⟩ := nat_dish hc8 h2
        obtain ⟨f, t1, t2⟩ := rThinks M
        simp only [if_pos h2, if_neg one0, pl_bind, if_true, t1]
        rw [th_id]
        exact kindsL h t2 hw hkf hd hs4 hL eL (q1.trans eL) (fun i hi => by rw [show 41 + 2 * s + 1 = 42 + 2 * s by omega]; exact q4 i hi) F 0 X (M 1) 0 (by omega) (by omega) (fun _ _ => rfl) (bfr_rf X 25)
      · simp (decide := true) only [if_neg h2, pl_bind, ↓reduceIte]
        exact ok_f0 h
  · rw [cFaultN h1, rFaultN h1, pl_bind, pl_bind]
    simp (decide := true) only [pl_let, pl_bind, ↓reduceIte]
    exact ok_f0 h
