/-! PURE, 8: what to do; images; plain numbers -/
theorem th_wf {M : qs_D} {c n : Nat} {g : Nat → Int32} (hw : wfr (M 1) c n) (he : e70 (M 1) g) : wfr g c n := wfr_congr he hw
theorem simST {X1 M : qs_D} {f g : Nat → Int32} {c n m kb N : Nat} {π : Nat → Nat} (hw : wfr g c n) (hm : m ≤ 8) (hπ : ∀ i, i < m → π i < c) (hk : kr X1 kb g m π) (hN : N ≤ 100) : ∃ X2 g2 n2, fX1_passSteps kb (nI N) X1 = some ((), X2) ∧ fX5_goesFor (nI N) (qs_w (qs_w M 3 f) 1 g) = some ((), qs_w (qs_w M 3 f) 1 g2) ∧ wfr g2 c n2 ∧ kr X2 kb g2 m π ∧ kfr X1 X2 kb ∧ stps g g2 c := by
  obtain ⟨X2, g2, n2, a1, a2, a3, a4, a5, a6⟩ := simS (M := qs_w (qs_w M 3 f) 1 g) (X := X1) (c := c) (n := n) (m := m) (kb := kb) (π := π) (by rw [pw_self]; exact hw) hm hπ (by rw [pw_self]; exact hk) hN
  rw [pw_w] at a2
  rw [pw_self] at a6
  exact ⟨X2, g2, n2, a1, a2, a3, a4, a5, a6⟩
theorem kf_out {X X1 : qs_D} {g : Nat → Int32} {c : Nat} (hc : c ≤ 8) (hk : kf X 1 g c) (hb : bfr X X1 25) : kf X1 1 g c := kf_fr hc (fun x h1 h2 => hb x (by omega)) hk
theorem giveAT {X1 M : qs_D} {f g : Nat → Int32} {c n kb : Nat} (hw : wfr g c n) (hk : kr X1 kb g c (fun i => i)) : ∃ r, fX1_givenForAll kb X1 = some (r, X1) ∧ fX5_allGive (qs_w (qs_w M 3 f) 1 g) = some (r, qs_w (qs_w M 3 f) 1 g) := giveA (M := qs_w (qs_w M 3 f) 1 g) (c := c) (n := n) (by rw [pw_self]; exact hw) (by rw [pw_self]; exact hk)
theorem deedForL {X M : qs_D} {f : Nat → Int32} {c n i N : Nat} (h : RR X M) (hf : e70 (M 1) f) (hw : wfr (M 1) c n) (hk : kf X 1 (M 1) c) (hi : i < 6) (hN : N ≤ 60) : ∀ (k e : Nat) (X1 : qs_D) (g : Nat → Int32) (b t : Int32), 12 - e < k → e ≤ 12 → e70 (M 1) g → bfr X X1 25 → OK (fX4_deedFor_L31 k (nI i) (nI N) b t (nI e) X1) (fX5_deedFor_L38 k (nI i) (nI N) b t (nI e) (qs_w (qs_w M 3 f) 1 g)) := by
  have hc8 := RR.c8 hw
  intro k
  induction k with
  | zero => intro e X1 g b t h; omega
  | succ k ih =>
    intro e X1 g b t hk2 he hg hb
    unfold fX4_deedFor_L31 fX5_deedFor_L38
    by_cases h12 : e = 12
    · subst h12
      rw [if_pos (by decide), if_pos (by decide)]
      exact OK.mk (RR_fr h (fun x hx => hb x (by omega)) (by rw [pw_self]; exact hg) (fun x h1 h3 => by rw [pw_ne _ _ h1, pw_ne _ _ h3]))
    · have hlt : ¬ (12 : Int32) ≤ nI e := nI_ge (a := e) (b := 12) (by omega) (by decide)
      obtain ⟨X2, a1, a2, a3⟩ := cAll apt25 hc8 (kf_congr hg hc8 (kf_out hc8 hk hb))
      have e6 : (6 : Int32) + nI i = nI (6 + i) := nI_add 6 i
      rw [if_neg hlt, if_neg hlt, a1, pl_bind, pl_gN (by decide) hi, pl_let, tnN (by omega), e6, pl_gN (by decide) (by omega), pl_let, tnN (by omega), pu_eq (qs_w (qs_w M 3 f) 1 g), pw_self, pw_w]
      have hw2 : wfr (upd g (6 + i) (nI e)) c n := wfr_l (th_wf hw hg) hi ⟨e, by omega, rfl⟩
      obtain ⟨X3, g2, n2, b1, b2, b3, b4, b5, b6⟩ := simST (M := M) (f := f) hw2 hc8 (fun i hi => hi) (kr_l hi a2.1) (by omega : N ≤ 100)
      rw [b1, b2, pl_bind, pl_bind]
      obtain ⟨r, c1, c2⟩ := giveAT (M := M) (f := f) b3 b4
      have hb3 : bfr X X3 25 := bfr_tr hb (bfr_tr a3 (bfr_tr (fun x hx => by rw [pu_eq, pw_ne _ _ (by omega)]) (kfr_b b5)))
      obtain ⟨g3, d1, d2, d3⟩ := thEnd (g := g2) h hf hb3
      rw [c1, c2, pl_bind, pl_bind]
      simp only [pl_let, d1, pl_bind]
      by_cases hle : r ≤ t
      · simp only [if_pos hle, nI_s]
        exact ih (e + 1) X3 g3 _ _ (by omega) (by omega) d2 hb3
      · simp only [if_neg hle, nI_s]
        exact ih (e + 1) X3 g3 _ _ (by omega) (by omega) d2 hb3
theorem m_deedFor {X M : qs_D} (h : RR X M) (p1 p2 : Int32) : OK (fX4_deedFor p1 p2 X) (fX5_deedFor p1 p2 M) := by
  obtain ⟨⟨c, n, hw, hk⟩, -⟩ := id h
  unfold fX4_deedFor fX5_deedFor
  rw [cPlace, rIn, pl_bind, pl_bind]
  by_cases h1 : 0 ≤ p1 ∧ p1 ≤ 5
  · rw [if_pos h1, if_neg one0, if_neg one0, cWithin, rIn, pl_bind, pl_bind]
    by_cases h2 : 0 ≤ p2 ∧ p2 ≤ 60
    · obtain ⟨i, hi, rfl⟩ := nat_le (n := 5) rfl (by decide) h1
      obtain ⟨N, hN, rfl⟩ := nat_le (n := 60) rfl (by decide) h2
      obtain ⟨f, t1, t2⟩ := rThinks M
      rw [if_pos h2, if_neg one0, if_neg one0, t1, pl_bind]
      simp only [pl_let]
      rw [th_id]
      exact deedForL h t2 hw hk (by omega) hN qs_F 0 X (M 1) 0 (-1) (by rw [qs_F_eq]; omega) (by omega) (fun _ _ => rfl) (bfr_rf X 25)
    · rw [if_neg h2, if_pos rfl, if_pos rfl]
      exact ok_f h (by decide : 0 < 7) (by decide)
  · rw [if_neg h1, if_pos rfl, if_pos rfl]
    exact ok_f h (by decide : 0 < 7) (by decide)
theorem orNone_f {X M : qs_D} (h : RR X M) : OK (qs_bind (fX4_found (3 : Int32) X) (fun x D => some (x, D))) (qs_bind (fX5_orNone (-1) M) (fun x D => some (x, D))) := by
  have e : fX5_orNone (-1) M = qs_bind (fX5_finds (-1000004) M) (fun x D => some (x, D)) := by
    unfold fX5_orNone
    rw [if_neg (by decide)]
  rw [e]
  have h2 := ok_f (v := -1000004) h (by decide : 3 < 7) (by decide)
  rw [rFinds (f := 3) (by decide) (by decide), pl_bind] at h2 ⊢
  exact h2
theorem orNone_p {M : qs_D} {v : Nat} (hv : v < 2 ^ 31) : qs_bind (fX5_orNone (nI v) M) (fun x D => some (x, D)) = some (nI v, M) := by
  unfold fX5_orNone
  rw [if_pos (nI_pos' hv)]
  rfl
theorem grudgeForL {X M : qs_D} {f : Nat → Int32} {c n d N : Nat} (h : RR X M) (hf : e70 (M 1) f) (hw : wfr (M 1) c n) (hk : kf X 1 (M 1) c) (hd : d < c) (hN : N ≤ 60) : ∀ (k v : Nat) (X1 : qs_D) (g : Nat → Int32), 101 - v < k → v ≤ 100 → e70 (M 1) g → bfr X X1 25 → OK (fX4_grudgeFor_L26 k (nI d) (nI N) (nI v) X1) (fX5_grudgeFor_L34 k (nI d) (nI N) (-1) (nI v) (qs_w (qs_w M 3 f) 1 g)) := by
  have hc8 := RR.c8 hw
  intro k
  induction k with
  | zero => intro v X1 g h; omega
  | succ k ih =>
    intro v X1 g hk2 hv hg hb
    unfold fX4_grudgeFor_L26
    rw [fX5_grudgeFor_L34]
    by_cases h100 : v = 100
    · subst h100
      rw [if_pos (by decide), if_pos (by decide)]
      exact orNone_f (RR_fr h (fun x hx => hb x (by omega)) (by rw [pw_self]; exact hg) (fun x h1 h3 => by rw [pw_ne _ _ h1, pw_ne _ _ h3]))
    · have hlt : ¬ (99 : Int32) < nI v := nI_nlt (b := v) (a := 99) (by omega) (by decide)
      obtain ⟨X2, a1, a2, a3⟩ := cOne apt25 (kf_congr hg hc8 (kf_out hc8 hk hb)).1 hd hc8
      rw [if_neg hlt, if_neg hlt, if_neg (by decide), a1, pl_bind, pl_let, g70_1, pl_let, tn1, pu_eq (qs_w (qs_w M 3 f) 1 g), pw_self, pw_w]
      have hw2 : wfr (upd g 1 (nI v)) c n := wfr_1 (th_wf hw hg) ⟨v, by omega, rfl⟩
      obtain ⟨X3, g2, n2, b1, b2, b3, b4, b5, b6⟩ := simST (M := M) (f := f) hw2 (by decide) (fun _ _ => hd) (kr_1 a2) (by omega : N ≤ 100)
      have hb3 : bfr X X3 25 := bfr_tr hb (bfr_tr a3 (bfr_tr (fun x hx => by rw [pu_eq, pw_ne _ _ (by omega)]) (kfr_b b5)))
      obtain ⟨g3, d1, d2, d3⟩ := thEnd (g := g2) h hf hb3
      have e0 : X3 (25 + 4 + 0) 3 = g2 (12 + 6 * d + 3) := b4.2.2.2.2.2 0 (by decide) 3 (by decide)
      rw [b1, b2, pl_bind, pl_bind, g8_0, tn0, e0, it3 (by omega), pl_bind, pw_self]
      by_cases h3 : g2 (12 + 6 * d + 3) = 0
      · rw [if_pos h3, if_pos h3, pl_let, d1, pl_bind, pl_let, nI_s]
        cases k with
        | zero => omega
        | succ k =>
          rw [fX5_grudgeFor_L34]
          by_cases h99 : v = 99
          · subst h99
            rw [if_pos (by decide), orNone_p (by omega)]
            exact OK.mk d3
          · rw [if_neg (show ¬ (99 : Int32) < nI (v + 1) from nI_nlt (b := v + 1) (a := 99) (by omega) (by decide)), if_pos (nI_pos' (by omega)), orNone_p (by omega)]
            exact OK.mk d3
      · rw [if_neg h3, if_neg h3, pl_let, pl_let, d1, pl_bind, pl_let, nI_s]
        exact ih (v + 1) X3 g3 (by omega) (by omega) d2 hb3
theorem m_grudgeFor {X M : qs_D} (h : RR X M) (p1 p2 : Int32) : OK (fX4_grudgeFor p1 p2 X) (fX5_grudgeFor p1 p2 M) := by
  obtain ⟨⟨c, n, hw, hk⟩, -⟩ := id h
  have hc8 := RR.c8 hw
  unfold fX4_grudgeFor fX5_grudgeFor
  rw [cIsDish hk.1.2.2.2.1, rIsDish hw.2.2.2.2.2.1, pl_bind, pl_bind]
  by_cases h1 : 0 ≤ p1 ∧ p1 ≤ nI c - 1
  · rw [if_pos h1, if_neg one0, if_neg one0, cWithin, rIn, pl_bind, pl_bind]
    by_cases h2 : 0 ≤ p2 ∧ p2 ≤ 60
    · obtain ⟨d, hd, rfl⟩ := nat_dish hc8 h1
      obtain ⟨N, hN, rfl⟩ := nat_le (n := 60) rfl (by decide) h2
      obtain ⟨f, t1, t2⟩ := rThinks M
      rw [if_pos h2, if_neg one0, if_neg one0, t1, pl_bind]
      simp only [pl_let]
      rw [th_id]
      exact grudgeForL h t2 hw hk hd hN qs_F 0 X (M 1) (by rw [qs_F_eq]; omega) (by omega) (fun _ _ => rfl) (bfr_rf X 25)
    · rw [if_neg h2, if_pos rfl, if_pos rfl]
      exact ok_f h (by decide : 0 < 7) (by decide)
  · rw [if_neg h1, if_pos rfl, if_pos rfl]
    exact ok_f h (by decide : 0 < 7) (by decide)
theorem kr_k0 {D : qs_D} {kb d : Nat} {g : Nat → Int32} {v : Int32} (hk : kr D kb g 1 (fun _ => d)) : kr (qs_u D (kb + 4 + 0) 0 v) kb (upd g (12 + 6 * d) v) 1 (fun _ => d) := by
  obtain ⟨k0, k1, k3, k5, kl, kd⟩ := hk
  rw [pu_eq]
  refine ⟨by rw [pw_ne _ _ (by omega), up_ne _ _ (by omega)]; exact k0, by rw [pw_ne _ _ (by omega), up_ne _ _ (by omega)]; exact k1, by rw [pw_ne _ _ (by omega), up_ne _ _ (by omega)]; exact k3, by rw [pw_ne _ _ (by omega)]; exact k5, fun j hj => by rw [pw_ne _ _ (by omega), up_ne _ _ (by omega)]; exact kl j hj, fun x hx k hk2 => ?_⟩
  have hx0 : x = 0 := by omega
  subst hx0
  rw [pw_self]
  by_cases h : k = 0
  · subst h; rw [up_self]; exact (up_self _ _ _).symm
  · rw [up_ne _ _ h, up_ne _ _ (by omega)]; exact kd 0 hx k hk2
theorem wfr_k0 {g : Nat → Int32} {c n d : Nat} {v : Int32} (hw : wfr g c n) (hd : d < c) (hv : qb v 6) : wfr (upd g (12 + 6 * d) v) c n := by
  have e : upd g (12 + 6 * d) v = sW g d (upd (sR g d) 0 v) := sW_upd (k := 0) (by decide)
  rw [e]
  exact wfr_d hw hd (dw_upd (hw.2.2.2.2.2.2.2.2.1 d hd) (by decide) hv)
theorem kindForL {X M : qs_D} {f : Nat → Int32} {c n d N : Nat} (h : RR X M) (hf : e70 (M 1) f) (hw : wfr (M 1) c n) (hk : kf X 1 (M 1) c) (hd : d < c) (hN : N ≤ 60) : ∀ (k e : Nat) (X1 : qs_D) (g : Nat → Int32) (b t : Int32), 7 - e < k → e ≤ 7 → e70 (M 1) g → bfr X X1 25 → OK (fX4_kindFor_L32 k (nI d) (nI N) b t (nI e) X1) (fX5_kindFor_L37 k (nI d) (nI N) b t (nI e) (qs_w (qs_w M 3 f) 1 g)) := by
  have hc8 := RR.c8 hw
  intro k
  induction k with
  | zero => intro e X1 g b t h; omega
  | succ k ih =>
    intro e X1 g b t hk2 he hg hb
    unfold fX4_kindFor_L32 fX5_kindFor_L37
    by_cases h7 : e = 7
    · subst h7
      rw [if_pos (by decide), if_pos (by decide)]
      exact OK.mk (RR_fr h (fun x hx => hb x (by omega)) (by rw [pw_self]; exact hg) (fun x h1 h3 => by rw [pw_ne _ _ h1, pw_ne _ _ h3]))
    · have hlt : ¬ (7 : Int32) ≤ nI e := nI_ge (a := e) (b := 7) (by omega) (by decide)
      have hlt2 : ¬ (6 : Int32) < nI e := nI_nlt (b := e) (a := 6) (by omega) (by decide)
      obtain ⟨X2, a1, a2, a3⟩ := cOne apt25 (kf_congr hg hc8 (kf_out hc8 hk hb)).1 hd hc8
      rw [if_neg hlt, if_neg hlt2, a1, pl_bind, g8_0, pl_let, tn0, pt0 (by omega), pl_bind, pu_eq (qs_w (qs_w M 3 f) 1 g), pw_self, pw_w]
      have hw2 : wfr (upd g (12 + 6 * d) (nI e)) c n := wfr_k0 (th_wf hw hg) hd ⟨e, by omega, rfl⟩
      obtain ⟨X3, g2, n2, b1, b2, b3, b4, b5, b6⟩ := simST (M := M) (f := f) hw2 (by decide) (fun _ _ => hd) (kr_k0 a2) (by omega : N ≤ 100)
      have hb3 : bfr X X3 25 := bfr_tr hb (bfr_tr a3 (bfr_tr (fun x hx => by rw [pu_eq, pw_ne _ _ (by omega)]) (kfr_b b5)))
      obtain ⟨g3, d1, d2, d3⟩ := thEnd (g := g2) h hf hb3
      have hgv : fX1_given 25 (0 : Int32) X3 = some (vG g2 d, X3) := cGiven (i := 0) b3 (by decide) (by decide) hd b4
      rw [b1, b2, pl_bind, pl_bind, hgv, rGivesT b3 hd, pl_bind, pl_bind]
      simp only [pl_let, d1, pl_bind]
      by_cases hle : vG g2 d ≤ t
      · simp only [if_pos hle, nI_s]
        exact ih (e + 1) X3 g3 _ _ (by omega) (by omega) d2 hb3
      · simp only [if_neg hle, nI_s]
        exact ih (e + 1) X3 g3 _ _ (by omega) (by omega) d2 hb3
theorem m_kindFor {X M : qs_D} (h : RR X M) (p1 p2 : Int32) : OK (fX4_kindFor p1 p2 X) (fX5_kindFor p1 p2 M) := by
  obtain ⟨⟨c, n, hw, hk⟩, -⟩ := id h
  have hc8 := RR.c8 hw
  unfold fX4_kindFor fX5_kindFor
  rw [cIsDish hk.1.2.2.2.1, rIsDish hw.2.2.2.2.2.1, pl_bind, pl_bind]
  by_cases h1 : 0 ≤ p1 ∧ p1 ≤ nI c - 1
  · rw [if_pos h1, if_neg one0, if_neg one0, cWithin, rIn, pl_bind, pl_bind]
    by_cases h2 : 0 ≤ p2 ∧ p2 ≤ 60
    · obtain ⟨d, hd, rfl⟩ := nat_dish hc8 h1
      obtain ⟨N, hN, rfl⟩ := nat_le (n := 60) rfl (by decide) h2
      obtain ⟨f, t1, t2⟩ := rThinks M
      rw [if_pos h2, if_neg one0, if_neg one0, t1, pl_bind]
      simp only [pl_let]
      rw [th_id]
      exact kindForL h t2 hw hk hd hN qs_F 0 X (M 1) 0 (-1) (by rw [qs_F_eq]; omega) (by omega) (fun _ _ => rfl) (bfr_rf X 25)
    · rw [if_neg h2, if_pos rfl, if_pos rfl]
      exact ok_f h (by decide : 0 < 7) (by decide)
  · rw [if_neg h1, if_pos rfl, if_pos rfl]
    exact ok_f h (by decide : 0 < 7) (by decide)
theorem m_seed {X M : qs_D} (h : RR X M) (p1 : Int32) : OK (fX4_seed p1 X) (fX5_seed p1 M) := by
  obtain ⟨⟨c, n, hw, hk⟩, -⟩ := id h
  unfold fX4_seed fX5_seed
  rw [rBecomes (p := 4) (i := 4) rfl (by decide), pl_bind, pl_let, pl_let, hk.2.2.1]
  refine OK.mk (RR_k h (fun x h1 _ => by rw [pu_eq, pw_ne _ _ (by omega)]) (fun x h1 _ => by rw [pu_eq, pw_ne _ _ h1]) (c := c) (n := n) ?_ ?_)
  · rw [pu_eq, pw_self]; exact wfr_4 hw
  · rw [pu_eq M, pw_self]; exact kf_4 hk
/-! images -/
theorem apt13 : apt 13 1 := Or.inr (by decide)
theorem apt1 : apt 1 13 := Or.inl (by decide)
theorem m_image {X M : qs_D} (h : RR X M) : OK (fX4_image X) (fX5_image M) := by
  obtain ⟨⟨c, n, hw, hk⟩, ⟨b1, b2⟩, d1, d2, ⟨t, t1, t2, t3, t4⟩⟩ := h
  have hc8 := RR.c8 hw
  obtain ⟨X2, a1, a2, a3⟩ := cAll apt13 hc8 hk
  obtain ⟨f, r1, r2⟩ := rCopy (a := 1) (b := 2) (by decide) M
  unfold fX4_image fX5_image
  rw [a1, r1, pl_bind, pl_bind, pl_let, pl_let]
  have hx : ∀ x, x ≠ 0 → ¬ (13 ≤ x ∧ x < 25) → qs_u X2 0 6 1 x = X x := fun x h0 h1 => by rw [pu_eq, pw_ne _ _ h0]; exact a3 x (by omega)
  have hx13 : ∀ x, x ≠ 0 → qs_u X2 0 6 1 x = X2 x := fun x h0 => by rw [pu_eq, pw_ne _ _ h0]
  have hm : ∀ x, x ≠ 0 → x ≠ 2 → qs_u (qs_w M 2 f) 0 3 1 x = M x := fun x h0 h2 => by rw [pu_eq, pw_ne _ _ h0, pw_ne _ _ h2]
  have hm2 : qs_u (qs_w M 2 f) 0 3 1 2 = f := by rw [pu_eq, pw_ne _ _ (by decide), pw_self]
  have hm0 : ∀ k, k ≠ 3 → qs_u (qs_w M 2 f) 0 3 1 0 k = M 0 k := fun k hk => by rw [pu_eq, pw_self, up_ne _ _ hk, pw_ne _ _ (by decide)]
  refine OK.mk ⟨⟨c, n, by rw [hm 1 (by decide) (by decide)]; exact hw, by rw [hm 1 (by decide) (by decide)]; exact kf_fr hc8 (fun x _ _ => hx x (by omega) (by omega)) hk⟩, ⟨by rw [pu_eq, pw_self, up_self, pu_eq, pw_self, up_self], Or.inr ⟨by rw [pu_eq, pw_self, up_self], c, n, by rw [hm2]; exact wfr_congr r2 hw, by rw [hm2]; exact kf_congr r2 hc8 (kf_fr hc8 (fun x _ _ => hx13 x (by omega)) a2)⟩⟩, ?_, ?_, ?_⟩
  · intro j hj
    rw [hx 40 (by omega) (by omega), hm 4 (by decide) (by decide)]
    exact d1 j hj
  · intro s hs
    rw [hx _ (by omega) (by omega), hx _ (by omega) (by omega), hm 5 (by decide) (by decide), hm 6 (by decide) (by decide), hm 7 (by decide) (by decide)]
    exact d2 s hs
  · refine ⟨t, t1, by rw [hx 37 (by omega) (by omega)]; exact t2, by rw [hm0 9 (by decide)]; exact t3, fun k hk => ?_⟩
    rw [hx 38 (by omega) (by omega), hm 8 (by decide) (by decide)]
    exact t4 k hk
theorem m_undo {X M : qs_D} (h : RR X M) : OK (fX4_undo X) (fX5_undo M) := by
  obtain ⟨⟨c, n, hw, hk⟩, ⟨b1, b2⟩, d1, d2, ht⟩ := id h
  unfold fX4_undo fX5_undo
  rw [b1]
  rcases b2 with b2 | ⟨b2, c2, n2, b3, b4⟩
  · rw [b2, if_pos rfl, if_pos rfl]
    exact ok_f h (by decide : 3 < 7) (by decide)
  · have hc8 := RR.c8 b3
    rw [b2, if_neg one0, if_neg one0]
    obtain ⟨X2, a1, a2, a3⟩ := cAll apt1 hc8 b4
    obtain ⟨f, r1, r2⟩ := rCopy (a := 2) (b := 1) (by decide) M
    rw [a1, r1, pl_bind, pl_bind, g70_0, tn0, pw_self, a2.1.2.2.1, r2 0 (by decide)]
    exact OK.mk (RR_k h (fun x h1 _ => a3 x (by omega)) (fun x h1 _ => pw_ne _ _ h1) (c := c2) (n := n2) (by rw [pw_self]; exact wfr_congr r2 b3) (by rw [pw_self]; exact kf_congr r2 hc8 a2))
theorem RR_0 {X M : qs_D} (h : RR X M) : RR (qs_u X 0 6 0) (qs_u M 0 3 0) := by
  obtain ⟨⟨c, n, hw, hk⟩, ⟨b1, b2⟩, d1, d2, ⟨t, t1, t2, t3, t4⟩⟩ := h
  have hc8 := RR.c8 hw
  have hx : ∀ x, x ≠ 0 → qs_u X 0 6 0 x = X x := fun x h0 => by rw [pu_eq, pw_ne _ _ h0]
  have hm : ∀ x, x ≠ 0 → qs_u M 0 3 0 x = M x := fun x h0 => by rw [pu_eq, pw_ne _ _ h0]
  refine ⟨⟨c, n, by rw [hm 1 (by decide)]; exact hw, by rw [hm 1 (by decide)]; exact kf_fr hc8 (fun x _ _ => hx x (by omega)) hk⟩, ⟨by rw [pu_eq, pw_self, up_self, pu_eq, pw_self, up_self], Or.inl (by rw [pu_eq, pw_self, up_self])⟩, ?_, ?_, ?_⟩
  · intro j hj
    rw [hx 40 (by omega), hm 4 (by decide)]
    exact d1 j hj
  · intro s hs
    rw [hx _ (by omega), hx _ (by omega), hm 5 (by decide), hm 6 (by decide), hm 7 (by decide)]
    exact d2 s hs
  · refine ⟨t, t1, by rw [hx 37 (by omega)]; exact t2, by rw [pu_eq, pw_self, up_ne _ _ (by decide)]; exact t3, fun k hk => ?_⟩
    rw [hx 38 (by omega), hm 8 (by decide)]
    exact t4 k hk
theorem m_tear {X M : qs_D} (h : RR X M) : OK (fX4_tear X) (fX5_tear M) := by
  obtain ⟨-, ⟨b1, b2⟩, -⟩ := id h
  unfold fX4_tear fX5_tear
  rw [b1]
  by_cases h0 : M 0 3 = 0
  · rw [if_pos h0, if_pos h0]
    exact OK.mk (RR_0 h)
  · rw [if_neg h0, if_neg h0]
    exact OK.mk (RR_0 h)
/-! spots -/
theorem m_hold {X M : qs_D} (h : RR X M) (p1 p2 : Int32) : OK (fX4_hold p1 p2 X) (fX5_hold p1 p2 M) := by
  obtain ⟨⟨c, n, hw, hk⟩, -⟩ := id h
  have hc8 := RR.c8 hw
  have key : ∀ (i : Nat), i < 10 → (p2 = -1 ∨ ∃ k, k < c ∧ p2 = nI k) → OK (some ((1 : Int32), qs_u X (1 + 2) i p2)) (some ((1 : Int32), qs_u M 1 (60 + i) p2)) := by
    intro i hi hp
    refine OK.mk (RR_k h (fun x h1 _ => by rw [pu_eq, pw_ne _ _ (by omega)]) (fun x h1 _ => by rw [pu_eq, pw_ne _ _ h1]) (c := c) (n := n) ?_ ?_)
    · rw [pu_eq, pw_self]
      obtain ⟨w0, wn, w1, w2, w3, w5, wc, wl, wd, ws⟩ := hw
      refine ⟨by rw [up_ne _ _ (by omega)]; exact w0, wn, by rw [up_ne _ _ (by omega)]; exact w1, by rw [up_ne _ _ (by omega)]; exact w2, by rw [up_ne _ _ (by omega)]; exact w3, by rw [up_ne _ _ (by omega)]; exact w5, wc, fun j hj => by rw [up_ne _ _ (by omega)]; exact wl j hj, fun d hd => dw_congr (f := sR (M 1) d) (fun k hk => up_ne _ _ (by omega)) (wd d hd), fun j hj => ?_⟩
      by_cases hji : j = i
      · subst hji; rw [up_self]; exact hp
      · rw [up_ne _ _ (by omega)]; exact ws j hj
    · rw [pu_eq M, pw_self, pu_eq]
      obtain ⟨⟨k0, k1, k3, k5, kl, kd⟩, a1, a2, a3⟩ := hk
      refine ⟨⟨by rw [pw_ne _ _ (by omega), up_ne _ _ (by omega)]; exact k0, by rw [pw_ne _ _ (by omega), up_ne _ _ (by omega)]; exact k1, by rw [pw_ne _ _ (by omega), up_ne _ _ (by omega)]; exact k3, by rw [pw_ne _ _ (by omega)]; exact k5, fun j hj => by rw [pw_ne _ _ (by omega), up_ne _ _ (by omega)]; exact kl j hj, fun x hx k hk2 => by rw [pw_ne _ _ (by omega)]; exact (kd x hx k hk2).trans (up_ne (M 1) p2 (show 12 + 6 * x + k ≠ 60 + i by omega)).symm⟩, by rw [pw_ne _ _ (by omega), up_ne _ _ (by omega)]; exact a1, by rw [pw_ne _ _ (by omega), up_ne _ _ (by omega)]; exact a2, fun j hj => ?_⟩
      rw [pw_self]
      by_cases hji : j = i
      · subst hji; rw [up_self, up_self]
      · rw [up_ne _ _ hji, up_ne _ _ (by omega)]; exact a3 j hj
  unfold fX4_hold fX5_hold
  rw [cSpot, rIn, pl_bind, pl_bind]
  by_cases h1 : 0 ≤ p1 ∧ p1 ≤ 9
  · obtain ⟨i, hi, rfl⟩ := nat_le (n := 9) rfl (by decide) h1
    have e : (60 : Int32) + nI i = nI (60 + i) := nI_add 60 i
    rw [if_pos h1, if_neg one0, if_neg one0, e]
    by_cases h2 : p2 = -1
    · rw [if_pos h2, if_pos h2, pl_gN (by decide) (by omega), pl_gN (by decide) (by omega), pl_let, pl_let, tnN (by omega), tnN (by omega)]
      exact key i (by omega) (Or.inl h2)
    · rw [if_neg h2, if_neg h2, cIsDish hk.1.2.2.2.1, rIsDish hw.2.2.2.2.2.1, pl_bind, pl_bind]
      by_cases h3 : 0 ≤ p2 ∧ p2 ≤ nI c - 1
      · rw [if_pos h3, if_neg one0, if_neg one0, pl_gN (by decide) (by omega), pl_gN (by decide) (by omega), pl_let, pl_let, tnN (by omega), tnN (by omega)]
        exact key i (by omega) (Or.inr (nat_dish hc8 h3))
      · rw [if_neg h3, if_pos rfl, if_pos rfl]
        exact ok_f h (by decide : 0 < 7) (by decide)
  · rw [if_neg h1, if_pos rfl, if_pos rfl]
    exact ok_f h (by decide : 0 < 7) (by decide)
