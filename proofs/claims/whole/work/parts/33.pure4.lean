/-! PURE, 4: the plain calls -/
theorem cWithin (x a b : Int32) (D : qs_D) : fX4_within x a b D = some (if a ≤ x ∧ x ≤ b then 1 else 0, D) := by
  unfold fX4_within
  by_cases h1 : x < a
  · rw [if_pos h1, if_neg (fun h => absurd h1 (Int32.not_lt.mpr h.1))]
  · rw [if_neg h1]
    by_cases h2 : b < x
    · rw [if_pos h2, if_neg (fun h => absurd h2 (Int32.not_lt.mpr h.2))]
    · rw [if_neg h2, if_pos ⟨Int32.not_lt.mp h1, Int32.not_lt.mp h2⟩]
theorem rIn (x a b : Int32) (D : qs_D) : fX5_in x a b D = some (if a ≤ x ∧ x ≤ b then 1 else 0, D) := by
  unfold fX5_in
  by_cases h1 : x < a
  · rw [if_pos h1, if_neg (fun h => absurd h1 (Int32.not_lt.mpr h.1))]
  · rw [if_neg h1]
    by_cases h2 : b < x
    · rw [if_pos h2, if_neg (fun h => absurd h2 (Int32.not_lt.mpr h.2))]
    · rw [if_neg h2, if_pos ⟨Int32.not_lt.mp h1, Int32.not_lt.mp h2⟩]
theorem pl_gbi {c : Prop} [Decidable c] {σ : Type} {T : Option σ} : qs_gb (if c then 1 else 0) T = T := by
  by_cases h : c
  · rw [if_pos h]; exact pl_gb1
  · rw [if_neg h]; exact pl_gb0
theorem cPlace (x : Int32) (D : qs_D) : fX4_isPlace x D = some (if 0 ≤ x ∧ x ≤ 5 then 1 else 0, D) := by
  unfold fX4_isPlace
  rw [cWithin, pl_bind, pl_gbi]
theorem cIsDeed (x : Int32) (D : qs_D) : fX4_isDeed x D = some (if 0 ≤ x ∧ x ≤ 11 then 1 else 0, D) := by
  unfold fX4_isDeed
  rw [cWithin, pl_bind, pl_gbi]
theorem rIsDeed (x : Int32) (D : qs_D) : fX5_isDeed x D = some (if 0 ≤ x ∧ x ≤ 11 then 1 else 0, D) := by
  unfold fX5_isDeed
  rw [rIn, pl_bind, pl_gbi]
theorem cKind (x : Int32) (D : qs_D) : fX4_isKind x D = some (if 0 ≤ x ∧ x ≤ 6 then 1 else 0, D) := by
  unfold fX4_isKind
  rw [cWithin, pl_bind, pl_gbi]
theorem cSpot (x : Int32) (D : qs_D) : fX4_isSpot x D = some (if 0 ≤ x ∧ x ≤ 9 then 1 else 0, D) := by
  unfold fX4_isSpot
  rw [cWithin, pl_bind, pl_gbi]
theorem cIsSheet (x : Int32) (D : qs_D) : fX4_isSheet x D = some (if 0 ≤ x ∧ x ≤ 3 then 1 else 0, D) := by
  unfold fX4_isSheet
  rw [cWithin, pl_bind, pl_gbi]
theorem rIsSheet (x : Int32) (D : qs_D) : fX5_isSheet x D = some (if 0 ≤ x ∧ x ≤ 3 then 1 else 0, D) := by
  unfold fX5_isSheet
  rw [rIn, pl_bind, pl_gbi]
theorem cIsDish {c : Nat} {D : qs_D} (h : D 1 5 = nI c) (x : Int32) : fX4_isDish x D = some (if 0 ≤ x ∧ x ≤ nI c - 1 then 1 else 0, D) := by
  unfold fX4_isDish
  rw [h, cWithin, pl_bind, pl_gbi]
theorem rIsDish {c : Nat} {D : qs_D} (h : D 1 5 = nI c) (x : Int32) : fX5_isDish x D = some (if 0 ≤ x ∧ x ≤ nI c - 1 then 1 else 0, D) := by
  unfold fX5_isDish
  rw [g70_5, tn5, h, rIn, pl_bind, pl_gbi]
/-- a number between 0 and a bound, as a natural one -/
theorem nat_le {x : Int32} {n : Nat} {m : Int32} (hm : m = nI n) (hn : n < 2 ^ 31) (h : 0 ≤ x ∧ x ≤ m) : ∃ k, k ≤ n ∧ x = nI k := by
  subst hm
  exact qb_of hn h
theorem nat_dish {x : Int32} {c : Nat} (hc : c ≤ 8) (h : 0 ≤ x ∧ x ≤ nI c - 1) : ∃ d, d < c ∧ x = nI d := by
  obtain ⟨k, hk, rfl⟩ := nI_of (Int32.not_lt.mpr h.1)
  cases c with
  | zero =>
    exfalso
    have h1 : nI 0 - 1 < nI 0 := by decide
    exact absurd (Int32.lt_of_le_of_lt h.2 h1) (nI_nlt (Nat.zero_le k) hk)
  | succ c =>
    rw [nI_pred] at h
    exact ⟨k, by have := (nI_leI hk (by omega)).mp h.2; omega, rfl⟩
theorem RR_k {X M X2 M2 : qs_D} {c n : Nat} (h : RR X M) (hx : ∀ x, ¬ (1 ≤ x ∧ x < 13) → ¬ (25 ≤ x ∧ x < 37) → X2 x = X x) (hm : ∀ x, x ≠ 1 → x ≠ 3 → M2 x = M x) (hw : wfr (M2 1) c n) (hk : kf X2 1 (M2 1) c) : RR X2 M2 := by
  obtain ⟨-, ⟨b1, b2⟩, d1, d2, ⟨t, t1, t2, t3, t4⟩⟩ := h
  refine ⟨⟨c, n, hw, hk⟩, ⟨by rw [hx 0 (by omega) (by omega), hm 0 (by decide) (by decide)]; exact b1, ?_⟩, ?_, ?_, ?_⟩
  · rw [hm 0 (by decide) (by decide), hm 2 (by decide) (by decide)]
    rcases b2 with b2 | ⟨b2, c2, n2, b3, b4⟩
    · exact Or.inl b2
    · exact Or.inr ⟨b2, c2, n2, b3, kf_fr b3.2.2.2.2.2.2.1 (fun x _ _ => hx x (by omega) (by omega)) b4⟩
  · intro j hj
    rw [hx 40 (by omega) (by omega), hm 4 (by decide) (by decide)]
    exact d1 j hj
  · intro s hs
    rw [hx _ (by omega) (by omega), hx _ (by omega) (by omega), hm 5 (by decide) (by decide), hm 6 (by decide) (by decide), hm 7 (by decide) (by decide)]
    exact d2 s hs
  · refine ⟨t, t1, by rw [hx 37 (by omega) (by omega)]; exact t2, by rw [hm 0 (by decide) (by decide)]; exact t3, fun k hk => ?_⟩
    rw [hx 38 (by omega) (by omega), hm 8 (by decide) (by decide)]
    exact t4 k hk
theorem rBecomes {i : Nat} {p : Int32} (hp : p = nI i) (hi : i < 70) (v : Int32) (M : qs_D) : fX5_becomes p v M = some (M 1 i, qs_u M 1 i v) := by
  subst hp
  unfold fX5_becomes
  rw [pl_gN (by decide) hi, tnN (by omega), pl_let, pl_gN (by decide) hi, pl_let]
/-! rows and kitchens, one number changed -/
theorem wfr_1 {g : Nat → Int32} {c n : Nat} {v : Int32} (hw : wfr g c n) (hv : qb v 99) : wfr (upd g 1 v) c n := by
  obtain ⟨w0, wn, w1, w2, w3, w5, wc, wl, wd, ws⟩ := hw
  exact ⟨by rw [up_ne _ _ (by decide)]; exact w0, wn, by rw [up_self]; exact hv, by rw [up_ne _ _ (by decide)]; exact w2, by rw [up_ne _ _ (by decide)]; exact w3, by rw [up_ne _ _ (by decide)]; exact w5, wc, fun j hj => by rw [up_ne _ _ (by omega)]; exact wl j hj, fun d hd => dw_congr (f := sR g d) (fun k hk => up_ne _ _ (by omega)) (wd d hd), fun j hj => by rw [up_ne _ _ (by omega)]; exact ws j hj⟩
theorem wfr_2 {g : Nat → Int32} {c n : Nat} {v : Int32} (hw : wfr g c n) (hv : qb v 9) : wfr (upd g 2 v) c n := by
  obtain ⟨w0, wn, w1, w2, w3, w5, wc, wl, wd, ws⟩ := hw
  exact ⟨by rw [up_ne _ _ (by decide)]; exact w0, wn, by rw [up_ne _ _ (by decide)]; exact w1, by rw [up_self]; exact hv, by rw [up_ne _ _ (by decide)]; exact w3, by rw [up_ne _ _ (by decide)]; exact w5, wc, fun j hj => by rw [up_ne _ _ (by omega)]; exact wl j hj, fun d hd => dw_congr (f := sR g d) (fun k hk => up_ne _ _ (by omega)) (wd d hd), fun j hj => by rw [up_ne _ _ (by omega)]; exact ws j hj⟩
theorem wfr_3 {g : Nat → Int32} {c n : Nat} {v : Int32} (hw : wfr g c n) (hv : qb v 99999) : wfr (upd g 3 v) c n := by
  obtain ⟨w0, wn, w1, w2, w3, w5, wc, wl, wd, ws⟩ := hw
  exact ⟨by rw [up_ne _ _ (by decide)]; exact w0, wn, by rw [up_ne _ _ (by decide)]; exact w1, by rw [up_ne _ _ (by decide)]; exact w2, by rw [up_self]; exact hv, by rw [up_ne _ _ (by decide)]; exact w5, wc, fun j hj => by rw [up_ne _ _ (by omega)]; exact wl j hj, fun d hd => dw_congr (f := sR g d) (fun k hk => up_ne _ _ (by omega)) (wd d hd), fun j hj => by rw [up_ne _ _ (by omega)]; exact ws j hj⟩
theorem wfr_4 {g : Nat → Int32} {c n : Nat} {v : Int32} (hw : wfr g c n) : wfr (upd g 4 v) c n := by
  obtain ⟨w0, wn, w1, w2, w3, w5, wc, wl, wd, ws⟩ := hw
  exact ⟨by rw [up_ne _ _ (by decide)]; exact w0, wn, by rw [up_ne _ _ (by decide)]; exact w1, by rw [up_ne _ _ (by decide)]; exact w2, by rw [up_ne _ _ (by decide)]; exact w3, by rw [up_ne _ _ (by decide)]; exact w5, wc, fun j hj => by rw [up_ne _ _ (by omega)]; exact wl j hj, fun d hd => dw_congr (f := sR g d) (fun k hk => up_ne _ _ (by omega)) (wd d hd), fun j hj => by rw [up_ne _ _ (by omega)]; exact ws j hj⟩
theorem wfr_l {g : Nat → Int32} {c n i : Nat} {v : Int32} (hw : wfr g c n) (hi : i < 6) (hv : qb v 11) : wfr (upd g (6 + i) v) c n := by
  obtain ⟨w0, wn, w1, w2, w3, w5, wc, wl, wd, ws⟩ := hw
  refine ⟨by rw [up_ne _ _ (by omega)]; exact w0, wn, by rw [up_ne _ _ (by omega)]; exact w1, by rw [up_ne _ _ (by omega)]; exact w2, by rw [up_ne _ _ (by omega)]; exact w3, by rw [up_ne _ _ (by omega)]; exact w5, wc, fun j hj => ?_, fun d hd => dw_congr (f := sR g d) (fun k hk => up_ne _ _ (by omega)) (wd d hd), fun j hj => by rw [up_ne _ _ (by omega)]; exact ws j hj⟩
  by_cases h : j = i
  · subst h; rw [up_self]; exact hv
  · rw [up_ne _ _ (by omega)]; exact wl j hj
theorem wfr_d {g : Nat → Int32} {c n d : Nat} {f : Nat → Int32} (hw : wfr g c n) (hd : d < c) (hf : dw f) : wfr (sW g d f) c n := by
  obtain ⟨w0, wn, w1, w2, w3, w5, wc, wl, wd, ws⟩ := hw
  refine ⟨by rw [sW_out (by omega)]; exact w0, wn, by rw [sW_out (by omega)]; exact w1, by rw [sW_out (by omega)]; exact w2, by rw [sW_out (by omega)]; exact w3, by rw [sW_out (by omega)]; exact w5, wc, fun j hj => by rw [sW_out (by omega)]; exact wl j hj, fun e he => ?_, fun j hj => by rw [sW_out (by omega)]; exact ws j hj⟩
  by_cases h : e = d
  · subst h; exact dw_congr (fun k hk => sR_sW hk) hf
  · exact dw_congr (fun k hk => sR_other hk h) (wd e he)
theorem kr_1 {D : qs_D} {kb m : Nat} {g : Nat → Int32} {π : Nat → Nat} {v : Int32} (hk : kr D kb g m π) : kr (qs_u D kb 0 v) kb (upd g 1 v) m π := by
  obtain ⟨k0, k1, k3, k5, kl, kd⟩ := hk
  rw [pu_eq]
  exact ⟨by rw [pw_self, up_self, up_self], by rw [pw_self, up_ne _ _ (by decide), up_ne _ _ (by decide)]; exact k1, by rw [pw_self, up_ne _ _ (by decide), up_ne _ _ (by decide)]; exact k3, by rw [pw_self, up_ne _ _ (by decide)]; exact k5, fun j hj => by rw [pw_ne _ _ (by omega), up_ne _ _ (by omega)]; exact kl j hj, fun i hi k hk2 => by rw [pw_ne _ _ (by omega), up_ne _ _ (by omega)]; exact kd i hi k hk2⟩
theorem kf_1 {D : qs_D} {kb c : Nat} {g : Nat → Int32} {v : Int32} (hk : kf D kb g c) : kf (qs_u D kb 0 v) kb (upd g 1 v) c := by
  obtain ⟨k, a1, a2, a3⟩ := hk
  exact ⟨kr_1 k, by rw [pu_eq, pw_self, up_ne _ _ (by decide), up_ne _ _ (by decide)]; exact a1, by rw [pu_eq, pw_self, up_ne _ _ (by decide), up_ne _ _ (by decide)]; exact a2, fun j hj => by rw [pu_eq, pw_ne _ _ (by omega), up_ne _ _ (by omega)]; exact a3 j hj⟩
theorem kf_2 {D : qs_D} {kb c : Nat} {g : Nat → Int32} {v : Int32} (hk : kf D kb g c) : kf (qs_u D kb 1 v) kb (upd g 2 v) c := by
  obtain ⟨⟨k0, k1, k3, k5, kl, kd⟩, a1, a2, a3⟩ := hk
  rw [pu_eq]
  exact ⟨⟨by rw [pw_self, up_ne _ _ (by decide), up_ne _ _ (by decide)]; exact k0, by rw [pw_self, up_self, up_self], by rw [pw_self, up_ne _ _ (by decide), up_ne _ _ (by decide)]; exact k3, by rw [pw_self, up_ne _ _ (by decide)]; exact k5, fun j hj => by rw [pw_ne _ _ (by omega), up_ne _ _ (by omega)]; exact kl j hj, fun i hi k hk2 => by rw [pw_ne _ _ (by omega), up_ne _ _ (by omega)]; exact kd i hi k hk2⟩, by rw [pw_self, up_ne _ _ (by decide), up_ne _ _ (by decide)]; exact a1, by rw [pw_self, up_ne _ _ (by decide), up_ne _ _ (by decide)]; exact a2, fun j hj => by rw [pw_ne _ _ (by omega), up_ne _ _ (by omega)]; exact a3 j hj⟩
theorem kf_3 {D : qs_D} {kb c : Nat} {g : Nat → Int32} {v : Int32} (hk : kf D kb g c) : kf (qs_u D kb 2 v) kb (upd g 3 v) c := by
  obtain ⟨⟨k0, k1, k3, k5, kl, kd⟩, a1, a2, a3⟩ := hk
  rw [pu_eq]
  exact ⟨⟨by rw [pw_self, up_ne _ _ (by decide), up_ne _ _ (by decide)]; exact k0, by rw [pw_self, up_ne _ _ (by decide), up_ne _ _ (by decide)]; exact k1, by rw [pw_self, up_ne _ _ (by decide), up_ne _ _ (by decide)]; exact k3, by rw [pw_self, up_ne _ _ (by decide)]; exact k5, fun j hj => by rw [pw_ne _ _ (by omega), up_ne _ _ (by omega)]; exact kl j hj, fun i hi k hk2 => by rw [pw_ne _ _ (by omega), up_ne _ _ (by omega)]; exact kd i hi k hk2⟩, by rw [pw_self, up_self, up_self], by rw [pw_self, up_ne _ _ (by decide), up_ne _ _ (by decide)]; exact a2, fun j hj => by rw [pw_ne _ _ (by omega), up_ne _ _ (by omega)]; exact a3 j hj⟩
theorem kf_4 {D : qs_D} {kb c : Nat} {g : Nat → Int32} {v : Int32} (hk : kf D kb g c) : kf (qs_u D kb 4 v) kb (upd g 4 v) c := by
  obtain ⟨⟨k0, k1, k3, k5, kl, kd⟩, a1, a2, a3⟩ := hk
  rw [pu_eq]
  exact ⟨⟨by rw [pw_self, up_ne _ _ (by decide), up_ne _ _ (by decide)]; exact k0, by rw [pw_self, up_ne _ _ (by decide), up_ne _ _ (by decide)]; exact k1, by rw [pw_self, up_ne _ _ (by decide), up_ne _ _ (by decide)]; exact k3, by rw [pw_self, up_ne _ _ (by decide)]; exact k5, fun j hj => by rw [pw_ne _ _ (by omega), up_ne _ _ (by omega)]; exact kl j hj, fun i hi k hk2 => by rw [pw_ne _ _ (by omega), up_ne _ _ (by omega)]; exact kd i hi k hk2⟩, by rw [pw_self, up_ne _ _ (by decide), up_ne _ _ (by decide)]; exact a1, by rw [pw_self, up_self, up_self], fun j hj => by rw [pw_ne _ _ (by omega), up_ne _ _ (by omega)]; exact a3 j hj⟩
theorem kr_l {D : qs_D} {kb m i : Nat} {g : Nat → Int32} {π : Nat → Nat} {v : Int32} (hi : i < 6) (hk : kr D kb g m π) : kr (qs_u D (kb + 1) i v) kb (upd g (6 + i) v) m π := by
  obtain ⟨k0, k1, k3, k5, kl, kd⟩ := hk
  rw [pu_eq]
  refine ⟨by rw [pw_ne _ _ (by omega), up_ne _ _ (by omega)]; exact k0, by rw [pw_ne _ _ (by omega), up_ne _ _ (by omega)]; exact k1, by rw [pw_ne _ _ (by omega), up_ne _ _ (by omega)]; exact k3, by rw [pw_ne _ _ (by omega)]; exact k5, fun j hj => ?_, fun x hx k hk2 => by rw [pw_ne _ _ (by omega), up_ne _ _ (by omega)]; exact kd x hx k hk2⟩
  rw [pw_self]
  by_cases h : j = i
  · subst h; rw [up_self, up_self]
  · rw [up_ne _ _ h, up_ne _ _ (by omega)]; exact kl j hj
theorem kf_l {D : qs_D} {kb c i : Nat} {g : Nat → Int32} {v : Int32} (hi : i < 6) (hk : kf D kb g c) : kf (qs_u D (kb + 1) i v) kb (upd g (6 + i) v) c := by
  obtain ⟨k, a1, a2, a3⟩ := hk
  exact ⟨kr_l hi k, by rw [pu_eq, pw_ne _ _ (by omega), up_ne _ _ (by omega)]; exact a1, by rw [pu_eq, pw_ne _ _ (by omega), up_ne _ _ (by omega)]; exact a2, fun j hj => by rw [pu_eq, pw_ne _ _ (by omega), up_ne _ _ (by omega)]; exact a3 j hj⟩
theorem kf_d {D : qs_D} {kb c d : Nat} {g f f2 : Nat → Int32} (hc : c ≤ 8) (hd : d < c) (hk : kf D kb g c) (hf : ∀ k, k < 6 → f k = f2 k) : kf (qs_w D (kb + 4 + d) f) kb (sW g d f2) c := by
  obtain ⟨⟨k0, k1, k3, k5, kl, kd⟩, a1, a2, a3⟩ := hk
  refine ⟨⟨by rw [pw_ne _ _ (by omega), sW_out (by omega)]; exact k0, by rw [pw_ne _ _ (by omega), sW_out (by omega)]; exact k1, by rw [pw_ne _ _ (by omega), sW_out (by omega)]; exact k3, by rw [pw_ne _ _ (by omega)]; exact k5, fun j hj => by rw [pw_ne _ _ (by omega), sW_out (by omega)]; exact kl j hj, fun x hx k hk2 => ?_⟩, by rw [pw_ne _ _ (by omega), sW_out (by omega)]; exact a1, by rw [pw_ne _ _ (by omega), sW_out (by omega)]; exact a2, fun j hj => by rw [pw_ne _ _ (by omega), sW_out (by omega)]; exact a3 j hj⟩
  by_cases h : x = d
  · subst h
    rw [pw_self, hf k hk2]
    exact (sR_sW (g := g) (d := x) hk2).symm
  · rw [pw_ne _ _ (by omega)]
    have e := sR_other (g := g) (d := d) (f := f2) hk2 h
    exact (kd x hx k hk2).trans e.symm
/-! the calls -/
theorem m_set {X M : qs_D} (h : RR X M) (p1 p2 : Int32) : OK (fX4_set p1 p2 X) (fX5_set p1 p2 M) := by
  obtain ⟨⟨c, n, hw, hk⟩, -⟩ := id h
  unfold fX4_set fX5_set
  rw [rIn, pl_bind]
  by_cases h0 : p1 = 0
  · subst h0
    rw [if_pos rfl, if_pos (by decide : (0 : Int32) ≤ 0 ∧ (0 : Int32) ≤ 1), if_neg one0, if_pos rfl, cWithin, pl_bind, rIn, pl_bind]
    by_cases h2 : 0 ≤ p2 ∧ p2 ≤ 99
    · rw [if_pos h2, if_neg one0, if_neg one0, rBecomes (p := 1 + 0) (i := 1) (by decide) (by decide), pl_bind, pl_let, pl_let, hk.1.1]
      refine OK.mk (RR_k h (fun x h1 _ => by rw [pu_eq, pw_ne _ _ (by omega)]) (fun x h1 _ => by rw [pu_eq, pw_ne _ _ h1]) (c := c) (n := n) ?_ ?_)
      · rw [pu_eq, pw_self]; exact wfr_1 hw (nat_le rfl (by decide) h2)
      · rw [pu_eq M, pw_self]; exact kf_1 hk
    · rw [if_neg h2, if_pos rfl, if_pos rfl, if_neg (by decide : ¬ (0 : Int32) = 1)]
      exact ok_f h (by decide : 0 < 7) (by decide)
  · rw [if_neg h0]
    by_cases h1 : p1 = 1
    · subst h1
      rw [if_pos rfl, if_pos (by decide : (0 : Int32) ≤ 1 ∧ (1 : Int32) ≤ 1), if_neg one0, if_neg one0, cWithin, pl_bind, rIn, pl_bind]
      by_cases h2 : 0 ≤ p2 ∧ p2 ≤ 9
      · rw [if_pos h2, if_neg one0, if_neg one0, rBecomes (p := 1 + 1) (i := 2) (by decide) (by decide), pl_bind, pl_let, pl_let, hk.1.2.1]
        refine OK.mk (RR_k h (fun x h1 _ => by rw [pu_eq, pw_ne _ _ (by omega)]) (fun x h1 _ => by rw [pu_eq, pw_ne _ _ h1]) (c := c) (n := n) ?_ ?_)
        · rw [pu_eq, pw_self]; exact wfr_2 hw (nat_le rfl (by decide) h2)
        · rw [pu_eq M, pw_self]; exact kf_2 hk
      · rw [if_neg h2, if_pos rfl, if_pos rfl]
        exact ok_f h (by decide : 0 < 7) (by decide)
    · rw [if_neg h1, if_neg (c := 0 ≤ p1 ∧ p1 ≤ 1) (fun q => by
        obtain ⟨k, hk1, hk2⟩ := nat_le (n := 1) rfl (by decide) q
        have : k = 0 ∨ k = 1 := by omega
        rcases this with rfl | rfl
        · exact h0 hk2
        · exact h1 hk2), if_pos rfl]
      exact ok_f h (by decide : 0 < 7) (by decide)
theorem m_deed {X M : qs_D} (h : RR X M) (p1 p2 : Int32) : OK (fX4_deed p1 p2 X) (fX5_deed p1 p2 M) := by
  obtain ⟨⟨c, n, hw, hk⟩, -⟩ := id h
  unfold fX4_deed fX5_deed
  rw [cPlace, rIn, pl_bind, pl_bind]
  by_cases h1 : 0 ≤ p1 ∧ p1 ≤ 5
  · rw [if_pos h1, if_neg one0, if_neg one0, cIsDeed, rIsDeed, pl_bind, pl_bind]
    by_cases h2 : 0 ≤ p2 ∧ p2 ≤ 11
    · obtain ⟨i, hi, rfl⟩ := nat_le (n := 5) rfl (by decide) h1
      have e : (6 : Int32) + nI i = nI (6 + i) := nI_add 6 i
      rw [if_pos h2, if_neg one0, if_neg one0, e, rBecomes rfl (by omega), pl_bind, pl_gN (by decide) (by omega), pl_let, pl_gN (by decide) (by omega), pl_let, tnN (by omega), hk.1.2.2.2.2.1 i (by omega)]
      refine OK.mk (RR_k h (fun x h1 _ => by rw [pu_eq, pw_ne _ _ (by omega)]) (fun x h1 _ => by rw [pu_eq, pw_ne _ _ h1]) (c := c) (n := n) ?_ ?_)
      · rw [pu_eq, pw_self]; exact wfr_l hw (by omega) (nat_le rfl (by decide) h2)
      · rw [pu_eq M, pw_self]; exact kf_l (by omega) hk
    · rw [if_neg h2, if_pos rfl, if_pos rfl]
      exact ok_f h (by decide : 0 < 7) (by decide)
  · rw [if_neg h1, if_pos rfl, if_pos rfl]
    exact ok_f h (by decide : 0 < 7) (by decide)
theorem m_listed {X M : qs_D} (h : RR X M) (p1 : Int32) : OK (fX4_listed p1 X) (fX5_listed p1 M) := by
  obtain ⟨⟨c, n, hw, hk⟩, -⟩ := id h
  unfold fX4_listed fX5_listed
  rw [cPlace, rIn, pl_bind, pl_bind]
  by_cases h1 : 0 ≤ p1 ∧ p1 ≤ 5
  · obtain ⟨i, hi, rfl⟩ := nat_le (n := 5) rfl (by decide) h1
    have e : (6 : Int32) + nI i = nI (6 + i) := nI_add 6 i
    rw [if_pos h1, if_neg one0, if_neg one0, e, pl_gN (by decide) (by omega), pl_gN (by decide) (by omega), tnN (by omega), tnN (by omega), hk.1.2.2.2.2.1 i (by omega)]
    exact OK.mk h
  · rw [if_neg h1, if_pos rfl, if_pos rfl]
    exact ok_f h (by decide : 0 < 7) (by decide)
/-- what of() tells -/
def vT (g : Nat → Int32) (n d k : Nat) : Int32 :=
  if k = 6 then sN (g (12 + 6 * d)).toNatClampNeg (g (12 + 6 * d + 1)) (g 2)
  else if k = 7 then sT (g (12 + 6 * d)).toNatClampNeg (g 1) (g 2) (g (6 + n % 6))
  else if k = 8 then sS (g (12 + 6 * d)).toNatClampNeg (g (6 + n % 6))
  else if k = 9 then sB (g (12 + 6 * d)).toNatClampNeg
  else if k = 10 then (if g (12 + 6 * d + 3) = 1 then 0 else sG (g (12 + 6 * d)).toNatClampNeg (g (12 + 6 * d + 1)) (g (12 + 6 * d + 2)) (g 1))
  else g (12 + 6 * d + k)
theorem k11 {k : Nat} (h : k ≤ 10) : k = 0 ∨ k = 1 ∨ k = 2 ∨ k = 3 ∨ k = 4 ∨ k = 5 ∨ k = 6 ∨ k = 7 ∨ k = 8 ∨ k = 9 ∨ k = 10 := by omega
theorem cTold {X : qs_D} {g : Nat → Int32} {c n m kb i k : Nat} {π : Nat → Nat} (hw : wfr g c n) (hm : m ≤ 8) (hi : i < m) (hπ : π i < c) (hk : kr X kb g m π) (hk2 : k ≤ 10) : fX1_told kb (nI i) (nI k) X = some (vT g n (π i) k, X) := by
  obtain ⟨w0, wn, w1, w2, w3, w5, wc, wl, wd, ws⟩ := hw
  obtain ⟨k0, k1, k3, k5, kl, kd⟩ := hk
  obtain ⟨j, hj, ej⟩ := (wd (π i) hπ).1
  have ej : g (12 + 6 * π i) = nI j := ej
  have hx0 : X (kb + 4 + i) 0 = nI j := (kd i hi 0 (by decide)).trans ej
  have hdn := cDeed (D := X) (k3.trans w0) wn
  unfold fX1_told
  rw [pl_gN (by decide) (by omega), tnN (by omega)]
  rcases k11 hk2 with rfl | rfl | rfl | rfl | rfl | rfl | rfl | rfl | rfl | rfl | rfl
  · rw [if_pos (by decide), kd i hi 0 (by decide)]; rfl
  · rw [if_neg (by decide), if_pos (by decide), kd i hi 1 (by decide)]; rfl
  · rw [if_neg (by decide), if_neg (by decide), if_pos (by decide), kd i hi 2 (by decide)]; rfl
  · rw [if_neg (by decide), if_neg (by decide), if_neg (by decide), if_pos (by decide), kd i hi 3 (by decide)]; rfl
  · rw [if_neg (by decide), if_neg (by decide), if_neg (by decide), if_neg (by decide), if_pos (by decide), kd i hi 4 (by decide)]; rfl
  · rw [if_neg (by decide), if_neg (by decide), if_neg (by decide), if_neg (by decide), if_neg (by decide), if_pos (by decide), kd i hi 5 (by decide)]; rfl
  · rw [if_neg (by decide), if_neg (by decide), if_neg (by decide), if_neg (by decide), if_neg (by decide), if_neg (by decide), if_pos (by decide), cN hj hx0, pl_bind, kd i hi 1 (by decide), k1]
    unfold vT
    rw [if_pos rfl, ej, tnN (by omega)]
  · rw [if_neg (by decide), if_neg (by decide), if_neg (by decide), if_neg (by decide), if_neg (by decide), if_neg (by decide), if_neg (by decide), if_pos (by decide), hdn, pl_bind, cT hj hx0, pl_bind, kl (n % 6) (Nat.mod_lt _ (by decide)), k0, k1]
    unfold vT
    rw [if_neg (by decide), if_pos rfl, ej, tnN (by omega)]
  · rw [if_neg (by decide), if_neg (by decide), if_neg (by decide), if_neg (by decide), if_neg (by decide), if_neg (by decide), if_neg (by decide), if_neg (by decide), if_pos (by decide), hdn, pl_bind, cS hj hx0, pl_bind, kl (n % 6) (Nat.mod_lt _ (by decide))]
    unfold vT
    rw [if_neg (by decide), if_neg (by decide), if_pos rfl, ej, tnN (by omega)]
  · rw [if_neg (by decide), if_neg (by decide), if_neg (by decide), if_neg (by decide), if_neg (by decide), if_neg (by decide), if_neg (by decide), if_neg (by decide), if_neg (by decide), if_pos (by decide), cB hj hx0, pl_bind]
    unfold vT
    rw [if_neg (by decide), if_neg (by decide), if_neg (by decide), if_pos rfl, ej, tnN (by omega)]
  · rw [if_neg (by decide), if_neg (by decide), if_neg (by decide), if_neg (by decide), if_neg (by decide), if_neg (by decide), if_neg (by decide), if_neg (by decide), if_neg (by decide), if_neg (by decide), cG hj hx0, pl_bind, kd i hi 3 (by decide), kd i hi 1 (by decide), kd i hi 2 (by decide), k0]
    show _ = some (if g (12 + 6 * π i + 3) = 1 then 0 else sG (g (12 + 6 * π i)).toNatClampNeg (g (12 + 6 * π i + 1)) (g (12 + 6 * π i + 2)) (g 1), X)
    rw [ej, tnN (by omega)]
/-- what a critic gives, in a row -/
def vG (g : Nat → Int32) (d : Nat) : Int32 := if g (12 + 6 * d + 3) = 1 then 0 else sG (g (12 + 6 * d)).toNatClampNeg (g (12 + 6 * d + 1)) (g (12 + 6 * d + 2)) (g 1)
theorem cGiven {X : qs_D} {g : Nat → Int32} {c n m kb i : Nat} {π : Nat → Nat} (hw : wfr g c n) (hm : m ≤ 8) (hi : i < m) (hπ : π i < c) (hk : kr X kb g m π) : fX1_given kb (nI i) X = some (vG g (π i), X) := by
  obtain ⟨w0, wn, w1, w2, w3, w5, wc, wl, wd, ws⟩ := hw
  obtain ⟨k0, k1, k3, k5, kl, kd⟩ := hk
  obtain ⟨j, hj, ej⟩ := (wd (π i) hπ).1
  have ej : g (12 + 6 * π i) = nI j := ej
  have hx0 : X (kb + 4 + i) 0 = nI j := (kd i hi 0 (by decide)).trans ej
  unfold fX1_given
  rw [pl_gN (by decide) (by omega), tnN (by omega), cG hj hx0, pl_bind, kd i hi 3 (by decide), kd i hi 1 (by decide), kd i hi 2 (by decide), k0]
  unfold vG
  rw [ej, tnN (by omega)]
theorem rGives {M : qs_D} {c n d : Nat} (hw : wfr (M 1) c n) (hd : d < c) : fX5_gives (nI d) M = some (vG (M 1) d, M) := by
  obtain ⟨w0, wn, w1, w2, w3, w5, wc, wl, wd, ws⟩ := hw
  obtain ⟨⟨j, hj, ej⟩, h1, h2, -⟩ := wd d hd
  have ej : (M 1) (12 + 6 * d) = nI j := ej
  rw [rG (by omega) hj ej h1 h2]
  unfold vG
  rw [ej, tnN (by omega)]
theorem RR.c5 {X M : qs_D} {c n : Nat} (hw : wfr (M 1) c n) : M 1 5 = nI c := hw.2.2.2.2.2.1
theorem RR.c8 {g : Nat → Int32} {c n : Nat} (hw : wfr g c n) : c ≤ 8 := hw.2.2.2.2.2.2.1
theorem m_of {X M : qs_D} (h : RR X M) (p1 p2 : Int32) : OK (fX4_of p1 p2 X) (fX5_of p1 p2 M) := by
  obtain ⟨⟨c, n, hw, hk⟩, -⟩ := id h
  have hc8 := RR.c8 hw
  unfold fX4_of fX5_of
  rw [cIsDish hk.1.2.2.2.1, rIsDish hw.2.2.2.2.2.1, pl_bind, pl_bind]
  by_cases h1 : 0 ≤ p1 ∧ p1 ≤ nI c - 1
  · rw [if_pos h1, if_neg one0, if_neg one0, cWithin, rIn, pl_bind, pl_bind]
    obtain ⟨d, hd, rfl⟩ := nat_dish hc8 h1
    by_cases h2 : 0 ≤ p2 ∧ p2 ≤ 10
    · obtain ⟨k, hk2, rfl⟩ := nat_le (n := 10) rfl (by decide) h2
      rw [if_pos h2, if_neg one0, if_neg one0, cTold hw hc8 hd hd hk.1 hk2, pl_bind]
      have hd8 : d < 8 := by omega
      have hwd := hw.2.2.2.2.2.2.2.2.1 d hd
      obtain ⟨⟨j, hj, ej⟩, ht, hs, -⟩ := hwd
      have ej : (M 1) (12 + 6 * d) = nI j := ej
      rcases k11 hk2 with rfl | rfl | rfl | rfl | rfl | rfl | rfl | rfl | rfl | rfl | rfl
      · rw [if_neg (by decide), if_neg (by decide), if_neg (by decide), if_neg (by decide), if_neg (by decide), it_g hd8 (by decide) rfl, pl_bind]; exact OK.mk h
      · rw [if_neg (by decide), if_neg (by decide), if_neg (by decide), if_neg (by decide), if_neg (by decide), it_g hd8 (by decide) rfl, pl_bind]; exact OK.mk h
      · rw [if_neg (by decide), if_neg (by decide), if_neg (by decide), if_neg (by decide), if_neg (by decide), it_g hd8 (by decide) rfl, pl_bind]; exact OK.mk h
      · rw [if_neg (by decide), if_neg (by decide), if_neg (by decide), if_neg (by decide), if_neg (by decide), it_g hd8 (by decide) rfl, pl_bind]; exact OK.mk h
      · rw [if_neg (by decide), if_neg (by decide), if_neg (by decide), if_neg (by decide), if_neg (by decide), it_g hd8 (by decide) rfl, pl_bind]; exact OK.mk h
      · rw [if_neg (by decide), if_neg (by decide), if_neg (by decide), if_neg (by decide), if_neg (by decide), it_g hd8 (by decide) rfl, pl_bind]; exact OK.mk h
      · rw [if_pos (by decide), rN hd8 hj ej, pl_bind]
        unfold vT
        rw [if_pos rfl, ej, tnN (by omega)]
        exact OK.mk h
      · rw [if_neg (by decide), if_pos (by decide), rT hd8 hj ej hw.1 hw.2.1, pl_bind]
        unfold vT
        rw [if_neg (by decide), if_pos rfl, ej, tnN (by omega)]
        exact OK.mk h
      · rw [if_neg (by decide), if_neg (by decide), if_pos (by decide), rS hd8 hj ej hw.1 hw.2.1, pl_bind]
        unfold vT
        rw [if_neg (by decide), if_neg (by decide), if_pos rfl, ej, tnN (by omega)]
        exact OK.mk h
      · rw [if_neg (by decide), if_neg (by decide), if_neg (by decide), if_pos (by decide), rB hd8 hj ej, pl_bind]
        unfold vT
        rw [if_neg (by decide), if_neg (by decide), if_neg (by decide), if_pos rfl, ej, tnN (by omega)]
        exact OK.mk h
      · rw [if_neg (by decide), if_neg (by decide), if_neg (by decide), if_neg (by decide), if_pos (by decide), rGives hw hd, pl_bind]
        unfold vT vG
        rw [if_neg (by decide), if_neg (by decide), if_neg (by decide), if_neg (by decide), if_pos rfl]
        exact OK.mk h
    · rw [if_neg h2, if_pos rfl, if_pos rfl]
      exact ok_f h (by decide : 0 < 7) (by decide)
  · rw [if_neg h1, if_pos rfl, if_pos rfl]
    exact ok_f h (by decide : 0 < 7) (by decide)
