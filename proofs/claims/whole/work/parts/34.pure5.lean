/-! PURE, 5: changes, steps, what will be -/
theorem m_act {X M : qs_D} (h : RR X M) (p1 : Int32) : OK (fX4_act p1 X) (fX5_act p1 M) := by
  obtain ⟨⟨c, n, hw, hk⟩, -⟩ := id h
  unfold fX4_act fX5_act
  rw [cIsDeed, rIsDeed, pl_bind, pl_bind]
  by_cases h1 : 0 ≤ p1 ∧ p1 ≤ 11
  · obtain ⟨e, he, rfl⟩ := nat_le (n := 11) rfl (by decide) h1
    rw [if_pos h1, if_neg one0, if_neg one0, hk.1.1, cGA hw.2.2.1 (by omega), rDoes (by omega), pl_bind, pl_bind, pl_let]
    rw [show (qs_u X 1 0 (sH (M 1 1) e)) 1 0 = sH (M 1 1) e from by rw [pu_eq, pw_self, up_self]]
    refine OK.mk (RR_k h (fun x h1 _ => by rw [pu_eq, pw_ne _ _ (by omega)]) (fun x h1 _ => by rw [pu_eq, pw_ne _ _ h1]) (c := c) (n := n) ?_ ?_)
    · rw [pu_eq, pw_self]; exact wfr_1 hw (sH_b hw.2.2.1 (by omega))
    · rw [pu_eq M, pw_self]; exact kf_1 hk
  · rw [if_neg h1, if_pos rfl, if_pos rfl]
    exact ok_f h (by decide : 0 < 7) (by decide)
/-! change -/
def mostN (k : Nat) : Nat := if k = 0 then 6 else if k = 1 then 99 else if k = 2 then 99 else if k = 5 then 9999 else 1
theorem k6 {k : Nat} (h : k ≤ 5) : k = 0 ∨ k = 1 ∨ k = 2 ∨ k = 3 ∨ k = 4 ∨ k = 5 := by omega
theorem cMost {k : Nat} (hk : k ≤ 5) (D : qs_D) : fX4_mostOf (nI k) D = some (nI (mostN k), D) := by
  unfold fX4_mostOf
  rcases k6 hk with rfl | rfl | rfl | rfl | rfl | rfl <;> rfl
theorem rMost {k : Nat} (hk : k ≤ 5) (D : qs_D) : fX5_mostOf (nI k) D = some (nI (mostN k), D) := by
  unfold fX5_mostOf
  rcases k6 hk with rfl | rfl | rfl | rfl | rfl | rfl <;> rfl
theorem cPut {i k : Nat} {v : Int32} (hk : k ≤ 5) (D : qs_D) : fX0_put i (nI k) v D = some ((), qs_u D i k v) := by
  unfold fX0_put
  rcases k6 hk with rfl | rfl | rfl | rfl | rfl | rfl <;> rfl
theorem dw_upd {f : Nat → Int32} {k : Nat} {v : Int32} (hf : dw f) (hk : k ≤ 5) (hv : qb v (mostN k)) : dw (upd f k v) := by
  obtain ⟨h0, h1, h2, h3, h4, h5⟩ := hf
  rcases k6 hk with rfl | rfl | rfl | rfl | rfl | rfl
  · exact ⟨by simpa [upd] using (show qb v 6 from hv), by simpa [upd] using h1, by simpa [upd] using h2, by simpa [upd] using h3, by simpa [upd] using h4, by simpa [upd] using h5⟩
  · exact ⟨by simpa [upd] using h0, by simpa [upd] using (show qb v 99 from hv), by simpa [upd] using h2, by simpa [upd] using h3, by simpa [upd] using h4, by simpa [upd] using h5⟩
  · exact ⟨by simpa [upd] using h0, by simpa [upd] using h1, by simpa [upd] using (show qb v 99 from hv), by simpa [upd] using h3, by simpa [upd] using h4, by simpa [upd] using h5⟩
  · exact ⟨by simpa [upd] using h0, by simpa [upd] using h1, by simpa [upd] using h2, by simpa [upd] using (show qb v 1 from hv), by simpa [upd] using h4, by simpa [upd] using h5⟩
  · exact ⟨by simpa [upd] using h0, by simpa [upd] using h1, by simpa [upd] using h2, by simpa [upd] using h3, by simpa [upd] using (show qb v 1 from hv), by simpa [upd] using h5⟩
  · exact ⟨by simpa [upd] using h0, by simpa [upd] using h1, by simpa [upd] using h2, by simpa [upd] using h3, by simpa [upd] using h4, by simpa [upd] using (show qb v 9999 from hv)⟩
theorem kf_dk {D : qs_D} {kb c d k : Nat} {g : Nat → Int32} {v : Int32} (hc : c ≤ 8) (hd : d < c) (hk6 : k < 6) (hk : kf D kb g c) : kf (qs_u D (kb + 4 + d) k v) kb (upd g (12 + 6 * d + k) v) c := by
  rw [pu_eq, sW_upd hk6]
  refine kf_d hc hd hk (fun z hz => ?_)
  by_cases h : z = k
  · subst h; rw [up_self, up_self]
  · rw [up_ne _ _ h, up_ne _ _ h]; exact hk.1.2.2.2.2.2 d hd z hz
theorem mostN_lt (k : Nat) : mostN k < 2 ^ 31 := by
  unfold mostN
  repeat' split
  all_goals decide
theorem m_change {X M : qs_D} (h : RR X M) (p1 p2 p3 : Int32) : OK (fX4_change p1 p2 p3 X) (fX5_change p1 p2 p3 M) := by
  obtain ⟨⟨c, n, hw, hk⟩, -⟩ := id h
  have hc8 := RR.c8 hw
  unfold fX4_change fX5_change
  rw [cIsDish hk.1.2.2.2.1, rIsDish hw.2.2.2.2.2.1, pl_bind, pl_bind]
  by_cases h1 : 0 ≤ p1 ∧ p1 ≤ nI c - 1
  · rw [if_pos h1, if_neg one0, if_neg one0, cWithin, rIn, pl_bind, pl_bind]
    obtain ⟨d, hd, rfl⟩ := nat_dish hc8 h1
    by_cases h2 : 0 ≤ p2 ∧ p2 ≤ 5
    · obtain ⟨k, hk2, rfl⟩ := nat_le (n := 5) rfl (by decide) h2
      rw [if_pos h2, if_neg one0, if_neg one0, cMost hk2, rMost hk2, pl_bind, pl_bind, cWithin, rIn, pl_bind, pl_bind]
      by_cases h3 : 0 ≤ p3 ∧ p3 ≤ nI (mostN k)
      · rw [if_pos h3, if_neg one0, if_neg one0, cTold hw hc8 hd hd hk.1 (by omega), pl_bind, pl_let, pl_gN (by decide) (by omega), tnN (by omega), cPut hk2, pl_bind, rBecomes (ix70 d (by omega) k (by omega)) (by omega), pl_bind]
        have e : vT (M 1) n d k = M 1 (12 + 6 * d + k) := by
          unfold vT
          rw [if_neg (by omega), if_neg (by omega), if_neg (by omega), if_neg (by omega), if_neg (by omega)]
        rw [e]
        refine OK.mk (RR_k h (fun x h1 _ => by rw [pu_eq, pw_ne _ _ (by omega)]) (fun x h1 _ => by rw [pu_eq, pw_ne _ _ h1]) (c := c) (n := n) ?_ ?_)
        · rw [pu_eq, pw_self, sW_upd (by omega)]
          exact wfr_d hw hd (dw_upd (hw.2.2.2.2.2.2.2.2.1 d hd) hk2 (qb_of (mostN_lt k) h3))
        · rw [pu_eq M, pw_self]; exact kf_dk hc8 hd (by omega) hk
      · rw [if_neg h3, if_pos rfl, if_pos rfl]
        exact ok_f h (by decide : 0 < 7) (by decide)
    · rw [if_neg h2, if_pos rfl, if_pos rfl]
      exact ok_f h (by decide : 0 < 7) (by decide)
  · rw [if_neg h1, if_pos rfl, if_pos rfl]
    exact ok_f h (by decide : 0 < 7) (by decide)
/-! serve -/
theorem sC_b0 : ∀ a, a < 100 → ∀ b, b < 100 → 0 ≤ sC (nI b) (nI a) ∧ sC (nI b) (nI a) ≤ nI 99 := by decide +kernel
def sG2 (j : Nat) (x gr : Int32) : Int32 := match j with
  | 0 => x
  | 1 => x + gr / 5
  | 2 => x / 2
  | 3 => x / 2 + 20
  | 4 => 2 * (x / 2 + 20)
  | 5 => 10
  | _ => x + gr / 5
theorem g5_b0 : ∀ a, a < 100 → 0 ≤ nI a / 5 ∧ nI a / 5 ≤ nI 99 := by decide +kernel
theorem sG2_b1 : ∀ x, x < 100 → (0 ≤ nI x / 2 ∧ nI x / 2 ≤ nI 300) ∧ (0 ≤ nI x / 2 + 20 ∧ nI x / 2 + 20 ≤ nI 300) ∧ (0 ≤ 2 * (nI x / 2 + 20) ∧ 2 * (nI x / 2 + 20) ≤ nI 300) := by decide +kernel
theorem sG2_b {j x a : Nat} (hj : j ≤ 6) (hx : x ≤ 99) (ha : a ≤ 99) : qb (sG2 j (nI x) (nI a)) 300 := by
  have hxq : qb (nI x) 99 := ⟨x, hx, rfl⟩
  have haq : qb (nI a / 5) 99 := qb_of (by decide) (g5_b0 a (by omega))
  have h1 := sG2_b1 x (by omega)
  rcases k7 hj with rfl | rfl | rfl | rfl | rfl | rfl | rfl
  · exact qb_mono hxq (by decide)
  · exact qb_mono (qb_add hxq haq) (by decide)
  · exact qb_of (by decide) h1.1
  · exact qb_of (by decide) h1.2.1
  · exact qb_of (by decide) h1.2.2
  · exact ⟨10, by decide, rfl⟩
  · exact qb_mono (qb_add hxq haq) (by decide)
theorem vG_b {g : Nat → Int32} {c n d : Nat} (hw : wfr g c n) (hd : d < c) : qb (vG g d) 300 := by
  obtain ⟨w0, wn, ⟨a, ha, ea⟩, w2, w3, w5, wc, wl, wd, ws⟩ := hw
  obtain ⟨⟨j, hj, ej⟩, ⟨b, hb, eb⟩, ⟨s, hs, es⟩, -⟩ := wd d hd
  have ej : g (12 + 6 * d) = nI j := ej
  have eb : g (12 + 6 * d + 1) = nI b := eb
  have es : g (12 + 6 * d + 2) = nI s := es
  unfold vG
  rw [ej, eb, es, ea, tnN (by omega)]
  split
  · exact ⟨0, by omega, rfl⟩
  · obtain ⟨x, hx, ex⟩ := qb_of (by decide) (sC_b0 s (by omega) b (by omega))
    have e : sG j (nI b) (nI s) (nI a) = sG2 j (sC (nI b) (nI s)) (nI a) := by
      rcases k7 hj with rfl | rfl | rfl | rfl | rfl | rfl | rfl <;> rfl
    rw [e, ex]
    exact sG2_b hj hx ha
/-- a dish that is served -/
def sV (f : Nat → Int32) : Nat → Int32 := upd (upd (upd (upd f 5 (mn 9999 (f 5 + 1))) 1 10) 2 10) 3 0
theorem sV_dw {f : Nat → Int32} (hf : dw f) : dw (sV f) := by
  obtain ⟨h0, h1, h2, h3, h4, h5⟩ := hf
  have hx : qb (mn 9999 (f 5 + 1)) 9999 := mn_b (m := 9999) (qb_add h5 (qb_lit 1)) (by decide) (by decide)
  have e10 : qb (10 : Int32) 99 := ⟨10, by decide, rfl⟩
  have e0 : qb (0 : Int32) 1 := ⟨0, by decide, rfl⟩
  unfold sV
  exact ⟨by simpa [upd] using h0, by simpa [upd] using e10, by simpa [upd] using e10, by simpa [upd] using e0, by simpa [upd] using h4, by simpa [upd] using hx⟩
theorem cAnew (i : Nat) (D : qs_D) : fX0_startAnew i D = some ((), qs_w D i (sV (D i))) := by
  unfold fX0_startAnew
  rw [cMin, pl_bind]
  simp only [pl_let, pu_eq, pw_self, pw_w]
  rfl
theorem sV_congr {f f2 : Nat → Int32} (h : ∀ k, k < 6 → f2 k = f k) : ∀ k, k < 6 → sV f2 k = sV f k := by
  intro k hk
  unfold sV
  rw [h 5 (by decide)]
  simp only [upd, h k hk]
theorem serve_rel {X M : qs_D} {c n d : Nat} (hw : wfr (M 1) c n) (hk : kf X 1 (M 1) c) (hd : d < c) : ∃ X2 g2, fX1_serveDish 1 (nI d) X = some (vG (M 1) d, X2) ∧ fX5_serves (nI d) M = some (vG (M 1) d, qs_w M 1 g2) ∧ wfr g2 c n ∧ kf X2 1 g2 c ∧ bfr X X2 1 := by
  have hc8 := RR.c8 hw
  have hd8 : d < 8 := by omega
  have hst : hl (M 1 3 + vG (M 1) d) 0 99999 = mn 99999 (M 1 3 + vG (M 1) d) := hl_mnq (m := 99999) (qb_add hw.2.2.2.2.1 (vG_b hw hd)) (by decide) (by decide)
  have hsb : qb (mn 99999 (M 1 3 + vG (M 1) d)) 99999 := mn_b (m := 99999) (qb_add hw.2.2.2.2.1 (vG_b hw hd)) (by decide) (by decide)
  generalize hg1 : upd (M 1) 3 (mn 99999 (M 1 3 + vG (M 1) d)) = g1
  have hw1 : wfr g1 c n := by rw [← hg1]; exact wfr_3 hw hsb
  have hk1 : kf (qs_u X 1 2 (mn 99999 (M 1 3 + vG (M 1) d))) 1 g1 c := by rw [← hg1]; exact kf_3 hk
  generalize hX1 : qs_u X 1 2 (mn 99999 (M 1 3 + vG (M 1) d)) = X1 at hk1
  refine ⟨qs_w X1 (1 + 4 + d) (sV (X1 (1 + 4 + d))), sW g1 d (sV (sR g1 d)), ?_, ?_, wfr_d hw1 hd (sV_dw (hw1.2.2.2.2.2.2.2.2.1 d hd)), kf_d hc8 hd hk1 (sV_congr (fun k hk => hk1.1.2.2.2.2.2 d hd k hk)), ?_⟩
  · unfold fX1_serveDish
    rw [cGiven hw hc8 hd hd hk.1, pl_bind, pl_let, cMin, pl_bind, pl_let, hk.2.1, hX1, pl_gN (by decide) hd8, tnN (by omega), cAnew, pl_bind]
  · unfold fX5_serves
    rw [rGives hw hd, pl_bind, pl_let, g70_3, tn3, rHeld, pl_bind, g70_3, pl_let, hst, it5 hd8, pl_bind, rHeld, pl_bind]
    have e5 : (qs_u M 1 3 (mn 99999 (M 1 3 + vG (M 1) d))) 1 = g1 := by rw [pu_eq, pw_self, hg1]
    rw [e5]
    have h5b := (hw1.2.2.2.2.2.2.2.2.1 d hd).2.2.2.2.2
    have e9 : hl (g1 (12 + 6 * d + 5) + 1) 0 9999 = mn 9999 (g1 (12 + 6 * d + 5) + 1) := hl_mnq (m := 9999) (qb_add h5b (qb_lit 1)) (by decide) (by decide)
    rw [e9, pt5 hd8, pl_bind, pt1 hd8, pl_bind, pt2 hd8, pl_bind, pt3 hd8, pl_bind, pu_eq M, hg1]
    simp only [pu_eq, pw_self, pw_w]
    congr 3
    funext x
    unfold sW sV sR upd
    by_cases hx : 12 + 6 * d ≤ x ∧ x < 12 + 6 * d + 6
    · rw [if_pos hx]
      have e : 12 + 6 * d + (x - (12 + 6 * d)) = x := by omega
      have hq : x - (12 + 6 * d) = 0 ∨ x - (12 + 6 * d) = 1 ∨ x - (12 + 6 * d) = 2 ∨ x - (12 + 6 * d) = 3 ∨ x - (12 + 6 * d) = 4 ∨ x - (12 + 6 * d) = 5 := by omega
      rcases hq with q | q | q | q | q | q <;> rw [q] at e <;> subst e <;> simp
    · rw [if_neg hx, if_neg (by omega), if_neg (by omega), if_neg (by omega), if_neg (by omega)]
  · intro x hx
    rw [pw_ne _ _ (by omega), ← hX1, pu_eq, pw_ne _ _ (by omega)]
theorem m_serve {X M : qs_D} (h : RR X M) (p1 : Int32) : OK (fX4_serve p1 X) (fX5_serve p1 M) := by
  obtain ⟨⟨c, n, hw, hk⟩, -⟩ := id h
  have hc8 := RR.c8 hw
  unfold fX4_serve fX5_serve
  rw [cIsDish hk.1.2.2.2.1, rIsDish hw.2.2.2.2.2.1, pl_bind, pl_bind]
  by_cases h1 : 0 ≤ p1 ∧ p1 ≤ nI c - 1
  · obtain ⟨d, hd, rfl⟩ := nat_dish hc8 h1
    rw [if_pos h1, if_neg one0, if_neg one0, it4 (by omega), pl_bind, pl_gN (by decide) (by omega), tnN (by omega), hk.1.2.2.2.2.2 d hd 4 (by decide)]
    by_cases h4 : M 1 (12 + 6 * d + 4) = 1
    · rw [if_pos h4, if_pos h4]
      exact ok_f h (by decide : 4 < 7) (by decide)
    · rw [if_neg h4, if_neg h4]
      obtain ⟨X2, g2, a1, a2, a3, a4, a5⟩ := serve_rel hw hk hd
      rw [a1, a2, pl_bind, pl_bind]
      exact OK.mk (RR_k h (fun x h1 _ => a5 x (by omega)) (fun x h1 _ => pw_ne _ _ h1) (c := c) (n := n) (by rw [pw_self]; exact a3) (by rw [pw_self]; exact a4))
  · rw [if_neg h1, if_pos rfl, if_pos rfl]
    exact ok_f h (by decide : 0 < 7) (by decide)
/-! go -/
theorem kf_steps {X X2 : qs_D} {g g2 : Nat → Int32} {c : Nat} (hc : c ≤ 8) (hk : kf X 1 g c) (hk2 : kr X2 1 g2 c (fun i => i)) (hf : kfr X X2 1) (hs : stps g g2 c) : kf X2 1 g2 c := by
  refine ⟨hk2, ?_, ?_, ?_⟩
  · rw [hf.2 2 (by decide) (by decide), hs.1 3 (by decide) (by decide)]; exact hk.2.1
  · rw [hf.2 4 (by decide) (by decide), hs.1 4 (by decide) (by decide)]; exact hk.2.2.1
  · intro j hj
    rw [hf.1 3 (by decide) (by decide), hs.2.1 _ (by omega)]
    exact hk.2.2.2 j hj
theorem m_go {X M : qs_D} (h : RR X M) (p1 : Int32) : OK (fX4_go p1 X) (fX5_go p1 M) := by
  obtain ⟨⟨c, n, hw, hk⟩, -⟩ := id h
  have hc8 := RR.c8 hw
  unfold fX4_go fX5_go
  rw [cWithin, rIn, pl_bind, pl_bind]
  by_cases h1 : 1 ≤ p1 ∧ p1 ≤ 60
  · have h0 : 0 ≤ p1 ∧ p1 ≤ 60 := ⟨Int32.le_trans (by decide) h1.1, h1.2⟩
    obtain ⟨N, hN, rfl⟩ := nat_le (n := 60) rfl (by decide) h0
    rw [if_pos h1, if_neg one0, if_neg one0, g70_0, tn0, hk.1.2.2.1]
    by_cases h2 : M 1 0 + nI N ≤ 99999
    · rw [if_pos h2, if_pos h2]
      obtain ⟨X2, g2, n2, a1, a2, a3, a4, a5, a6⟩ := simS hw hc8 (fun i hi => hi) hk.1 (by omega : N ≤ 100)
      rw [a1, a2, pl_bind, pl_bind, g70_1, tn1, pw_self, a4.1]
      exact OK.mk (RR_k h (fun x h1 _ => kfr_b a5 x (by omega)) (fun x h1 _ => pw_ne _ _ h1) (c := c) (n := n2) (by rw [pw_self]; exact a3) (by rw [pw_self]; exact kf_steps hc8 hk a4 a5 a6))
    · rw [if_neg h2, if_neg h2]
      exact ok_f h (by decide : 4 < 7) (by decide)
  · rw [if_neg h1, if_pos rfl, if_pos rfl]
    exact ok_f h (by decide : 0 < 7) (by decide)
/-! thinking -/
theorem thEnd {X M X2 : qs_D} {f g : Nat → Int32} (h : RR X M) (hf : e70 (M 1) f) (hx : bfr X X2 25) : ∃ g2, fX5_putsBack (qs_w (qs_w M 3 f) 1 g) = some ((), qs_w (qs_w M 3 f) 1 g2) ∧ e70 (M 1) g2 ∧ RR X2 (qs_w (qs_w M 3 f) 1 g2) := by
  obtain ⟨g2, r1, r2⟩ := rBack (qs_w (qs_w M 3 f) 1 g)
  rw [pw_w] at r1
  have e3 : (qs_w (qs_w M 3 f) 1 g) 3 = f := by rw [pw_ne _ _ (by decide), pw_self]
  rw [e3] at r2
  have e1 : e70 (M 1) g2 := fun x hx => (r2 x hx).trans (hf x hx)
  exact ⟨g2, r1, e1, RR_fr h (fun x hx2 => hx x (by omega)) (by rw [pw_self]; exact e1) (fun x h1 h3 => by rw [pw_ne _ _ h1, pw_ne _ _ h3])⟩
theorem th1 {M : qs_D} {f : Nat → Int32} : (qs_w M 3 f) 1 = M 1 := pw_ne _ _ (by decide)
theorem th_id {M : qs_D} {f : Nat → Int32} : qs_w M 3 f = qs_w (qs_w M 3 f) 1 (M 1) := by
  rw [← th1 (M := M) (f := f), pw_id]
theorem apt25 : apt 25 1 := Or.inr (by decide)
theorem m_mood {X M : qs_D} (h : RR X M) (p1 : Int32) : OK (fX4_mood p1 X) (fX5_mood p1 M) := by
  obtain ⟨⟨c, n, hw, hk⟩, -⟩ := id h
  unfold fX4_mood fX5_mood
  rw [cWithin, rIn, pl_bind, pl_bind]
  by_cases h1 : 0 ≤ p1 ∧ p1 ≤ 100
  · obtain ⟨N, hN, rfl⟩ := nat_le (n := 100) rfl (by decide) h1
    rw [if_pos h1, if_neg one0, if_neg one0]
    obtain ⟨X1, b1, b2, b3⟩ := cMoodK apt25 hk.1
    obtain ⟨f, t1, t2⟩ := rThinks M
    rw [b1, t1, pl_bind, pl_bind]
    obtain ⟨X2, g2, n2, a1, a2, a3, a4, a5, a6⟩ := simS (M := qs_w M 3 f) (c := c) (n := n) (m := 0) (by rw [th1]; exact hw) (by decide) (fun i hi => absurd hi (by omega)) (by rw [th1]; exact b2) hN
    rw [a1, a2, pl_bind, pl_bind, g70_1, tn1, pl_let, pw_self]
    obtain ⟨g3, c1, c2, c3⟩ := thEnd (g := g2) h t2 (bfr_tr b3 (kfr_b a5))
    rw [c1, pl_bind, a4.1]
    exact OK.mk c3
  · rw [if_neg h1, if_pos rfl, if_pos rfl]
    exact ok_f h (by decide : 0 < 7) (by decide)
/-- what ahead() does behind its questions -/
theorem ahead_core {X M : qs_D} {c n d N k : Nat} (h : RR X M) (hw : wfr (M 1) c n) (hk : kf X 1 (M 1) c) (hd : d < c) (hN : N ≤ 100) (hk2 : k = 1 ∨ k = 2 ∨ k = 3 ∨ k = 10) :
    OK (qs_bind (fX1_takeOne 25 1 (nI d) X) (fun _ D1 => qs_bind (fX1_passSteps 25 (nI N) D1) (fun _ D2 => qs_bind (fX1_told 25 (0 : Int32) (nI k) D2) (fun x D3 => some (x, D3)))))
      (qs_bind (fX5_thinks M) (fun _ D1 => qs_bind (fX5_goesFor (nI N) D1) (fun _ D2 => if nI k = (10 : Int32) then qs_bind (fX5_gives (nI d) D2) (fun x D3 => qs_bind (fX5_putsBack D3) (fun _ D4 => some (x, D4))) else qs_bind (fX5_it (nI d) (nI k) D2) (fun x D3 => qs_bind (fX5_putsBack D3) (fun _ D4 => some (x, D4)))))) := by
  have hc8 := RR.c8 hw
  obtain ⟨X1, b1, b2, b3⟩ := cOne apt25 hk.1 hd hc8
  obtain ⟨f, t1, t2⟩ := rThinks M
  rw [b1, t1, pl_bind, pl_bind]
  obtain ⟨X2, g2, n2, a1, a2, a3, a4, a5, a6⟩ := simS (M := qs_w M 3 f) (c := c) (n := n) (m := 1) (π := fun _ => d) (by rw [th1]; exact hw) (by decide) (fun i hi => hd) (by rw [th1]; exact b2) hN
  rw [a1, a2, pl_bind, pl_bind]
  have ht : fX1_told 25 (0 : Int32) (nI k) X2 = some (vT g2 n2 d k, X2) := cTold (i := 0) a3 (by decide) (by decide) hd a4 (by omega)
  rw [ht, pl_bind]
  obtain ⟨g3, c1, c2, c3⟩ := thEnd (g := g2) h t2 (bfr_tr b3 (kfr_b a5))
  have a3' : wfr ((qs_w (qs_w M 3 f) 1 g2) 1) c n2 := by rw [pw_self]; exact a3
  rcases hk2 with rfl | rfl | rfl | rfl
  · rw [if_neg (by decide), it_g (by omega) (by decide) rfl, pl_bind, c1, pl_bind, pw_self]
    exact OK.mk c3
  · rw [if_neg (by decide), it_g (by omega) (by decide) rfl, pl_bind, c1, pl_bind, pw_self]
    exact OK.mk c3
  · rw [if_neg (by decide), it_g (by omega) (by decide) rfl, pl_bind, c1, pl_bind, pw_self]
    exact OK.mk c3
  · rw [if_pos (by decide), rGives a3' hd, pl_bind, c1, pl_bind, pw_self]
    exact OK.mk c3
theorem m_ahead {X M : qs_D} (h : RR X M) (p1 p2 p3 : Int32) : OK (fX4_ahead p1 p2 p3 X) (fX5_ahead p1 p2 p3 M) := by
  obtain ⟨⟨c, n, hw, hk⟩, -⟩ := id h
  have hc8 := RR.c8 hw
  unfold fX4_ahead fX5_ahead
  simp only [cWithin, rIn, cIsDish hk.1.2.2.2.1, rIsDish hw.2.2.2.2.2.1, pl_bind, pl_let]
  by_cases h1 : 0 ≤ p1 ∧ p1 ≤ nI c - 1
  · obtain ⟨d, hd, rfl⟩ := nat_dish hc8 h1
    simp only [if_pos h1, if_neg one0]
    by_cases h3 : 0 ≤ p3 ∧ p3 ≤ 100
    · obtain ⟨N, hN, rfl⟩ := nat_le (n := 100) rfl (by decide) h3
      simp only [if_pos h3, if_neg one0]
      by_cases h2 : 1 ≤ p2 ∧ p2 ≤ 3
      · simp only [if_pos h2, if_neg one0]
        obtain ⟨k, hk2, rfl⟩ := nat_le (n := 3) rfl (by decide) ⟨Int32.le_trans (by decide) h2.1, h2.2⟩
        have hk3 : k = 1 ∨ k = 2 ∨ k = 3 := by
          have : 1 ≤ k := (nI_leI (by decide) (by omega)).mp h2.1
          omega
        exact ahead_core h hw hk hd hN (by omega)
      · simp only [if_neg h2, if_true]
        by_cases h10 : p2 = 10
        · subst h10
          simp only [if_true]
          exact ahead_core (k := 10) h hw hk hd hN (by omega)
        · simp only [if_neg h10]
          exact ok_f h (by decide : 0 < 7) (by decide)
    · simp only [if_neg h3, if_true]
      by_cases h2 : 1 ≤ p2 ∧ p2 ≤ 3
      · simp only [if_pos h2, if_neg one0]
        exact ok_f h (by decide : 0 < 7) (by decide)
      · simp only [if_neg h2, if_true]
        by_cases h10 : p2 = 10
        · simp only [if_pos h10]
          exact ok_f h (by decide : 0 < 7) (by decide)
        · simp only [if_neg h10]
          exact ok_f h (by decide : 0 < 7) (by decide)
  · simp only [if_neg h1, if_true]
    by_cases h2 : 1 ≤ p2 ∧ p2 ≤ 3
    · simp only [if_pos h2, if_neg one0]
      exact ok_f h (by decide : 0 < 7) (by decide)
    · simp only [if_neg h2, if_true]
      by_cases h10 : p2 = 10
      · simp only [if_pos h10]
        exact ok_f h (by decide : 0 < 7) (by decide)
      · simp only [if_neg h10]
        exact ok_f h (by decide : 0 < 7) (by decide)
