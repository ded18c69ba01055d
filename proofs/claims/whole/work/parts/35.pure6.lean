/-! PURE, 6: when, and what to do -/
theorem bit_of {x : Int32} (h : qb x 1) : x = 0 ∨ x = 1 := by
  obtain ⟨k, hk, rfl⟩ := h
  have : k = 0 ∨ k = 1 := by omega
  rcases this with rfl | rfl
  · exact Or.inl rfl
  · exact Or.inr rfl
theorem lt200 {i : Nat} (h : i ≤ 200) : ¬ (200 : Int32) < nI i := nI_nlt (b := i) (a := 200) h (by decide)
theorem gt200 : (200 : Int32) < nI 201 := by decide
theorem sim1T {X X1 M : qs_D} {f g : Nat → Int32} {c n m kb : Nat} {π : Nat → Nat} (hw : wfr g c n) (hm : m ≤ 8) (hπ : ∀ i, i < m → π i < c) (hk : kr X1 kb g m π) : ∃ X2 g2, fX1_passStep kb X1 = some ((), X2) ∧ fX5_goes (qs_w (qs_w M 3 f) 1 g) = some ((), qs_w (qs_w M 3 f) 1 g2) ∧ wfr g2 c (min 99999 (n + 1)) ∧ kr X2 kb g2 m π ∧ kfr X1 X2 kb ∧ stps g g2 c := by
  obtain ⟨X2, g2, a1, a2, a3, a4, a5, a6⟩ := sim1 (M := qs_w (qs_w M 3 f) 1 g) (X := X1) (c := c) (n := n) (m := m) (kb := kb) (π := π) (by rw [pw_self]; exact hw) hm hπ (by rw [pw_self]; exact hk)
  rw [pw_w] at a2
  rw [pw_self] at a6
  exact ⟨X2, g2, a1, a2, a3, a4, a5, a6⟩
theorem splitsL {X M : qs_D} {f : Nat → Int32} {c d : Nat} {p1 : Int32} (h : RR X M) (hf : e70 (M 1) f) (hd : d < c) : ∀ (k i : Nat) (X1 : qs_D) (g : Nat → Int32) (n : Nat), 201 - i < k → i ≤ 201 → wfr g c n → kr X1 25 g 1 (fun _ => d) → bfr X X1 25 → OK (fX4_splits_L28 k p1 (nI i) X1) (fX5_splits_L21 k (nI d) (nI i) (qs_w (qs_w M 3 f) 1 g)) := by
  intro k
  induction k with
  | zero => intro i X1 g n h; omega
  | succ k ih =>
    intro i X1 g n hk hi hw hkr hb
    unfold fX4_splits_L28 fX5_splits_L21
    obtain ⟨g3, c1, c2, c3⟩ := thEnd (g := g) h hf hb
    by_cases h201 : i = 201
    · subst h201
      rw [if_pos gt200, if_pos gt200, c1, pl_bind, if_neg (by decide)]
      exact ok_f c3 (by decide : 3 < 7) (by decide)
    · have hd8 : d < 8 := by have := RR.c8 hw; omega
      rw [if_neg (lt200 (by omega)), if_neg (lt200 (by omega)), g8_0, it3 hd8, pl_bind, pw_self, tn0]
      have e : X1 (25 + 4 + 0) 3 = g (12 + 6 * d + 3) := hkr.2.2.2.2.2 0 (by decide) 3 (by decide)
      rw [e]
      rcases bit_of (hw.2.2.2.2.2.2.2.2.1 d hd).2.2.2.1 with hb3 | hb3
      · have hb3 : g (12 + 6 * d + 3) = 0 := hb3
        rw [hb3, if_neg (by decide), if_pos rfl]
        obtain ⟨X2, g2, a1, a2, a3, a4, a5, a6⟩ := sim1T (X := X) (M := M) (f := f) hw (by decide) (fun _ _ => hd) hkr
        rw [a1, a2, pl_bind, pl_bind, pl_let, pl_let, nI_s]
        exact ih (i + 1) X2 g2 _ (by omega) (by omega) a3 a4 (bfr_tr hb (kfr_b a5))
      · have hb3 : g (12 + 6 * d + 3) = 1 := hb3
        rw [hb3, if_pos rfl, if_neg one0, c1, pl_bind, if_pos (show nI i ≤ (200 : Int32) from nI_le (b := 200) (by omega) (by decide))]
        exact OK.mk c3
theorem m_splits {X M : qs_D} (h : RR X M) (p1 : Int32) : OK (fX4_splits p1 X) (fX5_splits p1 M) := by
  obtain ⟨⟨c, n, hw, hk⟩, -⟩ := id h
  have hc8 := RR.c8 hw
  unfold fX4_splits fX5_splits
  rw [cIsDish hk.1.2.2.2.1, rIsDish hw.2.2.2.2.2.1, pl_bind, pl_bind]
  by_cases h1 : 0 ≤ p1 ∧ p1 ≤ nI c - 1
  · obtain ⟨d, hd, rfl⟩ := nat_dish hc8 h1
    rw [if_pos h1, if_neg one0, if_neg one0]
    obtain ⟨X1, b1, b2, b3⟩ := cOne apt25 hk.1 hd hc8
    obtain ⟨f, t1, t2⟩ := rThinks M
    rw [b1, t1, pl_bind, pl_bind, pl_let, pl_let, th_id]
    exact splitsL h t2 hd qs_F 0 X1 (M 1) n (by rw [qs_F_eq]; omega) (by omega) hw b2 b3
  · rw [if_neg h1, if_pos rfl, if_pos rfl]
    exact ok_f h (by decide : 0 < 7) (by decide)
theorem readyL {X M : qs_D} {f : Nat → Int32} {c d : Nat} {p1 p2 : Int32} (h : RR X M) (hf : e70 (M 1) f) (hd : d < c) : ∀ (k i : Nat) (X1 : qs_D) (g : Nat → Int32) (n : Nat), 201 - i < k → i ≤ 201 → wfr g c n → kr X1 25 g 1 (fun _ => d) → bfr X X1 25 → OK (fX4_ready_L39 k p1 p2 (nI i) X1) (fX5_ready_L32 k (nI d) p2 (nI i) (qs_w (qs_w M 3 f) 1 g)) := by
  intro k
  induction k with
  | zero => intro i X1 g n h; omega
  | succ k ih =>
    intro i X1 g n hk hi hw hkr hb
    unfold fX4_ready_L39 fX5_ready_L32
    obtain ⟨g3, c1, c2, c3⟩ := thEnd (g := g) h hf hb
    by_cases h201 : i = 201
    · subst h201
      rw [if_pos gt200, if_pos gt200, c1, pl_bind, if_neg (by decide)]
      exact ok_f c3 (by decide : 3 < 7) (by decide)
    · have hgv : fX1_given 25 (0 : Int32) X1 = some (vG g d, X1) := cGiven (i := 0) hw (by decide) (by decide) hd hkr
      have hgr : fX5_gives (nI d) (qs_w (qs_w M 3 f) 1 g) = some (vG g d, qs_w (qs_w M 3 f) 1 g) := by
        have := rGives (M := qs_w (qs_w M 3 f) 1 g) (c := c) (n := n) (by rw [pw_self]; exact hw) hd
        rw [pw_self] at this
        exact this
      rw [if_neg (lt200 (by omega)), if_neg (lt200 (by omega)), hgv, hgr, pl_bind, pl_bind]
      by_cases hlt : vG g d < p2
      · rw [if_pos hlt, if_neg (fun q => absurd hlt (Int32.not_lt.mpr q))]
        obtain ⟨X2, g2, a1, a2, a3, a4, a5, a6⟩ := sim1T (X := X) (M := M) (f := f) hw (by decide) (fun _ _ => hd) hkr
        rw [a1, a2, pl_bind, pl_bind, pl_let, pl_let, nI_s]
        exact ih (i + 1) X2 g2 _ (by omega) (by omega) a3 a4 (bfr_tr hb (kfr_b a5))
      · rw [if_neg hlt, if_pos (Int32.not_lt.mp hlt), c1, pl_bind, if_pos (show nI i ≤ (200 : Int32) from nI_le (b := 200) (by omega) (by decide))]
        exact OK.mk c3
theorem m_ready {X M : qs_D} (h : RR X M) (p1 p2 : Int32) : OK (fX4_ready p1 p2 X) (fX5_ready p1 p2 M) := by
  obtain ⟨⟨c, n, hw, hk⟩, -⟩ := id h
  have hc8 := RR.c8 hw
  unfold fX4_ready fX5_ready
  rw [cIsDish hk.1.2.2.2.1, rIsDish hw.2.2.2.2.2.1, pl_bind, pl_bind]
  by_cases h1 : 0 ≤ p1 ∧ p1 ≤ nI c - 1
  · obtain ⟨d, hd, rfl⟩ := nat_dish hc8 h1
    rw [if_pos h1, if_neg one0, if_neg one0, cWithin, rIn, pl_bind, pl_bind]
    by_cases h2 : 0 ≤ p2 ∧ p2 ≤ 999
    · rw [if_pos h2, if_neg one0, if_neg one0]
      obtain ⟨X1, b1, b2, b3⟩ := cOne apt25 hk.1 hd hc8
      obtain ⟨f, t1, t2⟩ := rThinks M
      rw [b1, t1, pl_bind, pl_bind, pl_let, pl_let, th_id]
      exact readyL h t2 hd qs_F 0 X1 (M 1) n (by rw [qs_F_eq]; omega) (by omega) hw b2 b3
    · rw [if_neg h2, if_pos rfl, if_pos rfl]
      exact ok_f h (by decide : 0 < 7) (by decide)
  · rw [if_neg h1, if_pos rfl, if_pos rfl]
    exact ok_f h (by decide : 0 < 7) (by decide)
theorem peaceL {X M : qs_D} {f : Nat → Int32} {c : Nat} {p1 : Int32} {π : Nat → Nat} (h : RR X M) (hf : e70 (M 1) f) : ∀ (k i : Nat) (X1 : qs_D) (g : Nat → Int32) (n : Nat), 201 - i < k → i ≤ 201 → wfr g c n → kr X1 25 g 0 π → bfr X X1 25 → OK (fX4_peace_L29 k p1 (nI i) X1) (fX5_peace_L23 k p1 (nI i) (qs_w (qs_w M 3 f) 1 g)) := by
  intro k
  induction k with
  | zero => intro i X1 g n h; omega
  | succ k ih =>
    intro i X1 g n hk hi hw hkr hb
    unfold fX4_peace_L29 fX5_peace_L23
    obtain ⟨g3, c1, c2, c3⟩ := thEnd (g := g) h hf hb
    by_cases h201 : i = 201
    · subst h201
      rw [if_pos gt200, if_pos gt200, c1, pl_bind, if_neg (by decide)]
      exact ok_f c3 (by decide : 3 < 7) (by decide)
    · rw [if_neg (lt200 (by omega)), if_neg (lt200 (by omega)), g70_1, tn1, pw_self, hkr.1]
      by_cases hlt : p1 < g 1
      · rw [if_pos hlt, if_neg (fun q => absurd hlt (Int32.not_lt.mpr q))]
        obtain ⟨X2, g2, a1, a2, a3, a4, a5, a6⟩ := sim1T (X := X) (M := M) (f := f) hw (by decide) (fun i hi => absurd hi (by omega)) hkr
        rw [a1, a2, pl_bind, pl_bind, pl_let, pl_let, nI_s]
        exact ih (i + 1) X2 g2 _ (by omega) (by omega) a3 a4 (bfr_tr hb (kfr_b a5))
      · rw [if_neg hlt, if_pos (Int32.not_lt.mp hlt), c1, pl_bind, if_pos (show nI i ≤ (200 : Int32) from nI_le (b := 200) (by omega) (by decide))]
        exact OK.mk c3
theorem m_peace {X M : qs_D} (h : RR X M) (p1 : Int32) : OK (fX4_peace p1 X) (fX5_peace p1 M) := by
  obtain ⟨⟨c, n, hw, hk⟩, -⟩ := id h
  unfold fX4_peace fX5_peace
  rw [cWithin, rIn, pl_bind, pl_bind]
  by_cases h1 : 0 ≤ p1 ∧ p1 ≤ 99
  · rw [if_pos h1, if_neg one0, if_neg one0]
    obtain ⟨X1, b1, b2, b3⟩ := cMoodK apt25 hk.1
    obtain ⟨f, t1, t2⟩ := rThinks M
    rw [b1, t1, pl_bind, pl_bind, pl_let, pl_let, th_id]
    exact peaceL h t2 qs_F 0 X1 (M 1) n (by rw [qs_F_eq]; omega) (by omega) hw b2 b3
  · rw [if_neg h1, if_pos rfl, if_pos rfl]
    exact ok_f h (by decide : 0 < 7) (by decide)
/-! best -/
theorem rGivesT {M : qs_D} {f g : Nat → Int32} {c n d : Nat} (hw : wfr g c n) (hd : d < c) : fX5_gives (nI d) (qs_w (qs_w M 3 f) 1 g) = some (vG g d, qs_w (qs_w M 3 f) 1 g) := by
  have := rGives (M := qs_w (qs_w M 3 f) 1 g) (c := c) (n := n) (by rw [pw_self]; exact hw) hd
  rw [pw_self] at this
  exact this
theorem bestLR {X M : qs_D} {f : Nat → Int32} {c d : Nat} {p1 : Int32} (h : RR X M) (hf : e70 (M 1) f) (hd : d < c) : ∀ (k i : Nat) (X1 X2 : qs_D) (g : Nat → Int32) (n : Nat) (b t : Int32) (k2 : Nat), 61 - i < k → 61 - i < k2 → i ≤ 61 → wfr g c n → fX1_passStep 25 X1 = some ((), X2) → kr X2 25 g 1 (fun _ => d) → bfr X X1 25 → bfr X X2 25 → OK (fX4_best_L40 k2 p1 b t (nI i) X1) (fX5_best_L26 k (nI d) b t (nI i) (qs_w (qs_w M 3 f) 1 g)) := by
  intro k
  induction k with
  | zero => intro i X1 X2 g n b t k2 h; omega
  | succ k ih =>
    intro i X1 X2 g n b t k2 hk hk2 hi hw hst hkr hb hb2
    cases k2 with
    | zero => omega
    | succ k2 =>
    unfold fX4_best_L40 fX5_best_L26
    by_cases h61 : i = 61
    · subst h61
      obtain ⟨g3, c1, c2, c3⟩ := thEnd (g := g) h hf hb
      rw [if_pos (by decide), if_pos (by decide), c1, pl_bind]
      exact OK.mk c3
    · have hlt : ¬ (60 : Int32) < nI i := nI_nlt (b := i) (a := 60) (by omega) (by decide)
      have hgv : fX1_given 25 (0 : Int32) X2 = some (vG g d, X2) := cGiven (i := 0) hw (by decide) (by decide) hd hkr
      rw [if_neg hlt, if_neg hlt, hst, pl_bind, hgv, pl_bind, rGivesT hw hd, pl_bind, pl_let, pl_let]
      obtain ⟨X3, g2, a1, a2, a3, a4, a5, a6⟩ := sim1T (X := X) (M := M) (f := f) hw (by decide) (fun _ _ => hd) hkr
      by_cases hle : vG g d ≤ t
      · simp only [if_pos hle, pl_let, a2, pl_bind, nI_s]
        exact ih (i + 1) X2 X3 g2 _ _ _ k2 (by omega) (by omega) (by omega) a3 a1 a4 hb2 (bfr_tr hb2 (kfr_b a5))
      · simp only [if_neg hle, pl_let, a2, pl_bind, nI_s]
        exact ih (i + 1) X2 X3 g2 _ _ _ k2 (by omega) (by omega) (by omega) a3 a1 a4 hb2 (bfr_tr hb2 (kfr_b a5))
theorem neg1 {x : Int32} {n : Nat} (h : qb x n) (hn : n < 2 ^ 31) : ¬ x ≤ -1 := by
  obtain ⟨k, hk, rfl⟩ := h
  intro q
  exact absurd (Int32.lt_of_le_of_lt q (by decide : (-1 : Int32) < 0)) (nI_pos (by omega))
theorem m_best {X M : qs_D} (h : RR X M) (p1 : Int32) : OK (fX4_best p1 X) (fX5_best p1 M) := by
  obtain ⟨⟨c, n, hw, hk⟩, -⟩ := id h
  have hc8 := RR.c8 hw
  unfold fX4_best fX5_best
  rw [cIsDish hk.1.2.2.2.1, rIsDish hw.2.2.2.2.2.1, pl_bind, pl_bind]
  by_cases h1 : 0 ≤ p1 ∧ p1 ≤ nI c - 1
  · obtain ⟨d, hd, rfl⟩ := nat_dish hc8 h1
    rw [if_pos h1, if_neg one0, if_neg one0]
    obtain ⟨X1, b1, b2, b3⟩ := cOne apt25 hk.1 hd hc8
    obtain ⟨f, t1, t2⟩ := rThinks M
    have hgv : fX1_given 25 (0 : Int32) X1 = some (vG (M 1) d, X1) := cGiven (i := 0) hw (by decide) (by decide) hd b2
    rw [b1, t1, pl_bind, pl_bind, pl_let, pl_let, pl_let, pl_let, hgv, pl_bind, pl_let, pl_let, th_id]
    have e : fX5_best_L26 qs_F = fX5_best_L26 (4095 + 1) := rfl
    rw [e]
    obtain ⟨X3, g2, a1, a2, a3, a4, a5, a6⟩ := sim1T (X := X) (M := M) (f := f) hw (by decide) (fun _ _ => hd) b2
    have er : fX5_best_L26 (4095 + 1) (nI d) 0 (-1) 0 (qs_w (qs_w M 3 f) 1 (M 1)) = fX5_best_L26 4095 (nI d) 0 (vG (M 1) d) (nI 1) (qs_w (qs_w M 3 f) 1 g2) := by
      rw [fX5_best_L26]
      rw [if_neg (by decide), rGivesT hw hd, pl_bind, pl_let, if_neg (neg1 (vG_b hw hd) (by decide)), pl_let, if_neg (neg1 (vG_b hw hd) (by decide)), pl_let, a2, pl_bind, pl_let]
      rfl
    rw [er]
    exact bestLR h t2 hd 4095 1 X1 X3 g2 _ 0 (vG (M 1) d) 4096 (by omega) (by omega) (by omega) a3 a1 a4 b3 (bfr_tr b3 (kfr_b a5))
  · rw [if_neg h1, if_pos rfl, if_pos rfl]
    exact ok_f h (by decide : 0 < 7) (by decide)
