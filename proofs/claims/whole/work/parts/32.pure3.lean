/-! PURE, 3: copies, many steps, the whole relation -/
theorem cTake {i j : Nat} (hne : j ≠ i) (D : qs_D) : ∃ f, fX0_take i j D = some ((), qs_w D i f) ∧ ∀ k, k < 6 → f k = D j k := by
  refine ⟨upd (upd (upd (upd (upd (upd (D i) 0 (D j 0)) 1 (D j 1)) 2 (D j 2)) 3 (D j 3)) 4 (D j 4)) 5 (D j 5), ?_, ?_⟩
  · simp only [fX0_take, pl_let, pu_eq, pw_self, pw_ne _ _ hne, pw_w]
  · intro k hk
    have hc : k = 0 ∨ k = 1 ∨ k = 2 ∨ k = 3 ∨ k = 4 ∨ k = 5 := by omega
    rcases hc with rfl | rfl | rfl | rfl | rfl | rfl <;> simp [upd]
theorem gcp6 {σ : Type} {T : Option σ} : qs_gcp 0 0 6 6 6 T = T := if_pos (by decide)
theorem gcp10 {σ : Type} {T : Option σ} : qs_gcp 0 0 10 10 10 T = T := if_pos (by decide)
theorem tn6 : (6 : Int32).toNatClampNeg = 6 := by decide
theorem tn10 : (10 : Int32).toNatClampNeg = 10 := by decide
theorem cpy0 {f g : Nat → Int32} {n k : Nat} (h : k < n) : va_cpy f g 0 0 n k = f k := by
  unfold va_cpy
  rw [if_pos (by omega)]
  congr 1
  omega
/-- nothing but the block of twelve cells from kb on has changed -/
def bfr (D D2 : qs_D) (kb : Nat) : Prop := ∀ x, ¬ (kb ≤ x ∧ x < kb + 12) → D2 x = D x
theorem bfr_tr {D D1 D2 : qs_D} {kb : Nat} (h1 : bfr D D1 kb) (h2 : bfr D1 D2 kb) : bfr D D2 kb := fun x hx => (h2 x hx).trans (h1 x hx)
theorem bfr_rf (D : qs_D) (kb : Nat) : bfr D D kb := fun _ _ => rfl
theorem kfr_b {D D2 : qs_D} {kb : Nat} (h : kfr D D2 kb) : bfr D D2 kb := fun x hx => h.1 x (by omega) (by omega)
def apt (a b : Nat) : Prop := a + 12 ≤ b ∨ b + 12 ≤ a
theorem cMood {D : qs_D} {a b : Nat} (hab : apt a b) : ∃ D2, fX1_takeMood a b D = some ((), D2) ∧ D2 a 0 = D b 0 ∧ D2 a 1 = D b 1 ∧ D2 a 3 = D b 3 ∧ D2 a 5 = 0 ∧ (∀ j, j < 6 → D2 (a + 1) j = D (b + 1) j) ∧ (∀ x, x ≠ a → x ≠ a + 1 → D2 x = D x) := by
  have h1 : b ≠ a := by unfold apt at hab; omega
  have h2 : b + 1 ≠ a := by unfold apt at hab; omega
  have h3 : a + 1 ≠ a := by omega
  have h4 : a ≠ a + 1 := by omega
  refine ⟨_, by simp only [fX1_takeMood, pl_let, pu_eq, gcp6, pw_self, pw_ne _ _ h1, pw_ne _ _ h2, pw_ne _ _ h3, pw_ne _ _ h4, pw_w, tn0, tn6]; rfl, ?_, ?_, ?_, ?_, ?_, ?_⟩
  · rw [pw_self]; simp [upd]
  · rw [pw_self]; simp [upd]
  · rw [pw_self]; simp [upd]
  · rw [pw_self]; simp [upd]
  · intro j hj
    rw [pw_ne _ _ h3, pw_self]
    exact cpy0 hj
  · intro x hx hx2
    rw [pw_ne _ _ hx, pw_ne _ _ hx2, pw_ne _ _ hx]
theorem cMoodK {D : qs_D} {a b m : Nat} {g : Nat → Int32} {π : Nat → Nat} (hab : apt a b) (hk : kr D b g m π) : ∃ D2, fX1_takeMood a b D = some ((), D2) ∧ kr D2 a g 0 π ∧ bfr D D2 a := by
  obtain ⟨D2, r0, r1, r2, r3, r4, r5, r6⟩ := cMood (D := D) hab
  obtain ⟨k0, k1, k3, k5, kl, kd⟩ := hk
  exact ⟨D2, r0, ⟨r1.trans k0, r2.trans k1, r3.trans k3, r4, fun j hj => (r5 j hj).trans (kl j hj), fun i hi => absurd hi (by omega)⟩, fun x hx => r6 x (by omega) (by omega)⟩
theorem cOne {D : qs_D} {a b m d : Nat} {g : Nat → Int32} {π : Nat → Nat} (hab : apt a b) (hk : kr D b g m π) (hd : d < m) (hm : m ≤ 8) : ∃ D2, fX1_takeOne a b (nI d) D = some ((), D2) ∧ kr D2 a g 1 (fun _ => π d) ∧ bfr D D2 a := by
  obtain ⟨D1, r0, r1, r2, r3, r4, r5, r6⟩ := cMood (D := D) hab
  obtain ⟨k0, k1, k3, k5, kl, kd⟩ := hk
  have hne : b + 4 + d ≠ a + 4 + 0 := by unfold apt at hab; omega
  obtain ⟨f, t1, t2⟩ := cTake hne D1
  refine ⟨qs_u (qs_w D1 (a + 4 + 0) f) a 5 1, ?_, ?_, ?_⟩
  · unfold fX1_takeOne
    rw [r0, pl_bind, g8_0, pl_gN (by decide) (by omega), tn0, tnN (by omega), t1]
    rfl
  · rw [pu_eq]
    have ha : a ≠ a + 4 + 0 := by omega
    refine ⟨?_, ?_, ?_, ?_, ?_, ?_⟩
    · rw [pw_self, pw_ne _ _ ha, up_ne _ _ (by decide)]; exact r1.trans k0
    · rw [pw_self, pw_ne _ _ ha, up_ne _ _ (by decide)]; exact r2.trans k1
    · rw [pw_self, pw_ne _ _ ha, up_ne _ _ (by decide)]; exact r3.trans k3
    · rw [pw_self, up_self]; rfl
    · intro j hj
      rw [pw_ne _ _ (by omega), pw_ne _ _ (by omega)]
      exact (r5 j hj).trans (kl j hj)
    · intro i hi z hz
      have hi0 : i = 0 := by omega
      subst hi0
      rw [pw_ne _ _ (by omega), pw_self, t2 z hz, r6 _ (by unfold apt at hab; omega) (by unfold apt at hab; omega)]
      exact kd d hd z hz
  · intro x hx
    rw [pu_eq, pw_ne _ _ (by omega), pw_ne _ _ (by omega)]
    exact r6 x (by omega) (by omega)
/-- a kitchen of the class, and all of a row -/
def kf (D : qs_D) (kb : Nat) (g : Nat → Int32) (c : Nat) : Prop := kr D kb g c (fun i => i) ∧ D kb 2 = g 3 ∧ D kb 4 = g 4 ∧ ∀ j, j < 10 → D (kb + 2) j = g (60 + j)
theorem cAllLoop {g : Nat → Int32} {c a b : Nat} (hab : apt a b) (hc : c ≤ 8) : ∀ (k i : Nat) (D : qs_D), c - i < k → i ≤ c → D a 5 = nI c → (∀ x, x < i → ∀ z, z < 6 → D (a + 4 + x) z = g (12 + 6 * x + z)) → (∀ x, x < c → ∀ z, z < 6 → D (b + 4 + x) z = g (12 + 6 * x + z)) →
    ∃ D2, fX1_takeAll_L46 a b k (nI i) D = some ((), D2) ∧ (∀ x, x < c → ∀ z, z < 6 → D2 (a + 4 + x) z = g (12 + 6 * x + z)) ∧ (∀ x, ¬ (a + 4 ≤ x ∧ x < a + 12) → D2 x = D x) := by
  intro k
  induction k with
  | zero => intro i D h; omega
  | succ k ih =>
    intro i D hk hi h5 ha hb
    unfold fX1_takeAll_L46
    rw [h5]
    by_cases hic : c ≤ i
    · have e : i = c := by omega
      subst e
      rw [if_pos (nI_le (Nat.le_refl _) (by omega))]
      exact ⟨D, rfl, ha, fun _ _ => rfl⟩
    · have hic' : i < c := by omega
      rw [if_neg (nI_ge hic' (by omega)), pl_gN (by decide) (by omega), pl_gN (by decide) (by omega), tnN (by omega)]
      have hne : b + 4 + i ≠ a + 4 + i := by unfold apt at hab; omega
      obtain ⟨f, t1, t2⟩ := cTake hne D
      rw [t1, pl_bind, pl_let, nI_s]
      obtain ⟨D2, r1, r2, r3⟩ := ih (i + 1) (qs_w D (a + 4 + i) f) (by omega) hic' (by rw [pw_ne _ _ (by omega)]; exact h5)
        (fun x hx z hz => by
          by_cases hxi : x = i
          · subst hxi
            rw [pw_self, t2 z hz]
            exact hb x hic' z hz
          · rw [pw_ne _ _ (by omega)]
            exact ha x (by omega) z hz)
        (fun x hx z hz => by rw [pw_ne _ _ (by unfold apt at hab; omega)]; exact hb x hx z hz)
      exact ⟨D2, r1, r2, fun x hx => by rw [r3 x hx, pw_ne _ _ (by omega)]⟩
theorem cAll {D : qs_D} {a b c : Nat} {g : Nat → Int32} (hab : apt a b) (hc : c ≤ 8) (hk : kf D b g c) : ∃ D2, fX1_takeAll a b D = some ((), D2) ∧ kf D2 a g c ∧ bfr D D2 a := by
  obtain ⟨D1, r0, r1, r2, r3, r4, r5, r6⟩ := cMood (D := D) hab
  obtain ⟨⟨k0, k1, k3, k5, kl, kd⟩, kst, kz, ksp⟩ := hk
  have hb1 : b ≠ a := by unfold apt at hab; omega
  have hb2 : b + 2 ≠ a := by unfold apt at hab; omega
  have hb3 : b + 2 ≠ a + 2 := by unfold apt at hab; omega
  have hba : b ≠ a + 2 := by unfold apt at hab; omega
  have e2 : D1 b = D b := r6 b hb1 (by unfold apt at hab; omega)
  have e3 : D1 (b + 2) = D (b + 2) := r6 _ hb2 (by unfold apt at hab; omega)
  have ha2 : a + 2 ≠ a := by omega
  have ha3 : a ≠ a + 2 := by omega
  obtain ⟨D3, hD3⟩ : ∃ D3, D3 = qs_w (qs_w D1 (a + 2) (va_cpy (D (b + 2)) (D1 (a + 2)) 0 0 10)) a (upd (upd (upd (D1 a) 2 (D b 2)) 4 (D b 4)) 5 (D b 5)) := ⟨_, rfl⟩
  have hstart : fX1_takeAll a b D = fX1_takeAll_L46 a b qs_F (nI 0) D3 := by
    unfold fX1_takeAll
    rw [r0, pl_bind, hD3]
    simp only [pl_let, pu_eq, gcp10, pw_self, pw_ne _ _ hb1, pw_ne _ _ hb2, pw_ne _ _ hb3, pw_ne _ _ hba, pw_ne _ _ ha2, pw_ne _ _ ha3, pw_w, tn0, tn10, e2, e3]
    congr 1
    funext x
    by_cases hx : x = a
    · subst hx; simp [qs_w]
    · by_cases hx2 : x = a + 2
      · subst hx2; simp [qs_w]
      · simp [qs_w, hx, hx2]
  obtain ⟨D2, q1, q2, q3⟩ := cAllLoop (g := g) hab hc qs_F 0 D3 (by rw [qs_F_eq]; omega) (Nat.zero_le _) (by rw [hD3, pw_self, up_self]; exact k5) (fun x hx => absurd hx (by omega))
    (fun x hx z hz => by
      rw [hD3, pw_ne _ _ (by unfold apt at hab; omega), pw_ne _ _ (by unfold apt at hab; omega), r6 _ (by unfold apt at hab; omega) (by unfold apt at hab; omega)]
      exact kd x hx z hz)
  have ea : D2 a = D3 a := q3 a (by omega)
  refine ⟨D2, hstart.trans q1, ⟨⟨?_, ?_, ?_, ?_, ?_, q2⟩, ?_, ?_, ?_⟩, ?_⟩
  · rw [ea, hD3, pw_self, up_ne _ _ (by decide), up_ne _ _ (by decide), up_ne _ _ (by decide)]; exact r1.trans k0
  · rw [ea, hD3, pw_self, up_ne _ _ (by decide), up_ne _ _ (by decide), up_ne _ _ (by decide)]; exact r2.trans k1
  · rw [ea, hD3, pw_self, up_ne _ _ (by decide), up_ne _ _ (by decide), up_ne _ _ (by decide)]; exact r3.trans k3
  · rw [ea, hD3, pw_self, up_self]; exact k5
  · intro j hj
    rw [q3 _ (by omega), hD3, pw_ne _ _ (by omega), pw_ne _ _ (by omega)]
    exact (r5 j hj).trans (kl j hj)
  · rw [ea, hD3, pw_self, up_ne _ _ (by decide), up_ne _ _ (by decide), up_self]; exact kst
  · rw [ea, hD3, pw_self, up_ne _ _ (by decide), up_self]; exact kz
  · intro j hj
    rw [q3 _ (by omega), hD3, pw_ne _ _ (by omega), pw_self, cpy0 hj]
    exact ksp j hj
  · intro x hx
    rw [q3 x (by omega), hD3, pw_ne _ _ (by omega), pw_ne _ _ (by omega)]
    exact r6 x (by omega) (by omega)
/-! one step on both sides, and many -/
def stps (g g2 : Nat → Int32) (c : Nat) : Prop := (∀ i, 2 ≤ i → i < 12 → g2 i = g i) ∧ (∀ i, 12 + 6 * c ≤ i → g2 i = g i) ∧ ∀ d, d < c → ∀ k, (k = 0 ∨ k = 4 ∨ k = 5) → g2 (12 + 6 * d + k) = g (12 + 6 * d + k)
theorem stps_rf (g : Nat → Int32) (c : Nat) : stps g g c := ⟨fun _ _ _ => rfl, fun _ _ => rfl, fun _ _ _ _ => rfl⟩
theorem stps_tr {g g2 g3 : Nat → Int32} {c : Nat} (h : stps g g2 c) (h2 : stps g2 g3 c) : stps g g3 c := ⟨fun i a b => (h2.1 i a b).trans (h.1 i a b), fun i a => (h2.2.1 i a).trans (h.2.1 i a), fun d a k b => (h2.2.2 d a k b).trans (h.2.2 d a k b)⟩
theorem sK_keep {j : Nat} {gr ht de : Int32} {f : Nat → Int32} {k : Nat} (hk : k = 0 ∨ k = 4 ∨ k = 5) : sK j gr ht de f k = f k := by
  unfold sK
  rcases hk with rfl | rfl | rfl <;> (split <;> first | (split <;> simp [upd]) | simp [upd])
theorem stp_s {g g2 : Nat → Int32} {c n e : Nat} (h : stp g g2 c n e) : stps g g2 c := by
  refine ⟨h.2.2.1, h.2.2.2.2, fun d hd k hk => ?_⟩
  rw [h.2.2.2.1 d hd k (by omega)]
  unfold sDsh
  split
  · rw [sK_keep hk]; rfl
  · rfl
theorem sim1 {X M : qs_D} {c n m kb : Nat} {π : Nat → Nat} (hw : wfr (M 1) c n) (hm : m ≤ 8) (hπ : ∀ i, i < m → π i < c) (hk : kr X kb (M 1) m π) : ∃ X2 g2, fX1_passStep kb X = some ((), X2) ∧ fX5_goes M = some ((), qs_w M 1 g2) ∧ wfr g2 c (min 99999 (n + 1)) ∧ kr X2 kb g2 m π ∧ kfr X X2 kb ∧ stps (M 1) g2 c := by
  obtain ⟨e, he2, he⟩ := deed_of hw
  obtain ⟨g2, r1, r2⟩ := rGoes hw he he2
  obtain ⟨X2, s1, s2, s3⟩ := cStep hw he he2 r2 hm hπ hk
  exact ⟨X2, g2, s1, r1, stp_wf hw he2 r2, s2, s3, stp_s r2⟩
theorem simN {c m kb N : Nat} {π : Nat → Nat} (hm : m ≤ 8) (hπ : ∀ i, i < m → π i < c) (hN : N < 2 ^ 31) : ∀ (k i : Nat) (X M : qs_D) (n : Nat), N - i < k → i ≤ N → wfr (M 1) c n → kr X kb (M 1) m π →
    ∃ X2 g2 n2, fX1_passSteps_L2 kb k (nI N) (nI i) X = some ((), X2) ∧ fX5_goesFor_L2 k (nI N) (nI i) M = some ((), qs_w M 1 g2) ∧ wfr g2 c n2 ∧ kr X2 kb g2 m π ∧ kfr X X2 kb ∧ stps (M 1) g2 c := by
  intro k
  induction k with
  | zero => intro i X M n h; omega
  | succ k ih =>
    intro i X M n hk hi hw hkr
    unfold fX1_passSteps_L2 fX5_goesFor_L2
    by_cases hiN : N ≤ i
    · rw [if_pos (nI_le hiN (by omega)), if_pos (nI_le hiN (by omega))]
      exact ⟨X, M 1, n, rfl, by rw [pw_id], hw, hkr, kfr_rf X kb, stps_rf _ _⟩
    · rw [if_neg (nI_ge (by omega) hN), if_neg (nI_ge (by omega) hN)]
      obtain ⟨X1, g1, a1, a2, a3, a4, a5, a6⟩ := sim1 hw hm hπ hkr
      rw [a1, a2, pl_bind, pl_bind, pl_let, pl_let, nI_s]
      obtain ⟨X2, g2, n2, b1, b2, b3, b4, b5, b6⟩ := ih (i + 1) X1 (qs_w M 1 g1) (min 99999 (n + 1)) (by omega) (by omega) (by rw [pw_self]; exact a3) (by rw [pw_self]; exact a4)
      rw [pw_w] at b2
      rw [pw_self] at b6
      exact ⟨X2, g2, n2, b1, b2, b3, b4, kfr_tr a5 b5, stps_tr a6 b6⟩
theorem simS {X M : qs_D} {c n m kb N : Nat} {π : Nat → Nat} (hw : wfr (M 1) c n) (hm : m ≤ 8) (hπ : ∀ i, i < m → π i < c) (hk : kr X kb (M 1) m π) (hN : N ≤ 100) : ∃ X2 g2 n2, fX1_passSteps kb (nI N) X = some ((), X2) ∧ fX5_goesFor (nI N) M = some ((), qs_w M 1 g2) ∧ wfr g2 c n2 ∧ kr X2 kb g2 m π ∧ kfr X X2 kb ∧ stps (M 1) g2 c := by
  unfold fX1_passSteps fX5_goesFor
  exact simN hm hπ (by omega) qs_F 0 X M n (by rw [qs_F_eq]; omega) (Nat.zero_le _) hw hk
/-! the reference's copies -/
theorem rCopyL {a b : Nat} (hab : a ≠ b) (D : qs_D) : ∀ (k i : Nat) (f : Nat → Int32), 70 - i < k → i ≤ 70 → (∀ x, x < i → f x = D a x) → ∃ f2, fX5_copyAll_L2 a b k (nI i) (qs_w D b f) = some ((), qs_w D b f2) ∧ (∀ x, x < 70 → f2 x = D a x) := by
  intro k
  induction k with
  | zero => intro i f h; omega
  | succ k ih =>
    intro i f hk hi hf
    unfold fX5_copyAll_L2
    by_cases h : 70 ≤ i
    · rw [if_pos (show (70 : Int32) ≤ nI i from nI_le (a := 70) h (by omega))]
      exact ⟨f, rfl, fun x hx => hf x (by omega)⟩
    · rw [if_neg (show ¬ (70 : Int32) ≤ nI i from nI_ge (a := i) (b := 70) (by omega) (by decide)), pl_gN (by decide) (by omega), pl_gN (by decide) (by omega), pl_let, pl_let, nI_s, tnN (by omega), pu_eq, pw_self, pw_w, pw_ne _ _ hab]
      refine ih (i + 1) _ (by omega) (by omega) (fun x hx => ?_)
      by_cases hxi : x = i
      · subst hxi; rw [up_self]
      · rw [up_ne _ _ hxi]; exact hf x (by omega)
theorem rCopy {a b : Nat} (hab : a ≠ b) (D : qs_D) : ∃ f, fX5_copyAll a b D = some ((), qs_w D b f) ∧ (∀ x, x < 70 → f x = D a x) := by
  unfold fX5_copyAll
  rw [pl_let]
  obtain ⟨f, h1, h2⟩ := rCopyL hab D qs_F 0 (D b) (by rw [qs_F_eq]; omega) (Nat.zero_le _) (fun x hx => absurd hx (by omega))
  rw [pw_id] at h1
  exact ⟨f, h1, h2⟩
def e70 (g g2 : Nat → Int32) : Prop := ∀ x, x < 70 → g2 x = g x
theorem rThinks (D : qs_D) : ∃ f, fX5_thinks D = some ((), qs_w D 3 f) ∧ e70 (D 1) f := by
  obtain ⟨f, h1, h2⟩ := rCopy (a := 1) (b := 3) (by decide) D
  refine ⟨f, ?_, h2⟩
  unfold fX5_thinks
  rw [h1]; rfl
theorem rBack (D : qs_D) : ∃ f, fX5_putsBack D = some ((), qs_w D 1 f) ∧ e70 (D 3) f := by
  obtain ⟨f, h1, h2⟩ := rCopy (a := 3) (b := 1) (by decide) D
  refine ⟨f, ?_, h2⟩
  unfold fX5_putsBack
  rw [h1]; rfl
theorem wfr_congr {g g2 : Nat → Int32} {c n : Nat} (h : e70 g g2) (hw : wfr g c n) : wfr g2 c n := by
  obtain ⟨w0, wn, w1, w2, w3, w5, wc, wl, wd, ws⟩ := hw
  refine ⟨by rw [h 0 (by decide)]; exact w0, wn, by rw [h 1 (by decide)]; exact w1, by rw [h 2 (by decide)]; exact w2, by rw [h 3 (by decide)]; exact w3, by rw [h 5 (by decide)]; exact w5, wc, fun j hj => by rw [h _ (by omega)]; exact wl j hj, fun d hd => dw_congr (f := sR g d) (fun k hk => h _ (by omega)) (wd d hd), fun j hj => by rw [h _ (by omega)]; exact ws j hj⟩
theorem kr_congr {D : qs_D} {kb m : Nat} {g g2 : Nat → Int32} {π : Nat → Nat} (h : e70 g g2) (hπ : ∀ i, i < m → π i < 8) (hk : kr D kb g m π) : kr D kb g2 m π := by
  obtain ⟨k0, k1, k3, k5, kl, kd⟩ := hk
  exact ⟨by rw [h 1 (by decide)]; exact k0, by rw [h 2 (by decide)]; exact k1, by rw [h 0 (by decide)]; exact k3, k5, fun j hj => by rw [h _ (by omega)]; exact kl j hj, fun i hi k hk2 => by have := hπ i hi; rw [h _ (by omega)]; exact kd i hi k hk2⟩
theorem kf_congr {D : qs_D} {kb c : Nat} {g g2 : Nat → Int32} (h : e70 g g2) (hc : c ≤ 8) (hk : kf D kb g c) : kf D kb g2 c := by
  obtain ⟨k, k1, k2, k3⟩ := hk
  exact ⟨kr_congr h (fun i hi => by omega) k, by rw [h 3 (by decide)]; exact k1, by rw [h 4 (by decide)]; exact k2, fun j hj => by rw [h _ (by omega)]; exact k3 j hj⟩
theorem kr_fr {D D2 : qs_D} {kb m : Nat} {g : Nat → Int32} {π : Nat → Nat} (hm : m ≤ 8) (h : ∀ x, kb ≤ x → x < kb + 12 → D2 x = D x) (hk : kr D kb g m π) : kr D2 kb g m π := by
  obtain ⟨k0, k1, k3, k5, kl, kd⟩ := hk
  exact ⟨by rw [h kb (by omega) (by omega)]; exact k0, by rw [h kb (by omega) (by omega)]; exact k1, by rw [h kb (by omega) (by omega)]; exact k3, by rw [h kb (by omega) (by omega)]; exact k5, fun j hj => by rw [h _ (by omega) (by omega)]; exact kl j hj, fun i hi k hk2 => by rw [h _ (by omega) (by omega)]; exact kd i hi k hk2⟩
theorem kf_fr {D D2 : qs_D} {kb c : Nat} {g : Nat → Int32} (hc : c ≤ 8) (h : ∀ x, kb ≤ x → x < kb + 12 → D2 x = D x) (hk : kf D kb g c) : kf D2 kb g c := by
  obtain ⟨k, k1, k2, k3⟩ := hk
  exact ⟨kr_fr hc h k, by rw [h kb (by omega) (by omega)]; exact k1, by rw [h kb (by omega) (by omega)]; exact k2, fun j hj => by rw [h _ (by omega) (by omega)]; exact k3 j hj⟩
/-! the whole relation -/
def shr (X M : qs_D) : Prop := ∀ s, s < 4 → X (41 + 2 * s) 0 = M 5 s ∧ X (41 + 2 * s) 1 = M 6 s ∧ (M 5 s = 0 ∨ M 5 s = 8 ∨ M 5 s = 16 ∨ M 5 s = 32) ∧ qb (M 6 s) 40 ∧ ∀ i, i < 40 → X (42 + 2 * s) i = M 7 (40 * s + i)
def tpr (X M : qs_D) : Prop := ∃ t, t ≤ 120 ∧ X 37 1 = nI t ∧ M 0 9 = nI t ∧ ∀ k, k < t → X 38 k = (M 8 k).toInt8.toInt32 ∧ qb (M 8 k) 255
def kpt (X M : qs_D) : Prop := X 0 6 = M 0 3 ∧ (M 0 3 = 0 ∨ (M 0 3 = 1 ∧ ∃ c n, wfr (M 2) c n ∧ kf X 13 (M 2) c))
def RR (X M : qs_D) : Prop := (∃ c n, wfr (M 1) c n ∧ kf X 1 (M 1) c) ∧ kpt X M ∧ (∀ j, j < 7 → X 40 j = M 4 j) ∧ shr X M ∧ tpr X M
/-- only the draft has changed, and what the reference thinks in -/
theorem RR_fr {X M X2 M2 : qs_D} (h : RR X M) (hx : ∀ x, ¬ (25 ≤ x ∧ x < 37) → X2 x = X x) (h1 : e70 (M 1) (M2 1)) (hm : ∀ x, x ≠ 1 → x ≠ 3 → M2 x = M x) : RR X2 M2 := by
  obtain ⟨⟨c, n, a1, a2⟩, ⟨b1, b2⟩, d1, d2, ⟨t, t1, t2, t3, t4⟩⟩ := h
  have hc : c ≤ 8 := a1.2.2.2.2.2.2.1
  refine ⟨⟨c, n, wfr_congr h1 a1, kf_congr h1 hc (kf_fr hc (fun x _ _ => hx x (by omega)) a2)⟩, ⟨by rw [hx 0 (by omega), hm 0 (by decide) (by decide)]; exact b1, ?_⟩, ?_, ?_, ?_⟩
  · rw [hm 0 (by decide) (by decide), hm 2 (by decide) (by decide)]
    rcases b2 with b2 | ⟨b2, c2, n2, b3, b4⟩
    · exact Or.inl b2
    · exact Or.inr ⟨b2, c2, n2, b3, kf_fr b3.2.2.2.2.2.2.1 (fun x _ _ => hx x (by omega)) b4⟩
  · intro j hj
    rw [hx 40 (by omega), hm 4 (by decide) (by decide)]
    exact d1 j hj
  · intro s hs
    rw [hx _ (by omega), hx _ (by omega), hm 5 (by decide) (by decide), hm 6 (by decide) (by decide), hm 7 (by decide) (by decide)]
    exact d2 s hs
  · refine ⟨t, t1, by rw [hx 37 (by omega)]; exact t2, by rw [hm 0 (by decide) (by decide)]; exact t3, fun k hk => ?_⟩
    rw [hx 38 (by omega), hm 8 (by decide) (by decide)]
    exact t4 k hk
/-- the goal: both sides answer, alike, and go on alike -/
def OK {ρ : Type} (a b : Option (ρ × qs_D)) : Prop := ∃ r X M, a = some (r, X) ∧ b = some (r, M) ∧ RR X M
theorem OK.mk {ρ : Type} {r : ρ} {X M : qs_D} (h : RR X M) : OK (some (r, X)) (some (r, M)) := ⟨r, X, M, rfl, rfl, h⟩
def RRf (X M : qs_D) : Prop := True
theorem cFound {f : Nat} (hf : f < 7) (X : qs_D) : fX4_found (nI f) X = some (-1000001 - nI f, qs_u X 40 f (X 40 f + 1)) := by
  unfold fX4_found
  rw [pl_gN (by decide) hf, pl_gN (by decide) hf, tnN (by omega), pl_let]
theorem rFinds {f : Nat} {v : Int32} (hf : f < 7) (hv : v = -1000001 - nI f) (M : qs_D) : fX5_finds v M = some (-1000001 - nI f, qs_u M 4 f (M 4 f + 1)) := by
  subst hv
  unfold fX5_finds
  have e : (-1000001 : Int32) - (-1000001 - nI f) = nI f := by
    have h : ∀ f, f < 7 → (-1000001 : Int32) - (-1000001 - nI f) = nI f := by decide
    exact h f hf
  rw [e, pl_gN (by decide) hf, pl_gN (by decide) hf, tnN (by omega), pl_let]
theorem RR_found {X M : qs_D} {f : Nat} (h : RR X M) (hf : f < 7) : RR (qs_u X 40 f (X 40 f + 1)) (qs_u M 4 f (M 4 f + 1)) := by
  obtain ⟨⟨c, n, a1, a2⟩, ⟨b1, b2⟩, d1, d2, ⟨t, t1, t2, t3, t4⟩⟩ := h
  have hc : c ≤ 8 := a1.2.2.2.2.2.2.1
  have hx : ∀ x, x ≠ 40 → qs_u X 40 f (X 40 f + 1) x = X x := fun x hx => by rw [pu_eq, pw_ne _ _ hx]
  have hm : ∀ x, x ≠ 4 → qs_u M 4 f (M 4 f + 1) x = M x := fun x hx => by rw [pu_eq, pw_ne _ _ hx]
  refine ⟨⟨c, n, by rw [hm 1 (by decide)]; exact a1, by rw [hm 1 (by decide)]; exact kf_fr hc (fun x _ _ => hx x (by omega)) a2⟩, ⟨by rw [hx 0 (by omega), hm 0 (by decide)]; exact b1, ?_⟩, ?_, ?_, ?_⟩
  · rw [hm 0 (by decide), hm 2 (by decide)]
    rcases b2 with b2 | ⟨b2, c2, n2, b3, b4⟩
    · exact Or.inl b2
    · exact Or.inr ⟨b2, c2, n2, b3, kf_fr b3.2.2.2.2.2.2.1 (fun x _ _ => hx x (by omega)) b4⟩
  · intro j hj
    rw [pu_eq, pu_eq, pw_self, pw_self]
    by_cases hjf : j = f
    · subst hjf
      rw [up_self, up_self, d1 j hj]
    · rw [up_ne _ _ hjf, up_ne _ _ hjf]
      exact d1 j hj
  · intro s hs
    rw [hx _ (by omega), hx _ (by omega), hm 5 (by decide), hm 6 (by decide), hm 7 (by decide)]
    exact d2 s hs
  · refine ⟨t, t1, by rw [hx 37 (by omega)]; exact t2, by rw [hm 0 (by decide)]; exact t3, fun k hk => ?_⟩
    rw [hx 38 (by omega), hm 8 (by decide)]
    exact t4 k hk
/-- a finding, on both sides -/
theorem ok_f {f : Nat} {v : Int32} {X M : qs_D} (h : RR X M) (hf : f < 7) (hv : v = -1000001 - nI f) : OK (qs_bind (fX4_found (nI f) X) (fun x D => some (x, D))) (qs_bind (fX5_finds v M) (fun x D => some (x, D))) := by
  rw [cFound hf, rFinds hf hv, pl_bind, pl_bind]
  exact OK.mk (RR_found h hf)
