/-! PURE, 2: a step of the kitchen, on both sides -/
def sH (gr : Int32) (e : Nat) : Int32 := hl (gr + (qs_tab 2).getD e 0) 0 99
theorem sH_0 : ∀ a, a < 100 → ∀ e, e < 12 → (if 0 < mn 99 (nI a + (qs_tab 0).getD e 0) then mn 99 (nI a + (qs_tab 0).getD e 0) else 0) = sH (nI a) e ∧ (0 ≤ sH (nI a) e ∧ sH (nI a) e ≤ nI 99) := by decide +kernel
theorem sH_b {gr : Int32} {e : Nat} (hg : qb gr 99) (he : e < 12) : qb (sH gr e) 99 := by
  obtain ⟨a, ha, rfl⟩ := hg
  exact qb_of (by decide) (sH_0 a (by omega) e he).2
theorem cGA {gr : Int32} {e : Nat} (hg : qb gr 99) (he : e < 12) (D : qs_D) : fX4_grudgeAfter gr (nI e) D = some (sH gr e, D) := by
  obtain ⟨a, ha, rfl⟩ := hg
  unfold fX4_grudgeAfter
  rw [pl_gN (by decide) he, tnN (by omega), cMin, pl_bind, cMax, pl_bind, (sH_0 a (by omega) e he).1]
theorem rDoes {e : Nat} (he : e < 12) (D : qs_D) : fX5_does (nI e) D = some (sH (D 1 1) e, qs_u D 1 1 (sH (D 1 1) e)) := by
  unfold fX5_does
  rw [g70_1, tn1, pl_gN (by decide) he, tnN (by omega), rHeld, pl_bind, g70_1, pl_let, g70_1]
  rw [show (qs_u D 1 1 (hl (D 1 1 + (qs_tab 2).getD e 0) 0 99)) 1 1 = hl (D 1 1 + (qs_tab 2).getD e 0) 0 99 from by rw [pu_eq, pw_self, up_self]]
  rfl
/-- a row that is as it should be: c dishes, step n -/
def wfr (g : Nat → Int32) (c n : Nat) : Prop :=
  g 0 = nI n ∧ n ≤ 99999 ∧ qb (g 1) 99 ∧ qb (g 2) 9 ∧ qb (g 3) 99999 ∧ g 5 = nI c ∧ c ≤ 8 ∧ (∀ j, j < 6 → qb (g (6 + j)) 11) ∧ (∀ d, d < c → dw (sR g d)) ∧ (∀ j, j < 10 → g (60 + j) = -1 ∨ ∃ k, k < c ∧ g (60 + j) = nI k)
def sDsh (gr ht de : Int32) (f : Nat → Int32) : Nat → Int32 := if f 3 = 0 ∧ f 4 = 0 then sK (f 0).toNatClampNeg gr ht de f else f
theorem sDsh_dw {gr ht de : Int32} {f : Nat → Int32} (hg : qb gr 99) (hh : qb ht 9) (hf : dw f) : dw (sDsh gr ht de f) := by
  unfold sDsh
  split
  · obtain ⟨j, hj, e⟩ := hf.1
    rw [e, tnN (by omega)]
    exact sK_dw hj hg hh hf
  · exact hf
theorem dw_congr {f f2 : Nat → Int32} (h : ∀ k, k < 6 → f2 k = f k) (hf : dw f) : dw f2 := by
  unfold dw
  rw [h 0 (by decide), h 1 (by decide), h 2 (by decide), h 3 (by decide), h 4 (by decide), h 5 (by decide)]
  exact hf
theorem sK_congr {j : Nat} {gr ht de : Int32} {f f2 : Nat → Int32} (h : ∀ k, k < 6 → f2 k = f k) : ∀ k, k < 6 → sK j gr ht de f2 k = sK j gr ht de f k := by
  intro k hk
  unfold sK
  rw [h 1 (by decide), h 2 (by decide)]
  split
  · split <;> simp only [upd, h k hk]
  · simp only [upd, h k hk]
theorem sDsh_congr {gr ht de : Int32} {f f2 : Nat → Int32} (h : ∀ k, k < 6 → f2 k = f k) : ∀ k, k < 6 → sDsh gr ht de f2 k = sDsh gr ht de f k := by
  intro k hk
  unfold sDsh
  rw [h 0 (by decide), h 3 (by decide), h 4 (by decide)]
  split
  · exact sK_congr h k hk
  · exact h k hk
/-- what a step makes of a row -/
def stp (g g2 : Nat → Int32) (c n e : Nat) : Prop :=
  g2 0 = nI (min 99999 (n + 1)) ∧ g2 1 = sH (g 1) e ∧ (∀ i, 2 ≤ i → i < 12 → g2 i = g i) ∧ (∀ d, d < c → ∀ k, k < 6 → g2 (12 + 6 * d + k) = sDsh (sH (g 1) e) (g 2) (nI e) (sR g d) k) ∧ (∀ i, 12 + 6 * c ≤ i → g2 i = g i)
theorem stp_wf {g g2 : Nat → Int32} {c n e : Nat} (hw : wfr g c n) (he : e < 12) (h : stp g g2 c n e) : wfr g2 c (min 99999 (n + 1)) := by
  obtain ⟨w0, wn, w1, w2, w3, w5, wc, wl, wd, ws⟩ := hw
  obtain ⟨h0, h1, h2, h3, h4⟩ := h
  refine ⟨h0, Nat.min_le_left _ _, by rw [h1]; exact sH_b w1 he, by rw [h2 2 (by decide) (by decide)]; exact w2, by rw [h2 3 (by decide) (by decide)]; exact w3, by rw [h2 5 (by decide) (by decide)]; exact w5, wc, ?_, ?_, ?_⟩
  · intro j hj
    rw [h2 (6 + j) (by omega) (by omega)]
    exact wl j hj
  · intro d hd
    exact dw_congr (fun k hk => h3 d hd k hk) (sDsh_dw (sH_b w1 he) w2 (wd d hd))
  · intro j hj
    rw [h4 (60 + j) (by omega)]
    exact ws j hj
theorem rOn {d : Nat} (hd : d < 8) (D : qs_D) : fX5_isOn (nI d) D = some (if D 1 (12 + 6 * d + 3) = 0 ∧ D 1 (12 + 6 * d + 4) = 0 then 1 else 0, D) := by
  unfold fX5_isOn
  rw [it3 hd, pl_bind]
  by_cases h3 : D 1 (12 + 6 * d + 3) = 0
  · rw [if_pos h3, it4 hd, pl_bind]
    by_cases h4 : D 1 (12 + 6 * d + 4) = 0
    · rw [if_pos h4, if_pos ⟨h3, h4⟩]
    · rw [if_neg h4, if_neg (fun h => h4 h.2)]
  · rw [if_neg h3, if_neg (fun h => h3 h.1)]
theorem one0 : ¬ (1 : Int32) = 0 := by decide
theorem nI_s (i : Nat) : nI i + 1 = nI (i + 1) := nI_1 i
theorem rLoop {D : qs_D} {g : Nat → Int32} {c n e : Nat} {w1 : Int32} (hw : wfr g c n) (he : g (6 + n % 6) = nI e) (he2 : e < 12) :
    ∀ (k i : Nat) (h : Nat → Int32), c - i < k → i ≤ c → h 0 = g 0 → h 1 = sH (g 1) e → (∀ x, 2 ≤ x → x < 12 → h x = g x) → (∀ d, d < i → ∀ z, z < 6 → h (12 + 6 * d + z) = sDsh (sH (g 1) e) (g 2) (nI e) (sR g d) z) → (∀ x, 12 + 6 * i ≤ x → h x = g x) →
    ∃ g2, fX5_goes_L11 k w1 (nI i) (qs_w D 1 h) = some ((), qs_w D 1 g2) ∧ stp g g2 c n e := by
  obtain ⟨w0, wn, w1', w2, w3, w5, wc, wl, wd, ws⟩ := hw
  intro k
  induction k with
  | zero => intro i h h1; omega
  | succ k ih =>
    intro i h hk hi h0 h1 h2 h3 h4
    unfold fX5_goes_L11
    rw [g70_5, tn5]
    simp only [pw_self]
    rw [h2 5 (by decide) (by decide), w5]
    by_cases hic : c ≤ i
    · have hci : i = c := by omega
      subst hci
      rw [if_pos (nI_le (Nat.le_refl _) (by omega)), g70_0, tn0, h0, w0, rHeld, pl_bind, g70_0, pl_let]
      refine ⟨upd h 0 (hl (nI n + 1) 0 99999), ?_, ?_⟩
      · rw [pu_eq, pw_self, pw_w]
      · have e1 : hl (nI n + 1) 0 99999 = nI (min 99999 (n + 1)) := by
          rw [nI_s]
          exact (hl_mn (m := 99999) (by omega) (by decide)).trans (mn_nI (by omega) (by decide))
        refine ⟨by rw [up_self, e1], by rw [up_ne _ _ (by decide)]; exact h1, fun x hx hx2 => by rw [up_ne _ _ (by omega)]; exact h2 x hx hx2, fun d hd z hz => by rw [up_ne _ _ (by omega)]; exact h3 d hd z hz, fun x hx => by rw [up_ne _ _ (by omega)]; exact h4 x hx⟩
    · have hic' : i < c := by omega
      have hi8 : i < 8 := by omega
      rw [if_neg (nI_ge hic' (by omega)), rOn hi8, pl_bind]
      simp only [pw_self]
      have hd4 : ∀ z, z < 6 → h (12 + 6 * i + z) = sR g i z := fun z hz => h4 _ (by omega)
      rw [hd4 3 (by decide), hd4 4 (by decide)]
      by_cases hon : sR g i 3 = 0 ∧ sR g i 4 = 0
      · rw [if_pos hon, if_neg one0]
        obtain ⟨j, hj, ej⟩ := (wd i hic').1
        have hk0 : (qs_w D 1 h) 1 (12 + 6 * i) = nI j := by rw [pw_self]; exact (hd4 0 (by decide)).trans ej
        have hs0 : (qs_w D 1 h) 1 0 = nI n := by rw [pw_self, h0, w0]
        have hdw : dw (sR ((qs_w D 1 h) 1) i) := by rw [pw_self]; exact dw_congr (f := sR g i) hd4 (wd i hic')
        have hg : qb ((qs_w D 1 h) 1 1) 99 := by rw [pw_self, h1]; exact sH_b w1' he2
        have hh : qb ((qs_w D 1 h) 1 2) 9 := by rw [pw_self, h2 2 (by decide) (by decide)]; exact w2
        have h30 : (qs_w D 1 h) 1 (12 + 6 * i + 3) = 0 := by rw [pw_self, hd4 3 (by decide)]; exact hon.1
        rw [rCook hi8 hj hk0 hs0 wn hdw hg hh h30, pl_bind, pl_let, nI_s]
        simp only [pw_self]
        rw [pw_w, h1, h2 2 (by decide) (by decide), h2 (6 + n % 6) (by omega) (by omega), he]
        refine ih (i + 1) _ (by omega) hic' ?_ ?_ ?_ ?_ ?_
        · rw [sW_out (by omega)]; exact h0
        · rw [sW_out (by omega)]; exact h1
        · intro x hx hx2
          rw [sW_out (by omega)]; exact h2 x hx hx2
        · intro d hd z hz
          by_cases hdi : d = i
          · subst hdi
            have e3 := sR_sW (g := h) (d := d) (f := sK j (sH (g 1) e) (g 2) (nI e) (sR h d)) hz
            unfold sR at e3
            refine e3.trans ?_
            unfold sDsh
            rw [if_pos hon, ej, tnN (by omega)]
            exact sK_congr (f := sR g d) hd4 z hz
          · have e3 := sR_other (g := h) (d := i) (e := d) (f := sK j (sH (g 1) e) (g 2) (nI e) (sR h i)) hz hdi
            unfold sR at e3
            exact e3.trans (h3 d (by omega) z hz)
        · intro x hx
          rw [sW_out (by omega)]; exact h4 x (by omega)
      · rw [if_neg hon, if_pos rfl, pl_let, nI_s]
        refine ih (i + 1) h (by omega) hic' h0 h1 h2 ?_ (fun x hx => h4 x (by omega))
        intro d hd z hz
        by_cases hdi : d = i
        · subst hdi
          rw [hd4 z hz]
          unfold sDsh
          rw [if_neg hon]
        · exact h3 d (by omega) z hz
theorem qs_F_eq : qs_F = 4096 := rfl
theorem deed_of {g : Nat → Int32} {c n : Nat} (hw : wfr g c n) : ∃ e, e < 12 ∧ g (6 + n % 6) = nI e := by
  obtain ⟨k, hk, e⟩ := hw.2.2.2.2.2.2.2.1 (n % 6) (Nat.mod_lt _ (by decide))
  exact ⟨k, by omega, e⟩
/-- the reference goes one step -/
theorem rGoes {D : qs_D} {c n e : Nat} (hw : wfr (D 1) c n) (he : D 1 (6 + n % 6) = nI e) (he2 : e < 12) : ∃ g2, fX5_goes D = some ((), qs_w D 1 g2) ∧ stp (D 1) g2 c n e := by
  have hw0 := hw
  obtain ⟨w0, wn, w1, w2, w3, w5, wc, wl, wd, ws⟩ := hw
  unfold fX5_goes
  rw [rDeed w0 wn, pl_bind, he, rDoes he2, pl_bind, pl_let, pl_let]
  rw [pu_eq]
  refine rLoop (D := D) (g := D 1) hw0 he he2 qs_F 0 _ (by rw [qs_F_eq]; omega) (Nat.zero_le _) ?_ ?_ ?_ ?_ ?_
  · rw [up_ne _ _ (by decide)]
  · rw [up_self]
  · intro x hx hx2
    rw [up_ne _ _ (by omega)]
  · intro d hd
    omega
  · intro x hx
    rw [up_ne _ _ (by omega)]
/-! the class's kitchen at kb, whose m dishes are the row's dishes π 0, π 1 .. -/
def kr (D : qs_D) (kb : Nat) (g : Nat → Int32) (m : Nat) (π : Nat → Nat) : Prop :=
  D kb 0 = g 1 ∧ D kb 1 = g 2 ∧ D kb 3 = g 0 ∧ D kb 5 = nI m ∧ (∀ j, j < 6 → D (kb + 1) j = g (6 + j)) ∧ (∀ i, i < m → ∀ k, k < 6 → D (kb + 4 + i) k = g (12 + 6 * π i + k))
/-- nothing but the kitchen's dishes, its grudge and its step has changed -/
def kfr (D D2 : qs_D) (kb : Nat) : Prop := (∀ x, x ≠ kb → ¬ (kb + 4 ≤ x ∧ x < kb + 12) → D2 x = D x) ∧ (∀ k, k ≠ 0 → k ≠ 3 → D2 kb k = D kb k)
theorem kfr_rf (D : qs_D) (kb : Nat) : kfr D D kb := ⟨fun _ _ _ => rfl, fun _ _ _ => rfl⟩
theorem kfr_tr {D D1 D2 : qs_D} {kb : Nat} (h1 : kfr D D1 kb) (h2 : kfr D1 D2 kb) : kfr D D2 kb := ⟨fun x hx hx2 => (h2.1 x hx hx2).trans (h1.1 x hx hx2), fun k h3 h4 => (h2.2 k h3 h4).trans (h1.2 k h3 h4)⟩
theorem cCooking (i : Nat) (D : qs_D) : fX0_isCooking i D = some (if D i 3 = 0 ∧ D i 4 = 0 then 1 else 0, D) := by
  unfold fX0_isCooking
  by_cases h4 : D i 4 = 0
  · rw [if_pos h4]
    by_cases h3 : D i 3 = 0
    · rw [if_pos h3, if_pos ⟨h3, h4⟩]
    · rw [if_neg h3, if_neg (fun h => h3 h.1)]
  · rw [if_neg h4, if_neg (fun h => h4 h.2)]
theorem cLoop {g g2 : Nat → Int32} {c n e m kb : Nat} {π : Nat → Nat} (hw : wfr g c n) (hs : stp g g2 c n e) (hm : m ≤ 8) (hπ : ∀ i, i < m → π i < c) :
    ∀ (k i : Nat) (D : qs_D), m - i < k → i ≤ m → D kb 0 = g2 1 → D kb 1 = g 2 → D kb 3 = g 0 → D kb 5 = nI m → (∀ j, j < 6 → D (kb + 1) j = g (6 + j)) → (∀ x, x < i → ∀ z, z < 6 → D (kb + 4 + x) z = g2 (12 + 6 * π x + z)) → (∀ x, i ≤ x → x < m → ∀ z, z < 6 → D (kb + 4 + x) z = g (12 + 6 * π x + z)) →
    ∃ D2, fX1_passStep_L19 kb k (nI e) (nI i) D = some ((), D2) ∧ kr D2 kb g2 m π ∧ kfr D D2 kb := by
  obtain ⟨w0, wn, w1, w2, w3, w5, wc, wl, wd, ws⟩ := hw
  obtain ⟨s0, s1, s2, s3, s4⟩ := hs
  intro k
  induction k with
  | zero => intro i D h1; omega
  | succ k ih =>
    intro i D hk hi d0 d1 d3 d5 dl da db
    unfold fX1_passStep_L19
    rw [d5]
    by_cases him : m ≤ i
    · have e0 : i = m := by omega
      subst e0
      rw [if_pos (nI_le (Nat.le_refl _) (by omega)), cMin, pl_bind, pl_let, d3, w0, nI_s]
      have e1 : mn 99999 (nI (n + 1)) = nI (min 99999 (n + 1)) := mn_nI (m := 99999) (by omega) (by decide)
      rw [e1]
      refine ⟨_, rfl, ?_, ?_⟩
      · rw [pu_eq]
        refine ⟨?_, ?_, ?_, ?_, ?_, ?_⟩
        · rw [pw_self, up_ne _ _ (by decide)]; exact d0
        · rw [pw_self, up_ne _ _ (by decide), d1, s2 2 (by decide) (by decide)]
        · rw [pw_self, up_self, s0]
        · rw [pw_self, up_ne _ _ (by decide)]; exact d5
        · intro j hj
          rw [pw_ne _ _ (by omega), dl j hj, s2 _ (by omega) (by omega)]
        · intro x hx z hz
          rw [pw_ne _ _ (by omega)]
          exact da x hx z hz
      · rw [pu_eq]
        refine ⟨fun x hx _ => pw_ne _ _ hx, fun z h0 h3 => ?_⟩
        rw [pw_self, up_ne _ _ h3]
    · have him' : i < m := by omega
      have hi8 : i < 8 := by omega
      rw [if_neg (nI_ge him' (by omega)), pl_gN (by decide) hi8, tnN (by omega), cCooking, pl_bind, db i (Nat.le_refl _) him' 3 (by decide), db i (Nat.le_refl _) him' 4 (by decide)]
      have hpi := hπ i him'
      by_cases hon : sR g (π i) 3 = 0 ∧ sR g (π i) 4 = 0
      · have hon' : g (12 + 6 * π i + 3) = 0 ∧ g (12 + 6 * π i + 4) = 0 := hon
        rw [if_pos hon', if_neg one0, pl_gN (by decide) hi8]
        obtain ⟨j, hj, ej⟩ := (wd (π i) hpi).1
        have hk0 : D (kb + 4 + i) 0 = nI j := (db i (Nat.le_refl _) him' 0 (by decide)).trans ej
        rw [cCook hj hk0, pl_bind, pl_let, nI_s]
        have hrow : ∀ z, z < 6 → sK j (D kb 0) (D kb 1) (nI e) (D (kb + 4 + i)) z = g2 (12 + 6 * π i + z) := by
          intro z hz
          rw [s3 (π i) hpi z hz, d0, d1, s1]
          unfold sDsh
          rw [if_pos hon, ej, tnN (by omega)]
          exact sK_congr (f := sR g (π i)) (fun q hq => db i (Nat.le_refl _) him' q hq) z hz
        obtain ⟨D2, r1, r2, r3⟩ := ih (i + 1) (qs_w D (kb + 4 + i) (sK j (D kb 0) (D kb 1) (nI e) (D (kb + 4 + i)))) (by omega) him'
          (by rw [pw_ne _ _ (by omega)]; exact d0) (by rw [pw_ne _ _ (by omega)]; exact d1) (by rw [pw_ne _ _ (by omega)]; exact d3) (by rw [pw_ne _ _ (by omega)]; exact d5)
          (fun q hq => by rw [pw_ne _ _ (by omega)]; exact dl q hq)
          (fun x hx z hz => by
            by_cases hxi : x = i
            · subst hxi
              rw [pw_self]
              exact hrow z hz
            · rw [pw_ne _ _ (by omega)]
              exact da x (by omega) z hz)
          (fun x hx hx2 z hz => by rw [pw_ne _ _ (by omega)]; exact db x (by omega) hx2 z hz)
        refine ⟨D2, r1, r2, kfr_tr ⟨fun x hx hx2 => pw_ne _ _ (by omega), fun q _ _ => by rw [pw_ne _ _ (by omega)]⟩ r3⟩
      · have hon' : ¬ (g (12 + 6 * π i + 3) = 0 ∧ g (12 + 6 * π i + 4) = 0) := hon
        rw [if_neg hon', if_pos rfl, pl_let, nI_s]
        refine ih (i + 1) D (by omega) him' d0 d1 d3 d5 dl ?_ (fun x hx hx2 z hz => db x (by omega) hx2 z hz)
        intro x hx z hz
        by_cases hxi : x = i
        · subst hxi
          rw [db x (Nat.le_refl _) him' z hz, s3 (π x) hpi z hz]
          unfold sDsh
          rw [if_neg hon]
          rfl
        · exact da x (by omega) z hz
/-- the class's kitchen goes the same step -/
theorem cStep {D : qs_D} {g g2 : Nat → Int32} {c n e m kb : Nat} {π : Nat → Nat} (hw : wfr g c n) (he : g (6 + n % 6) = nI e) (he2 : e < 12) (hs : stp g g2 c n e) (hm : m ≤ 8) (hπ : ∀ i, i < m → π i < c) (hk : kr D kb g m π) : ∃ D2, fX1_passStep kb D = some ((), D2) ∧ kr D2 kb g2 m π ∧ kfr D D2 kb := by
  have hw0 := hw
  obtain ⟨w0, wn, w1, w2, w3, w5, wc, wl, wd, ws⟩ := hw
  obtain ⟨k0, k1, k3, k5, kl, kd⟩ := hk
  unfold fX1_passStep
  rw [cDeed (k3.trans w0) wn, pl_bind, pl_let, kl (n % 6) (Nat.mod_lt _ (by decide)), he, k0, cGA w1 he2, pl_bind, pl_let, pl_let]
  obtain ⟨D2, r1, r2, r3⟩ := cLoop (kb := kb) hw0 hs hm hπ qs_F 0 (qs_u D kb 0 (sH (g 1) e)) (by rw [qs_F_eq]; omega) (Nat.zero_le _)
    (by rw [pu_eq, pw_self, up_self, hs.2.1]) (by rw [pu_eq, pw_self, up_ne _ _ (by decide)]; exact k1) (by rw [pu_eq, pw_self, up_ne _ _ (by decide)]; exact k3) (by rw [pu_eq, pw_self, up_ne _ _ (by decide)]; exact k5)
    (fun j hj => by rw [pu_eq, pw_ne _ _ (by omega)]; exact kl j hj) (fun x hx => absurd hx (by omega)) (fun x _ hx z hz => by rw [pu_eq, pw_ne _ _ (by omega)]; exact kd x hx z hz)
  exact ⟨D2, r1, r2, kfr_tr ⟨fun x hx _ => by rw [pu_eq, pw_ne _ _ hx], fun q h0 _ => by rw [pu_eq, pw_self, up_ne _ _ h0]⟩ r3⟩
