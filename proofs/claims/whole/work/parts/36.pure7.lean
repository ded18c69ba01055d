/-! PURE, 7: sets, sums, now, count, status -/
def vS (g : Nat → Int32) (w : Nat) : Nat → Nat → Int32 → Int32
  | 0, _, acc => acc
  | m + 1, i, acc => vS g w m (i + 1) (acc ||| (g (12 + 6 * i + w) <<< (nI i &&& 31)))
theorem cSplitSetL {X : qs_D} {g : Nat → Int32} {m kb : Nat} {π : Nat → Nat} (hm : m ≤ 8) (hπ : ∀ i, i < m → π i = i) (hk : kr X kb g m π) : ∀ (k i : Nat) (acc : Int32), m - i < k → i ≤ m → fX1_splitSet_L4 kb k acc (nI i) X = some (vS g 3 (m - i) i acc, X) := by
  intro k
  induction k with
  | zero => intro i acc h; omega
  | succ k ih =>
    intro i acc hk2 hi
    unfold fX1_splitSet_L4
    rw [hk.2.2.2.1]
    by_cases h : m ≤ i
    · rw [if_pos (nI_le h (by omega)), show m - i = 0 by omega]
      rfl
    · rw [if_neg (nI_ge (by omega) (by omega)), pl_gN (by decide) (by omega), pl_let, pl_let, tnN (by omega), hk.2.2.2.2.2 i (by omega) 3 (by decide), hπ i (by omega), nI_s, ih (i + 1) _ (by omega) (by omega), show m - i = (m - (i + 1)) + 1 by omega]
      rfl
theorem cSplitSet {X : qs_D} {g : Nat → Int32} {m kb : Nat} {π : Nat → Nat} (hm : m ≤ 8) (hπ : ∀ i, i < m → π i = i) (hk : kr X kb g m π) : fX1_splitSet kb X = some (vS g 3 m 0 0, X) := by
  unfold fX1_splitSet
  exact cSplitSetL hm hπ hk qs_F 0 0 (by rw [qs_F_eq]; omega) (Nat.zero_le _)
theorem cOffSetL {X : qs_D} {g : Nat → Int32} {m kb : Nat} {π : Nat → Nat} (hm : m ≤ 8) (hπ : ∀ i, i < m → π i = i) (hk : kr X kb g m π) : ∀ (k i : Nat) (acc : Int32), m - i < k → i ≤ m → fX1_offSet_L4 kb k acc (nI i) X = some (vS g 4 (m - i) i acc, X) := by
  intro k
  induction k with
  | zero => intro i acc h; omega
  | succ k ih =>
    intro i acc hk2 hi
    unfold fX1_offSet_L4
    rw [hk.2.2.2.1]
    by_cases h : m ≤ i
    · rw [if_pos (nI_le h (by omega)), show m - i = 0 by omega]
      rfl
    · rw [if_neg (nI_ge (by omega) (by omega)), pl_gN (by decide) (by omega), pl_let, pl_let, tnN (by omega), hk.2.2.2.2.2 i (by omega) 4 (by decide), hπ i (by omega), nI_s, ih (i + 1) _ (by omega) (by omega), show m - i = (m - (i + 1)) + 1 by omega]
      rfl
theorem cOffSet {X : qs_D} {g : Nat → Int32} {m kb : Nat} {π : Nat → Nat} (hm : m ≤ 8) (hπ : ∀ i, i < m → π i = i) (hk : kr X kb g m π) : fX1_offSet kb X = some (vS g 4 m 0 0, X) := by
  unfold fX1_offSet
  exact cOffSetL hm hπ hk qs_F 0 0 (by rw [qs_F_eq]; omega) (Nat.zero_le _)
theorem rSetL {M : qs_D} {c w : Nat} (h5 : M 1 5 = nI c) (hc : c ≤ 8) (hw : w < 6) : ∀ (k i : Nat) (acc : Int32), c - i < k → i ≤ c → fX5_setOf_L4 k (nI w) acc (nI i) M = some (vS (M 1) w (c - i) i acc, M) := by
  intro k
  induction k with
  | zero => intro i acc h; omega
  | succ k ih =>
    intro i acc hk2 hi
    unfold fX5_setOf_L4
    rw [g70_5, tn5, h5]
    by_cases h : c ≤ i
    · rw [if_pos (nI_le h (by omega)), show c - i = 0 by omega]
      rfl
    · rw [if_neg (nI_ge (by omega) (by omega)), it_g (by omega) hw rfl, pl_bind, pl_let, pl_let, nI_s, ih (i + 1) _ (by omega) (by omega), show c - i = (c - (i + 1)) + 1 by omega]
      rfl
theorem rSet {M : qs_D} {c w : Nat} (h5 : M 1 5 = nI c) (hc : c ≤ 8) (hw : w < 6) : fX5_setOf (nI w) M = some (vS (M 1) w c 0 0, M) := by
  unfold fX5_setOf
  exact rSetL h5 hc hw qs_F 0 0 (by rw [qs_F_eq]; omega) (Nat.zero_le _)
theorem or_0 (x : Int32) : x ||| 0 = x := by
  apply Int32.toBitVec_inj.mp
  rw [Int32.toBitVec_or]
  exact BitVec.or_zero
theorem endL {X M : qs_D} {c n kb : Nat} (hw : wfr (M 1) c n) (hk : kr X kb (M 1) c (fun i => i)) : ∀ (k i : Nat) (acc : Int32), c - i < k → i ≤ c → ∃ r, fX1_endangeredSet_L4 kb k acc (nI i) X = some (r, X) ∧ fX5_wouldSplit_L4 k acc (nI i) M = some (r, M) := by
  have hc8 := RR.c8 hw
  intro k
  induction k with
  | zero => intro i acc h; omega
  | succ k ih =>
    intro i acc hk2 hi
    unfold fX1_endangeredSet_L4 fX5_wouldSplit_L4
    rw [hk.2.2.2.1, g70_5, tn5, hw.2.2.2.2.2.1]
    by_cases h : c ≤ i
    · rw [if_pos (nI_le h (by omega)), if_pos (nI_le h (by omega))]
      exact ⟨acc, rfl, rfl⟩
    · have hi8 : i < 8 := by omega
      have hic : i < c := by omega
      obtain ⟨j, hj, ej⟩ := (hw.2.2.2.2.2.2.2.2.1 i hic).1
      have ej : M 1 (12 + 6 * i) = nI j := ej
      have hx0 : X (kb + 4 + i) 0 = nI j := (hk.2.2.2.2.2 i hic 0 (by decide)).trans ej
      rw [if_neg (nI_ge hic (by omega)), if_neg (nI_ge hic (by omega)), pl_gN (by decide) hi8, tnN (by omega), cCooking, rOn hi8, pl_bind, pl_bind, hk.2.2.2.2.2 i hic 3 (by decide), hk.2.2.2.2.2 i hic 4 (by decide)]
      by_cases hon : M 1 (12 + 6 * i + 3) = 0 ∧ M 1 (12 + 6 * i + 4) = 0
      · rw [if_pos hon, if_neg one0, if_neg one0, pl_gN (by decide) hi8, g70_1, tn1, cN hj hx0, rN hi8 hj ej, pl_bind, pl_bind, hk.1, hk.2.1, hk.2.2.2.2.2 i hic 1 (by decide)]
        by_cases hle : sN j (M 1 (12 + 6 * i + 1)) (M 1 2) ≤ M 1 1
        · rw [if_pos hle, if_pos hle, pl_let, pl_let, pl_let, or_0, nI_s]
          exact ih (i + 1) acc (by omega) (by omega)
        · rw [if_neg hle, if_neg hle, pl_let, pl_let, pl_let, pl_let, nI_s]
          exact ih (i + 1) _ (by omega) (by omega)
      · rw [if_neg hon, if_pos rfl, if_pos rfl, pl_let, pl_let, pl_let, or_0, nI_s]
        exact ih (i + 1) acc (by omega) (by omega)
theorem giveL {X M : qs_D} {c n kb : Nat} (hw : wfr (M 1) c n) (hk : kr X kb (M 1) c (fun i => i)) : ∀ (k i : Nat) (acc : Int32), c - i < k → i ≤ c → ∃ r, fX1_givenForAll_L4 kb k acc (nI i) X = some (r, X) ∧ fX5_allGive_L4 k acc (nI i) M = some (r, M) := by
  have hc8 := RR.c8 hw
  intro k
  induction k with
  | zero => intro i acc h; omega
  | succ k ih =>
    intro i acc hk2 hi
    unfold fX1_givenForAll_L4 fX5_allGive_L4
    rw [hk.2.2.2.1, g70_5, tn5, hw.2.2.2.2.2.1]
    by_cases h : c ≤ i
    · rw [if_pos (nI_le h (by omega)), if_pos (nI_le h (by omega))]
      exact ⟨acc, rfl, rfl⟩
    · have hic : i < c := by omega
      rw [if_neg (nI_ge hic (by omega)), if_neg (nI_ge hic (by omega)), cGiven hw hc8 hic hic hk, rGives hw hic, pl_bind, pl_bind, pl_let, pl_let, pl_let, pl_let, nI_s]
      exact ih (i + 1) _ (by omega) (by omega)
theorem giveA {X M : qs_D} {c n kb : Nat} (hw : wfr (M 1) c n) (hk : kr X kb (M 1) c (fun i => i)) : ∃ r, fX1_givenForAll kb X = some (r, X) ∧ fX5_allGive M = some (r, M) := by
  have hc8 := RR.c8 hw
  unfold fX1_givenForAll fX5_allGive
  exact giveL hw hk qs_F 0 0 (by rw [qs_F_eq]; omega) (Nat.zero_le _)
theorem finL {X M : qs_D} {c n kb : Nat} (hw : wfr (M 1) c n) (hk : kr X kb (M 1) c (fun i => i)) : ∀ (k i : Nat) (b t : Int32), c - i < k → i ≤ c → (b = -1 ∧ t = -1 ∨ ∃ e, e < c ∧ b = nI e ∧ t = vG (M 1) e) → ∃ r, fX1_dearest_L6 kb k b t (nI i) X = some (r, X) ∧ fX5_finest_L4 k b (nI i) M = some (r, M) := by
  have hc8 := RR.c8 hw
  intro k
  induction k with
  | zero => intro i b t h; omega
  | succ k ih =>
    intro i b t hk2 hi hbt
    unfold fX1_dearest_L6 fX5_finest_L4
    rw [hk.2.2.2.1, g70_5, tn5, hw.2.2.2.2.2.1]
    by_cases h : c ≤ i
    · rw [if_pos (nI_le h (by omega)), if_pos (nI_le h (by omega))]
      exact ⟨b, rfl, rfl⟩
    · have hic : i < c := by omega
      have hgv := cGiven (X := X) hw hc8 hic hic hk
      rw [if_neg (nI_ge hic (by omega)), if_neg (nI_ge hic (by omega)), hgv, pl_bind]
      rcases hbt with ⟨rfl, rfl⟩ | ⟨e, he, rfl, rfl⟩
      · rw [if_neg (neg1 (vG_b hw hic) (by decide)), hgv, pl_bind, pl_let, pl_let, pl_let, if_pos (by decide), pl_let, pl_let, nI_s]
        exact ih (i + 1) _ _ (by omega) (by omega) (Or.inr ⟨i, hic, rfl, rfl⟩)
      · rw [if_neg (nI_pos (by omega)), rGives hw hic, pl_bind, rGives hw he, pl_bind]
        by_cases hle : vG (M 1) i ≤ vG (M 1) e
        · rw [if_pos hle, if_pos hle, pl_let, pl_let, pl_let, nI_s]
          exact ih (i + 1) _ _ (by omega) (by omega) (Or.inr ⟨e, he, rfl, rfl⟩)
        · rw [if_neg hle, if_neg hle, hgv, pl_bind, pl_let, pl_let, pl_let, pl_let, pl_let, nI_s]
          exact ih (i + 1) _ _ (by omega) (by omega) (Or.inr ⟨i, hic, rfl, rfl⟩)
theorem m_now {X M : qs_D} (h : RR X M) (p1 : Int32) : OK (fX4_now p1 X) (fX5_now p1 M) := by
  obtain ⟨⟨c, n, hw, hk⟩, -⟩ := id h
  have hc8 := RR.c8 hw
  unfold fX4_now fX5_now
  by_cases h0 : p1 = 0
  · subst h0
    rw [if_pos rfl, if_pos rfl, hk.1.2.2.1]
    exact OK.mk h
  · rw [if_neg h0, if_neg h0]
    by_cases h1 : p1 = 1
    · subst h1
      rw [if_pos rfl, if_pos rfl, hk.1.1]
      exact OK.mk h
    · rw [if_neg h1, if_neg h1]
      by_cases h2 : p1 = 2
      · subst h2
        rw [if_pos rfl, if_pos rfl, g70_3, tn3, hk.2.1]
        exact OK.mk h
      · rw [if_neg h2, if_neg h2]
        by_cases h3 : p1 = 3
        · subst h3
          have hr : fX5_setOf 3 M = some (vS (M 1) 3 c 0 0, M) := rSet (w := 3) hw.2.2.2.2.2.1 hc8 (by decide)
          rw [if_pos rfl, if_pos rfl, cSplitSet hc8 (fun _ _ => rfl) hk.1, hr]
          exact OK.mk h
        · rw [if_neg h3, if_neg h3]
          by_cases h4 : p1 = 4
          · subst h4
            have hr : fX5_setOf 4 M = some (vS (M 1) 4 c 0 0, M) := rSet (w := 4) hw.2.2.2.2.2.1 hc8 (by decide)
            rw [if_pos rfl, if_pos rfl, cOffSet hc8 (fun _ _ => rfl) hk.1, hr]
            exact OK.mk h
          · rw [if_neg h4, if_neg h4]
            by_cases h5 : p1 = 5
            · subst h5
              obtain ⟨r, a1, a2⟩ := endL hw hk.1 qs_F 0 0 (by rw [qs_F_eq]; omega) (Nat.zero_le _)
              have b1 : fX1_endangeredSet 1 X = some (r, X) := a1
              have b2 : fX5_wouldSplit M = some (r, M) := a2
              rw [if_pos rfl, if_pos rfl, b1, b2]
              exact OK.mk h
            · rw [if_neg h5, if_neg h5]
              by_cases h6 : p1 = 6
              · subst h6
                obtain ⟨r, a1, a2⟩ := giveA hw hk.1
                rw [if_pos rfl, if_pos rfl, a1, a2]
                exact OK.mk h
              · rw [if_neg h6, if_neg h6]
                by_cases h7 : p1 = 7
                · subst h7
                  obtain ⟨r, a1, a2⟩ := finL hw hk.1 qs_F 0 (-1) (-1) (by rw [qs_F_eq]; omega) (Nat.zero_le _) (Or.inl ⟨rfl, rfl⟩)
                  have b1 : fX1_dearest 1 X = some (r, X) := a1
                  have b2 : fX5_finest M = some (r, M) := a2
                  rw [if_pos rfl, if_pos rfl, b1, b2]
                  exact OK.mk h
                · rw [if_neg h7, if_neg h7]
                  exact ok_f h (by decide : 0 < 7) (by decide)
