/-! PURE, 10: bits, counts, sheets -/
def bc (x : Int32) : Int32 := ((fJ6_bitCount_0f7a4 x (fun _ _ => 0)).getD (0, fun _ _ => 0)).1
theorem cBits (x : Int32) (D : qs_D) : fJ6_bitCount_0f7a4 x D = some (bc x, D) := rfl
def bl : Nat → Int32 → Int32 → Option Int32
  | 0, _, _ => none
  | k + 1, acc, x => if x = 0 then some acc else bl k (acc + 1) (x &&& (x - 1))
theorem rBitsL (w : Int32) (D : qs_D) : ∀ (k : Nat) (acc x : Int32), fX5_bits_L4 k w acc x D = (bl k acc x).map (fun r => (r, D)) := by
  intro k
  induction k with
  | zero => intro acc x; rfl
  | succ k ih =>
    intro acc x
    unfold fX5_bits_L4 bl
    by_cases h : x = 0
    · rw [if_pos h, if_pos h]; rfl
    · rw [if_neg h, if_neg h, pl_let, pl_let, ih]
theorem bl_bc : ∀ v, v < 256 → bl 4096 0 (nI v) = some (bc (nI v)) := by decide +kernel
theorem rBits {v : Nat} (hv : v < 256) (D : qs_D) : fX5_bits (nI v) D = some (bc (nI v), D) := by
  unfold fX5_bits
  rw [pl_let, pl_let, rBitsL, qs_F_eq, bl_bc v hv]
  rfl
/-- a set of bits, as a number -/
def nS (b : Nat → Nat) : Nat → Nat → Nat → Nat
  | 0, _, a => a
  | m + 1, i, a => nS b m (i + 1) (a + b i * 2 ^ i)
theorem vS_0 : ∀ i, i < 8 → ∀ a, a < 2 ^ i → ∀ b, b < 2 → nI a ||| (nI b <<< (nI i &&& 31)) = nI (a + b * 2 ^ i) := by decide +kernel
theorem vS_n {g : Nat → Int32} {w : Nat} {b : Nat → Nat} : ∀ (m i a : Nat), i + m ≤ 8 → a < 2 ^ i → (∀ j, i ≤ j → j < i + m → g (12 + 6 * j + w) = nI (b j) ∧ b j < 2) → vS g w m i (nI a) = nI (nS b m i a) ∧ nS b m i a < 2 ^ (i + m) := by
  intro m
  induction m with
  | zero => intro i a h1 h2 h3; exact ⟨rfl, h2⟩
  | succ m ih =>
    intro i a h1 h2 h3
    obtain ⟨e, hb⟩ := h3 i (Nat.le_refl _) (by omega)
    unfold vS nS
    rw [e, vS_0 i (by omega) a h2 (b i) hb]
    have h4 : a + b i * 2 ^ i < 2 ^ (i + 1) := by
      have : b i * 2 ^ i ≤ 1 * 2 ^ i := Nat.mul_le_mul_right _ (by omega)
      rw [Nat.pow_succ]
      omega
    have := ih (i + 1) (a + b i * 2 ^ i) (by omega) h4 (fun j h5 h6 => h3 j (by omega) (by omega))
    rw [show i + (m + 1) = i + 1 + m by omega]
    exact this
theorem vS_split {g : Nat → Int32} {c n : Nat} (hw : wfr g c n) : ∃ v, v < 256 ∧ vS g 3 c 0 0 = nI v := by
  have hc := RR.c8 hw
  have hb : ∀ d, ∃ b : Nat, d < c → g (12 + 6 * d + 3) = nI b ∧ b < 2 := by
    intro d
    by_cases hd : d < c
    · obtain ⟨k, hk, e⟩ := (hw.2.2.2.2.2.2.2.2.1 d hd).2.2.2.1
      exact ⟨k, fun _ => ⟨e, by omega⟩⟩
    · exact ⟨0, fun h => absurd h hd⟩
  obtain ⟨b, hb⟩ := Classical.axiomOfChoice hb
  have h := vS_n (g := g) (w := 3) (b := b) c 0 0 (by omega) (by decide) (fun j h1 h2 => hb j (by omega))
  refine ⟨nS b c 0 0, ?_, h.1⟩
  have h2 := h.2
  have : 2 ^ (0 + c) ≤ 2 ^ 8 := Nat.pow_le_pow_right (by decide) (by omega)
  omega
theorem heldL {X M : qs_D} (hs : ∀ j, j < 10 → X (1 + 2) j = M 1 (60 + j)) : ∀ (k k2 i : Nat) (acc : Int32), 10 - i < k → 10 - i < k2 → i ≤ 10 → ∃ r, fX1_heldSpots_L13 1 (1 + 2) k acc (Int32.ofNat 10) (nI i) X = some (r, X) ∧ fX5_manyHeld_L5 k2 acc (nI (60 + i)) M = some (r, M) := by
  intro k
  induction k with
  | zero => intro k2 i acc h; omega
  | succ k ih =>
    intro k2 i acc hk hk2 hi
    cases k2 with
    | zero => omega
    | succ k2 =>
      unfold fX1_heldSpots_L13 fX5_manyHeld_L5
      by_cases h10 : i = 10
      · subst h10
        rw [if_pos (by decide), if_pos (by decide)]
        exact ⟨acc, rfl, rfl⟩
      · rw [if_neg (show ¬ Int32.ofNat 10 ≤ nI i from nI_ge (a := i) (b := 10) (by omega) (by decide)), if_neg (show ¬ (70 : Int32) ≤ nI (60 + i) from nI_ge (a := 60 + i) (b := 70) (by omega) (by decide)), pl_gN (by decide) (by omega), pl_gN (by decide) (by omega), tnN (by omega), tnN (by omega), pl_let, hs i (by omega)]
        by_cases h0 : M 1 (60 + i) < 0
        · rw [if_pos h0, if_pos h0]
          simp only [pl_let]
          rw [add_0, nI_s, nI_s]
          exact ih k2 (i + 1) acc (by omega) (by omega) (by omega)
        · rw [if_neg h0, if_neg h0]
          simp only [pl_let]
          rw [nI_s, nI_s]
          exact ih k2 (i + 1) _ (by omega) (by omega) (by omega)
theorem held_eqX {X : qs_D} : fX1_heldSpots 1 X = fX1_heldSpots_L13 1 (1 + 2) qs_F 0 (Int32.ofNat 10) 0 X := by
  unfold fX1_heldSpots
  rw [pl_let, pl_let, pl_let]
theorem held_eqM {M : qs_D} : fX5_manyHeld M = fX5_manyHeld_L5 qs_F 0 60 M := by
  unfold fX5_manyHeld
  rw [pl_let, pl_let]
theorem held_rel {X M : qs_D} (hs : ∀ j, j < 10 → X (1 + 2) j = M 1 (60 + j)) : ∃ r, fX1_heldSpots 1 X = some (r, X) ∧ fX5_manyHeld M = some (r, M) := by
  rw [held_eqX, held_eqM]
  obtain ⟨F, hF⟩ : ∃ F, F = qs_F := ⟨_, rfl⟩
  rw [← hF]
  rw [qs_F_eq] at hF
  have hh := heldL hs F F 0 0 (by omega) (by omega) (by omega)
  exact hh
theorem m_count {X M : qs_D} (h : RR X M) (p1 : Int32) : OK (fX4_count p1 X) (fX5_count p1 M) := by
  obtain ⟨⟨c, n, hw, hk⟩, -, -, -, ⟨t, t1, t2, t3, t4⟩⟩ := id h
  have hc8 := RR.c8 hw
  unfold fX4_count fX5_count
  by_cases h0 : p1 = 0
  · subst h0
    rw [if_pos rfl, if_pos rfl, g70_0, tn0, hk.1.2.2.1]
    exact OK.mk h
  · rw [if_neg h0, if_neg h0]
    by_cases h1 : p1 = 1
    · subst h1
      rw [if_pos rfl, if_pos rfl, g70_5, tn5, hk.1.2.2.2.1, hw.2.2.2.2.2.1]
      exact OK.mk h
    · rw [if_neg h1, if_neg h1]
      by_cases h2 : p1 = 2
      · subst h2
        rw [if_pos rfl, if_pos rfl, g70_1, tn1, hk.1.1]
        exact OK.mk h
      · rw [if_neg h2, if_neg h2]
        by_cases h3 : p1 = 3
        · subst h3
          rw [if_pos rfl, if_pos rfl, g70_3, tn3, hk.2.1]
          exact OK.mk h
        · rw [if_neg h3, if_neg h3]
          by_cases h4 : p1 = 4
          · subst h4
            have hr : fX5_setOf 3 M = some (vS (M 1) 3 c 0 0, M) := rSet (w := 3) hw.2.2.2.2.2.1 hc8 (by decide)
            obtain ⟨v, hv, ev⟩ := vS_split hw
            rw [if_pos rfl, if_pos rfl, cSplitSet hc8 (fun _ _ => rfl) hk.1, hr, pl_bind, pl_bind, ev, cBits, rBits hv, pl_bind, pl_bind]
            exact OK.mk h
          · rw [if_neg h4, if_neg h4]
            by_cases h5 : p1 = 5
            · subst h5
              rw [if_pos rfl, if_pos rfl, t2, t3]
              exact OK.mk h
            · rw [if_neg h5, if_neg h5]
              by_cases h6 : p1 = 6
              · subst h6
                rw [if_pos rfl, if_pos rfl, g70_4, tn4, hk.2.2.1]
                exact OK.mk h
              · rw [if_neg h6, if_neg h6]
                by_cases h7 : p1 = 7
                · subst h7
                  obtain ⟨r, a1, a2⟩ := held_rel hk.2.2.2
                  rw [if_pos rfl, if_pos rfl, a1, a2]
                  exact OK.mk h
                · rw [if_neg h7, if_neg h7]
                  exact ok_f h (by decide : 0 < 7) (by decide)
/-! sheets -/
theorem cFault {X : qs_D} {s : Nat} (hs : s < 4) : fX4_faultOfSheet (nI s) X = some (if X (41 + 2 * s) 0 = 0 then 5 else -1, X) := by
  unfold fX4_faultOfSheet
  rw [cIsSheet, pl_bind, if_pos (show 0 ≤ nI s ∧ nI s ≤ 3 from ⟨nI_pos' (by omega), nI_le (b := 3) (by omega) (by decide)⟩), if_neg one0, pl_gN (by decide) hs, tnN (by omega)]
  unfold fX2_isMissing
  by_cases h : X (41 + 2 * s) 0 = 0
  · rw [if_pos h, if_pos h, pl_bind, if_neg one0]
  · rw [if_neg h, if_neg h, pl_bind, if_pos rfl]
theorem rFault {M : qs_D} {s : Nat} (hs : s < 4) : fX5_notThere (nI s) M = some (if M 5 s = 0 then -1000006 else 0, M) := by
  unfold fX5_notThere
  rw [rIsSheet, pl_bind, if_pos (show 0 ≤ nI s ∧ nI s ≤ 3 from ⟨nI_pos' (by omega), nI_le (b := 3) (by omega) (by decide)⟩), if_neg one0, pl_gN (by decide) hs, tnN (by omega)]
  by_cases h : M 5 s = 0
  · rw [if_pos h, if_pos h]
  · rw [if_neg h, if_neg h]
theorem cFaultN {X : qs_D} {p : Int32} (h : ¬ (0 ≤ p ∧ p ≤ 3)) : fX4_faultOfSheet p X = some (0, X) := by
  unfold fX4_faultOfSheet
  rw [cIsSheet, pl_bind, if_neg h, if_pos rfl]
theorem rFaultN {M : qs_D} {p : Int32} (h : ¬ (0 ≤ p ∧ p ≤ 3)) : fX5_notThere p M = some (-1000001, M) := by
  unfold fX5_notThere
  rw [rIsSheet, pl_bind, if_neg h, if_pos rfl]
theorem ix160 : ∀ s, s < 4 → ∀ i, i < 40 → (40 : Int32) * nI s + nI i = nI (40 * s + i) := by decide +kernel
/-- the finding of a sheet that isn't there, on both sides -/
theorem ok_f0 {X M : qs_D} (h : RR X M) : OK (qs_bind (fX4_found (0 : Int32) X) (fun x D => some (x, D))) (qs_bind (fX5_finds (-1000001 : Int32) M) (fun x D => some (x, D))) := ok_f h (by decide : 0 < 7) (by decide)
theorem ok_f5 {X M : qs_D} (h : RR X M) : OK (qs_bind (fX4_found (5 : Int32) X) (fun x D => some (x, D))) (qs_bind (fX5_finds (-1000006 : Int32) M) (fun x D => some (x, D))) := ok_f h (by decide : 5 < 7) (by decide)
theorem loadL {s L : Nat} (hs : s < 4) (hL : L ≤ 40) {p1 w2 v2 : Int32} : ∀ (k i : Nat) (X M : qs_D), 7 - i < k → i ≤ 6 → RR X M → M 6 s = nI L → OK (fX4_load_L27 (41 + 2 * s) k p1 w2 (nI i) X) (fX5_load_L18 k (nI s) v2 (nI i) M) := by
  intro k
  induction k with
  | zero => intro i X M h; omega
  | succ k ih =>
    intro i X M hk hi h hL2
    obtain ⟨⟨c, n, hw, hkf⟩, -, -, hsh, -⟩ := id h
    obtain ⟨q0, q1, q2, q3, q4⟩ := hsh s hs
    unfold fX4_load_L27 fX5_load_L18
    rw [pl_gN (by decide) hs, tnN (d := s) (by omega), hL2, q1, hL2]
    by_cases hiL : L ≤ i
    · rw [if_pos (nI_le hiL (by omega)), if_pos (nI_le hiL (by omega))]
      split
      · exact OK.mk h
      · exact OK.mk h
    · rw [if_neg (nI_ge (by omega) (by omega)), if_neg (nI_ge (by omega) (by omega))]
      by_cases hi6 : i = 6
      · subst hi6
        rw [if_pos (by decide), if_pos (by decide)]
        exact OK.mk h
      · have hlt : ¬ (6 : Int32) ≤ nI i := nI_ge (a := i) (b := 6) (by omega) (by decide)
        rw [if_neg hlt, if_neg hlt, ix160 s hs i (by omega), pl_gN (d := i) (n := 40) (by decide) (by omega), pl_gN (d := 40 * s + i) (by decide) (by omega), tnN (d := 40 * s + i) (by omega), tnN (d := i) (by omega)]
        have eX : X (41 + 2 * s + 1) i = M 7 (40 * s + i) := by
          have := q4 i (by omega)
          rw [show 42 + 2 * s = 41 + 2 * s + 1 by omega] at this
          exact this
        rw [eX, cIsDeed, rIsDeed, pl_bind, pl_bind]
        by_cases hd : 0 ≤ M 7 (40 * s + i) ∧ M 7 (40 * s + i) ≤ 11
        · have e6 : (6 : Int32) + nI i = nI (6 + i) := nI_add 6 i
          rw [if_pos hd, if_neg one0, if_neg one0, pl_gN (d := i) (n := 40) (by decide) (by omega), pl_gN (d := i) (n := 6) (by decide) (by omega), pl_gN (d := 40 * s + i) (by decide) (by omega), e6, pl_gN (d := 6 + i) (by decide) (by omega), tnN (d := 6 + i) (by omega), eX]
          simp only [pl_let]
          rw [nI_s]
          refine ih (i + 1) _ _ (by omega) (by omega) ?_ (by rw [pu_eq, pw_ne _ _ (by decide)]; exact hL2)
          refine RR_k h (fun x h1 _ => by rw [pu_eq, pw_ne _ _ (by omega)]) (fun x h1 _ => by rw [pu_eq, pw_ne _ _ h1]) (c := c) (n := n) ?_ ?_
          · rw [pu_eq, pw_self]; exact wfr_l hw (by omega) (nat_le rfl (by decide) hd)
          · rw [pu_eq M, pw_self]; exact kf_l (by omega) hkf
        · rw [if_neg hd, if_pos rfl, if_pos rfl]
          exact OK.mk h
theorem m_load {X M : qs_D} (h : RR X M) (p1 : Int32) : OK (fX4_load p1 X) (fX5_load p1 M) := by
  obtain ⟨-, -, -, hsh, -⟩ := id h
  unfold fX4_load fX5_load
  by_cases h1 : 0 ≤ p1 ∧ p1 ≤ 3
  · obtain ⟨s, hs, rfl⟩ := nat_le (n := 3) rfl (by decide) h1
    obtain ⟨q0, q1, q2, ⟨L, hL, eL⟩, q4⟩ := hsh s (by omega)
    rw [cFault (by omega), rFault (by omega), pl_bind, pl_bind, q0]
    by_cases hb : M 5 s = 0
    · rw [if_pos hb, if_pos hb]
      simp only [pl_let]
      rw [if_neg (by decide), if_neg (by decide)]
      exact ok_f5 h
    · rw [if_neg hb, if_neg hb]
      simp only [pl_let, if_true]
      rw [pl_gN (by decide) (by omega), tnN (by omega)]
      obtain ⟨F, hF⟩ : ∃ F, F = qs_F := ⟨_, rfl⟩
      rw [← hF]
      rw [qs_F_eq] at hF
      exact loadL (by omega) hL F 0 X M (by omega) (by omega) h eL
  · rw [cFaultN h1, rFaultN h1, pl_bind, pl_bind]
    simp only [pl_let]
    rw [if_neg (by decide), if_neg (by decide)]
    exact ok_f0 h
theorem judgeL {X M : qs_D} {s L c n : Nat} {p1 w2 v2 : Int32} (h : RR X M) (hw : wfr (M 1) c n) (hkf : kf X 1 (M 1) c) (hs : s < 4) (hL : L ≤ 40) (hL2 : M 6 s = nI L) : ∀ (k i : Nat), L - i < k → i ≤ L → OK (fX4_judge_L27 (41 + 2 * s) k p1 w2 (nI i) X) (fX5_judge_L18 k (nI s) v2 (nI i) M) := by
  have hc8 := RR.c8 hw
  obtain ⟨-, -, -, hsh, -⟩ := id h
  obtain ⟨q0, q1, q2, q3, q4⟩ := hsh s hs
  intro k
  induction k with
  | zero => intro i h; omega
  | succ k ih =>
    intro i hk hi
    unfold fX4_judge_L27 fX5_judge_L18
    rw [pl_gN (by decide) hs, tnN (d := s) (by omega), hL2, q1, hL2]
    by_cases hiL : L ≤ i
    · rw [if_pos (nI_le hiL (by omega)), if_pos (nI_le hiL (by omega))]
      exact OK.mk h
    · rw [if_neg (nI_ge (by omega) (by omega)), if_neg (nI_ge (by omega) (by omega)), cIsDish hkf.1.2.2.2.1, rIsDish hw.2.2.2.2.2.1, pl_bind, pl_bind]
      by_cases hd : 0 ≤ nI i ∧ nI i ≤ nI c - 1
      · obtain ⟨d, hdc, ed⟩ := nat_dish hc8 hd
        have hid : i = d := (nI_eq (by omega) (by omega)).mp ed
        subst hid
        have eX : X (41 + 2 * s + 1) i = M 7 (40 * s + i) := by
          have := q4 i (by omega)
          rw [show 42 + 2 * s = 41 + 2 * s + 1 by omega] at this
          exact this
        rw [if_pos hd, if_neg one0, if_neg one0, pl_gN (d := i) (n := 8) (by decide) (by omega), pl_gN (d := i) (n := 40) (by decide) (by omega), ix160 s hs i (by omega), pl_gN (d := 40 * s + i) (by decide) (by omega), it1 (by omega), pl_bind, tnN (d := i) (by omega), tnN (d := 40 * s + i) (by omega), eX, hkf.1.2.2.2.2.2 i hdc 1 (by decide)]
        by_cases he : M 1 (12 + 6 * i + 1) = M 7 (40 * s + i)
        · rw [if_pos he, if_pos he.symm]
          simp only [pl_let]
          rw [nI_s]
          exact ih (i + 1) (by omega) (by omega)
        · rw [if_neg he, if_neg (fun q => he q.symm)]
          exact OK.mk h
      · rw [if_neg hd, if_pos rfl, if_pos rfl]
        exact OK.mk h
theorem m_judge {X M : qs_D} (h : RR X M) (p1 : Int32) : OK (fX4_judge p1 X) (fX5_judge p1 M) := by
  obtain ⟨⟨c, n, hw, hkf⟩, -, -, hsh, -⟩ := id h
  unfold fX4_judge fX5_judge
  by_cases h1 : 0 ≤ p1 ∧ p1 ≤ 3
  · obtain ⟨s, hs, rfl⟩ := nat_le (n := 3) rfl (by decide) h1
    obtain ⟨q0, q1, q2, ⟨L, hL, eL⟩, q4⟩ := hsh s (by omega)
    rw [cFault (by omega), rFault (by omega), pl_bind, pl_bind, q0]
    by_cases hb : M 5 s = 0
    · rw [if_pos hb, if_pos hb]
      simp only [pl_let]
      rw [if_neg (by decide), if_neg (by decide)]
      exact ok_f5 h
    · rw [if_neg hb, if_neg hb]
      simp only [pl_let, if_true]
      rw [pl_gN (by decide) (by omega), tnN (by omega)]
      obtain ⟨F, hF⟩ : ∃ F, F = qs_F := ⟨_, rfl⟩
      rw [← hF]
      rw [qs_F_eq] at hF
      exact judgeL h hw hkf (by omega) hL eL F 0 (by omega) (by omega)
  · rw [cFaultN h1, rFaultN h1, pl_bind, pl_bind]
    simp only [pl_let]
    rw [if_neg (by decide), if_neg (by decide)]
    exact ok_f0 h
/-- only sheets have changed -/
theorem RR_s {X M X2 M2 : qs_D} (h : RR X M) (hx : ∀ x, ¬ (41 ≤ x ∧ x < 49) → X2 x = X x) (hm : ∀ x, x ≠ 5 → x ≠ 6 → x ≠ 7 → M2 x = M x) (hs : shr X2 M2) : RR X2 M2 := by
  obtain ⟨⟨c, n, hw, hk⟩, ⟨b1, b2⟩, d1, -, ⟨t, t1, t2, t3, t4⟩⟩ := h
  have hc8 := RR.c8 hw
  refine ⟨⟨c, n, by rw [hm 1 (by decide) (by decide) (by decide)]; exact hw, by rw [hm 1 (by decide) (by decide) (by decide)]; exact kf_fr hc8 (fun x _ _ => hx x (by omega)) hk⟩, ⟨by rw [hx 0 (by omega), hm 0 (by decide) (by decide) (by decide)]; exact b1, ?_⟩, ?_, hs, ?_⟩
  · rw [hm 0 (by decide) (by decide) (by decide), hm 2 (by decide) (by decide) (by decide)]
    rcases b2 with b2 | ⟨b2, c2, n2, b3, b4⟩
    · exact Or.inl b2
    · exact Or.inr ⟨b2, c2, n2, b3, kf_fr b3.2.2.2.2.2.2.1 (fun x _ _ => hx x (by omega)) b4⟩
  · intro j hj
    rw [hx 40 (by omega), hm 4 (by decide) (by decide) (by decide)]
    exact d1 j hj
  · refine ⟨t, t1, by rw [hx 37 (by omega)]; exact t2, by rw [hm 0 (by decide) (by decide) (by decide)]; exact t3, fun k hk => ?_⟩
    rw [hx 38 (by omega), hm 8 (by decide) (by decide) (by decide)]
    exact t4 k hk
theorem RR_cell {X M : qs_D} {s i : Nat} {v : Int32} (h : RR X M) (hs : s < 4) (hi : i < 40) : RR (qs_u X (41 + 2 * s + 1) i v) (qs_u M 7 (40 * s + i) v) := by
  obtain ⟨-, -, -, hsh, -⟩ := id h
  refine RR_s h (fun x hx => by rw [pu_eq, pw_ne _ _ (by omega)]) (fun x h5 h6 h7 => by rw [pu_eq, pw_ne _ _ h7]) ?_
  intro z hz
  obtain ⟨q0, q1, q2, q3, q4⟩ := hsh z hz
  rw [pu_eq M, pw_ne _ _ (by decide), pw_ne _ _ (by decide), pw_self, pu_eq]
  refine ⟨by rw [pw_ne _ _ (by omega)]; exact q0, by rw [pw_ne _ _ (by omega)]; exact q1, q2, q3, fun j hj => ?_⟩
  by_cases hzs : z = s
  · subst hzs
    rw [show 42 + 2 * z = 41 + 2 * z + 1 by omega, pw_self]
    by_cases hji : j = i
    · subst hji; rw [up_self, up_self]
    · rw [up_ne _ _ hji, up_ne _ _ (by omega), show 41 + 2 * z + 1 = 42 + 2 * z by omega]; exact q4 j hj
  · rw [pw_ne _ _ (by omega), up_ne _ _ (by omega)]; exact q4 j hj
theorem m_write {X M : qs_D} (h : RR X M) (p1 p2 p3 : Int32) : OK (fX4_write p1 p2 p3 X) (fX5_write p1 p2 p3 M) := by
  obtain ⟨-, -, -, hsh, -⟩ := id h
  unfold fX4_write fX5_write
  by_cases h1 : 0 ≤ p1 ∧ p1 ≤ 3
  · obtain ⟨s, hs, rfl⟩ := nat_le (n := 3) rfl (by decide) h1
    have hs4 : s < 4 := by omega
    obtain ⟨q0, q1, q2, ⟨L, hL, eL⟩, q4⟩ := hsh s hs4
    rw [cFault hs4, rFault hs4, pl_bind, pl_bind, q0]
    by_cases hb : M 5 s = 0
    · rw [if_pos hb, if_pos hb]
      simp only [pl_let]
      rw [if_neg (by decide), if_neg (by decide), if_neg (by decide)]
      exact ok_f5 h
    · rw [if_neg hb, if_neg hb]
      simp only [pl_let, if_true]
      rw [pl_gN (by decide) hs4, pl_gN (by decide) hs4, tnN (by omega), q1, eL, cWithin, rIn, pl_bind, pl_bind]
      by_cases h2 : 0 ≤ p2 ∧ p2 ≤ nI L - 1
      · have hL0 : ∃ i, i < L ∧ p2 = nI i := by
          obtain ⟨k, hk, e⟩ := nI_of (Int32.not_lt.mpr h2.1)
          subst e
          cases L with
          | zero => exact absurd (Int32.lt_of_le_of_lt h2.2 (by decide : nI 0 - 1 < nI 0)) (nI_nlt (Nat.zero_le k) hk)
          | succ L =>
            rw [nI_pred] at h2
            exact ⟨k, by have := (nI_leI hk (by omega)).mp h2.2; omega, rfl⟩
        obtain ⟨i, hi, rfl⟩ := hL0
        rw [if_pos h2, if_neg one0, if_neg one0, pl_gN (by decide) hs4, pl_gN (by decide) hs4, pl_gN (by decide) hs4, ix160 s hs4 i (by omega), tnN (by omega)]
        unfold fX2_put
        rw [q0, tnN (by omega), pl_gN (by decide) (by omega), pl_gN (by decide) (by omega), pl_gN (by decide) (by omega), pl_gN (by decide) (by omega), pl_gN (by decide) (by omega), pl_gN (by decide) (by omega)]
        by_cases h8 : M 5 s = 8
        · rw [if_pos h8, if_pos h8]
          simp only [pl_let, pl_bind]
          exact OK.mk (RR_cell h hs4 (by omega))
        · rw [if_neg h8, if_neg h8]
          by_cases h16 : M 5 s = 16
          · rw [if_pos h16, if_pos h16]
            simp only [pl_let, pl_bind]
            exact OK.mk (RR_cell h hs4 (by omega))
          · rw [if_neg h16, if_neg h16]
            simp only [pl_let, pl_bind]
            exact OK.mk (RR_cell h hs4 (by omega))
      · rw [if_neg h2, if_pos rfl, if_pos rfl, if_neg (by decide)]
        exact ok_f0 h
  · rw [cFaultN h1, rFaultN h1, pl_bind, pl_bind]
    simp only [pl_let]
    rw [if_neg (by decide), if_neg (by decide), if_neg (by decide)]
    exact ok_f0 h
