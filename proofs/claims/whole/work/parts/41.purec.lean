/-! sheet -/
theorem fillL {r n0 : Nat} {v : Int32} (hn : n0 ≤ 200) (D : qs_D) : ∀ (k i : Nat) (f : Nat → Int32), n0 - i < k → i ≤ n0 → (∀ x, x < i → f x = v) → ∃ f2, fJ7_fill_53178_L5 r n0 k v (nI i) (Int32.ofNat n0) (qs_w D r f) = some ((), qs_w D r f2) ∧ ∀ x, x < n0 → f2 x = v := by
  intro k
  induction k with
  | zero => intro i f h; omega
  | succ k ih =>
    intro i f hk hi hf
    unfold fJ7_fill_53178_L5
    by_cases hin : n0 ≤ i
    · rw [if_pos (show Int32.ofNat n0 ≤ nI i from nI_le hin (by omega))]
      exact ⟨f, rfl, fun x hx => hf x (by omega)⟩
    · rw [if_neg (show ¬ Int32.ofNat n0 ≤ nI i from nI_ge (by omega) (by omega)), pl_gN (d := i) (n := n0) (by omega) (by omega), tnN (d := i) (by omega)]
      simp only [pl_let]
      rw [pu_eq, pw_w, pw_self, nI_s]
      refine ih (i + 1) _ (by omega) (by omega) (fun x hx => ?_)
      by_cases hxi : x = i
      · subst hxi; exact up_self _ _ _
      · rw [up_ne _ _ hxi]; exact hf x (by omega)
theorem cFill {r n0 : Nat} {v : Int32} (hn : n0 ≤ 200) (D : qs_D) : ∃ f2, fJ7_fill_53178 r n0 v D = some ((), qs_w D r f2) ∧ ∀ x, x < n0 → f2 x = v := by
  unfold fJ7_fill_53178
  obtain ⟨F, hF⟩ : ∃ F, F = qs_F := ⟨_, rfl⟩
  rw [← hF]
  rw [qs_F_eq] at hF
  simp only [pl_let]
  have h := fillL (r := r) (v := v) hn D F 0 (D r) (by omega) (by omega) (fun x hx => absurd hx (by omega))
  rw [pw_id] at h
  exact h
theorem sheetL {s : Nat} {b p3 : Int32} {g : Nat → Int32} (hs : s < 4) (D : qs_D) : ∀ (k i : Nat) (f : Nat → Int32), 40 - i < k → i ≤ 40 → (∀ j, j < i → f (40 * s + j) = 0) → (∀ x, ¬ (40 * s ≤ x ∧ x < 40 * s + 40) → f x = g x) → ∃ f2, fX5_sheet_L85 k (nI s) b p3 (nI i) (qs_w D 7 f) = some (D 6 s, qs_w D 7 f2) ∧ (∀ j, j < 40 → f2 (40 * s + j) = 0) ∧ (∀ x, ¬ (40 * s ≤ x ∧ x < 40 * s + 40) → f2 x = g x) := by
  intro k
  induction k with
  | zero => intro i f h; omega
  | succ k ih =>
    intro i f hk hi hf hg
    unfold fX5_sheet_L85
    by_cases hin : 40 ≤ i
    · rw [if_pos (show (40 : Int32) ≤ nI i from nI_le (a := 40) hin (by omega)), pl_gN (by decide) hs, tnN (d := s) (by omega), pw_ne _ _ (by decide)]
      exact ⟨f, rfl, fun x hx => hf x (by omega), hg⟩
    · rw [if_neg (show ¬ (40 : Int32) ≤ nI i from nI_ge (b := 40) (by omega) (by omega)), ix160 s hs i (by omega), pl_gN (d := 40 * s + i) (by decide) (by omega), tnN (d := 40 * s + i) (by omega)]
      simp only [pl_let]
      rw [pu_eq, pw_w, pw_self, nI_s]
      refine ih (i + 1) _ (by omega) (by omega) (fun x hx => ?_) (fun x hx => ?_)
      · by_cases hxi : x = i
        · subst hxi; exact up_self _ _ _
        · rw [up_ne _ _ (by omega)]; exact hf x (by omega)
      · rw [up_ne _ _ (by omega)]; exact hg x hx
theorem sheetCore {X M : qs_D} {s F : Nat} {b l p3 : Int32} (h : RR X M) (hs : s < 4) (hb : b = 0 ∨ b = 8 ∨ b = 16 ∨ b = 32) (hl : qb l 40) (hF : F = 4096) : OK (qs_bind (fX2_renew (41 + 2 * s) b l X) (fun _ D => some (D (41 + 2 * s) 1, D))) (fX5_sheet_L85 F (nI s) b p3 0 (qs_u (qs_u M 5 s b) 6 s l)) := by
  obtain ⟨-, -, -, hsh, -⟩ := id h
  unfold fX2_renew
  simp only [pl_let]
  obtain ⟨f, e1, e2⟩ := cFill (r := 41 + 2 * s + 1) (n0 := 40) (v := 0) (by decide) (qs_u (qs_u X (41 + 2 * s) 0 b) (41 + 2 * s) 1 l)
  obtain ⟨f2, e3, e4, e5⟩ := sheetL (s := s) (b := b) (p3 := p3) (g := M 7) hs (qs_u (qs_u M 5 s b) 6 s l) F 0 (M 7) (by omega) (by omega) (fun j hj => absurd hj (by omega)) (fun _ _ => rfl)
  have e0 : qs_w (qs_u (qs_u M 5 s b) 6 s l) 7 (M 7) = qs_u (qs_u M 5 s b) 6 s l := by
    funext x
    by_cases hx : x = 7
    · subst hx; rw [pw_self, pu_eq, pw_ne _ _ (by decide), pu_eq, pw_ne _ _ (by decide)]
    · rw [pw_ne _ _ hx]
  rw [e0] at e3
  have e3 : fX5_sheet_L85 F (nI s) b p3 0 (qs_u (qs_u M 5 s b) 6 s l) = some ((qs_u (qs_u M 5 s b) 6 s l) 6 s, qs_w (qs_u (qs_u M 5 s b) 6 s l) 7 f2) := e3
  rw [e1, e3, pl_bind, pl_bind]
  have ea : (qs_w (qs_u (qs_u X (41 + 2 * s) 0 b) (41 + 2 * s) 1 l) (41 + 2 * s + 1) f) (41 + 2 * s) 1 = l := by
    rw [pw_ne _ _ (by omega), pu_eq, pw_self, up_self]
  have eb : (qs_u (qs_u M 5 s b) 6 s l) 6 s = l := by rw [pu_eq, pw_self, up_self]
  rw [ea, eb]
  refine OK.mk (RR_s h (fun x hx => ?_) (fun x h5 h6 h7 => ?_) ?_)
  · rw [pw_ne _ _ (by omega), pu_eq, pw_ne _ _ (by omega), pu_eq, pw_ne _ _ (by omega)]
  · rw [pw_ne _ _ h7, pu_eq, pw_ne _ _ h6, pu_eq, pw_ne _ _ h5]
  · intro z hz
    obtain ⟨q0, q1, q2, q3, q4⟩ := hsh z hz
    have m5 : (qs_w (qs_u (qs_u M 5 s b) 6 s l) 7 f2) 5 = upd (M 5) s b := by rw [pw_ne _ _ (by decide), pu_eq, pw_ne _ _ (by decide), pu_eq, pw_self]
    have m6 : (qs_w (qs_u (qs_u M 5 s b) 6 s l) 7 f2) 6 = upd (M 6) s l := by rw [pw_ne _ _ (by decide), pu_eq, pw_self, pu_eq, pw_ne _ _ (by decide)]
    rw [m5, m6, pw_self]
    by_cases hzs : z = s
    · subst hzs
      have x0 : (qs_w (qs_u (qs_u X (41 + 2 * z) 0 b) (41 + 2 * z) 1 l) (41 + 2 * z + 1) f) (41 + 2 * z) = upd (upd (X (41 + 2 * z)) 0 b) 1 l := by
        rw [pw_ne _ _ (by omega), pu_eq, pw_self, pu_eq, pw_self]
      rw [x0, up_self, up_self, up_ne _ _ (by decide), up_self, up_self]
      refine ⟨rfl, rfl, hb, hl, fun i hi => ?_⟩
      rw [show 42 + 2 * z = 41 + 2 * z + 1 by omega, pw_self, e2 i hi, e4 i hi]
    · have x0 : (qs_w (qs_u (qs_u X (41 + 2 * s) 0 b) (41 + 2 * s) 1 l) (41 + 2 * s + 1) f) (41 + 2 * z) = X (41 + 2 * z) := by
        rw [pw_ne _ _ (by omega), pu_eq, pw_ne _ _ (by omega), pu_eq, pw_ne _ _ (by omega)]
      have x1 : (qs_w (qs_u (qs_u X (41 + 2 * s) 0 b) (41 + 2 * s) 1 l) (41 + 2 * s + 1) f) (42 + 2 * z) = X (42 + 2 * z) := by
        rw [pw_ne _ _ (by omega), pu_eq, pw_ne _ _ (by omega), pu_eq, pw_ne _ _ (by omega)]
      rw [x0, x1, up_ne _ _ hzs, up_ne _ _ hzs]
      refine ⟨q0, q1, q2, q3, fun i hi => ?_⟩
      rw [e5 _ (by omega)]
      exact q4 i hi
theorem m_sheet {X M : qs_D} (h : RR X M) (p1 p2 p3 : Int32) : OK (fX4_sheet p1 p2 p3 X) (fX5_sheet p1 p2 p3 M) := by
  unfold fX4_sheet fX5_sheet
  obtain ⟨F, hF⟩ : ∃ F, F = qs_F := ⟨_, rfl⟩
  rw [← hF]
  rw [qs_F_eq] at hF
  simp only [pl_let, cIsSheet, rIsSheet, pl_bind]
  by_cases h1 : 0 ≤ p1 ∧ p1 ≤ 3
  · obtain ⟨s, hs, rfl⟩ := nat_le (n := 3) rfl (by decide) h1
    have hs4 : s < 4 := by omega
    have g4 : ∀ (T : Option (Int32 × qs_D)), qs_g (nI s) 4 T = T := fun T => pl_gN (by decide) hs4
    have ts : (nI s).toNatClampNeg = s := tnN (by omega)
    simp only [if_pos h1, if_neg one0, g4, ts, if_true]
    by_cases hp2 : p2 = 0 ∨ p2 = 8 ∨ p2 = 16 ∨ p2 = 32
    · by_cases h3 : 0 ≤ p3
      · by_cases h4 : p3 ≤ 40
        · have hl : qb p3 40 := nat_le (n := 40) rfl (by decide) ⟨h3, h4⟩
          rcases id hp2 with rfl | rfl | rfl | rfl <;> simp (decide := true) only [if_pos h3, if_pos h4, ↓reduceIte]
          · exact sheetCore h hs4 hp2 ⟨0, by decide, rfl⟩ hF
          · exact sheetCore h hs4 hp2 hl hF
          · exact sheetCore h hs4 hp2 hl hF
          · exact sheetCore h hs4 hp2 hl hF
        · rcases id hp2 with rfl | rfl | rfl | rfl <;> simp (decide := true) only [if_pos h3, if_neg h4, ↓reduceIte] <;> exact ok_f h (by decide : 0 < 7) (by decide)
      · rcases id hp2 with rfl | rfl | rfl | rfl <;> simp (decide := true) only [if_neg h3, ↓reduceIte] <;> exact ok_f h (by decide : 6 < 7) (by decide)
    · have n0 : ¬ p2 = 0 := fun q => hp2 (Or.inl q)
      have n8 : ¬ p2 = 8 := fun q => hp2 (Or.inr (Or.inl q))
      have n16 : ¬ p2 = 16 := fun q => hp2 (Or.inr (Or.inr (Or.inl q)))
      have n32 : ¬ p2 = 32 := fun q => hp2 (Or.inr (Or.inr (Or.inr q)))
      simp only [if_neg n0, if_neg n8, if_neg n16, if_neg n32]
      exact ok_f h (by decide : 0 < 7) (by decide)
  · simp only [if_neg h1, if_true]
    have : OK (qs_bind (fX4_found (0 : Int32) X) (fun x D => some (x, D))) (qs_bind (fX5_finds (-1000001 : Int32) M) (fun x D => some (x, D))) := ok_f h (by decide : 0 < 7) (by decide)
    by_cases n0 : p2 = 0
    · rw [if_pos n0]; exact this
    · rw [if_neg n0]
      by_cases n8 : p2 = 8
      · rw [if_pos n8]; exact this
      · rw [if_neg n8]
        by_cases n16 : p2 = 16
        · rw [if_pos n16]; exact this
        · rw [if_neg n16]
          by_cases n32 : p2 = 32
          · rw [if_pos n32]; exact this
          · rw [if_neg n32]; exact this
/-! copy -/
theorem subL {L a b : Nat} (hL : L ≤ 40) (ha : a < 2 ^ 31) (hb : b < 2 ^ 31) : (nI L - nI a < nI b) ↔ L < a + b := by
  rw [Int32.lt_iff_toInt_lt, Int32.toInt_sub, nI_toInt (by omega), nI_toInt ha, nI_toInt hb, Int.bmod_eq_of_le (by omega) (by omega)]
  omega
abbrev gP (L : Nat) (p q : Int32) : Prop := ¬ p < 0 ∧ ¬ q < 0 ∧ p.toNatClampNeg + q.toNatClampNeg ≤ L
theorem cPart {r L : Nat} {p q : Int32} {D : qs_D} (hL : L ≤ 40) (hD : D r 1 = nI L) : fX2_hasPart r p q D = some (if gP L p q then 1 else 0, D) := by
  unfold fX2_hasPart
  by_cases h1 : p < 0
  · rw [if_pos h1, if_neg (fun h => h.1 h1)]
  · rw [if_neg h1]
    by_cases h2 : q < 0
    · rw [if_pos h2, if_neg (fun h => h.2.1 h2)]
    · rw [if_neg h2, hD]
      obtain ⟨a, ha, rfl⟩ := nI_of h1
      obtain ⟨b, hb, rfl⟩ := nI_of h2
      by_cases h3 : L < b
      · rw [if_pos (nI_lt h3 hb), if_neg (fun h => by have := h.2.2; rw [tnN ha, tnN hb] at this; omega)]
      · rw [if_neg (nI_nlt (by omega) (by omega)), pk_sub (by omega)]
        by_cases h4 : L - b < a
        · rw [if_pos (nI_lt h4 ha), if_neg (fun h => by have := h.2.2; rw [tnN ha, tnN hb] at this; omega)]
        · rw [if_neg (nI_nlt (by omega) (by omega)), if_pos ⟨h1, h2, by rw [tnN ha, tnN hb]; omega⟩]
theorem copyL {A B N : Nat} {g : Nat → Int32} {s1 i1 s3 i3 : Nat} {w6 : Int32} (D : qs_D) (hs1 : s1 < 4) (hs3 : s3 < 4) (h1 : i1 + N ≤ 40) (h3 : i3 + N ≤ 40) (hA : A = 40 * s1 + i1) (hB : B = 40 * s3 + i3) : ∀ (k i : Nat) (f : Nat → Int32), N - i < k → i ≤ N → (∀ x, f x = if (i3 ≤ i1 ∧ B ≤ x ∧ x < B + i) ∨ (¬ i3 ≤ i1 ∧ B + (N - i) ≤ x ∧ x < B + N) then g (A + (x - B)) else g x) → ∃ f2, fX5_copy_L28 k (nI s1) (nI i1) (nI s3) (nI i3) (nI N) w6 (nI i) (qs_w D 7 f) = some (nI N, qs_w D 7 f2) ∧ ∀ x, f2 x = if B ≤ x ∧ x < B + N then g (A + (x - B)) else g x := by
  intro k
  induction k with
  | zero => intro i f h; omega
  | succ k ih =>
    intro i f hk hi hf
    unfold fX5_copy_L28
    by_cases hin : N ≤ i
    · rw [if_pos (nI_le hin (by omega))]
      refine ⟨f, rfl, fun x => ?_⟩
      rw [hf x]
      have : i = N := by omega
      subst this
      by_cases hy : B ≤ x ∧ x < B + i
      · rw [if_pos hy, if_pos (by omega)]
      · rw [if_neg hy, if_neg (by omega)]
    · rw [if_neg (nI_ge (by omega) (by omega))]
      have hix : ∀ s q j, s < 4 → q + j < 40 → (40 : Int32) * nI s + nI q + nI j = nI (40 * s + q + j) := by
        intro s q j h4 h5
        rw [ix160 s h4 q (by omega), nI_add]
      by_cases h31 : i3 ≤ i1
      · rw [if_pos (nI_le h31 (by omega)), pl_let, hix s1 i1 i hs1 (by omega), hix s3 i3 i hs3 (by omega), pl_gN (d := 40 * s1 + i1 + i) (by decide) (by omega), pl_gN (d := 40 * s3 + i3 + i) (by decide) (by omega), tnN (d := 40 * s1 + i1 + i) (by omega), tnN (d := 40 * s3 + i3 + i) (by omega), pl_let, pl_let, pw_self, pu_eq, pw_self, pw_w, nI_s, ← hA, ← hB]
        refine ih (i + 1) _ (by omega) (by omega) (fun x => ?_)
        have hr : f (A + i) = g (A + i) := by
          rw [hf, if_neg (by omega)]
        by_cases hx : x = B + i
        · subst hx
          rw [up_self, hr, if_pos (by omega), show A + (B + i - B) = A + i by omega]
        · rw [up_ne _ _ hx, hf x]
          by_cases hy : B ≤ x ∧ x < B + i
          · rw [if_pos (by omega), if_pos (by omega)]
          · rw [if_neg (by omega), if_neg (by omega)]
      · have e5 : nI N - 1 - nI i = nI (N - 1 - i) := by
          obtain ⟨N', rfl⟩ : ∃ N', N = N' + 1 := ⟨N - 1, by omega⟩
          rw [nI_pred, pk_sub (by omega)]; rfl
        rw [if_neg (nI_ge (by omega) (by omega)), pl_let, e5, hix s1 i1 (N - 1 - i) hs1 (by omega), hix s3 i3 (N - 1 - i) hs3 (by omega), pl_gN (d := 40 * s1 + i1 + (N - 1 - i)) (by decide) (by omega), pl_gN (d := 40 * s3 + i3 + (N - 1 - i)) (by decide) (by omega), tnN (d := 40 * s1 + i1 + (N - 1 - i)) (by omega), tnN (d := 40 * s3 + i3 + (N - 1 - i)) (by omega), pl_let, pl_let, pw_self, pu_eq, pw_self, pw_w, nI_s, ← hA, ← hB]
        refine ih (i + 1) _ (by omega) (by omega) (fun x => ?_)
        have hr : f (A + (N - 1 - i)) = g (A + (N - 1 - i)) := by
          rw [hf, if_neg (by omega)]
        by_cases hx : x = B + (N - 1 - i)
        · subst hx
          rw [up_self, hr, if_pos (by omega), show A + (B + (N - 1 - i) - B) = A + (N - 1 - i) by omega]
        · rw [up_ne _ _ hx, hf x]
          by_cases hy : B + (N - i) ≤ x ∧ x < B + N
          · rw [if_pos (by omega), if_pos (by omega)]
          · rw [if_neg (by omega), if_neg (by omega)]
theorem rNotC {M : qs_D} {s1 s3 L1 L3 : Nat} {p2 p4 p5 : Int32} (hs1 : s1 < 4) (hs3 : s3 < 4) (hL1 : L1 ≤ 40) (hL3 : L3 ≤ 40) (e1 : M 6 s1 = nI L1) (e3 : M 6 s3 = nI L3) : fX5_notCopied (nI s1) p2 (nI s3) p4 p5 M = some (if M 5 s1 = 0 then -1000006 else if M 5 s3 = 0 then -1000006 else if M 5 s1 = M 5 s3 then (if gP L1 p2 p5 ∧ gP L3 p4 p5 then 0 else -1000001) else -1000003, M) := by
  have q1 : 0 ≤ nI s1 ∧ nI s1 ≤ 3 := ⟨nI_pos' (by omega), nI_le (b := 3) (by omega) (by decide)⟩
  have q3 : 0 ≤ nI s3 ∧ nI s3 ≤ 3 := ⟨nI_pos' (by omega), nI_le (b := 3) (by omega) (by decide)⟩
  unfold fX5_notCopied
  rw [rIsSheet, pl_bind, if_pos q1, if_neg one0, rIsSheet, pl_bind, if_pos q3, if_neg one0]
  have g1 : ∀ (T : Option (Int32 × qs_D)), qs_g (nI s1) 4 T = T := fun T => pl_gN (by decide) hs1
  have g3 : ∀ (T : Option (Int32 × qs_D)), qs_g (nI s3) 4 T = T := fun T => pl_gN (by decide) hs3
  have t1 : (nI s1).toNatClampNeg = s1 := tnN (by omega)
  have t3 : (nI s3).toNatClampNeg = s3 := tnN (by omega)
  simp only [g1, g3, t1, t3, pl_let, if_true, if_neg one0]
  by_cases h1 : M 5 s1 = 0
  · rw [if_pos h1, if_pos h1]
  · rw [if_neg h1, if_neg h1]
    by_cases h2 : M 5 s3 = 0
    · rw [if_pos h2, if_pos h2]
    · rw [if_neg h2, if_neg h2]
      by_cases h3 : M 5 s1 = M 5 s3
      · rw [if_pos h3, if_pos h3]
        by_cases h5 : p5 < 0
        · rw [if_pos h5, if_neg (fun h => h.1.2.1 h5)]
        · rw [if_neg h5]
          by_cases h6 : p2 < 0
          · rw [if_pos h6, if_neg (fun h => h.1.1 h6)]
          · rw [if_neg h6]
            by_cases h7 : p4 < 0
            · rw [if_pos h7, if_neg (fun h => h.2.1 h7)]
            · rw [if_neg h7, e1, e3]
              obtain ⟨a, ha, rfl⟩ := nI_of h6
              obtain ⟨b, hb, rfl⟩ := nI_of h7
              obtain ⟨N, hN, rfl⟩ := nI_of h5
              by_cases h8 : L1 < a + N
              · rw [if_pos ((subL hL1 ha hN).mpr h8), if_neg (fun h => by have := h.1.2.2; rw [tnN ha, tnN hN] at this; omega)]
              · rw [if_neg (fun h => h8 ((subL hL1 ha hN).mp h))]
                by_cases h9 : L3 < b + N
                · rw [if_pos ((subL hL3 hb hN).mpr h9), if_neg (fun h => by have := h.2.2.2; rw [tnN hb, tnN hN] at this; omega)]
                · rw [if_neg (fun h => h9 ((subL hL3 hb hN).mp h)), if_pos ⟨⟨h6, h5, by rw [tnN ha, tnN hN]; omega⟩, ⟨h7, h5, by rw [tnN hb, tnN hN]; omega⟩⟩]
      · rw [if_neg h3, if_neg h3]
theorem cMiss (r : Nat) (D : qs_D) : fX2_isMissing r D = some (if D r 0 = 0 then 1 else 0, D) := by
  unfold fX2_isMissing
  by_cases h : D r 0 = 0
  · rw [if_pos h, if_pos h]
  · rw [if_neg h, if_neg h]
theorem m_copy {X M : qs_D} (h : RR X M) (p1 p2 p3 p4 p5 : Int32) : OK (fX4_copy p1 p2 p3 p4 p5 X) (fX5_copy p1 p2 p3 p4 p5 M) := by
  obtain ⟨-, -, -, hsh, -⟩ := id h
  have f0 : OK (qs_bind (fX4_found (0 : Int32) X) (fun x D => some (x, D))) (qs_bind (fX5_finds (-1000001 : Int32) M) (fun x D => some (x, D))) := ok_f h (by decide : 0 < 7) (by decide)
  unfold fX4_copy fX5_copy
  obtain ⟨F, hF⟩ : ∃ F, F = qs_F := ⟨_, rfl⟩
  rw [← hF]
  rw [qs_F_eq] at hF
  rw [cIsSheet, pl_bind]
  by_cases h1 : 0 ≤ p1 ∧ p1 ≤ 3
  · rw [if_pos h1, if_neg one0, cIsSheet, pl_bind]
    by_cases h3 : 0 ≤ p3 ∧ p3 ≤ 3
    · obtain ⟨s1, hs1, rfl⟩ := nat_le (n := 3) rfl (by decide) h1
      obtain ⟨s3, hs3, rfl⟩ := nat_le (n := 3) rfl (by decide) h3
      have hs1 : s1 < 4 := by omega
      have hs3 : s3 < 4 := by omega
      obtain ⟨u0, u1, u2, ⟨L1, hL1, e1⟩, u4⟩ := hsh s1 hs1
      obtain ⟨v0, v1, v2, ⟨L3, hL3, e3⟩, v4⟩ := hsh s3 hs3
      have g1 : ∀ (T : Option (Int32 × qs_D)), qs_g (nI s1) 4 T = T := fun T => pl_gN (by decide) hs1
      have g3 : ∀ (T : Option (Int32 × qs_D)), qs_g (nI s3) 4 T = T := fun T => pl_gN (by decide) hs3
      have t1 : (nI s1).toNatClampNeg = s1 := tnN (by omega)
      have t3 : (nI s3).toNatClampNeg = s3 := tnN (by omega)
      rw [if_pos h3, if_neg one0, rNotC hs1 hs3 hL1 hL3 e1 e3]
      simp only [g1, g3, t1, t3, pl_let, pl_bind, cMiss, u0, v0, cPart hL1 (u1.trans e1), cPart hL3 (v1.trans e3)]
      by_cases b1 : M 5 s1 = 0
      · simp (decide := true) only [if_pos b1, ↓reduceIte]
        exact ok_f h (by decide : 5 < 7) (by decide)
      · simp only [if_neg b1, if_true]
        by_cases b3 : M 5 s3 = 0
        · simp (decide := true) only [if_pos b3, ↓reduceIte]
          exact ok_f h (by decide : 5 < 7) (by decide)
        · simp only [if_neg b3, if_true]
          by_cases b5 : M 5 s1 = M 5 s3
          · simp only [if_pos b5]
            by_cases c1 : gP L1 p2 p5
            · by_cases c3 : gP L3 p4 p5
              · simp only [if_pos c1, if_pos c3, if_pos (And.intro c1 c3), if_neg one0, if_true]
                obtain ⟨a, ha, rfl⟩ := nI_of c1.1
                obtain ⟨b, hb, rfl⟩ := nI_of c3.1
                obtain ⟨N, hN, rfl⟩ := nI_of c1.2.1
                have k1 := c1.2.2
                have k3 := c3.2.2
                rw [tnN ha, tnN hN] at k1
                rw [tnN hb, tnN hN] at k3
                have hg : ∀ T : Option (Int32 × qs_D), qs_gcp (nI a) (nI b) (nI N) 40 40 T = T := fun T => if_pos ⟨c1.1, c3.1, c1.2.1, by rw [tnN ha, tnN hN]; omega, by rw [tnN hb, tnN hN]; omega⟩
                rw [hg, tnN ha, tnN hb, tnN hN]
                obtain ⟨f2, r1, r2⟩ := copyL (g := M 7) (w6 := 0) M hs1 hs3 (by omega : a + N ≤ 40) (by omega : b + N ≤ 40) rfl rfl F 0 (M 7) (by omega) (by omega) (fun x => by rw [if_neg (by omega)])
                rw [pw_id] at r1
                have r1 : fX5_copy_L28 F (nI s1) (nI a) (nI s3) (nI b) (nI N) 0 0 M = some (nI N, qs_w M 7 f2) := r1
                rw [r1]
                refine OK.mk (RR_s h (fun x hx => pw_ne _ _ (by omega)) (fun x h5 h6 h7 => pw_ne _ _ h7) ?_)
                intro z hz
                obtain ⟨q0, q1, q2, q3, q4⟩ := hsh z hz
                rw [pw_ne _ _ (by omega), pw_ne M _ (by decide), pw_ne M _ (by decide), pw_self]
                refine ⟨q0, q1, q2, q3, fun i hi => ?_⟩
                by_cases hz3 : z = s3
                · subst hz3
                  rw [show 42 + 2 * z = 41 + 2 * z + 1 by omega, pw_self, r2]
                  by_cases hq : b ≤ i ∧ i < b + N
                  · rw [pk_cpy_in hq.1 hq.2, if_pos (by omega), show 41 + 2 * s1 + 1 = 42 + 2 * s1 by omega, u4 _ (by omega)]
                    congr 1
                    omega
                  · rw [pk_cpy_out (by omega), if_neg (by omega), show 41 + 2 * z + 1 = 42 + 2 * z by omega, v4 _ (by omega)]
                · rw [pw_ne _ _ (by omega), r2, if_neg (by omega)]
                  exact q4 i hi
              · simp only [if_pos c1, if_neg c3, if_neg (fun q : gP L1 p2 p5 ∧ gP L3 p4 p5 => c3 q.2), if_neg one0, if_true]
                rw [if_neg (by decide)]
                exact f0
            · simp only [if_neg c1, if_neg (fun q : gP L1 p2 p5 ∧ gP L3 p4 p5 => c1 q.1), if_true]
              rw [if_neg (by decide)]
              exact f0
          · simp only [if_neg b5]
            rw [if_neg (by decide)]
            exact ok_f h (by decide : 2 < 7) (by decide)
    · rw [if_neg h3, if_pos rfl]
      unfold fX5_notCopied
      rw [rIsSheet, pl_bind, if_pos h1, if_neg one0, rIsSheet, pl_bind, if_neg h3, if_pos rfl, pl_bind, pl_let, if_neg (by decide)]
      exact f0
  · rw [if_neg h1, if_pos rfl]
    unfold fX5_notCopied
    rw [rIsSheet, pl_bind, if_neg h1, if_pos rfl, pl_bind, pl_let, if_neg (by decide)]
    exact f0
