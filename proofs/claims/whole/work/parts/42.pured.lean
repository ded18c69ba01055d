/-! odds -/
def gdv : Nat → Int32 → Int32 → Int32 → Option Int32
  | 0, _, _, _ => none
  | n + 1, w0, w1, w2 => if w2 ≤ 1 then some 1 else if w2 = 0 then none else if w0 - w0 / w2 * w2 = 0 then (if w1 - w1 / w2 * w2 = 0 then some w2 else gdv n w0 w1 (w2 + -1)) else gdv n w0 w1 (w2 + -1)
def cdv : Nat → Int32 → Int32 → Int32 → Option (Int32 × Int32)
  | 0, _, _, _ => none
  | n + 1, w4, w5, w6 => if w6 ≤ 1 then some (w4, w5) else if w6 = 0 then none else if w4 - w4 / w6 * w6 = 0 then (if w5 - w5 / w6 * w6 = 0 then cdv n (w4 / w6) (w5 / w6) (w6 + -1) else cdv n w4 w5 (w6 + -1)) else cdv n w4 w5 (w6 + -1)
theorem gdv_cdv : ∀ v, v < 13 → ∃ q, q < 13 ∧ ¬ nI q = 0 ∧ gdv 4096 (nI v) 12 12 = some (nI q) ∧ cdv 4096 (nI v) 12 12 = some (nI v / nI q, 12 / nI q) := by decide +kernel
theorem gz_ne {σ : Type} {x : Int32} {T : Option σ} (h : ¬ x = 0) : qs_gz x T = T := if_neg h
theorem gz_eq {σ : Type} {x : Int32} {T : Option σ} (h : x = 0) : qs_gz x T = none := if_pos h
theorem cGdv {w0 w1 : Int32} (D : qs_D) : ∀ (k : Nat) (w2 : Int32), fX4_commonDivisor_L2 k w0 w1 w2 D = (gdv k w0 w1 w2).map (fun r => (r, D)) := by
  intro k
  induction k with
  | zero => intro w2; rfl
  | succ k ih =>
    intro w2
    unfold fX4_commonDivisor_L2 gdv
    by_cases h1 : w2 ≤ 1
    · rw [if_pos h1, if_pos h1]; rfl
    · rw [if_neg h1, if_neg h1]
      by_cases h2 : w2 = 0
      · rw [gz_eq h2, if_pos h2]; rfl
      · rw [gz_ne h2, gz_ne h2, if_neg h2]
        by_cases h3 : w0 - w0 / w2 * w2 = 0
        · rw [if_pos h3, if_pos h3]
          by_cases h4 : w1 - w1 / w2 * w2 = 0
          · rw [if_pos h4, if_pos h4]; rfl
          · rw [if_neg h4, if_neg h4, pl_let]; exact ih _
        · rw [if_neg h3, if_neg h3, pl_let]; exact ih _
theorem rCdv {w1 w2 w3 : Int32} (D : qs_D) : ∀ (k : Nat) (w4 w5 w6 : Int32) (a b : Int32), cdv k w4 w5 w6 = some (a, b) → fX5_odds_L99 k w1 w2 w3 w4 w5 w6 D = fX5_odds_L147 qs_F w1 w2 w3 a b 1 0 D := by
  intro k
  induction k with
  | zero => intro w4 w5 w6 a b h; cases h
  | succ k ih =>
    intro w4 w5 w6 a b h
    unfold fX5_odds_L99
    unfold cdv at h
    by_cases h1 : w6 ≤ 1
    · rw [if_pos h1] at h
      rw [if_pos h1, pl_let, pl_let]
      cases h
      rfl
    · rw [if_neg h1] at h
      rw [if_neg h1]
      by_cases h2 : w6 = 0
      · rw [if_pos h2] at h; cases h
      · rw [if_neg h2] at h
        rw [gz_ne h2, gz_ne h2, gz_ne h2]
        by_cases h3 : w4 - w4 / w6 * w6 = 0
        · rw [if_pos h3] at h
          rw [if_pos h3]
          by_cases h4 : w5 - w5 / w6 * w6 = 0
          · rw [if_pos h4] at h
            rw [if_pos h4, pl_let, gz_ne h2, pl_let, pl_let]
            exact ih _ _ _ _ _ h
          · rw [if_neg h4] at h
            rw [if_neg h4, pl_let]
            exact ih _ _ _ _ _ h
        · rw [if_neg h3] at h
          rw [if_neg h3, pl_let]
          exact ih _ _ _ _ _ h
theorem rPow {w1 w2 w3 w4 w5 : Int32} (D : qs_D) {q : Int32} (hq : q = if w3 = 0 then w4 else w5) : ∀ (k N i : Nat) (acc : Int64), N - i < k → i ≤ N → N < 100 → w2 = nI N → ∀ X : qs_D, ∃ r, fX4_power_L5 k q w2 acc (nI i) X = some (r, X) ∧ fX5_odds_L147 k w1 w2 w3 w4 w5 acc (nI i) D = some (r, D) := by
  intro k
  induction k with
  | zero => intro N i acc h; omega
  | succ k ih =>
    intro N i acc hk hi hN h2 X
    unfold fX4_power_L5 fX5_odds_L147
    by_cases hin : N ≤ i
    · rw [if_pos (by rw [h2]; exact nI_le hin (by omega)), if_pos (by rw [h2]; exact nI_le hin (by omega))]
      exact ⟨acc, rfl, rfl⟩
    · rw [if_neg (by rw [h2]; exact nI_ge (by omega) (by omega)), if_neg (by rw [h2]; exact nI_ge (by omega) (by omega)), pl_let, pl_let, nI_s]
      by_cases h3 : w3 = 0
      · have e : q = w4 := by rw [hq, if_pos h3]
        have ih2 := ih N (i + 1) (acc * w4.toInt64) (by omega) (by omega) hN h2 X
        rw [if_pos h3, pl_let, pl_let, e]
        rw [e] at ih2
        exact ih2
      · have e : q = w5 := by rw [hq, if_neg h3]
        have ih2 := ih N (i + 1) (acc * w5.toInt64) (by omega) (by omega) hN h2 X
        rw [if_neg h3, pl_let, pl_let, e]
        rw [e] at ih2
        exact ih2
theorem harmL {X M : qs_D} {c n d : Nat} {p2 p3 hn : Int32} (hw : wfr (M 1) c n) (hk : kf X 1 (M 1) c) (hd : d < c) (hnd : fX5_needs (nI d) M = some (hn, M)) : ∀ (k k2 i a : Nat), 12 - i < k → 12 - i < k2 → i ≤ 12 → a ≤ i → ∃ v, v ≤ 12 ∧ fX1_harmlessDeeds_L19 1 k (nI d) hn (nI a) (nI i) X = some (nI v, X) ∧ fX5_odds_L41 k2 (nI d) p2 p3 (nI a) (nI i) M = fX5_odds_L99 qs_F (nI d) p2 p3 (nI v) 12 12 M := by
  intro k
  induction k with
  | zero => intro k2 i a h; omega
  | succ k ih =>
    intro k2 i a hk1 hk2 hi ha
    cases k2 with
    | zero => omega
    | succ k2 =>
      unfold fX1_harmlessDeeds_L19 fX5_odds_L41
      by_cases hin : 12 ≤ i
      · rw [if_pos (show (12 : Int32) ≤ nI i from nI_le (a := 12) hin (by omega)), if_pos (show (12 : Int32) ≤ nI i from nI_le (a := 12) hin (by omega)), pl_let, pl_let]
        exact ⟨a, by omega, rfl, rfl⟩
      · have hg : X 1 0 = M 1 1 := hk.1.1
        rw [if_neg (show ¬ (12 : Int32) ≤ nI i from nI_ge (b := 12) (by omega) (by omega)), if_neg (show ¬ (12 : Int32) ≤ nI i from nI_ge (b := 12) (by omega) (by omega)), hg, cGA hw.2.2.1 (by omega), pl_bind, g70_1, tn1, pl_gN (d := i) (n := 12) (by decide) (by omega), tnN (d := i) (by omega), rHeld, pl_bind, hnd, pl_bind]
        have hs : hl (M 1 1 + (qs_tab 2).getD i 0) 0 99 = sH (M 1 1) i := rfl
        rw [hs]
        by_cases hlt : sH (M 1 1) i < hn
        · rw [if_pos hlt, if_pos hlt, pl_let, pl_let, pl_let, add_0, nI_s]
          exact ih k2 (i + 1) a (by omega) (by omega) (by omega) (by omega)
        · rw [if_neg hlt, if_neg hlt, pl_let, pl_let, pl_let, pl_let, nI_s, nI_s]
          exact ih k2 (i + 1) (a + 1) (by omega) (by omega) (by omega) (by omega)
theorem okl_0 {X M : qs_D} (h : RR X M) : OK (qs_bind (fX4_found (0 : Int32) X) (fun x D => some (x.toInt64, D))) (qs_bind (fX5_finds (-1000001 : Int32) M) (fun x D => some (x.toInt64, D))) := by
  have e1 := cFound (f := 0) (by decide) X
  have e2 := rFinds (f := 0) (v := -1000001) (by decide) (by decide) M
  have e1 : fX4_found (0 : Int32) X = _ := e1
  rw [e1, e2, pl_bind, pl_bind]
  exact OK.mk (RR_found h (by decide))
theorem m_odds {X M : qs_D} (h : RR X M) (p1 p2 p3 : Int32) : OK (fX4_odds p1 p2 p3 X) (fX5_odds p1 p2 p3 M) := by
  obtain ⟨⟨c, n, hw, hk⟩, -⟩ := id h
  have hc8 := RR.c8 hw
  unfold fX4_odds fX5_odds
  obtain ⟨F, hF⟩ : ∃ F, F = qs_F := ⟨_, rfl⟩
  have hF2 := hF
  rw [← hF]
  rw [qs_F_eq] at hF
  rw [cIsDish hk.1.2.2.2.1, rIsDish hw.2.2.2.2.2.1, pl_bind, pl_bind]
  by_cases h1 : 0 ≤ p1 ∧ p1 ≤ nI c - 1
  · obtain ⟨d, hd, rfl⟩ := nat_dish hc8 h1
    rw [if_pos h1, if_neg one0, if_neg one0, cWithin, rIn, pl_bind, pl_bind]
    by_cases h2 : 0 ≤ p2 ∧ p2 ≤ 17
    · obtain ⟨N, hN, rfl⟩ := nat_le (n := 17) rfl (by decide) h2
      rw [if_pos h2, if_neg one0, if_neg one0, cWithin, rIn, pl_bind, pl_bind]
      by_cases h3 : 0 ≤ p3 ∧ p3 ≤ 1
      · rw [if_pos h3, if_neg one0, if_neg one0, pl_let, pl_let]
        obtain ⟨j, hj, ej⟩ := (hw.2.2.2.2.2.2.2.2.1 d hd).1
        have ej : M 1 (12 + 6 * d) = nI j := ej
        have hnd := rN (d := d) (j := j) (by omega) hj ej
        have exn : X (1 + 4 + d) 0 = nI j := (hk.1.2.2.2.2.2 d hd 0 (by decide)).trans ej
        have hcn := cN (i := 1 + 4 + d) (j := j) (h := X 1 1) hj exn
        rw [hk.1.2.2.2.2.2 d hd 1 (by decide), hk.1.2.1] at hcn
        unfold fX1_harmlessDeeds
        rw [← hF2, pl_gN (d := d) (n := 8) (by decide) (by omega), tnN (d := d) (by omega), hk.1.2.1, hcn, pl_bind, pl_let, pl_let, pl_let]
        obtain ⟨v, hv, e1, e2⟩ := harmL (p2 := nI N) (p3 := p3) hw hk hd hnd F F 0 0 (by omega) (by omega) (by omega) (by omega)
        have e1 : fX1_harmlessDeeds_L19 1 F (nI d) (sN j (M 1 (12 + 6 * d + 1)) (M 1 2)) 0 0 X = some (nI v, X) := e1
        have e2 : fX5_odds_L41 F (nI d) (nI N) p3 0 0 M = fX5_odds_L99 qs_F (nI d) (nI N) p3 (nI v) 12 12 M := e2
        rw [e1, e2, pl_bind, pl_let]
        obtain ⟨q, hq, hq0, e3, e4⟩ := gdv_cdv v (by omega)
        rw [← hF] at e3 e4
        unfold fX4_commonDivisor
        rw [pl_let, ← hF2, cGdv, e3, rCdv M F _ _ _ _ _ e4, ← hF2]
        rw [show Option.map (fun r => (r, X)) (some (nI q)) = some (nI q, X) from rfl, pl_bind, pl_let, gz_ne hq0, gz_ne hq0]
        obtain ⟨r, e5, e6⟩ := rPow (w1 := nI d) (w2 := nI N) (w3 := p3) (w4 := nI v / nI q) (w5 := 12 / nI q) M rfl F N 0 1 (by omega) (by omega) (by omega) rfl X
        have e6 : fX5_odds_L147 F (nI d) (nI N) p3 (nI v / nI q) (12 / nI q) 1 0 M = some (r, M) := e6
        have e5 : fX4_power_L5 F (if p3 = 0 then nI v / nI q else 12 / nI q) (nI N) 1 0 X = some (r, X) := e5
        rw [e6]
        unfold fX4_power
        rw [← hF2]
        by_cases h0 : p3 = 0
        · rw [if_pos h0] at e5
          rw [if_pos h0, pl_let, pl_let, e5, pl_bind]
          exact OK.mk h
        · rw [if_neg h0] at e5
          rw [if_neg h0, pl_let, pl_let, e5, pl_bind]
          exact OK.mk h
      · rw [if_neg h3, if_pos rfl, if_pos rfl]
        exact okl_0 h
    · rw [if_neg h2, if_pos rfl, if_pos rfl]
      exact okl_0 h
  · rw [if_neg h1, if_pos rfl, if_pos rfl]
    exact okl_0 h
