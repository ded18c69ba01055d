/-! PURE, 1: words on the decompiled functions; one dish -/
theorem pl_let {α β : Type} (a : α) (f : α → β) : qs_let a f = f a := rfl
theorem pl_bind {ρ σ : Type} (a : ρ) (D : qs_D) (f : ρ → qs_D → Option (σ × qs_D)) : qs_bind (some (a, D)) f = f a D := rfl
theorem pl_g {σ : Type} {j : Int32} {n : Nat} {T : Option σ} (h : 0 ≤ j ∧ j < Int32.ofNat n) : qs_g j n T = T := if_pos h
theorem pl_gN {σ : Type} {d n : Nat} {T : Option σ} (hn : n < 2 ^ 31) (h : d < n) : qs_g (nI d) n T = T := pl_g ⟨nI_pos' (by omega), nI_lt h hn⟩
theorem pl_gb0 {σ : Type} {T : Option σ} : qs_gb 0 T = T := if_pos (Or.inl rfl)
theorem pl_gb1 {σ : Type} {T : Option σ} : qs_gb 1 T = T := if_pos (Or.inr rfl)
theorem g70_0 {σ : Type} {T : Option σ} : qs_g 0 70 T = T := pl_g (by decide)
theorem g70_1 {σ : Type} {T : Option σ} : qs_g 1 70 T = T := pl_g (by decide)
theorem g70_2 {σ : Type} {T : Option σ} : qs_g 2 70 T = T := pl_g (by decide)
theorem g70_3 {σ : Type} {T : Option σ} : qs_g 3 70 T = T := pl_g (by decide)
theorem g70_4 {σ : Type} {T : Option σ} : qs_g 4 70 T = T := pl_g (by decide)
theorem g70_5 {σ : Type} {T : Option σ} : qs_g 5 70 T = T := pl_g (by decide)
theorem g8_0 {σ : Type} {T : Option σ} : qs_g 0 8 T = T := pl_g (by decide)
theorem tn0 : (0 : Int32).toNatClampNeg = 0 := by decide
theorem tn1 : (1 : Int32).toNatClampNeg = 1 := by decide
theorem tn2 : (2 : Int32).toNatClampNeg = 2 := by decide
theorem tn3 : (3 : Int32).toNatClampNeg = 3 := by decide
theorem tn4 : (4 : Int32).toNatClampNeg = 4 := by decide
theorem tn5 : (5 : Int32).toNatClampNeg = 5 := by decide
theorem tnN {d : Nat} (h : d < 2 ^ 31) : (nI d).toNatClampNeg = d := nI_clamp h
theorem pw_self (D : qs_D) (i : Nat) (f : Nat → Int32) : qs_w D i f i = f := by simp [qs_w]
theorem pw_ne (D : qs_D) {i j : Nat} (f : Nat → Int32) (h : j ≠ i) : qs_w D i f j = D j := by simp [qs_w, h]
theorem pw_w (D : qs_D) (i : Nat) (f g : Nat → Int32) : qs_w (qs_w D i f) i g = qs_w D i g := by
  funext j
  by_cases h : j = i <;> simp [qs_w, h]
theorem pw_id (D : qs_D) (i : Nat) : qs_w D i (D i) = D := by
  funext j
  by_cases h : j = i
  · subst h; simp [qs_w]
  · simp [qs_w, h]
theorem pu_eq (D : qs_D) (i k : Nat) (v : Int32) : qs_u D i k v = qs_w D i (upd (D i) k v) := rfl
theorem up_self (f : Nat → Int32) (k : Nat) (v : Int32) : upd f k v k = v := by simp [upd]
theorem up_ne (f : Nat → Int32) {k j : Nat} (v : Int32) (h : j ≠ k) : upd f k v j = f j := by simp [upd, h]
/-- a number between 0 and n -/
def qb (x : Int32) (n : Nat) : Prop := ∃ k : Nat, k ≤ n ∧ x = nI k
theorem ix70 : ∀ d, d < 8 → ∀ k, k < 6 → ((12 : Int32) + 6 * nI d) + nI k = nI (12 + 6 * d + k) := by decide
theorem it_g {d k : Nat} {p2 : Int32} (hd : d < 8) (hk : k < 6) (e : p2 = nI k) (D : qs_D) : fX5_it (nI d) p2 D = some (D 1 (12 + 6 * d + k), D) := by
  subst e
  unfold fX5_it
  rw [ix70 d hd k hk, pl_gN (by decide) (by omega), tnN (by omega)]
theorem it0 {d : Nat} (hd : d < 8) (D : qs_D) : fX5_it (nI d) 0 D = some (D 1 (12 + 6 * d), D) := it_g hd (by decide : 0 < 6) rfl D
theorem it1 {d : Nat} (hd : d < 8) (D : qs_D) : fX5_it (nI d) 1 D = some (D 1 (12 + 6 * d + 1), D) := it_g hd (by decide) rfl D
theorem it2 {d : Nat} (hd : d < 8) (D : qs_D) : fX5_it (nI d) 2 D = some (D 1 (12 + 6 * d + 2), D) := it_g hd (by decide) rfl D
theorem it3 {d : Nat} (hd : d < 8) (D : qs_D) : fX5_it (nI d) 3 D = some (D 1 (12 + 6 * d + 3), D) := it_g hd (by decide) rfl D
theorem it4 {d : Nat} (hd : d < 8) (D : qs_D) : fX5_it (nI d) 4 D = some (D 1 (12 + 6 * d + 4), D) := it_g hd (by decide) rfl D
theorem it5 {d : Nat} (hd : d < 8) (D : qs_D) : fX5_it (nI d) 5 D = some (D 1 (12 + 6 * d + 5), D) := it_g hd (by decide) rfl D
theorem pt_g {d k : Nat} {p2 : Int32} (hd : d < 8) (hk : k < 6) (e : p2 = nI k) (v : Int32) (D : qs_D) : fX5_put (nI d) p2 v D = some ((), qs_u D 1 (12 + 6 * d + k) v) := by
  subst e
  unfold fX5_put
  rw [ix70 d hd k hk, pl_gN (by decide) (by omega), tnN (by omega)]
  rfl
theorem pt0 {d : Nat} (hd : d < 8) (v : Int32) (D : qs_D) : fX5_put (nI d) 0 v D = some ((), qs_u D 1 (12 + 6 * d) v) := pt_g hd (by decide : 0 < 6) rfl v D
theorem pt1 {d : Nat} (hd : d < 8) (v : Int32) (D : qs_D) : fX5_put (nI d) 1 v D = some ((), qs_u D 1 (12 + 6 * d + 1) v) := pt_g hd (by decide) rfl v D
theorem pt2 {d : Nat} (hd : d < 8) (v : Int32) (D : qs_D) : fX5_put (nI d) 2 v D = some ((), qs_u D 1 (12 + 6 * d + 2) v) := pt_g hd (by decide) rfl v D
theorem pt3 {d : Nat} (hd : d < 8) (v : Int32) (D : qs_D) : fX5_put (nI d) 3 v D = some ((), qs_u D 1 (12 + 6 * d + 3) v) := pt_g hd (by decide) rfl v D
theorem pt4 {d : Nat} (hd : d < 8) (v : Int32) (D : qs_D) : fX5_put (nI d) 4 v D = some ((), qs_u D 1 (12 + 6 * d + 4) v) := pt_g hd (by decide) rfl v D
theorem pt5 {d : Nat} (hd : d < 8) (v : Int32) (D : qs_D) : fX5_put (nI d) 5 v D = some ((), qs_u D 1 (12 + 6 * d + 5) v) := pt_g hd (by decide) rfl v D
theorem k7 {j : Nat} (h : j ≤ 6) : j = 0 ∨ j = 1 ∨ j = 2 ∨ j = 3 ∨ j = 4 ∨ j = 5 ∨ j = 6 := by omega
/-! what a kind makes of the mood -/
def sN (j : Nat) (t h : Int32) : Int32 := match j with
  | 0 => 10
  | 1 => 30
  | 2 => 0
  | 3 => t / 4
  | 4 => t / 4 + 25
  | 5 => 0
  | _ => 30 + h
def sT (j : Nat) (gr ht de : Int32) : Int32 := match j with
  | 0 => gr / 10
  | 1 => gr / 10 + 1
  | 2 => gr / 10 / 2
  | 3 => gr / 10 / 2 + ht
  | 4 => if de = 1 then gr / 10 / 2 + ht + 10 else gr / 10 / 2 + ht
  | 5 => 0
  | _ => 2 * (gr / 10 + 1)
def sS (j : Nat) (de : Int32) : Int32 := match j with
  | 0 => if de = 2 then 5 else 0
  | 1 => if de = 2 then 5 else 0
  | 2 => if de = 2 then 6 else 1
  | 3 => if de = 2 then 12 else 2
  | 4 => if de = 2 then 12 else 2
  | 5 => if de = 2 then 5 else if de = 8 then 3 else 0
  | _ => 0
def sB (j : Nat) : Int32 := match j with
  | 0 => 80
  | 1 => 70
  | 2 => 99
  | 3 => 99
  | 4 => 90
  | 5 => 99
  | _ => 70
def sA (s : Int32) : Int32 := if 0 ≤ s - 30 then s - 30 else -(s - 30)
def sC (t s : Int32) : Int32 := if 0 < t - sA s then t - sA s else 0
def sG (j : Nat) (t s gr : Int32) : Int32 := match j with
  | 0 => sC t s
  | 1 => sC t s + gr / 5
  | 2 => sC t s / 2
  | 3 => sC t s / 2 + 20
  | 4 => 2 * (sC t s / 2 + 20)
  | 5 => 10
  | _ => sC t s + gr / 5
theorem cN {i j : Nat} {h : Int32} {D : qs_D} (hj : j ≤ 6) (hk : D i 0 = nI j) : fX0_needs i h D = some (sN j (D i 1) h, D) := by
  simp only [fX0_needs, pl_let, hk]
  rcases k7 hj with rfl | rfl | rfl | rfl | rfl | rfl | rfl <;> rfl
theorem cT {i j : Nat} {gr ht de : Int32} {D : qs_D} (hj : j ≤ 6) (hk : D i 0 = nI j) : fX0_thickens i gr ht de D = some (sT j gr ht de, D) := by
  simp only [fX0_thickens, pl_let, hk]
  rcases k7 hj with rfl | rfl | rfl | rfl | rfl | rfl | rfl
  · rfl
  · rfl
  · rfl
  · rfl
  · by_cases h : de = 1
    · simp only [h, sT, if_true]; rfl
    · simp only [h, sT, if_false]; rfl
  · rfl
  · rfl
theorem cS {i j : Nat} {de : Int32} {D : qs_D} (hj : j ≤ 6) (hk : D i 0 = nI j) : fX0_salts i de D = some (sS j de, D) := by
  simp only [fX0_salts, pl_let, hk]
  by_cases h2 : de = 2
  · subst h2
    rcases k7 hj with rfl | rfl | rfl | rfl | rfl | rfl | rfl <;> rfl
  · by_cases h8 : de = 8
    · subst h8
      rcases k7 hj with rfl | rfl | rfl | rfl | rfl | rfl | rfl <;> rfl
    · rcases k7 hj with rfl | rfl | rfl | rfl | rfl | rfl | rfl <;> simp only [h2, h8, sS, if_false] <;> rfl
theorem cB {i j : Nat} {D : qs_D} (hj : j ≤ 6) (hk : D i 0 = nI j) : fX0_burns i D = some (sB j, D) := by
  simp only [fX0_burns, pl_let, hk]
  rcases k7 hj with rfl | rfl | rfl | rfl | rfl | rfl | rfl <;> rfl
theorem cAbs (x : Int32) (D : qs_D) : fJ9_abs_0f7a4 x D = some (if 0 ≤ x then x else -x, D) := by
  unfold fJ9_abs_0f7a4
  split <;> rfl
theorem cMax (x y : Int32) (D : qs_D) : fJ9_max_7cf53 x y D = some (if x < y then y else x, D) := by
  unfold fJ9_max_7cf53
  split <;> rfl
def mn (x y : Int32) : Int32 := if y < x then y else x
theorem cMin (x y : Int32) (D : qs_D) : fJ9_min_7cf53 x y D = some (mn x y, D) := by
  unfold fJ9_min_7cf53 mn
  split <;> rfl
theorem cG {i j : Nat} {gr : Int32} {D : qs_D} (hj : j ≤ 6) (hk : D i 0 = nI j) : fX0_gives i gr D = some (if D i 3 = 1 then 0 else sG j (D i 1) (D i 2) gr, D) := by
  unfold fX0_gives
  by_cases h3 : D i 3 = 1
  · rw [if_pos h3, if_pos h3]
  · rw [if_neg h3, if_neg h3]
    simp only [cAbs, cMax, pl_bind, pl_let, hk]
    rcases k7 hj with rfl | rfl | rfl | rfl | rfl | rfl | rfl <;> rfl
/-! the reference's -/
theorem rN {d j : Nat} {D : qs_D} (hd : d < 8) (hj : j ≤ 6) (hk : D 1 (12 + 6 * d) = nI j) : fX5_needs (nI d) D = some (sN j (D 1 (12 + 6 * d + 1)) (D 1 2), D) := by
  simp only [fX5_needs, it0 hd, it1 hd, pl_bind, hk, g70_2, tn2]
  rcases k7 hj with rfl | rfl | rfl | rfl | rfl | rfl | rfl <;> rfl
theorem rem6 {n : Nat} (hn : n ≤ 99999) : nI n - nI n / 6 * 6 = nI (n % 6) := pk_rem (a := n) (d := 6) (by omega) (by decide) (by decide)
theorem cDeed {kb n : Nat} {D : qs_D} (hs : D kb 3 = nI n) (hn : n ≤ 99999) : fX1_deedNow kb D = some (D (kb + 1) (n % 6), D) := by
  unfold fX1_deedNow
  rw [hs, rem6 hn, pl_gN (by decide) (Nat.mod_lt _ (by decide)), tnN (by omega)]
theorem rDeed {n : Nat} {D : qs_D} (hs : D 1 0 = nI n) (hn : n ≤ 99999) : fX5_deedNow D = some (D 1 (6 + n % 6), D) := by
  unfold fX5_deedNow
  have h6 : n % 6 < 6 := Nat.mod_lt _ (by decide)
  have e : (6 : Int32) + nI (n % 6) = nI (6 + n % 6) := nI_add 6 (n % 6)
  rw [g70_0, tn0, hs, rem6 hn, e, pl_gN (by decide) (by omega), tnN (by omega)]
theorem two_mul (x : Int32) : 2 * x + 2 = 2 * (x + 1) := by rw [Int32.mul_add]; rfl
theorem rT {d j n : Nat} {D : qs_D} (hd : d < 8) (hj : j ≤ 6) (hk : D 1 (12 + 6 * d) = nI j) (hs : D 1 0 = nI n) (hn : n ≤ 99999) : fX5_thickens (nI d) D = some (sT j (D 1 1) (D 1 2) (D 1 (6 + n % 6)), D) := by
  simp only [fX5_thickens, it0 hd, rDeed hs hn, pl_bind, pl_let, hk, g70_1, tn1, g70_2, tn2]
  rcases k7 hj with rfl | rfl | rfl | rfl | rfl | rfl | rfl
  · rfl
  · rfl
  · rfl
  · rfl
  · by_cases h : D 1 (6 + n % 6) = 1
    · simp only [h, sT, if_true]; rfl
    · simp only [h, sT, if_false]; rfl
  · rfl
  · show some ((2 : Int32) * (D 1 1 / 10) + 2, D) = some (2 * (D 1 1 / 10 + 1), D)
    rw [two_mul]
theorem rS {d j n : Nat} {D : qs_D} (hd : d < 8) (hj : j ≤ 6) (hk : D 1 (12 + 6 * d) = nI j) (hs : D 1 0 = nI n) (hn : n ≤ 99999) : fX5_salts (nI d) D = some (sS j (D 1 (6 + n % 6)), D) := by
  simp only [fX5_salts, it0 hd, rDeed hs hn, pl_bind, pl_let, hk]
  generalize D 1 (6 + n % 6) = de
  by_cases h2 : de = 2
  · subst h2
    rcases k7 hj with rfl | rfl | rfl | rfl | rfl | rfl | rfl <;> rfl
  · by_cases h8 : de = 8
    · subst h8
      rcases k7 hj with rfl | rfl | rfl | rfl | rfl | rfl | rfl <;> rfl
    · rcases k7 hj with rfl | rfl | rfl | rfl | rfl | rfl | rfl <;> simp only [h2, h8, sS, if_false] <;> rfl
theorem rB {d j : Nat} {D : qs_D} (hd : d < 8) (hj : j ≤ 6) (hk : D 1 (12 + 6 * d) = nI j) : fX5_burns (nI d) D = some (sB j, D) := by
  simp only [fX5_burns, it0 hd, pl_bind, hk]
  rcases k7 hj with rfl | rfl | rfl | rfl | rfl | rfl | rfl <;> rfl
theorem sC_1 : ∀ a, a < 100 → ∀ b, b < 100 → (30 : Int32) ≤ nI a → nI b ≤ nI a - 30 → sC (nI b) (nI a) = 0 := by decide +kernel
theorem sC_2 : ∀ a, a < 100 → ∀ b, b < 100 → (30 : Int32) ≤ nI a → ¬ nI b ≤ nI a - 30 → sC (nI b) (nI a) = nI b - (nI a - 30) := by decide +kernel
theorem sC_3 : ∀ a, a < 100 → ∀ b, b < 100 → ¬ (30 : Int32) ≤ nI a → nI b ≤ 30 - nI a → sC (nI b) (nI a) = 0 := by decide +kernel
theorem sC_4 : ∀ a, a < 100 → ∀ b, b < 100 → ¬ (30 : Int32) ≤ nI a → ¬ nI b ≤ 30 - nI a → sC (nI b) (nI a) = nI b - (30 - nI a) := by decide +kernel
theorem rG {d j : Nat} {D : qs_D} (hd : d < 8) (hj : j ≤ 6) (hk : D 1 (12 + 6 * d) = nI j) (ht : qb (D 1 (12 + 6 * d + 1)) 99) (hs : qb (D 1 (12 + 6 * d + 2)) 99) : fX5_gives (nI d) D = some (if D 1 (12 + 6 * d + 3) = 1 then 0 else sG j (D 1 (12 + 6 * d + 1)) (D 1 (12 + 6 * d + 2)) (D 1 1), D) := by
  obtain ⟨b, hb, et⟩ := ht
  obtain ⟨a, ha, es⟩ := hs
  simp only [fX5_gives, it0 hd, it1 hd, it2 hd, it3 hd, pl_bind, pl_let, hk, g70_1, tn1, et, es]
  by_cases h3 : D 1 (12 + 6 * d + 3) = 1
  · rw [if_pos h3, if_pos h3]
  · rw [if_neg h3, if_neg h3]
    by_cases h30 : (30 : Int32) ≤ nI a
    · rw [if_pos h30]
      by_cases h4 : nI b ≤ nI a - 30
      · rw [if_pos h4]
        have e := sC_1 a (by omega) b (by omega) h30 h4
        rcases k7 hj with rfl | rfl | rfl | rfl | rfl | rfl | rfl <;> simp only [sG, e] <;> rfl
      · rw [if_neg h4]
        have e := sC_2 a (by omega) b (by omega) h30 h4
        rcases k7 hj with rfl | rfl | rfl | rfl | rfl | rfl | rfl <;> simp only [sG, e] <;> rfl
    · rw [if_neg h30]
      by_cases h4 : nI b ≤ 30 - nI a
      · rw [if_pos h4]
        have e := sC_3 a (by omega) b (by omega) h30 h4
        rcases k7 hj with rfl | rfl | rfl | rfl | rfl | rfl | rfl <;> simp only [sG, e] <;> rfl
      · rw [if_neg h4]
        have e := sC_4 a (by omega) b (by omega) h30 h4
        rcases k7 hj with rfl | rfl | rfl | rfl | rfl | rfl | rfl <;> simp only [sG, e] <;> rfl
/-! a dish in a step -/
def sK (j : Nat) (gr ht de : Int32) (f : Nat → Int32) : Nat → Int32 :=
  if sN j (f 1) ht ≤ gr then
    (if mn 99 (f 1 + sT j gr ht de) ≤ sB j then upd (upd f 1 (mn 99 (f 1 + sT j gr ht de))) 2 (mn 99 (f 2 + sS j de))
    else upd (upd (upd f 1 (mn 99 (f 1 + sT j gr ht de))) 2 (mn 99 (f 2 + sS j de))) 3 1)
  else upd f 3 1
theorem cCook {i j : Nat} {gr ht de : Int32} {D : qs_D} (hj : j ≤ 6) (hk : D i 0 = nI j) : fX0_cook i gr ht de D = some ((), qs_w D i (sK j gr ht de (D i))) := by
  unfold fX0_cook sK
  rw [cN hj hk, pl_bind]
  by_cases h : sN j (D i 1) ht ≤ gr
  · rw [if_pos h, if_pos h, cT hj hk, pl_bind, cMin, pl_bind, pl_let]
    generalize hx : mn 99 (D i 1 + sT j gr ht de) = x
    have hk1 : (qs_u D i 1 x) i 0 = nI j := by rw [pu_eq, pw_self, up_ne _ _ (by decide)]; exact hk
    have h2 : (qs_u D i 1 x) i 2 = D i 2 := by rw [pu_eq, pw_self, up_ne _ _ (by decide)]
    rw [cS hj hk1, pl_bind, cMin, pl_bind, pl_let, h2]
    generalize hy : mn 99 (D i 2 + sS j de) = y
    have e2 : qs_u (qs_u D i 1 x) i 2 y = qs_w D i (upd (upd (D i) 1 x) 2 y) := by rw [pu_eq, pu_eq, pw_self, pw_w]
    rw [e2]
    have hk2 : (qs_w D i (upd (upd (D i) 1 x) 2 y)) i 0 = nI j := by rw [pw_self, up_ne _ _ (by decide), up_ne _ _ (by decide)]; exact hk
    have h1 : (qs_w D i (upd (upd (D i) 1 x) 2 y)) i 1 = x := by rw [pw_self, up_ne _ _ (by decide), up_self]
    rw [cB hj hk2, pl_bind, h1]
    by_cases h5 : x ≤ sB j
    · rw [if_pos h5, if_pos h5]
    · rw [if_neg h5, if_neg h5, pl_let, pu_eq, pw_self, pw_w]
  · rw [if_neg h, if_neg h, pl_let, pu_eq]
def sR (g : Nat → Int32) (d : Nat) : Nat → Int32 := fun k => g (12 + 6 * d + k)
def sW (g : Nat → Int32) (d : Nat) (f : Nat → Int32) : Nat → Int32 := fun i => if 12 + 6 * d ≤ i ∧ i < 12 + 6 * d + 6 then f (i - (12 + 6 * d)) else g i
theorem sW_upd {g : Nat → Int32} {d k : Nat} {v : Int32} (hk : k < 6) : upd g (12 + 6 * d + k) v = sW g d (upd (sR g d) k v) := by
  funext i
  unfold sW sR upd
  by_cases h : 12 + 6 * d ≤ i ∧ i < 12 + 6 * d + 6
  · rw [if_pos h]
    by_cases h2 : i = 12 + 6 * d + k
    · rw [if_pos h2, if_pos (by omega)]
    · rw [if_neg h2, if_neg (by omega)]
      show g i = g (12 + 6 * d + (i - (12 + 6 * d)))
      congr 1
      omega
  · rw [if_neg h, if_neg (by omega)]
theorem sW_sW {g : Nat → Int32} {d : Nat} {f f2 : Nat → Int32} : sW (sW g d f) d f2 = sW g d f2 := by
  funext i
  unfold sW
  by_cases h : 12 + 6 * d ≤ i ∧ i < 12 + 6 * d + 6
  · rw [if_pos h, if_pos h]
  · rw [if_neg h, if_neg h, if_neg h]
theorem sR_sW {g : Nat → Int32} {d k : Nat} {f : Nat → Int32} (hk : k < 6) : sR (sW g d f) d k = f k := by
  unfold sR sW
  rw [if_pos (by omega), show 12 + 6 * d + k - (12 + 6 * d) = k by omega]
theorem sW_congr {g : Nat → Int32} {d : Nat} {f f2 : Nat → Int32} (h : ∀ k, k < 6 → f k = f2 k) : sW g d f = sW g d f2 := by
  funext i
  unfold sW
  by_cases hi : 12 + 6 * d ≤ i ∧ i < 12 + 6 * d + 6
  · rw [if_pos hi, if_pos hi]; exact h _ (by omega)
  · rw [if_neg hi, if_neg hi]
theorem sW_out {g : Nat → Int32} {d i : Nat} {f : Nat → Int32} (h : ¬ (12 + 6 * d ≤ i ∧ i < 12 + 6 * d + 6)) : sW g d f i = g i := by
  unfold sW
  rw [if_neg h]
theorem sR_other {g : Nat → Int32} {d e k : Nat} {f : Nat → Int32} (hk : k < 6) (h : e ≠ d) : sR (sW g d f) e k = sR g e k := by
  unfold sR
  exact sW_out (by omega)
def hl (v a b : Int32) : Int32 := if a ≤ v then (if v ≤ b then v else b) else a
theorem rHeld (v a b : Int32) (D : qs_D) : fX5_held v a b D = some (hl v a b, D) := by
  unfold fX5_held hl
  by_cases h1 : a ≤ v
  · rw [if_pos h1, if_pos h1]
    by_cases h2 : v ≤ b
    · rw [if_pos h2, if_pos h2]
    · rw [if_neg h2, if_neg h2]
  · rw [if_neg h1, if_neg h1]
theorem hl_mn {n m : Nat} (hn : n < 2 ^ 31) (hm : m < 2 ^ 31) : hl (nI n) 0 (nI m) = mn (nI m) (nI n) := by
  unfold hl mn
  rw [if_pos (nI_pos' hn)]
  rcases Nat.lt_trichotomy n m with h | h | h
  · rw [if_pos (nI_le (by omega) hm), if_pos (nI_lt h hm)]
  · subst h
    rw [if_pos (nI_le (Nat.le_refl _) hm), if_neg (nI_nlt (Nat.le_refl _) hm)]
  · rw [if_neg (nI_ge h hn), if_neg (nI_nlt (by omega) hn)]
theorem mn_nI {n m : Nat} (hn : n < 2 ^ 31) (hm : m < 2 ^ 31) : mn (nI m) (nI n) = nI (min m n) := by
  unfold mn
  by_cases h : n < m
  · rw [if_pos (nI_lt h hm), Nat.min_eq_right (by omega)]
  · rw [if_neg (nI_nlt (by omega) hn), Nat.min_eq_left (by omega)]
theorem qb_of {x : Int32} {n : Nat} (hn : n < 2 ^ 31) (h : 0 ≤ x ∧ x ≤ nI n) : qb x n := by
  obtain ⟨k, hk, rfl⟩ := nI_of (Int32.not_lt.mpr h.1)
  refine ⟨k, ?_, rfl⟩
  exact (nI_leI hk hn).mp h.2
theorem qb_mono {x : Int32} {n m : Nat} (h : qb x n) (hm : n ≤ m) : qb x m := by
  obtain ⟨k, hk, e⟩ := h
  exact ⟨k, by omega, e⟩
theorem qb_add {x y : Int32} {n m : Nat} (h1 : qb x n) (h2 : qb y m) : qb (x + y) (n + m) := by
  obtain ⟨a, ha, rfl⟩ := h1
  obtain ⟨b, hb, rfl⟩ := h2
  exact ⟨a + b, by omega, nI_add a b⟩
theorem qb_lit (n : Nat) : qb (nI n) n := ⟨n, Nat.le_refl _, rfl⟩
theorem sT_b0 : ∀ j, j < 7 → ∀ a, a < 100 → ∀ b, b < 10 → (0 ≤ sT j (nI a) (nI b) 0 ∧ sT j (nI a) (nI b) 0 ≤ nI 40) ∧ (0 ≤ sT j (nI a) (nI b) 1 ∧ sT j (nI a) (nI b) 1 ≤ nI 40) := by decide +kernel
theorem sT_b {j : Nat} {gr ht de : Int32} (hj : j ≤ 6) (hg : qb gr 99) (hh : qb ht 9) : qb (sT j gr ht de) 40 := by
  obtain ⟨a, ha, rfl⟩ := hg
  obtain ⟨b, hb, rfl⟩ := hh
  have h := sT_b0 j (by omega) a (by omega) b (by omega)
  by_cases h1 : de = 1
  · subst h1
    exact qb_of (by decide) h.2
  · have e : sT j (nI a) (nI b) de = sT j (nI a) (nI b) 0 := by
      unfold sT
      rcases k7 hj with rfl | rfl | rfl | rfl | rfl | rfl | rfl <;> first | rfl | (simp only [h1, if_false]; rfl)
    rw [e]
    exact qb_of (by decide) h.1
theorem sS_b {j : Nat} {de : Int32} (hj : j ≤ 6) : qb (sS j de) 12 := by
  by_cases h2 : de = 2
  · subst h2
    have h : ∀ j, j < 7 → 0 ≤ sS j 2 ∧ sS j 2 ≤ nI 12 := by decide
    exact qb_of (by decide) (h j (by omega))
  · by_cases h8 : de = 8
    · subst h8
      have h : ∀ j, j < 7 → 0 ≤ sS j 8 ∧ sS j 8 ≤ nI 12 := by decide
      exact qb_of (by decide) (h j (by omega))
    · have e : sS j de = sS j 0 := by
        unfold sS
        rcases k7 hj with rfl | rfl | rfl | rfl | rfl | rfl | rfl <;> simp only [h2, h8, if_false] <;> rfl
      rw [e]
      have h : ∀ j, j < 7 → 0 ≤ sS j 0 ∧ sS j 0 ≤ nI 12 := by decide
      exact qb_of (by decide) (h j (by omega))
theorem mn_b {x : Int32} {n m : Nat} (h : qb x n) (hn : n < 2 ^ 31) (hm : m < 2 ^ 31) : qb (mn (nI m) x) m := by
  obtain ⟨a, ha, rfl⟩ := h
  rw [mn_nI (by omega) hm]
  exact ⟨_, Nat.min_le_left _ _, rfl⟩
theorem hl_mnq {x : Int32} {n m : Nat} (h : qb x n) (hn : n < 2 ^ 31) (hm : m < 2 ^ 31) : hl x 0 (nI m) = mn (nI m) x := by
  obtain ⟨a, ha, rfl⟩ := h
  exact hl_mn (by omega) hm
/-- a dish's row -/
def dw (f : Nat → Int32) : Prop := qb (f 0) 6 ∧ qb (f 1) 99 ∧ qb (f 2) 99 ∧ qb (f 3) 1 ∧ qb (f 4) 1 ∧ qb (f 5) 9999
theorem sK_dw {j : Nat} {gr ht de : Int32} {f : Nat → Int32} (hj : j ≤ 6) (hg : qb gr 99) (hh : qb ht 9) (hf : dw f) : dw (sK j gr ht de f) := by
  obtain ⟨h0, h1, h2, h3, h4, h5⟩ := hf
  have hx : qb (mn 99 (f 1 + sT j gr ht de)) 99 := mn_b (m := 99) (qb_add h1 (sT_b (de := de) hj hg hh)) (by decide) (by decide)
  have hy : qb (mn 99 (f 2 + sS j de)) 99 := mn_b (m := 99) (qb_add h2 (sS_b (de := de) hj)) (by decide) (by decide)
  have h11 : qb (1 : Int32) 1 := qb_lit 1
  unfold sK
  split
  · split
    · exact ⟨by simpa [upd] using h0, by simpa [upd] using hx, by simpa [upd] using hy, by simpa [upd] using h3, by simpa [upd] using h4, by simpa [upd] using h5⟩
    · exact ⟨by simpa [upd] using h0, by simpa [upd] using hx, by simpa [upd] using hy, by simpa [upd] using h11, by simpa [upd] using h4, by simpa [upd] using h5⟩
  · exact ⟨by simpa [upd] using h0, by simpa [upd] using h1, by simpa [upd] using h2, by simpa [upd] using h11, by simpa [upd] using h4, by simpa [upd] using h5⟩
theorem rCook {d j n : Nat} {D : qs_D} (hd : d < 8) (hj : j ≤ 6) (hk : D 1 (12 + 6 * d) = nI j) (hs : D 1 0 = nI n) (hn : n ≤ 99999) (hw : dw (sR (D 1) d)) (hg : qb (D 1 1) 99) (hh : qb (D 1 2) 9) (h3 : D 1 (12 + 6 * d + 3) = 0) : fX5_cooks (nI d) D = some ((), qs_w D 1 (sW (D 1) d (sK j (D 1 1) (D 1 2) (D 1 (6 + n % 6)) (sR (D 1) d)))) := by
  unfold fX5_cooks
  rw [g70_1, tn1, rN hd hj hk, pl_bind]
  have e1 : sR (D 1) d 1 = D 1 (12 + 6 * d + 1) := rfl
  have e2 : sR (D 1) d 2 = D 1 (12 + 6 * d + 2) := rfl
  have e3 : sR (D 1) d 3 = 0 := h3
  unfold sK
  rw [e1, e2]
  by_cases h : sN j (D 1 (12 + 6 * d + 1)) (D 1 2) ≤ D 1 1
  · rw [if_pos h, if_pos h, it1 hd, pl_bind, rT hd hj hk hs hn, pl_bind, rHeld, pl_bind, pl_let, it2 hd, pl_bind, rS hd hj hk hs hn, pl_bind, rHeld, pl_bind, pl_let]
    have q1 : hl (D 1 (12 + 6 * d + 1) + sT j (D 1 1) (D 1 2) (D 1 (6 + n % 6))) 0 99 = mn 99 (D 1 (12 + 6 * d + 1) + sT j (D 1 1) (D 1 2) (D 1 (6 + n % 6))) := hl_mnq (m := 99) (qb_add hw.2.1 (sT_b hj hg hh)) (by decide) (by decide)
    have q2 : hl (D 1 (12 + 6 * d + 2) + sS j (D 1 (6 + n % 6))) 0 99 = mn 99 (D 1 (12 + 6 * d + 2) + sS j (D 1 (6 + n % 6))) := hl_mnq (m := 99) (qb_add hw.2.2.1 (sS_b hj)) (by decide) (by decide)
    rw [q1, q2]
    generalize hx : mn 99 (D 1 (12 + 6 * d + 1) + sT j (D 1 1) (D 1 2) (D 1 (6 + n % 6))) = x
    generalize hy : mn 99 (D 1 (12 + 6 * d + 2) + sS j (D 1 (6 + n % 6))) = y
    rw [pt1 hd, pl_bind, pt2 hd, pl_bind]
    have eD : qs_u (qs_u D 1 (12 + 6 * d + 1) x) 1 (12 + 6 * d + 2) y = qs_w D 1 (sW (D 1) d (upd (upd (sR (D 1) d) 1 x) 2 y)) := by
      rw [pu_eq, pu_eq, pw_self, pw_w, sW_upd (by decide : 1 < 6), sW_upd (by decide : 2 < 6), sW_sW]
      congr 1
      apply sW_congr
      intro k hk
      by_cases hk2 : k = 2
      · subst hk2; simp [upd]
      · simp only [upd, hk2, if_false]
        exact sR_sW hk
    rw [eD]
    have hk2 : (qs_w D 1 (sW (D 1) d (upd (upd (sR (D 1) d) 1 x) 2 y))) 1 (12 + 6 * d) = nI j := by
      rw [pw_self]
      have := sR_sW (g := D 1) (d := d) (f := upd (upd (sR (D 1) d) 1 x) 2 y) (by decide : 0 < 6)
      rw [up_ne _ _ (by decide), up_ne _ _ (by decide)] at this
      exact this.trans hk
    rw [rB hd hj hk2, pl_bind]
    have fin : ∀ z : Int32, qs_u (qs_w D 1 (sW (D 1) d (upd (upd (sR (D 1) d) 1 x) 2 y))) 1 (12 + 6 * d + 3) z = qs_w D 1 (sW (D 1) d (upd (upd (upd (sR (D 1) d) 1 x) 2 y) 3 z)) := by
      intro z
      rw [pu_eq, pw_self, pw_w, sW_upd (by decide : 3 < 6), sW_sW]
      congr 1
      apply sW_congr
      intro k hk
      by_cases hk3 : k = 3
      · subst hk3; simp [upd]
      · rw [up_ne _ _ hk3, up_ne _ _ hk3]
        exact sR_sW hk
    by_cases h5 : x ≤ sB j
    · rw [if_pos h5, if_pos h5, pt3 hd, pl_bind, fin]
      congr 3
      apply sW_congr
      intro k hk
      by_cases hk3 : k = 3
      · subst hk3; simp [upd, e3]
      · rw [up_ne _ _ hk3]
    · rw [if_neg h5, if_neg h5, pt3 hd, pl_bind, fin]
  · rw [if_neg h, if_neg h, pt3 hd, pl_bind, pu_eq, sW_upd (by decide : 3 < 6)]
