/-! takeOff -/
def pr (g g' : Nat → Int32) (c : Nat) (S : Nat → Bool) (b : Nat → Int32) : Prop :=
  (∀ i, i < 12 → g' i = g i) ∧ ∀ d, d < c → (S d = false → ∀ k, k < 6 → g' (12 + 6 * d + k) = g (12 + 6 * d + k)) ∧ (S d = true → g' (12 + 6 * d + 4) = 1 ∧ g' (12 + 6 * d + 3) = b d) ∧ (b d = 1 → g (12 + 6 * d + 3) = 1)
theorem sDsh_fix {gr ht de : Int32} {f : Nat → Int32} (h : ¬ (f 3 = 0 ∧ f 4 = 0)) : sDsh gr ht de f = f := if_neg h
theorem pr_step {g g' g2 g2' : Nat → Int32} {c n e : Nat} {S : Nat → Bool} {b : Nat → Int32} (h : pr g g' c S b) (s1 : stp g g2 c n e) (s2 : stp g' g2' c n e) : pr g2 g2' c S b := by
  obtain ⟨h0, hd⟩ := h
  obtain ⟨a0, a1, a2, a3, a4⟩ := s1
  obtain ⟨b0, b1, b2, b3, b4⟩ := s2
  refine ⟨fun i hi => ?_, fun d hdc => ⟨fun hS k hk => ?_, fun hS => ?_, fun hb => ?_⟩⟩
  · by_cases i0 : i = 0
    · subst i0; rw [a0, b0]
    · by_cases i1 : i = 1
      · subst i1; rw [a1, b1, h0 1 (by decide)]
      · rw [a2 i (by omega) hi, b2 i (by omega) hi]; exact h0 i hi
  · rw [a3 d hdc k hk, b3 d hdc k hk, h0 1 (by decide), h0 2 (by decide)]
    exact sDsh_congr (fun k hk => (hd d hdc).1 hS k hk) k hk
  · have q := (hd d hdc).2.1 hS
    have e4 : sR g' d 4 = 1 := q.1
    have e3 : sR g' d 3 = b d := q.2
    rw [b3 d hdc 4 (by decide), b3 d hdc 3 (by decide), sDsh_fix (by rw [e4]; exact fun z => one0 z.2)]
    exact ⟨e4, e3⟩
  · have q : sR g d 3 = 1 := (hd d hdc).2.2 hb
    rw [a3 d hdc 3 (by decide), sDsh_fix (by rw [q]; exact fun z => one0 z.1)]
    exact q
theorem pairN {c N : Nat} {S : Nat → Bool} {b : Nat → Int32} (T : qs_D) (hN : N < 2 ^ 31) : ∀ (k i : Nat) (g g' : Nat → Int32) (n : Nat), N - i < k → i ≤ N → wfr g c n → wfr g' c n → pr g g' c S b → ∃ g2 g2' n2, fX5_goesFor_L2 k (nI N) (nI i) (qs_w T 1 g) = some ((), qs_w T 1 g2) ∧ fX5_goesFor_L2 k (nI N) (nI i) (qs_w T 1 g') = some ((), qs_w T 1 g2') ∧ wfr g2 c n2 ∧ wfr g2' c n2 ∧ pr g2 g2' c S b := by
  intro k
  induction k with
  | zero => intro i g g' n h; omega
  | succ k ih =>
    intro i g g' n hk hi hw hw' hp
    unfold fX5_goesFor_L2
    by_cases hiN : N ≤ i
    · rw [if_pos (nI_le hiN (by omega)), if_pos (nI_le hiN (by omega))]
      exact ⟨g, g', n, rfl, rfl, hw, hw', hp⟩
    · rw [if_neg (nI_ge (by omega) hN), if_neg (nI_ge (by omega) hN)]
      obtain ⟨e, he2, he⟩ := deed_of hw
      have h6 : n % 6 < 6 := Nat.mod_lt _ (by decide)
      have he' : g' (6 + n % 6) = nI e := by rw [hp.1 _ (by omega)]; exact he
      obtain ⟨g1, a1, a2⟩ := rGoes (D := qs_w T 1 g) (c := c) (n := n) (e := e) (by rw [pw_self]; exact hw) (by rw [pw_self]; exact he) he2
      obtain ⟨g1', b1, b2⟩ := rGoes (D := qs_w T 1 g') (c := c) (n := n) (e := e) (by rw [pw_self]; exact hw') (by rw [pw_self]; exact he') he2
      rw [pw_w] at a1 b1
      rw [pw_self] at a2 b2
      rw [a1, b1, pl_bind, pl_bind, pl_let, pl_let, nI_s]
      exact ih (i + 1) g1 g1' _ (by omega) (by omega) (stp_wf hw he2 a2) (stp_wf hw' he2 b2) (pr_step hp a2 b2)
theorem pairS {c n N : Nat} {S : Nat → Bool} {b : Nat → Int32} (T : qs_D) {g g' : Nat → Int32} (hN : N ≤ 100) (hw : wfr g c n) (hw' : wfr g' c n) (hp : pr g g' c S b) : ∃ g2 g2' n2, fX5_goesFor (nI N) (qs_w T 1 g) = some ((), qs_w T 1 g2) ∧ fX5_goesFor (nI N) (qs_w T 1 g') = some ((), qs_w T 1 g2') ∧ wfr g2 c n2 ∧ wfr g2' c n2 ∧ pr g2 g2' c S b := by
  unfold fX5_goesFor
  obtain ⟨F, hF⟩ : ∃ F, F = qs_F := ⟨_, rfl⟩
  rw [← hF]
  rw [qs_F_eq] at hF
  rw [pl_let, pl_let]
  exact pairN T (by omega) F 0 g g' n (by omega) (by omega) hw hw' hp
/-! bits -/
def bv (b : Bool) : Nat := if b then 1 else 0
theorem nS_tb {b : Nat → Nat} : ∀ (m i a : Nat), a < 2 ^ i → (∀ j, i ≤ j → j < i + m → b j < 2) → ∀ j, (nS b m i a).testBit j = (if i ≤ j ∧ j < i + m then decide (b j = 1) else if j < i then a.testBit j else false) := by
  intro m
  induction m with
  | zero =>
    intro i a ha hb j
    rw [if_neg (by omega)]
    unfold nS
    by_cases hj : j < i
    · rw [if_pos hj]
    · rw [if_neg hj]
      exact Nat.testBit_lt_two_pow (Nat.lt_of_lt_of_le ha (Nat.pow_le_pow_right (by decide) (by omega)))
  | succ m ih =>
    intro i a ha hb j
    have hbi := hb i (by omega) (by omega)
    have h2 : a + b i * 2 ^ i < 2 ^ (i + 1) := by
      rw [Nat.pow_succ]
      have : b i = 0 ∨ b i = 1 := by omega
      rcases this with q | q <;> rw [q] <;> omega
    unfold nS
    rw [ih (i + 1) _ h2 (fun j h1 h3 => hb j (by omega) (by omega)) j]
    have e : (a + b i * 2 ^ i).testBit j = if j < i then a.testBit j else (b i).testBit (j - i) := by
      rw [show a + b i * 2 ^ i = 2 ^ i * b i + a by rw [Nat.mul_comm, Nat.add_comm]]
      exact Nat.testBit_two_pow_mul_add _ ha j
    by_cases c1 : i + 1 ≤ j ∧ j < i + 1 + m
    · rw [if_pos c1, if_pos (by omega)]
    · rw [if_neg c1]
      by_cases c2 : j = i
      · subst c2
        rw [if_pos (by omega), if_pos (by omega), e, if_neg (by omega), Nat.sub_self]
        have : b j = 0 ∨ b j = 1 := by omega
        rcases this with q | q <;> rw [q] <;> decide
      · rw [if_neg (c := i ≤ j ∧ j < i + (m + 1)) (by omega)]
        by_cases c3 : j < i
        · rw [if_pos (by omega), if_pos c3, e, if_pos c3]
        · rw [if_neg (by omega), if_neg c3]
theorem vS_tb {g : Nat → Int32} {c n : Nat} (hw : wfr g c n) : ∃ v, v < 256 ∧ vS g 3 c 0 0 = nI v ∧ ∀ j, v.testBit j = (decide (j < c) && decide (g (12 + 6 * j + 3) = 1)) := by
  have hc := RR.c8 hw
  have hb : ∀ d, ∃ b : Nat, d < c → g (12 + 6 * d + 3) = nI b ∧ b < 2 := by
    intro d
    by_cases hd : d < c
    · obtain ⟨k, hk, e⟩ := (hw.2.2.2.2.2.2.2.2.1 d hd).2.2.2.1
      exact ⟨k, fun _ => ⟨e, by omega⟩⟩
    · exact ⟨0, fun h => absurd h hd⟩
  obtain ⟨b, hb⟩ := Classical.axiomOfChoice hb
  have h := vS_n (g := g) (w := 3) (b := b) c 0 0 (by omega) (by decide) (fun j h1 h2 => hb j (by omega))
  refine ⟨nS b c 0 0, ?_, h.1, fun j => ?_⟩
  · have h2 := h.2
    have : 2 ^ (0 + c) ≤ 2 ^ 8 := Nat.pow_le_pow_right (by decide) (by omega)
    omega
  · rw [nS_tb c 0 0 (by decide) (fun j h1 h2 => (hb j (by omega)).2) j]
    by_cases hj : j < c
    · rw [if_pos (by omega), (hb j hj).1]
      have : b j = 0 ∨ b j = 1 := by have := (hb j hj).2; omega
      rcases this with q | q <;> rw [q] <;> simp [hj] <;> decide
    · rw [if_neg (by omega), if_neg (by omega)]
      simp [hj]
def pc (v : Nat) : Nat := bv (v.testBit 0) + bv (v.testBit 1) + bv (v.testBit 2) + bv (v.testBit 3) + bv (v.testBit 4) + bv (v.testBit 5) + bv (v.testBit 6) + bv (v.testBit 7)
theorem bc_pc : ∀ v, v < 256 → bc (nI v) = nI (pc v) := by decide +kernel
theorem bv_le {a b : Bool} (h : a = true → b = true) : bv a ≤ bv b := by
  cases a <;> cases b <;> simp [bv] at * 
theorem bv_lt {a b : Bool} (h : a = false) (h2 : b = true) : bv a < bv b := by
  subst h; subst h2; decide
theorem pc_le {a b : Nat} (h : ∀ j, a.testBit j = true → b.testBit j = true) : pc a ≤ pc b := by
  unfold pc
  have := bv_le (h 0); have := bv_le (h 1); have := bv_le (h 2); have := bv_le (h 3); have := bv_le (h 4); have := bv_le (h 5); have := bv_le (h 6); have := bv_le (h 7)
  omega
theorem pc_lt {a b : Nat} (h : ∀ j, a.testBit j = true → b.testBit j = true) {i : Nat} (hi : i < 8) (h1 : a.testBit i = false) (h2 : b.testBit i = true) : pc a < pc b := by
  have hl := bv_lt h1 h2
  unfold pc
  have := bv_le (h 0); have := bv_le (h 1); have := bv_le (h 2); have := bv_le (h 3); have := bv_le (h 4); have := bv_le (h 5); have := bv_le (h 6); have := bv_le (h 7)
  have hi : i = 0 ∨ i = 1 ∨ i = 2 ∨ i = 3 ∨ i = 4 ∨ i = 5 ∨ i = 6 ∨ i = 7 := by omega
  rcases hi with rfl | rfl | rfl | rfl | rfl | rfl | rfl | rfl <;> omega
theorem pc_8 (a : Nat) : pc a ≤ 8 := by
  have hb : ∀ b, bv b ≤ 1 := by intro b; cases b <;> decide
  unfold pc
  have := hb (a.testBit 0); have := hb (a.testBit 1); have := hb (a.testBit 2); have := hb (a.testBit 3); have := hb (a.testBit 4); have := hb (a.testBit 5); have := hb (a.testBit 6); have := hb (a.testBit 7)
  omega
theorem sub_le {a b : Nat} (h : ∀ j, a.testBit j = true → b.testBit j = true) : a ≤ b := by
  have e : a &&& b = a := by
    apply Nat.eq_of_testBit_eq
    intro j
    rw [Nat.testBit_and]
    have := h j
    cases ha : a.testBit j
    · rfl
    · rw [this ha]; rfl
  rw [← e]
  exact Nat.and_le_right
theorem andnot {a b : Nat} (ha : a < 256) (hb : b < 256) : ∃ v, v < 256 ∧ nI a &&& (nI b ^^^ -1) = nI v ∧ ∀ j, v.testBit j = (a.testBit j && !b.testBit j) := by
  have hv : a &&& (255 ^^^ b) < 256 := Nat.lt_of_le_of_lt Nat.and_le_left ha
  have h255 : ∀ j, (255 : Nat).testBit j = decide (j < 8) := by
    intro j
    rw [show (255 : Nat) = 2 ^ 8 - 1 by decide]
    exact Nat.testBit_two_pow_sub_one 8 j
  have ha8 : ∀ j, a.testBit j = true → j < 8 := by
    intro j hj
    by_cases q : j < 8
    · exact q
    · have := Nat.testBit_lt_two_pow (Nat.lt_of_lt_of_le ha (Nat.pow_le_pow_right (n := 2) (by decide) (by omega : 8 ≤ j)))
      rw [hj] at this; cases this
  have htb : ∀ j, (a &&& (255 ^^^ b)).testBit j = (a.testBit j && !b.testBit j) := by
    intro j
    rw [Nat.testBit_and, Nat.testBit_xor, h255]
    cases h : a.testBit j
    · rfl
    · simp [ha8 j h]
  refine ⟨a &&& (255 ^^^ b), hv, ?_, htb⟩
  apply Int32.toBitVec_inj.mp
  apply BitVec.eq_of_getLsbD_eq
  intro i hi
  have e1 : (nI a &&& (nI b ^^^ -1)).toBitVec = BitVec.ofNat 32 a &&& (BitVec.ofNat 32 b ^^^ BitVec.allOnes 32) := rfl
  have e2 : (nI (a &&& (255 ^^^ b))).toBitVec = BitVec.ofNat 32 (a &&& (255 ^^^ b)) := rfl
  rw [e1, e2, BitVec.getLsbD_and, BitVec.getLsbD_xor, BitVec.getLsbD_allOnes, BitVec.getLsbD_ofNat, BitVec.getLsbD_ofNat, BitVec.getLsbD_ofNat, htb]
  simp [hi]
/-! is it safe -/
theorem flg : ∀ d, d < 8 → ∀ v, v < 256 → (nI v >>> (nI d &&& 31)) &&& 1 = nI (bv (v.testBit d)) := by decide +kernel
theorem flo : ∀ x, x < 2 → ∀ b, b < 2 → nI x ||| nI b = if b = 1 then 1 else nI x := by decide
theorem offL {T : qs_D} {g : Nat → Int32} {c n v : Nat} {p2 w3 : Int32} (hv : v < 256) (hw : wfr g c n) : ∀ (k i : Nat) (g' : Nat → Int32), c - i < k → i ≤ c → wfr g' c n → (∀ x, x < 12 → g' x = g x) → (∀ d, d < c → ∀ z, z < 6 → g' (12 + 6 * d + z) = if z = 4 ∧ d < i ∧ v.testBit d = true then 1 else g (12 + 6 * d + z)) → ∃ g2, fX5_isSafe_L12 k (nI v) p2 w3 (nI i) (qs_w T 1 g') = fX5_isSafe_L12 1 (nI v) p2 w3 (nI c) (qs_w T 1 g2) ∧ wfr g2 c n ∧ pr g g2 c (fun d => v.testBit d) (fun d => g (12 + 6 * d + 3)) := by
  have hc8 := RR.c8 hw
  intro k
  induction k with
  | zero => intro i g' h; omega
  | succ k ih =>
    intro i g' hk hi hw' h0 hd
    have h5 : (qs_w T 1 g') 1 5 = nI c := by rw [pw_self]; exact hw'.2.2.2.2.2.1
    by_cases hin : c ≤ i
    · have hic : i = c := by omega
      subst hic
      refine ⟨g', ?_, hw', h0, fun d hdc => ⟨fun hS z hz => ?_, fun hS => ⟨?_, ?_⟩, fun hb => hb⟩⟩
      · unfold fX5_isSafe_L12
        rw [g70_5, g70_5, tn5, h5, if_pos (nI_le (Nat.le_refl _) (by omega)), if_pos (nI_le (Nat.le_refl _) (by omega))]
      · rw [hd d hdc z hz, if_neg (fun q => absurd (q.2.2.symm.trans (show v.testBit d = false from hS)) (by decide))]
      · rw [hd d hdc 4 (by decide), if_pos ⟨rfl, hdc, hS⟩]
      · rw [hd d hdc 3 (by decide), if_neg (fun q => absurd q.1 (by decide))]
    · have hic : i < c := by omega
      rw [fX5_isSafe_L12, g70_5, tn5, h5, if_neg (nI_ge (by omega) (by omega)), it4 (by omega), pl_bind, pt4 (by omega), pl_bind, pl_let, nI_s, flg i (by omega) v hv, pu_eq, pw_w, pw_self]
      obtain ⟨x4, hx4, e4⟩ := (hw'.2.2.2.2.2.2.2.2.1 i hic).2.2.2.2.1
      have e4 : g' (12 + 6 * i + 4) = nI x4 := e4
      have hbv : bv (v.testBit i) < 2 := by cases v.testBit i <;> decide
      rw [e4, flo x4 (by omega) _ hbv]
      have hq : qb (if bv (v.testBit i) = 1 then 1 else nI x4) 1 := by
        by_cases q : bv (v.testBit i) = 1
        · rw [if_pos q]; exact ⟨1, by decide, rfl⟩
        · rw [if_neg q]; exact ⟨x4, hx4, rfl⟩
      refine ih (i + 1) _ (by omega) (by omega) ?_ (fun x hx => ?_) (fun d hdc z hz => ?_)
      · rw [sW_upd (by decide)]
        exact wfr_d hw' hic (dw_upd (hw'.2.2.2.2.2.2.2.2.1 i hic) (by decide) hq)
      · rw [up_ne _ _ (by omega)]; exact h0 x hx
      · by_cases hdz : d = i ∧ z = 4
        · obtain ⟨rfl, rfl⟩ := hdz
          rw [up_self]
          by_cases q : v.testBit d = true
          · rw [q, if_pos (by decide), if_pos ⟨rfl, by omega, rfl⟩]
          · have q2 : v.testBit d = false := Bool.eq_false_iff.mpr q
            rw [q2, if_neg (by decide), if_neg (by intro z; exact absurd z.2.2 (by decide)), ← e4, hd d hdc 4 (by decide), if_neg (by omega)]
        · rw [up_ne _ _ (by omega), hd d hdc z hz]
          by_cases q : z = 4 ∧ d < i ∧ v.testBit d = true
          · rw [if_pos q, if_pos ⟨q.1, by omega, q.2.2⟩]
          · rw [if_neg q, if_neg (fun z2 => q ⟨z2.1, by omega, z2.2.2⟩)]
theorem safe {X M : qs_D} {f g g2 : Nat → Int32} {c n N v va vb vn : Nat} (h : RR X M) (hf : e70 (M 1) f) (hw : wfr g c n) (hN : N ≤ 100) (hv : v < 256) (hva : va < 256) (hvb : vb < 256) (hrun : fX5_goesFor (nI N) (qs_w (qs_w M 3 f) 1 g) = some ((), qs_w (qs_w M 3 f) 1 g2)) (ta : ∀ j, va.testBit j = (decide (j < c) && decide (g2 (12 + 6 * j + 3) = 1))) (eb : vS g 3 c 0 0 = nI vb) (tb : ∀ j, vb.testBit j = (decide (j < c) && decide (g (12 + 6 * j + 3) = 1))) (tn : ∀ j, vn.testBit j = (va.testBit j && !vb.testBit j)) : ∃ r g3, ((r = 0 ∧ ¬ ∀ j, vn.testBit j = true → v.testBit j = true) ∨ (r = 1 ∧ ∀ j, vn.testBit j = true → v.testBit j = true)) ∧ fX5_isSafe (nI v) (nI N) (qs_w (qs_w M 3 f) 1 g) = some (r, qs_w (qs_w M 3 f) 1 g3) ∧ e70 (M 1) g3 := by
  have hc8 := RR.c8 hw
  have hr : fX5_setOf 3 (qs_w (qs_w M 3 f) 1 g) = some (vS g 3 c 0 0, qs_w (qs_w M 3 f) 1 g) := by
    have := rSet (M := qs_w (qs_w M 3 f) 1 g) (c := c) (w := 3) (by rw [pw_self]; exact hw.2.2.2.2.2.1) hc8 (by decide)
    rw [pw_self] at this
    exact this
  unfold fX5_isSafe
  obtain ⟨F, hF⟩ : ∃ F, F = qs_F := ⟨_, rfl⟩
  rw [← hF]
  rw [qs_F_eq] at hF
  rw [hr, pl_bind, eb, rBits hvb, pl_bind, pl_let, pl_let]
  obtain ⟨g', e1, e2, e3⟩ := offL (T := qs_w M 3 f) (p2 := nI N) (w3 := bc (nI vb)) hv hw F 0 g (by omega) (by omega) hw (fun _ _ => rfl) (fun d _ z _ => by rw [if_neg (by omega)])
  have e1 : fX5_isSafe_L12 F (nI v) (nI N) (bc (nI vb)) 0 (qs_w (qs_w M 3 f) 1 g) = fX5_isSafe_L12 1 (nI v) (nI N) (bc (nI vb)) (nI c) (qs_w (qs_w M 3 f) 1 g') := e1
  rw [e1]
  obtain ⟨ga, gb, n2, r1, r2, r3, r4, r5⟩ := pairS (qs_w M 3 f) hN hw e2 e3
  have hga : ga = g2 := by
    rw [r1] at hrun
    have := congrArg (fun z : Option (Unit × qs_D) => (z.getD ((), M)).2 1) hrun
    simpa [pw_self] using this
  subst hga
  obtain ⟨vc, hvc, ec, tc⟩ := vS_tb r4
  have hs2 : fX5_setOf 3 (qs_w (qs_w M 3 f) 1 gb) = some (nI vc, qs_w (qs_w M 3 f) 1 gb) := by
    have := rSet (M := qs_w (qs_w M 3 f) 1 gb) (c := c) (w := 3) (by rw [pw_self]; exact r4.2.2.2.2.2.1) hc8 (by decide)
    rw [pw_self, ec] at this
    exact this
  have h5 : (qs_w (qs_w M 3 f) 1 g') 1 5 = nI c := by rw [pw_self]; exact e2.2.2.2.2.2.1
  obtain ⟨g3, d1, d2, -⟩ := thEnd (X2 := X) (g := gb) h hf (bfr_rf X 25)
  have htc : ∀ j, vc.testBit j = (if v.testBit j then vb.testBit j else va.testBit j) := by
    intro j
    rw [tc]
    by_cases hj : j < c
    · cases hs : v.testBit j
      · rw [(r5.2 j hj).1 hs 3 (by decide), ta]; simp
      · rw [((r5.2 j hj).2.1 hs).2, tb]; simp
    · rw [ta, tb]
      simp [hj]
  have hba : ∀ j, vb.testBit j = true → va.testBit j = true := by
    intro j hj
    rw [tb] at hj
    rw [ta]
    by_cases hjc : j < c
    · simp only [hjc, decide_true, Bool.true_and, decide_eq_true_eq] at hj ⊢
      exact (r5.2 j hjc).2.2 hj
    · simp [hjc] at hj
  have hbc : ∀ j, vb.testBit j = true → vc.testBit j = true := by
    intro j hj
    rw [htc]
    cases v.testBit j
    · exact hba j hj
    · exact hj
  rw [fX5_isSafe_L12, g70_5, tn5, h5, if_pos (nI_le (Nat.le_refl _) (by omega)), r2, pl_bind, hs2, pl_bind, rBits hvc, pl_bind, bc_pc vb hvb, bc_pc vc hvc, d1]
  have p8 := pc_8 vc
  have p9 := pc_8 vb
  by_cases hsub : ∀ j, vn.testBit j = true → v.testBit j = true
  · have heq : pc vc ≤ pc vb := by
      apply pc_le
      intro j hj
      rw [htc] at hj
      cases hs : v.testBit j
      · rw [hs] at hj
        have hj : va.testBit j = true := hj
        cases hb : vb.testBit j
        · have : vn.testBit j = true := by rw [tn, hj, hb]; rfl
          rw [hsub j this] at hs; cases hs
        · rfl
      · rw [hs] at hj
        exact hj
    rw [if_neg (nI_nlt heq (by omega)), pl_let, pl_bind, pl_gb1]
    exact ⟨1, g3, Or.inr ⟨rfl, hsub⟩, rfl, d2⟩
  · have hlt : pc vb < pc vc := by
      have : ∃ j, vn.testBit j = true ∧ ¬ v.testBit j = true := Classical.byContradiction (fun q => hsub (fun j hj => Classical.byContradiction (fun q2 => q ⟨j, hj, q2⟩)))
      obtain ⟨j, hj1, hj2⟩ := this
      rw [tn] at hj1
      have ha : va.testBit j = true := by cases h1 : va.testBit j <;> simp [h1] at hj1 ⊢
      have hb : vb.testBit j = false := by cases h1 : vb.testBit j <;> simp [h1] at hj1 ⊢
      have hvj : v.testBit j = false := by cases h1 : v.testBit j <;> simp [h1] at hj2 ⊢
      have hj8 : j < 8 := by
        rw [ta] at ha
        by_cases hjc : j < c
        · omega
        · simp [hjc] at ha
      exact pc_lt hbc hj8 hb (by rw [htc, hvj]; exact ha)
    rw [if_pos (nI_lt hlt (by omega)), pl_let, pl_bind, pl_gb0]
    exact ⟨0, g3, Or.inl ⟨rfl, hsub⟩, rfl, d2⟩
theorem shl8 : ∀ c, c < 9 → (1 : Int32) <<< (nI c &&& 31) = nI (2 ^ c) := by decide
theorem wf_same {g g3 : Nat → Int32} {c n : Nat} (he : e70 g g3) (hw : wfr g c n) : wfr g3 c n := wfr_congr he hw
theorem vS_congr {g g' : Nat → Int32} {w : Nat} : ∀ (m i : Nat) (a : Int32), (∀ j, i ≤ j → j < i + m → g' (12 + 6 * j + w) = g (12 + 6 * j + w)) → vS g' w m i a = vS g w m i a := by
  intro m
  induction m with
  | zero => intro i a h; rfl
  | succ m ih =>
    intro i a h
    unfold vS
    rw [h i (by omega) (by omega)]
    exact ih (i + 1) _ (fun j h1 h2 => h j (by omega) (by omega))
theorem takeOffL {X M : qs_D} {f : Nat → Int32} {c n N vn : Nat} (hvn : vn < 2 ^ c) (hc8 : c ≤ 8) (hw : wfr (M 1) c n)
    (hsafe : ∀ g v, e70 (M 1) g → v < 256 → ∃ r g3, ((r = 0 ∧ ¬ ∀ j, vn.testBit j = true → v.testBit j = true) ∨ (r = 1 ∧ ∀ j, vn.testBit j = true → v.testBit j = true)) ∧ fX5_isSafe (nI v) (nI N) (qs_w (qs_w M 3 f) 1 g) = some (r, qs_w (qs_w M 3 f) 1 g3) ∧ e70 (M 1) g3) :
    ∀ (k i : Nat) (g : Nat → Int32), 2 ^ c - i < k → i ≤ 2 ^ c → e70 (M 1) g → ∃ g3, fX5_takeOff_L25 k (nI N) (if i ≤ vn then -1 else nI vn) (nI i) (qs_w (qs_w M 3 f) 1 g) = some (nI vn, qs_w (qs_w M 3 f) 1 g3) ∧ e70 (M 1) g3 := by
  have h256 : 2 ^ c ≤ 256 := Nat.pow_le_pow_right (n := 2) (by decide) hc8
  intro k
  induction k with
  | zero => intro i g h; omega
  | succ k ih =>
    intro i g hk hi hg
    have h5 : (qs_w (qs_w M 3 f) 1 g) 1 5 = nI c := by rw [pw_self]; exact (wf_same hg hw).2.2.2.2.2.1
    rw [fX5_takeOff_L25, g70_5, tn5, h5, shl8 c (by omega)]
    by_cases hin : 2 ^ c ≤ i
    · rw [if_pos (nI_le hin (by omega)), if_neg (by omega), orNone_p (by omega)]
      exact ⟨g, rfl, hg⟩
    · rw [if_neg (nI_ge (by omega) (by omega))]
      obtain ⟨r, g3, hr, e1, e2⟩ := hsafe g i hg (by omega)
      by_cases hle : i ≤ vn
      · rw [if_pos hle, if_pos (by decide), pl_let, if_neg one0, e1, pl_bind]
        rcases hr with ⟨rfl, hno⟩ | ⟨rfl, hyes⟩
        · have hne : i ≠ vn := by
            intro q
            subst q
            exact hno (fun _ z => z)
          rw [if_pos rfl, pl_let, pl_let, nI_s]
          have := ih (i + 1) g3 (by omega) (by omega) e2
          rw [if_pos (by omega)] at this
          exact this
        · have hge := sub_le hyes
          have heq : i = vn := by omega
          subst heq
          rw [if_neg one0, pl_let, pl_let, nI_s]
          have := ih (i + 1) g3 (by omega) (by omega) e2
          rw [if_neg (by omega)] at this
          exact this
      · have hnn : ¬ nI vn < 0 := nI_pos (by omega)
        rw [if_neg hle, if_neg hnn, rBits (by omega), pl_bind, rBits (by omega), pl_bind, bc_pc i (by omega), bc_pc vn (by omega)]
        have q8 := pc_8 i
        have q9 := pc_8 vn
        by_cases hp : pc vn ≤ pc i
        · rw [if_pos (nI_le hp (by omega)), pl_let, if_pos rfl, pl_let, pl_let, nI_s]
          have := ih (i + 1) g (by omega) (by omega) hg
          rw [if_neg (by omega)] at this
          exact this
        · rw [if_neg (nI_ge (by omega) (by omega)), pl_let, if_neg one0, e1, pl_bind]
          rcases hr with ⟨rfl, hno⟩ | ⟨rfl, hyes⟩
          · rw [if_pos rfl, pl_let, pl_let, nI_s]
            have := ih (i + 1) g3 (by omega) (by omega) e2
            rw [if_neg (by omega)] at this
            exact this
          · exact absurd (pc_le hyes) hp
theorem m_takeOff {X M : qs_D} (h : RR X M) (p1 : Int32) : OK (fX4_takeOff p1 X) (fX5_takeOff p1 M) := by
  obtain ⟨⟨c, n, hw, hk⟩, -⟩ := id h
  have hc8 := RR.c8 hw
  unfold fX4_takeOff fX5_takeOff
  obtain ⟨F, hF⟩ : ∃ F, F = qs_F := ⟨_, rfl⟩
  rw [← hF]
  rw [qs_F_eq] at hF
  rw [cWithin, rIn, pl_bind, pl_bind]
  by_cases h1 : 0 ≤ p1 ∧ p1 ≤ 20
  · obtain ⟨N, hN, rfl⟩ := nat_le (n := 20) rfl (by decide) h1
    obtain ⟨f, t1, t2⟩ := rThinks M
    rw [if_pos h1, if_neg one0, if_neg one0, t1, pl_bind]
    obtain ⟨X1, a1, a2, a3⟩ := cAll apt25 hc8 hk
    obtain ⟨X2, g2, n2, b1, b2, b3, b4, b5, b6⟩ := simST (M := M) (f := f) hw hc8 (fun i hi => hi) a2.1 (by omega : N ≤ 100)
    have hb2 : bfr X X2 25 := bfr_tr a3 (kfr_b b5)
    have hk1 : kf X2 1 (M 1) c := kf_out hc8 hk hb2
    obtain ⟨va, hva, ea, ta⟩ := vS_tb b3
    obtain ⟨vb, hvb, eb, tb⟩ := vS_tb hw
    obtain ⟨vn, hvn, en, tn⟩ := andnot hva hvb
    rw [a1, pl_bind, b1, pl_bind, cSplitSet hc8 (fun _ _ => rfl) b4, pl_bind, cSplitSet hc8 (fun _ _ => rfl) hk1.1, pl_bind, ea, eb, en, pl_let, pl_let, th_id]
    have hvc : vn < 2 ^ c := by
      apply Nat.lt_pow_two_of_testBit
      intro j hj
      rw [tn, ta]
      have : ¬ j < c := by omega
      simp [this]
    have hsafe : ∀ g v, e70 (M 1) g → v < 256 → ∃ r g3, ((r = 0 ∧ ¬ ∀ j, vn.testBit j = true → v.testBit j = true) ∨ (r = 1 ∧ ∀ j, vn.testBit j = true → v.testBit j = true)) ∧ fX5_isSafe (nI v) (nI N) (qs_w (qs_w M 3 f) 1 g) = some (r, qs_w (qs_w M 3 f) 1 g3) ∧ e70 (M 1) g3 := by
      intro g v hg hv
      have hwg : wfr g c n := wfr_congr hg hw
      have hkg : kr X1 25 g c (fun i => i) := kr_congr hg (fun i hi => by show i < 8; omega) a2.1
      obtain ⟨X3, g4, n4, c1, c2, c3, c4, c5, c6⟩ := simST (M := M) (f := f) hwg hc8 (fun i hi => hi) hkg (by omega : N ≤ 100)
      have hX : X3 = X2 := by
        rw [b1] at c1
        have := congrArg (fun z : Option (Unit × qs_D) => (z.getD ((), M)).2) c1
        exact this.symm
      subst hX
      refine safe h t2 hwg (by omega) hv hva hvb c2 (fun j => ?_) ?_ (fun j => ?_) tn
      · rw [ta]
        by_cases hj : j < c
        · have q1 := b4.2.2.2.2.2 j hj 3 (by decide)
          have q2 := c4.2.2.2.2.2 j hj 3 (by decide)
          have q3 : g2 (12 + 6 * j + 3) = g4 (12 + 6 * j + 3) := q1.symm.trans q2
          rw [q3]
        · simp [hj]
      · rw [vS_congr c 0 0 (fun j h1 h2 => hg _ (by omega))]
        exact eb
      · rw [tb]
        by_cases hj : j < c
        · rw [hg (12 + 6 * j + 3) (by omega)]
        · simp [hj]
    have h256 : 2 ^ c ≤ 256 := Nat.pow_le_pow_right (n := 2) (by decide) hc8
    obtain ⟨g3, e1, e2⟩ := takeOffL (X := X) hvc hc8 hw hsafe F 0 (M 1) (by omega) (by omega) (fun _ _ => rfl)
    rw [if_pos (by omega)] at e1
    have e1 : fX5_takeOff_L25 F (nI N) (-1) 0 (qs_w (qs_w M 3 f) 1 (M 1)) = some (nI vn, qs_w (qs_w M 3 f) 1 g3) := e1
    rw [e1]
    exact OK.mk (RR_fr h (fun x hx => hb2 x (by omega)) (by rw [pw_self]; exact e2) (fun x h1 h3 => by rw [pw_ne _ _ h1, pw_ne _ _ h3]))
  · rw [if_neg h1, if_pos rfl, if_pos rfl]
    exact ok_f h (by decide : 0 < 7) (by decide)
