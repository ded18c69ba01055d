/-! service -/
def dr (z : Int32) : Int32 := ((z.toUInt32 >>> ((8 : Int32).toUInt32 &&& Int32.toUInt32 31)).toInt32)
def nx (z : Int32) : Int32 := z * 1103515245 + 12345
theorem dr_n (z : Int32) : ∃ m, m < 2 ^ 24 ∧ dr z = nI m := by
  have e : ((8 : Int32).toUInt32 &&& Int32.toUInt32 31) = 8 := by decide
  refine ⟨(z.toUInt32 >>> 8).toNat, ?_, ?_⟩
  · rw [UInt32.toNat_shiftRight]
    have := UInt32.toNat_lt z.toUInt32
    have e8 : (8 : UInt32).toNat % 32 = 8 := by decide
    rw [e8, Nat.shiftRight_eq_div_pow]
    omega
  · unfold dr
    rw [e]
    have : nI (z.toUInt32 >>> 8).toNat = (UInt32.ofNat (z.toUInt32 >>> 8).toNat).toInt32 := rfl
    rw [this, UInt32.ofNat_toNat]
theorem cDraw (X : qs_D) : fX1_draw 1 X = some (dr (nx (X 1 4)), qs_u X 1 4 (nx (X 1 4))) := by
  unfold fX1_draw
  rw [pl_let]
  simp only [pu_eq, pw_self, up_self]
  rfl
theorem rDraw (M : qs_D) : fX5_draw M = some (dr (nx (M 1 4)), qs_u M 1 4 (nx (M 1 4))) := by
  unfold fX5_draw
  rw [g70_4, g70_4, pl_let, g70_4, tn4]
  simp only [pu_eq, pw_self, up_self]
  rfl
theorem rem12 {n : Nat} (hn : n < 2 ^ 24) : nI n - nI n / 12 * 12 = nI (n % 12) := pk_rem (a := n) (d := 12) (by omega) (by decide) (by decide)
theorem rem8 {n : Nat} (hn : n < 2 ^ 24) : nI n - nI n / 8 * 8 = nI (n % 8) := pk_rem (a := n) (d := 8) (by omega) (by decide) (by decide)
theorem ix6 : ∀ d, d < 6 → (6 : Int32) + nI d = nI (6 + d) := by decide
theorem upd_c (g : Nat → Int32) {i j : Nat} (a b : Int32) (h : i ≠ j) : upd (upd g i a) j b = upd (upd g j b) i a := by
  funext x
  unfold upd
  by_cases h1 : x = i
  · subst h1; simp [h]
  · simp [h1]
theorem serviceL {N : Nat} (hN : N ≤ 20) : ∀ (k i : Nat) (X M : qs_D), N - i < k → i ≤ N → RR X M → OK (fX4_service_L38 k (nI N) (nI i) X) (fX5_service_L39 k (nI N) (nI i) M) := by
  intro k
  induction k with
  | zero => intro i X M h; omega
  | succ k ih =>
    intro i X M hk hi h
    obtain ⟨⟨c, n, hw, hkf⟩, -⟩ := id h
    have hc8 := RR.c8 hw
    unfold fX4_service_L38 fX5_service_L39
    by_cases hiN : N ≤ i
    · rw [if_pos (nI_le hiN (by omega)), if_pos (nI_le hiN (by omega)), g70_3, tn3, hkf.2.1]
      exact OK.mk h
    · rw [if_neg (nI_ge (by omega) (by omega)), if_neg (nI_ge (by omega) (by omega)), g70_0, tn0]
      unfold fX1_serviceStep
      have hn9 : n ≤ 99999 := hw.2.1
      have hn0 : M 1 0 = nI n := hw.1
      have hx3 : X 1 3 = nI n := hkf.1.2.2.1.trans hn0
      have hz : X 1 4 = M 1 4 := hkf.2.2.1
      obtain ⟨m1, hm1, e1⟩ := dr_n (nx (M 1 4))
      obtain ⟨m2, hm2, e2⟩ := dr_n (nx (nx (M 1 4)))
      have h6 : n % 6 < 6 := Nat.mod_lt _ (by decide)
      rw [cDraw, rDraw, pl_bind, pl_bind, pl_let, cDraw, pl_bind, pl_let, hz, e1, hn0, rem6 hn9, ix6 _ h6]
      have ea : (qs_u X 1 4 (nx (M 1 4))) 1 4 = nx (M 1 4) := by rw [pu_eq, pw_self, up_self]
      rw [ea, e2, rem12 hm1, rem8 hm2]
      have eb : (qs_u (qs_u X 1 4 (nx (M 1 4))) 1 4 (nx (nx (M 1 4)))) 1 3 = nI n := by
        rw [pu_eq, pw_self, up_ne _ _ (by decide), pu_eq, pw_self, up_ne _ _ (by decide)]; exact hx3
      rw [eb, rem6 hn9, pl_gN (d := n % 6) (n := 6) (by decide) h6, pl_gN (d := 6 + n % 6) (n := 70) (by decide) (by omega), tnN (d := n % 6) (by omega), tnN (d := 6 + n % 6) (by omega)]
      simp only [pl_let]
      rw [rDraw, pl_bind]
      have ec : (qs_u (qs_u M 1 4 (nx (M 1 4))) 1 (6 + n % 6) (nI (m1 % 12))) 1 4 = nx (M 1 4) := by
        rw [pu_eq, pw_self, up_ne _ _ (by omega), pu_eq, pw_self, up_self]
      rw [ec, e2, rem8 hm2]
      have hq : qb (nI (m1 % 12)) 11 := ⟨m1 % 12, by omega, rfl⟩
      have hwa : wfr (upd (upd (upd (M 1) 4 (nx (M 1 4))) 4 (nx (nx (M 1 4)))) (6 + n % 6) (nI (m1 % 12))) c n := wfr_l (wfr_4 (wfr_4 hw)) h6 hq
      have hka := kf_l (i := n % 6) (v := nI (m1 % 12)) h6 (kf_4 (v := nx (nx (M 1 4))) (kf_4 (v := nx (M 1 4)) hkf))
      have hMM : qs_u (qs_u (qs_u M 1 4 (nx (M 1 4))) 1 (6 + n % 6) (nI (m1 % 12))) 1 4 (nx (nx (M 1 4))) = qs_w M 1 (upd (upd (upd (M 1) 4 (nx (M 1 4))) 4 (nx (nx (M 1 4)))) (6 + n % 6) (nI (m1 % 12))) := by
        rw [pu_eq, pu_eq, pu_eq, pw_self, pw_self, pw_w, pw_w, upd_c _ (i := 6 + n % 6) (j := 4) _ _ (by omega)]
      rw [hMM]
      generalize upd (upd (upd (M 1) 4 (nx (M 1 4))) 4 (nx (nx (M 1 4)))) (6 + n % 6) (nI (m1 % 12)) = g at hwa hka
      have hXf : bfr X (qs_u (qs_u (qs_u X 1 4 (nx (M 1 4))) 1 4 (nx (nx (M 1 4)))) (1 + 1) (n % 6) (nI (m1 % 12))) 1 := by
        intro x hx
        rw [pu_eq, pw_ne _ _ (by omega), pu_eq, pw_ne _ _ (by omega), pu_eq, pw_ne _ _ (by omega)]
      generalize qs_u (qs_u (qs_u X 1 4 (nx (M 1 4))) 1 4 (nx (nx (M 1 4)))) (1 + 1) (n % 6) (nI (m1 % 12)) = Y at hka hXf
      obtain ⟨X2, g2, a1, a2, a3, a4, a5, a6⟩ := sim1 (X := Y) (M := qs_w M 1 g) (c := c) (n := n) (m := c) (kb := 1) (π := fun i => i) (by rw [pw_self]; exact hwa) hc8 (fun i hi => hi) (by rw [pw_self]; exact hka.1)
      rw [pw_self] at a6
      rw [pw_w] at a2
      have hk2 : kf X2 1 g2 c := kf_steps hc8 hka a4 a5 a6
      have hbf : bfr X X2 1 := bfr_tr hXf (kfr_b a5)
      rw [a1, a2, pl_bind, pl_bind, hk2.1.2.2.2.1, rIsDish (D := qs_w M 1 g2) (c := c) (by rw [pw_self]; exact a3.2.2.2.2.2.1), pl_bind]
      have hRR : RR X2 (qs_w M 1 g2) := RR_k h (fun x h1 _ => hbf x (by omega)) (fun x h1 _ => pw_ne _ _ h1) (by rw [pw_self]; exact a3) (by rw [pw_self]; exact hk2)
      have h8 : m2 % 8 < 8 := Nat.mod_lt _ (by decide)
      generalize m2 % 8 = d at h8
      by_cases hd : d < c
      · rw [if_pos (dish_ok hc8 hd), if_neg one0, if_neg (nI_ge hd (by omega)), it4 h8, pl_bind, pw_self, pl_gN (d := d) (n := 8) (by decide) h8, tnN (d := d) (by omega), hk2.1.2.2.2.2.2 d hd 4 (by decide)]
        by_cases h4 : g2 (12 + 6 * d + 4) = 0
        · rw [if_pos h4, if_pos h4]
          obtain ⟨X3, g3, b1, b2, b3, b4, b5⟩ := serve_rel (X := X2) (M := qs_w M 1 g2) (c := c) (n := min 99999 (n + 1)) (d := d) (by rw [pw_self]; exact a3) (by rw [pw_self]; exact hk2) hd
          rw [b1, b2, pl_bind, pl_bind]
          simp only [pl_let, pl_bind]
          rw [nI_s]
          exact ih (i + 1) X3 _ (by omega) (by omega) (RR_k hRR (fun x h1 _ => b5 x (by omega)) (fun x h1 _ => pw_ne _ _ h1) (by rw [pw_self]; exact b3) (by rw [pw_self]; exact b4))
        · rw [if_neg h4, if_neg h4]
          simp only [pl_let, pl_bind]
          rw [nI_s]
          exact ih (i + 1) X2 _ (by omega) (by omega) hRR
      · have hnd : ¬ (0 ≤ nI d ∧ nI d ≤ nI c - 1) := by
          intro h1
          obtain ⟨e, he, ee⟩ := nat_dish hc8 h1
          have := (nI_eq (by omega) (by omega)).mp ee
          omega
        rw [if_neg hnd, if_pos rfl, if_pos (nI_le (by omega) (by omega))]
        simp only [pl_let, pl_bind]
        rw [nI_s]
        exact ih (i + 1) X2 _ (by omega) (by omega) hRR
theorem m_service {X M : qs_D} (h : RR X M) (p1 : Int32) : OK (fX4_service p1 X) (fX5_service p1 M) := by
  obtain ⟨⟨c, n, hw, hk⟩, -⟩ := id h
  unfold fX4_service fX5_service
  obtain ⟨F, hF⟩ : ∃ F, F = qs_F := ⟨_, rfl⟩
  rw [← hF]
  rw [qs_F_eq] at hF
  rw [cWithin, rIn, pl_bind, pl_bind]
  by_cases h1 : 1 ≤ p1 ∧ p1 ≤ 20
  · have h0 : 0 ≤ p1 ∧ p1 ≤ 20 := ⟨Int32.le_trans (by decide) h1.1, h1.2⟩
    obtain ⟨N, hN, rfl⟩ := nat_le (n := 20) rfl (by decide) h0
    rw [if_pos h1, if_neg one0, if_neg one0, g70_0, tn0, hk.1.2.2.1]
    by_cases h2 : M 1 0 + nI N ≤ 99999
    · rw [if_pos h2, if_pos h2]
      simp only [pl_let]
      exact serviceL hN F 0 X M (by omega) (by omega) h
    · rw [if_neg h2, if_neg h2]
      exact ok_f h (by decide : 4 < 7) (by decide)
  · rw [if_neg h1, if_pos rfl, if_pos rfl]
    exact ok_f h (by decide : 0 < 7) (by decide)
/-! feed -/
theorem i8w (y : Int32) : y.toInt8.toBitVec = y.toBitVec.setWidth 8 := BitVec.signExtend_eq_setWidth_of_le _ (by decide)
theorem bit255 : ∀ i : Fin 8, (255#32).getLsbD i.val = true := by decide
theorem lo8 (x : Int32) : (x &&& 255).toInt8 = x.toInt8 := by
  apply Int8.toBitVec_inj.mp
  rw [i8w, i8w]
  apply BitVec.eq_of_getLsbD_eq
  intro i hi
  have e : (x &&& 255).toBitVec = x.toBitVec &&& 255#32 := rfl
  rw [BitVec.getLsbD_setWidth, BitVec.getLsbD_setWidth, e, BitVec.getLsbD_and, bit255 ⟨i, hi⟩, Bool.and_true]
theorem shv (v : BitVec 32) {s : Nat} (hs : s ≤ 24) : (v >>> s).setWidth 8 = (v.sshiftRight s).setWidth 8 := by
  apply BitVec.eq_of_getLsbD_eq
  intro i hi
  rw [BitVec.getLsbD_setWidth, BitVec.getLsbD_setWidth, BitVec.getLsbD_ushiftRight, BitVec.getLsbD_sshiftRight]
  have h1 : ¬ 32 ≤ i := by omega
  have h2 : s + i < 32 := by omega
  simp [h1, h2]
theorem byt (w : Int32) : ∀ j, j < 4 → ((w.toUInt32 >>> ((8 * nI j).toUInt32 &&& Int32.toUInt32 31)).toInt32).toInt8 = (w >>> ((8 * nI j) &&& 31)).toInt8 := by
  intro j hj
  apply Int8.toBitVec_inj.mp
  rw [i8w, i8w]
  have hj : j = 0 ∨ j = 1 ∨ j = 2 ∨ j = 3 := by omega
  rcases hj with rfl | rfl | rfl | rfl
  · exact shv w.toBitVec (s := 0) (by decide)
  · exact shv w.toBitVec (s := 8) (by decide)
  · exact shv w.toBitVec (s := 16) (by decide)
  · exact shv w.toBitVec (s := 24) (by decide)
theorem i8i (x : Int8) : x.toInt32.toInt8 = x := by simp
theorem q255 (x : Int32) : qb (x &&& 255) 255 := by
  refine ⟨x.toBitVec.toNat % 256, by omega, ?_⟩
  apply Int32.toBitVec_inj.mp
  apply BitVec.eq_of_toNat_eq
  have e : (x &&& 255).toBitVec = x.toBitVec &&& 255#32 := rfl
  have e2 : (nI (x.toBitVec.toNat % 256)).toBitVec = BitVec.ofNat 32 (x.toBitVec.toNat % 256) := rfl
  have e3 : (255#32).toNat = 2 ^ 8 - 1 := by decide
  rw [e, e2, BitVec.toNat_and, e3, Nat.and_two_pow_sub_one_eq_mod, BitVec.toNat_ofNat]
  omega
theorem add_neg1 (x : Int32) : x + -1 = x - 1 := by rw [Int32.sub_eq_add_neg]
theorem nI_add' (a b : Nat) : nI a + nI b = nI (a + b) := by
  first | exact nI_add a b | exact (nI_add a b).symm | exact nI_add | (unfold nI; exact (Int32.ofNat_add a b).symm)
theorem feedL {p1 p2 : Int32} : ∀ (k j t : Nat) (X M : qs_D), j < k → j ≤ 4 → t + j ≤ 120 → RR X M → X 37 1 = nI t → ∃ X2 M2 r, fX3_append_L4 k p1 p2 (nI j - 1) X = some ((), X2) ∧ fX5_feed_L38 k p1 p2 (nI j - 1) M = some (r, M2) ∧ X2 37 1 = r ∧ RR X2 M2 := by
  intro k
  induction k with
  | zero => intro j t X M h; omega
  | succ k ih =>
    intro j t X M hk hj ht h hX
    obtain ⟨-, -, -, -, ⟨t', t1, t2, t3, t4⟩⟩ := id h
    have htt : t = t' := (nI_eq (by omega) (by omega)).mp (hX.symm.trans t2)
    subst htt
    unfold fX3_append_L4 fX5_feed_L38
    cases j with
    | zero =>
      rw [if_pos (by decide), if_pos (by decide), t3]
      exact ⟨X, M, _, rfl, rfl, hX, h⟩
    | succ j =>
      rw [nI_pred, if_neg (Int32.not_lt.mpr (nI_pos' (by omega))), if_neg (Int32.not_lt.mpr (nI_pos' (by omega))), t2, t3, pl_gN (d := t) (n := 120) (by decide) (by omega), pl_gN (d := t) (n := 120) (by decide) (by omega), tnN (d := t) (by omega)]
      simp only [pl_let]
      rw [add_neg1, byt p1 j (by omega), i8i, ← lo8 (p1 >>> ((8 * nI j) &&& 31))]
      have hq := q255 (p1 >>> ((8 * nI j) &&& 31))
      generalize p1 >>> ((8 * nI j) &&& 31) &&& 255 = b at hq
      have ex : (qs_u X 38 t b.toInt8.toInt32) 37 1 = nI t := by rw [pu_eq, pw_ne _ _ (by decide)]; exact t2
      have em : (qs_u M 8 t b) 0 9 = nI t := by rw [pu_eq, pw_ne _ _ (by decide)]; exact t3
      rw [ex, em, nI_s]
      refine ih j (t + 1) _ _ (by omega) (by omega) (by omega) ?_ (by rw [pu_eq, pw_self, up_self])
      refine RR_t h (fun x h1 h2 _ => by rw [pu_eq, pw_ne _ _ h1, pu_eq, pw_ne _ _ h2]) ?_ ?_ ?_ ?_
      · rw [pu_eq, pw_self, up_ne _ _ (by decide), pu_eq, pw_ne _ _ (by decide)]
      · rw [pu_eq, pw_ne _ _ (by decide), pu_eq, pw_ne _ _ (by decide)]; exact fun _ _ => rfl
      · intro x h0 h1 h3 h8
        rw [pu_eq, pw_ne _ _ h0, pu_eq, pw_ne _ _ h8]
      · refine ⟨t + 1, by omega, by rw [pu_eq, pw_self, up_self], by rw [pu_eq, pw_self, up_self], fun q hq2 => ?_⟩
        rw [pu_eq, pw_ne _ _ (by decide), pu_eq, pw_self, pu_eq, pw_ne _ _ (by decide), pu_eq, pw_self]
        by_cases hqt : q = t
        · subst hqt
          rw [up_self, up_self]
          exact ⟨rfl, hq⟩
        · rw [up_ne _ _ hqt, up_ne _ _ hqt]
          exact t4 q (by omega)
theorem m_feed {X M : qs_D} (h : RR X M) (p1 p2 : Int32) : OK (fX4_feed p1 p2 X) (fX5_feed p1 p2 M) := by
  obtain ⟨-, -, -, -, ⟨t, t1, t2, t3, t4⟩⟩ := id h
  unfold fX4_feed fX5_feed fX3_append
  obtain ⟨F, hF⟩ : ∃ F, F = qs_F := ⟨_, rfl⟩
  rw [← hF]
  rw [qs_F_eq] at hF
  rw [cWithin, rIn, pl_bind, pl_bind]
  by_cases h1 : 1 ≤ p2 ∧ p2 ≤ 4
  · have h0 : 0 ≤ p2 ∧ p2 ≤ 4 := ⟨Int32.le_trans (by decide) h1.1, h1.2⟩
    obtain ⟨N, hN, rfl⟩ := nat_le (n := 4) rfl (by decide) h0
    rw [if_pos h1, if_neg one0, if_neg one0, t2, t3, nI_add']
    by_cases h2 : t + N ≤ 120
    · have h3 : nI (t + N) ≤ 120 := nI_le (b := 120) h2 (by decide)
      rw [if_pos h3, if_pos h3]
      simp only [pl_let]
      obtain ⟨X2, M2, r, a1, a2, a3, a4⟩ := feedL (p1 := p1) (p2 := nI N) F N t X M (by omega) (by omega) h2 h t2
      rw [a1, a2, pl_bind, a3]
      exact OK.mk a4
    · have h3 : ¬ nI (t + N) ≤ 120 := nI_ge (a := 120) (by omega) (by omega)
      rw [if_neg h3, if_neg h3]
      exact ok_f h (by decide : 1 < 7) (by decide)
  · rw [if_neg h1, if_pos rfl, if_pos rfl]
    exact ok_f h (by decide : 0 < 7) (by decide)
