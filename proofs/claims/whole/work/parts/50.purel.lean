theorem itemF {M : qs_D} {tk : Nat} (h10 : M 0 10 = nI tk) (hk : 14 ≤ tk) (hk2 : tk ≤ 23) (h14 : M 0 14 = 0) : fX5_item M = some ((), qs_u M 0 14 1) := by
  have hno : ∀ w, w < 14 → fX5_takes (nI w) M = some (0, M) := by
    intro w hw
    unfold fX5_takes
    rw [if_pos h14, h10, if_neg (fun q => by have := (nI_eq (by omega) (by omega)).mp q; omega)]
  have t11 : fX5_takes (11 : Int32) M = some (0, M) := hno 11 (by decide)
  have t12 : fX5_takes (12 : Int32) M = some (0, M) := hno 12 (by decide)
  have t13 : fX5_takes (13 : Int32) M = some (0, M) := hno 13 (by decide)
  unfold fX5_item
  rw [h10, if_pos (show (6 : Int32) < nI tk from nI_lt (a := 6) (by omega) (by omega)), t11, pl_bind, if_pos rfl, t12, pl_bind, if_pos rfl, t13, pl_bind, if_pos rfl, pl_let]
theorem two1 : ¬ (0 : Int32) = 3 ∧ ¬ (0 : Int32) = 2 ∧ ¬ (1 : Int32) = 3 ∧ ¬ (1 : Int32) = 2 ∧ ¬ (2 : Int32) = 3 ∧ ¬ (4 : Int32) = 3 ∧ ¬ (4 : Int32) = 2 := by decide
theorem textL {A A' : qs_D} {t : Nat} {B : Nat → Nat} (hT : TP A A' t B) : ∀ (k k2 w st en tk c n : Nat) (X M : qs_D), 122 - w < k → 122 - w < k2 → 1 ≤ w → w ≤ 121 → w ≤ st + 1 → wfr (M 1) c n → kf X 25 (M 1) c → xfr A X → mfr A' M → Tok X M t B st en tk → M 0 14 = 0 → tR A A' (fX3_readText_L11 25 k (nI w) X) (qs_bind (fX5_item M) (fun _ D => fX5_text_L24 k2 (nI w) D)) := by
  have ht := hT.1
  intro k
  induction k with
  | zero => intro k2 w st en tk c n X M h; omega
  | succ k ih =>
    intro k2 w st en tk c n X M hk hk2 hw1 hw2 hws hw hkf hx hm hTk h14
    obtain ⟨k2, rfl⟩ : ∃ q, k2 = q + 1 := ⟨k2 - 1, by omega⟩
    have hse := hTk.1
    have het := hTk.2.1
    rw [fX3_readText_L11]
    by_cases h121 : w = 121
    · have h20 : 14 ≤ tk := by
        obtain ⟨a1, a2, a3, a4, a5, a6, a7, a8⟩ := id hTk
        rcases a8 with ⟨c1, c2, c3, c4⟩ | ⟨c1, c2, -⟩ | ⟨c1, c2, -⟩ | ⟨c1, c2, -⟩ | ⟨c1, c2⟩
        · omega
        all_goals omega
      have h14' : (qs_u M 0 14 1) 0 14 = 1 := uu _ _ _ _
      rw [if_pos (show (120 : Int32) < nI w from nI_lt (a := 120) (by omega) (by omega)), itemF hTk.2.2.2.2.1 h20 hTk.b h14, pl_bind, fX5_text_L24, takesF h14', pl_bind, if_pos rfl, if_neg (by rw [h14']; exact one0), hTk.2.2.1]
      exact refuse hx (mfr_14 hm) (by omega) (by rw [un _ _ _ (by decide)]; exact hTk.2.2.2.2.2.1)
    · rw [if_neg (show ¬ (120 : Int32) < nI w from nI_nlt (a := 120) (by omega) (by decide))]
      obtain ⟨X', M', hx', hm', hr⟩ := itemR hT hw hkf hx hm hTk h14
      rcases hr with ⟨e1, e2, ⟨c2', n2', hw', hkf'⟩, n14, st', en', tk', hs', hTk'⟩ | ⟨e1, e2, n14, st', hst', x3, m11⟩
      · rw [e1, e2, pl_bind, pl_bind, if_neg one0, fX5_text_L24]
        have hb' := hTk'.b
        have hse' := hTk'.1
        have het' := hTk'.2.1
        obtain ⟨a1, a2, a3, a4, a5, a6, a7, a8⟩ := id hTk'
        have hfail : tk' ≠ 21 → tk' ≠ 22 → ¬ X' 37 2 = 3 → ¬ X' 37 2 = 2 → tR A A' (if (X' 37 2) = (3 : Int32) then (some (nI w, X')) else (if (X' 37 2) = (2 : Int32) then (qs_bind (fX3_nextToken X') (fun x14 D13 => (qs_let (nI w + (1 : Int32)) (fun v16 => (fX3_readText_L11 25 k v16 D13))))) else (some (((-1 : Int32) - (X' 37 3)), X')))) (qs_bind (fX5_takes (21 : Int32) M') (fun x14 D13 => (if x14 = 0 then (if (D13 0 14) = 0 then (if (D13 0 10) = (22 : Int32) then (qs_let (qs_u D13 0 14 (0 : Int32)) (fun D25 => (qs_let (qs_u D25 0 9 (0 : Int32)) (fun D26 => (if (D26 0 14) = 0 then (some (nI w, D26)) else (qs_bind (fX5_putsBack D26) (fun x29 D28 => (some (((-1 : Int32) - (D28 0 11)), D28))))))))) else (qs_let (qs_u D13 0 14 (1 : Int32)) (fun D31 => (qs_let (qs_u D31 0 9 (0 : Int32)) (fun D32 => (if (D32 0 14) = 0 then (some (nI w, D32)) else (qs_bind (fX5_putsBack D32) (fun x35 D34 => (some (((-1 : Int32) - (D34 0 11)), D34)))))))))) else (qs_let (qs_u D13 0 14 (1 : Int32)) (fun D18 => (qs_let (qs_u D18 0 9 (0 : Int32)) (fun D19 => (if (D19 0 14) = 0 then (some (nI w, D19)) else (qs_bind (fX5_putsBack D19) (fun x22 D21 => (some (((-1 : Int32) - (D21 0 11)), D21)))))))))) else (qs_bind (fX5_item D13) (fun x38 D37 => (qs_let (nI w + (1 : Int32)) (fun v40 => (fX5_text_L24 k2 v40 D37)))))))) := by
          intro q1 q2 q3 q4
          have hno : fX5_takes (21 : Int32) M' = some (0, M') := by
            unfold fX5_takes
            rw [if_pos n14, a5, if_neg (show ¬ nI tk' = (21 : Int32) from fun q => q1 ((nI_eq (b := 21) (by omega) (by decide)).mp q))]
          rw [if_neg q3, if_neg q4, hno, pl_bind, if_pos rfl, if_pos n14, a5, if_neg (show ¬ nI tk' = (22 : Int32) from fun q => q2 ((nI_eq (b := 22) (by omega) (by decide)).mp q)), a3]
          exact refuse hx' hm' (by omega) a6
        rcases a8 with ⟨c1, c2, c3, c4⟩ | ⟨c1, c2, -⟩ | ⟨c1, c2, c3⟩ | ⟨c1, c2, c3⟩ | ⟨c1, c2⟩
        · have q : tk' ≠ 21 ∧ tk' ≠ 22 := by rcases c4 with ⟨d1, d2⟩ | ⟨d1, d2⟩ <;> omega
          exact hfail q.1 q.2 (by rw [c1]; decide) (by rw [c1]; decide)
        · exact hfail (by omega) (by omega) (by rw [c1]; decide) (by rw [c1]; decide)
        · obtain ⟨Y, N, st2, en2, tk2, q1, q2, q3, q4, q5, q6⟩ := nextTok (TP_ab hT hx' hm') a2 a4 a7
          have hyes : fX5_takes (21 : Int32) M' = some (1, N) := by
            unfold fX5_takes
            rw [if_pos n14, a5, if_pos (show nI tk' = (21 : Int32) from by rw [c2]; rfl), q2, pl_bind]
          have hN : N 1 = M' 1 := q6.1 1 (by decide)
          rw [if_neg (by rw [c1]; decide), if_pos c1, q1, pl_bind, pl_let, hyes, pl_bind, if_neg one0]
          simp only [pl_let, nI_s]
          exact ih k2 (w + 1) st2 en2 tk2 _ _ Y N (by omega) (by omega) (by omega) (by omega) (by omega) (by rw [hN]; exact hw') (by rw [hN]; exact kf_fr (RR.c8 hw') (fun x h1 h2 => q5.1 x (by omega)) hkf') (xfr_t hx' q5) (mfr_t hm' q6) q4 (by rw [q6.2 14 (by decide) (by decide) (by decide) (by decide)]; exact n14)
        · have hno : fX5_takes (21 : Int32) M' = some (0, M') := by
            unfold fX5_takes
            rw [if_pos n14, a5, if_neg (show ¬ nI tk' = (21 : Int32) from by rw [c2]; decide)]
          rw [if_pos c1, hno, pl_bind, if_pos rfl, if_pos n14, a5, if_pos (show nI tk' = (22 : Int32) from by rw [c2]; rfl), pl_let, pl_let, un _ _ _ (by decide), uu, if_pos rfl]
          refine ⟨X', _, hx', fun x p q => ?_, ?_, uu _ _ _ _, Or.inr ⟨w, hw1, by omega, rfl, rfl, c2', n2', ?_, ?_⟩⟩
          · rw [pu_eq, pw_ne _ _ p, pu_eq, pw_ne _ _ p]; exact hm'.1 x p q
          · rw [un _ _ _ (by decide), un _ _ _ (by decide)]; exact hm'.2 3 (by decide) (by decide) (by decide) (by decide) (by decide)
          · rw [pu_eq, pw_ne _ _ (by decide), pu_eq, pw_ne _ _ (by decide)]; exact hw'
          · rw [pu_eq, pw_ne _ _ (by decide), pu_eq, pw_ne _ _ (by decide)]; exact hkf'
        · exact hfail (by omega) (by omega) (by rw [c1]; decide) (by rw [c1]; decide)
      · rw [e1, e2, pl_bind, pl_bind, if_pos rfl, fX5_text_L24, takesF n14, pl_bind, if_pos rfl, if_neg (by rw [n14]; exact one0), x3]
        exact refuse hx' hm' hst' m11
theorem ngst : ∀ st, st < 121 → (-1 : Int32) - nI st ≤ 0 := by decide
theorem m_text {X M : qs_D} (h : RR X M) : OK (fX4_text X) (fX5_text M) := by
  obtain ⟨⟨c, n, hw, hk⟩, hkp, hfd, hsh, ⟨t, t1, t2, t3, t4⟩⟩ := id h
  have hc8 := RR.c8 hw
  unfold fX4_text fX5_text fX3_readText
  obtain ⟨F, hF⟩ : ∃ F, F = qs_F := ⟨_, rfl⟩
  rw [← hF]
  rw [qs_F_eq] at hF
  obtain ⟨f, r1, r2⟩ := rThinks M
  obtain ⟨X1, a1, a2, a3⟩ := cAll apt25 hc8 hk
  rw [a1, r1, pl_bind, pl_bind]
  simp only [pl_let]
  have hB : ∀ k, ∃ b : Nat, k < t → b < 256 ∧ M 8 k = nI b := by
    intro k
    by_cases hkt : k < t
    · obtain ⟨b, hb, e⟩ := (t4 k hkt).2
      exact ⟨b, fun _ => ⟨by omega, e⟩⟩
    · exact ⟨0, fun q => absurd q hkt⟩
  obtain ⟨B, hB⟩ := Classical.axiomOfChoice hB
  generalize hA : qs_u X1 37 4 0 = A
  generalize hA' : qs_u (qs_u (qs_w M 3 f) 0 12 0) 0 14 0 = A'
  have x37 : X1 37 = X 37 := a3 37 (by decide)
  have m0 : (qs_w M 3 f) 0 = M 0 := pw_ne _ _ (by decide)
  have hT : TP A A' t B := by
    refine ⟨t1, ?_, ?_, fun k hkt => ⟨(hB k hkt).1, ?_, ?_⟩⟩
    · rw [← hA, un _ _ _ (by decide), x37]; exact t2
    · rw [← hA', un _ _ _ (by decide), un _ _ _ (by decide), m0]; exact t3
    · rw [← hA', pu_eq, pw_ne _ _ (by decide), pu_eq, pw_ne _ _ (by decide), pw_ne _ _ (by decide)]; exact (hB k hkt).2
    · rw [← hA, pu_eq, pw_ne _ _ (by decide), a3 38 (by decide), (t4 k hkt).1, (hB k hkt).2]; rfl
  have hA4 : A 37 4 = nI 0 := by rw [← hA, uu]; rfl
  have hA12 : A' 0 12 = nI 0 := by rw [← hA', un _ _ _ (by decide), uu]; rfl
  have hA14 : A' 0 14 = 0 := by rw [← hA', uu]
  have hA1 : A' 1 = M 1 := by rw [← hA', pu_eq, pw_ne _ _ (by decide), pu_eq, pw_ne _ _ (by decide), pw_ne _ _ (by decide)]
  have hA3 : A' 3 = f := by rw [← hA', pu_eq, pw_ne _ _ (by decide), pu_eq, pw_ne _ _ (by decide), pw_self]
  have hA03 : A' 0 3 = M 0 3 := by rw [← hA', un _ _ _ (by decide), un _ _ _ (by decide), m0]
  have hAr : ∀ x, x ≠ 0 → x ≠ 3 → A' x = M x := fun x p q => by rw [← hA', pu_eq, pw_ne _ _ p, pu_eq, pw_ne _ _ p, pw_ne _ _ q]
  have hAX : ∀ x, ¬ (25 ≤ x ∧ x < 37) → x ≠ 37 → A x = X x := fun x p q => by rw [← hA, pu_eq, pw_ne _ _ q]; exact a3 x (by omega)
  have hAk : kf A 25 (M 1) c := kf_fr hc8 (fun x p q => by rw [← hA, pu_eq, pw_ne _ _ (by omega)]) a2
  obtain ⟨Y, N, st, en, tk, q1, q2, q3, q4, q5, q6⟩ := nextTok hT (by omega) hA4 hA12
  have hN1 : N 1 = M 1 := by rw [q6.1 1 (by decide)]; exact hA1
  have htx := textL hT F F 1 st en tk c n Y N (by omega) (by omega) (by omega) (by omega) (by omega) (by rw [hN1]; exact hw) (by rw [hN1]; exact kf_fr hc8 (fun x p q => q5.1 x (by omega)) hAk) (xfr_t (xfr_rf A) q5) (mfr_t (mfr_rf A') q6) q4 (by rw [q6.2 14 (by decide) (by decide) (by decide) (by decide)]; exact hA14)
  have htx : tR A A' (fX3_readText_L11 25 F 1 Y) (qs_bind (fX5_item N) (fun _ D => fX5_text_L24 F 1 D)) := htx
  rw [q1, q2, pl_bind, pl_bind]
  obtain ⟨X', M', y1, y2, y3, y4, y5⟩ := htx
  have hRR : ∀ M2 : qs_D, e70 (M 1) (M2 1) → (∀ x, x ≠ 1 → M2 x = M' x) → RR (qs_u X' 37 1 0) M2 := by
    intro M2 z1 z2
    refine RR_t h (fun x p1 p2 p3 => ?_) ?_ z1 (fun x p0 p1 p3 p8 => ?_) ⟨0, by decide, ?_, ?_, fun k hk => absurd hk (by omega)⟩
    · rw [pu_eq, pw_ne _ _ p1, y1.1 x p3 p1, hAX x p3 p1]
    · rw [z2 0 (by decide), y3, hA03]
    · rw [z2 x p1, y2 x p0 p1, hAr x p0 p3]
    · rw [uu]; rfl
    · rw [z2 0 (by decide), y4]; rfl
  rcases y5 with ⟨st2, hst2, e1, e2, e3⟩ | ⟨w, hw1, hw2, e1, e2, c2, n2, e3, e4⟩
  · rw [e1, e2, pl_bind, if_pos (ngst st2 (by omega))]
    refine OK.mk (hRR M' (fun x hx => ?_) (fun _ _ => rfl))
    rw [e3 x hx, hA3, r2 x hx]
  · rw [e1, e2, pl_bind, if_neg (nI_nle (by omega) (by omega))]
    have hc2 := RR.c8 e3
    have hkf2 : kf (qs_u X' 37 1 0) 25 (M' 1) c2 := kf_fr hc2 (fun x p q => by rw [pu_eq, pw_ne _ _ (by omega)]) e4
    obtain ⟨X3, b1, b2, b3⟩ := cAll (a := 1) (b := 25) (Or.inl (by decide)) hc2 hkf2
    rw [b1, pl_bind]
    have hR0 := hRR (qs_w M' 1 (M 1)) (by rw [pw_self]; exact fun _ _ => rfl) (fun x p => pw_ne _ _ p)
    exact OK.mk (RR_k hR0 (fun x p q => b3 x (by omega)) (fun x p q => by rw [pw_ne _ _ p]) e3 b2)
