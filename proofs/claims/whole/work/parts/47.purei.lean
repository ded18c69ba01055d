/-! the next token -/
theorem pu_id {D : qs_D} {i k : Nat} {v : Int32} (h : D i k = v) : qs_u D i k v = D := by
  rw [pu_eq]
  have : upd (D i) k v = D i := by
    funext x
    unfold upd
    by_cases hx : x = k
    · subst hx; simp [h]
    · simp [hx]
  rw [this, pw_id]
theorem nextL {t : Nat} {B : Nat → Nat} : ∀ (k k2 p : Nat) (X M : qs_D), t - p < k → t - p < k2 → p ≤ t → TP X M t B → X 37 3 = nI p → M 0 12 = nI p → ∃ X' M' st en tk, fX3_nextToken_L8 k X = some ((), X') ∧ fX5_reads_L0 k2 M = some ((), M') ∧ p ≤ st ∧ Tok X' M' t B st en tk ∧ tfX X X' ∧ tfM M M' := by
  obtain ⟨F, hF⟩ : ∃ F, F = qs_F := ⟨_, rfl⟩
  have hF2 : F = 4096 := hF.trans qs_F_eq
  intro k
  induction k with
  | zero => intro k2 p X M h; omega
  | succ k ih =>
    intro k2 p X M hk hk2 hp hT h3 h12
    obtain ⟨k2, rfl⟩ : ∃ q, k2 = q + 1 := ⟨k2 - 1, by omega⟩
    obtain ⟨t1, t2, t3, t4⟩ := id hT
    rw [fX3_nextToken_L8, fX5_reads_L0, ← hF]
    have hby : fX5_isByte (nI p) 32 32 M = some (if p < t ∧ 32 ≤ B p ∧ B p ≤ 32 then 1 else 0, M) := rByte (lo := 32) (hi := 32) hT hp (by decide) (by decide)
    rw [h12, hby, pl_bind, t2, h3]
    generalize hM2 : qs_u (qs_u M 0 11 (nI p)) 0 13 0 = M2
    have tM2 : tfM M M2 := by rw [← hM2]; exact tfM_tr (tfM_u M _ (by decide)) (tfM_u _ _ (by decide))
    have m11 : M2 0 11 = nI p := by rw [← hM2, un _ _ _ (by decide), uu]
    have m12 : M2 0 12 = nI p := by rw [← hM2, un _ _ _ (by decide), un _ _ _ (by decide)]; exact h12
    have m13 : M2 0 13 = 0 := by rw [← hM2, uu]
    have m9 : M2 0 9 = nI t := by rw [tM2.2 9 (by decide) (by decide) (by decide) (by decide)]; exact t3
    by_cases hpt : t ≤ p
    · have hpe : p = t := by omega
      rw [if_pos (nI_le hpt (by omega)), if_neg (nI_nlt (by omega) (by omega)), if_neg (c := p < t ∧ 32 ≤ B p ∧ B p ≤ 32) (by omega), if_pos rfl]
      simp only [pl_let, h12]
      rw [hM2, m12, m9, if_pos (by rw [hpe])]
      refine ⟨_, _, p, p, 22, rfl, rfl, Nat.le_refl _, ⟨Nat.le_refl _, hp, ?_, ?_, uu _ _ _ _, ?_, ?_, Or.inr (Or.inr (Or.inr (Or.inl ⟨?_, rfl, hpe⟩)))⟩, tfX_tr (tfX_u X _ (by decide)) (tfX_u _ _ (by decide)), tfM_tr tM2 (tfM_u _ _ (by decide))⟩
      · rw [un _ _ _ (by decide), un _ _ _ (by decide)]; exact h3
      · rw [uu, un _ _ _ (by decide)]; exact h3
      · rw [un _ _ _ (by decide)]; exact m11
      · rw [un _ _ _ (by decide)]; exact m12
      · rw [un _ _ _ (by decide), uu]
    · have hpl : p < t := by omega
      obtain ⟨b1, b2, b3⟩ := t4 p hpl
      have hlt : nI p < nI t := nI_lt hpl (by omega)
      rw [if_neg (nI_ge hpl (by omega)), pl_gN (d := p) (n := 120) (by decide) (by omega), tnN (d := p) (by omega), b3]
      by_cases h32 : B p = 32
      · rw [if_pos ((bX_f _ b1).2.2.2.2.2.mpr h32), if_pos (c := p < t ∧ 32 ≤ B p ∧ B p ≤ 32) ⟨hpl, by omega, by omega⟩, if_neg one0]
        simp only [pl_let, h12, nI_s]
        obtain ⟨X', M', st, en, tk, q1, q2, q3, q4, q5, q6⟩ := ih k2 (p + 1) (qs_u X 37 3 (nI (p + 1))) (qs_u M 0 12 (nI (p + 1))) (by omega) (by omega) (by omega) (TP_fr hT (tfX_u X _ (by decide)) (tfM_u M _ (by decide))) (uu _ _ _ _) (uu _ _ _ _)
        exact ⟨X', M', st, en, tk, q1, q2, by omega, q4, tfX_tr (tfX_u X _ (by decide)) q5, tfM_tr (tfM_u M _ (by decide)) q6⟩
      · rw [if_neg (fun q => h32 ((bX_f _ b1).2.2.2.2.2.mp q)), if_neg (c := p < t ∧ 32 ≤ B p ∧ B p ≤ 32) (by omega), if_pos rfl, if_pos hlt, pl_gN (d := p) (n := 120) (by decide) (by omega), cSort b1, pl_bind]
        simp only [pl_let, h12]
        rw [hM2, m12, m9, if_neg (fun q => hpt (Nat.le_of_eq ((nI_eq (by omega) (by omega)).mp q).symm))]
        have hTM2 : TP X M2 t B := TP_fr hT (tfX_rf X) tM2
        have hbl : fX5_isByte (nI p) 97 122 M2 = some (if p < t ∧ 97 ≤ B p ∧ B p ≤ 122 then 1 else 0, M2) := rByte (lo := 97) (hi := 122) hTM2 hp (by decide) (by decide)
        have hbd : fX5_isByte (nI p) 48 57 M2 = some (if p < t ∧ 48 ≤ B p ∧ B p ≤ 57 then 1 else 0, M2) := rByte (lo := 48) (hi := 57) hTM2 hp (by decide) (by decide)
        have hbs : fX5_isByte (nI p) 59 59 M2 = some (if p < t ∧ 59 ≤ B p ∧ B p ≤ 59 then 1 else 0, M2) := rByte (lo := 59) (hi := 59) hTM2 hp (by decide) (by decide)
        rw [hbl, pl_bind]
        generalize hX2 : qs_u (qs_u X 37 2 (nI (srt (B p)))) 37 4 ((qs_u X 37 2 (nI (srt (B p)))) 37 3 + 1) = X2
        have tX2 : tfX X X2 := by rw [← hX2]; exact tfX_tr (tfX_u X _ (by decide)) (tfX_u _ _ (by decide))
        have x2 : X2 37 2 = nI (srt (B p)) := by rw [← hX2, un _ _ _ (by decide), uu]
        have x3 : X2 37 3 = nI p := by rw [← hX2, un _ _ _ (by decide), un _ _ _ (by decide)]; exact h3
        have x4 : X2 37 4 = nI (p + 1) := by rw [← hX2, uu, un _ _ _ (by decide), h3, nI_s]
        rw [x2]
        by_cases a1 : 97 ≤ B p ∧ B p ≤ 122
        · have s0 := srt_0.mpr a1
          rw [s0] at x2 ⊢
          rw [if_pos (c := nI 0 = 0) rfl, if_pos (c := p < t ∧ 97 ≤ B p ∧ B p ≤ 122) ⟨hpl, a1⟩, if_neg one0]
          obtain ⟨X', M', en, tk, q1, q2, q3, q4, q5⟩ := wordEnd hT hpl tX2 tM2 x3 x4 x2 m11 m12 a1 hF2
          exact ⟨X', M', p, en, tk, q1, q2, Nat.le_refl _, q3, q4, q5⟩
        · have s0 : ¬ nI (srt (B p)) = 0 := fun q => a1 (srt_0.mp ((nI_eq (b := 0) (by have := srt_4 (B p); omega) (by decide)).mp q))
          rw [if_neg s0, if_neg (c := p < t ∧ 97 ≤ B p ∧ B p ≤ 122) (fun q => a1 q.2), if_pos rfl, m12, hbd, pl_bind]
          by_cases a2 : 48 ≤ B p ∧ B p ≤ 57
          · have s1 := srt_1.mpr a2
            rw [s1] at x2 ⊢
            rw [if_pos (c := nI 1 = 1) rfl, if_pos (c := p < t ∧ 48 ≤ B p ∧ B p ≤ 57) ⟨hpl, a2⟩, if_neg one0]
            obtain ⟨X', M', en, tk, q1, q2, q3, q4, q5⟩ := numEnd hT hpl tX2 tM2 x3 x4 x2 m11 m12 m13 a2 hF2
            exact ⟨X', M', p, en, tk, q1, q2, Nat.le_refl _, q3, q4, q5⟩
          · have s1 : ¬ nI (srt (B p)) = 1 := fun q => a2 (srt_1.mp ((nI_eq (b := 1) (by have := srt_4 (B p); omega) (by decide)).mp q))
            obtain ⟨F2, rfl⟩ : ∃ F2, F = F2 + 1 := ⟨F - 1, by omega⟩
            rw [if_neg s1, if_neg (c := p < t ∧ 48 ≤ B p ∧ B p ≤ 57) (fun q => a2 q.2), if_pos rfl, m12, hbs, pl_bind, fX3_nextToken_L118, if_pos rfl]
            by_cases a3 : B p = 59
            · have s2 : srt (B p) = 2 := by unfold srt; rw [if_neg a1, if_neg a2, if_pos a3]
              rw [s2] at x2
              rw [if_pos (c := p < t ∧ 59 ≤ B p ∧ B p ≤ 59) ⟨hpl, by omega, by omega⟩, if_neg one0, un _ _ _ (by decide), m12, nI_s]
              refine ⟨X2, _, p, p + 1, 21, rfl, rfl, Nat.le_refl _, ⟨by omega, by omega, x3, x4, by rw [un _ _ _ (by decide), uu]; rfl, by rw [un _ _ _ (by decide), un _ _ _ (by decide)]; exact m11, uu _ _ _ _, Or.inr (Or.inr (Or.inl ⟨x2, rfl, by omega⟩))⟩, tX2, tfM_tr tM2 (tfM_tr (tfM_u _ _ (by decide)) (tfM_u _ _ (by decide)))⟩
            · have s4 : srt (B p) = 4 := by unfold srt; rw [if_neg a1, if_neg a2, if_neg a3]
              rw [s4] at x2
              rw [if_neg (c := p < t ∧ 59 ≤ B p ∧ B p ≤ 59) (by omega), if_pos rfl, un _ _ _ (by decide), m12, nI_s]
              refine ⟨X2, _, p, p + 1, 23, rfl, rfl, Nat.le_refl _, ⟨by omega, by omega, x3, x4, by rw [un _ _ _ (by decide), uu]; rfl, by rw [un _ _ _ (by decide), un _ _ _ (by decide)]; exact m11, uu _ _ _ _, Or.inr (Or.inr (Or.inr (Or.inr ⟨x2, rfl⟩)))⟩, tX2, tfM_tr tM2 (tfM_tr (tfM_u _ _ (by decide)) (tfM_u _ _ (by decide)))⟩
theorem nextTok {X M : qs_D} {t p : Nat} {B : Nat → Nat} (hT : TP X M t B) (hp : p ≤ t) (h4 : X 37 4 = nI p) (h12 : M 0 12 = nI p) : ∃ X' M' st en tk, fX3_nextToken X = some ((), X') ∧ fX5_reads M = some ((), M') ∧ p ≤ st ∧ Tok X' M' t B st en tk ∧ tfX X X' ∧ tfM M M' := by
  have ht := hT.1
  unfold fX3_nextToken fX5_reads
  obtain ⟨F, hF⟩ : ∃ F, F = qs_F := ⟨_, rfl⟩
  rw [← hF]
  rw [qs_F_eq] at hF
  rw [pl_let, h4]
  obtain ⟨X', M', st, en, tk, q1, q2, q3, q4, q5, q6⟩ := nextL F F p (qs_u X 37 3 (nI p)) M (by omega) (by omega) hp (TP_fr hT (tfX_u X _ (by decide)) (tfM_rf M)) (uu _ _ _ _) h12
  exact ⟨X', M', st, en, tk, q1, q2, q3, q4, tfX_tr (tfX_u X _ (by decide)) q5, q6⟩
theorem two0 : ¬ (2 : Int32) = 0 := by decide
theorem three0 : ¬ (3 : Int32) = 0 := by decide
theorem four0 : ¬ (4 : Int32) = 0 := by decide
theorem isWordR {X M : qs_D} {t st en tk w : Nat} {B : Nat → Nat} (hT : TP X M t B) (h : Tok X M t B st en tk) (hw : w < 14) : fX3_isWord (1000 + w) X = some (if tk = w then 1 else 0, X) := by
  obtain ⟨a1, a2, a3, a4, a5, a6, a7, a8⟩ := h
  have ht := hT.1
  rcases a8 with ⟨c1, c2, c3, c4⟩ | ⟨c1, c2, -⟩ | ⟨c1, c2, -⟩ | ⟨c1, c2, -⟩ | ⟨c1, c2⟩
  · obtain ⟨r, e1, e2⟩ := cWord (B := B) hw c1 a3 a4 c2 (by omega) (fun k hk => by
      have q := c3 (st + k) (by omega) (by omega)
      rw [(hT.2.2.2 (st + k) (by omega)).2.2]
      exact lowb _ (by omega))
    rw [e1]
    rcases c4 with ⟨d1, d2⟩ | ⟨d1, d2⟩
    · by_cases hq : tk = w
      · subst hq
        rw [if_pos rfl]
        rcases e2 with ⟨r1, -⟩ | ⟨r1, r2⟩
        · rw [r1]
        · exact absurd d2 r2
      · rw [if_neg hq]
        rcases e2 with ⟨r1, r2⟩ | ⟨r1, r2⟩
        · exact absurd (wm_one d1 hw d2 r2) hq
        · rw [r1]
    · rw [if_neg (by omega)]
      rcases e2 with ⟨r1, r2⟩ | ⟨r1, r2⟩
      · exact absurd r2 (d2 w hw)
      · rw [r1]
  · rw [cWordN (by rw [c1]; exact one0), if_neg (by omega)]
  · rw [cWordN (by rw [c1]; exact two0), if_neg (by omega)]
  · rw [cWordN (by rw [c1]; exact three0), if_neg (by omega)]
  · rw [cWordN (by rw [c1]; exact four0), if_neg (by omega)]
theorem Tok.b {X M : qs_D} {t st en tk : Nat} {B : Nat → Nat} (h : Tok X M t B st en tk) : tk ≤ 23 := by
  obtain ⟨a1, a2, a3, a4, a5, a6, a7, a8⟩ := h
  rcases a8 with ⟨c1, c2, c3, c4⟩ | ⟨c1, c2, -⟩ | ⟨c1, c2, -⟩ | ⟨c1, c2, -⟩ | ⟨c1, c2⟩
  · rcases c4 with ⟨d1, d2⟩ | ⟨d1, d2⟩ <;> omega
  all_goals omega
/-- a word that may stand here -/
theorem takeW {X M : qs_D} {t st en tk w : Nat} {B : Nat → Nat} (hT : TP X M t B) (h : Tok X M t B st en tk) (h14 : M 0 14 = 0) (hw : w < 14) : (tk = w ∧ ∃ X' M' st' en' tk', fX3_skipWord (1000 + w) X = some (1, X') ∧ fX5_takes (nI w) M = some (1, M') ∧ st ≤ st' ∧ Tok X' M' t B st' en' tk' ∧ tfX X X' ∧ tfM M M') ∨ (tk ≠ w ∧ fX3_skipWord (1000 + w) X = some (0, X) ∧ fX5_takes (nI w) M = some (0, M)) := by
  have hb := h.b
  unfold fX3_skipWord fX5_takes
  rw [isWordR hT h hw, pl_bind, if_pos h14, h.2.2.2.2.1]
  by_cases hq : tk = w
  · subst hq
    left
    rw [if_pos rfl, if_neg one0, if_pos rfl]
    obtain ⟨X', M', st', en', tk', q1, q2, q3, q4, q5, q6⟩ := nextTok hT h.2.1 h.2.2.2.1 h.2.2.2.2.2.2.1
    rw [q1, q2, pl_bind, pl_bind]
    exact ⟨rfl, X', M', st', en', tk', rfl, rfl, Nat.le_trans h.1 q3, q4, q5, q6⟩
  · right
    rw [if_neg hq, if_pos rfl, if_neg (fun q => hq ((nI_eq (by omega) (by omega)).mp q))]
    exact ⟨hq, rfl, rfl⟩
theorem takesF {M : qs_D} {p : Int32} (h : M 0 14 = 1) : fX5_takes p M = some (0, M) := by
  unfold fX5_takes
  rw [if_neg (by rw [h]; exact one0)]
theorem valL {X M : qs_D} {t st en : Nat} {B : Nat → Nat} (hT : TP X M t B) (he : en ≤ t) (h4 : X 37 4 = nI en) (hd : ∀ j, st ≤ j → j < en → 48 ≤ B j ∧ B j ≤ 57) : ∀ (k i : Nat), en - i < k → st ≤ i → i ≤ en → fX3_valueOfToken_L7 k (nI (min 1000 (rvN B st (i - st)))) (nI i) X = some (nI (min 1000 (rvN B st (en - st))), X) := by
  have ht := hT.1
  intro k
  induction k with
  | zero => intro i h; omega
  | succ k ih =>
    intro i hk hs hi
    rw [fX3_valueOfToken_L7, h4]
    by_cases hin : en ≤ i
    · have : i = en := by omega
      subst this
      rw [if_pos (nI_le hin (by omega))]
    · have hb := hd i hs (by omega)
      have hby : X 38 i = nI (B i) := by
        rw [(hT.2.2.2 i (by omega)).2.2]
        exact lowb _ (by omega)
      rw [if_neg (nI_ge (by omega) (by omega)), pl_gN (d := i) (n := 120) (by decide) (by omega), tnN (d := i) (by omega), hby]
      have e1 : nI (min 1000 (rvN B st (i - st))) * 10 = nI (min 1000 (rvN B st (i - st)) * 10) := pk_mul _ 10
      have e2 : nI (min 1000 (rvN B st (i - st)) * 10 + B i) - 48 = nI (min 1000 (rvN B st (i - st)) * 10 + B i - 48) := pk_sub (b := 48) (by omega)
      have e3 : mn 1000 (nI (min 1000 (rvN B st (i - st)) * 10 + B i - 48)) = nI (min 1000 (min 1000 (rvN B st (i - st)) * 10 + B i - 48)) := mn_nI (m := 1000) (by omega) (by decide)
      rw [e1, nI_add, e2, cMin, pl_bind, e3, pl_let, pl_let, nI_s]
      have hrv : rvN B st (i + 1 - st) = if rvN B st (i - st) ≤ 999 then 10 * rvN B st (i - st) + B i - 48 else rvN B st (i - st) := by
        rw [show i + 1 - st = (i - st) + 1 by omega]
        show (if rvN B st (i - st) ≤ 999 then 10 * rvN B st (i - st) + B (st + (i - st)) - 48 else rvN B st (i - st)) = _
        rw [show st + (i - st) = i by omega]
      have e5 : min 1000 (min 1000 (rvN B st (i - st)) * 10 + B i - 48) = min 1000 (rvN B st (i + 1 - st)) := by
        rw [hrv]
        by_cases q : rvN B st (i - st) ≤ 999
        · rw [if_pos q]; omega
        · rw [if_neg q]; omega
      rw [e5]
      exact ih (i + 1) (by omega) (by omega) (by omega)
theorem neg0 : ¬ (0 : Int32) ≤ -1 := by decide
/-- a number that must stand here -/
theorem numR {X M : qs_D} {t st en tk p : Nat} {B : Nat → Nat} (hT : TP X M t B) (h : Tok X M t B st en tk) (h14 : M 0 14 = 0) (hp : p ≤ 99) : (∃ q X' M' st' en' tk', q ≤ p ∧ fX3_readNumber (nI p) X = some (nI q, X') ∧ fX5_number 0 (nI p) M = some (nI q, M') ∧ st ≤ st' ∧ Tok X' M' t B st' en' tk' ∧ tfX X X' ∧ tfM M M') ∨ (∃ v, fX3_readNumber (nI p) X = some (-1, X) ∧ fX5_number 0 (nI p) M = some (v, qs_u M 0 14 1)) := by
  obtain ⟨a1, a2, a3, a4, a5, a6, a7, a8⟩ := id h
  have ht := hT.1
  have hbt := h.b
  unfold fX3_readNumber fX5_number
  rw [pl_let, if_pos h14, a5]
  have hno : ¬ X 37 2 = 1 → tk ≠ 20 → ∃ v, (if X 37 2 = 1 then (qs_bind (fX3_valueOfToken X) (fun x3 D2 => (qs_let x3 (fun v5 => (if v5 ≤ nI p then (qs_bind (fX3_nextToken D2) (fun x8 D7 => (some (v5, D7)))) else (some ((-1 : Int32), D2))))))) else (some ((-1 : Int32), X))) = some (-1, X) ∧ (qs_let (qs_u M 0 14 1) (fun D9 => (if (D9 0 14) = 0 then (qs_bind (fX5_reads D9) (fun x12 D11 => (some (M 0 13, D11)))) else (some (M 0 13, D9))))) = some (v, qs_u M 0 14 1) := by
    intro q1 q2
    refine ⟨M 0 13, by rw [if_neg q1], ?_⟩
    rw [pl_let, uu, if_neg one0]
  rcases a8 with ⟨c1, c2, c3, c4⟩ | ⟨c1, c2, c3, c4⟩ | ⟨c1, c2, -⟩ | ⟨c1, c2, -⟩ | ⟨c1, c2⟩
  · have h20 : tk ≠ 20 := by rcases c4 with ⟨d1, d2⟩ | ⟨d1, d2⟩ <;> omega
    right
    rw [if_neg (c := nI tk = 20) (fun q => h20 ((nI_eq (b := 20) (by omega) (by decide)).mp q))]
    exact hno (by rw [c1]; decide) h20
  · rw [if_pos (c := nI tk = 20) (by rw [c2]; rfl), if_pos c1, rIn, pl_bind, c4]
    have hrb := rvN_b (B := B) (st := st) (en - st) (fun i hi => c3 (st + i) (by omega) (by omega))
    have hv : fX3_valueOfToken X = some (nI (min 1000 (rvN B st (en - st))), X) := by
      unfold fX3_valueOfToken
      obtain ⟨F, hF⟩ : ∃ F, F = qs_F := ⟨_, rfl⟩
      rw [← hF]
      rw [qs_F_eq] at hF
      rw [pl_let, pl_let, a3]
      have := valL hT a2 a4 c3 F st (by omega) (Nat.le_refl _) a1
      rw [Nat.sub_self] at this
      exact this
    rw [hv, pl_bind, pl_let]
    by_cases hle : rvN B st (en - st) ≤ p
    · left
      have hmin : min 1000 (rvN B st (en - st)) = rvN B st (en - st) := by omega
      obtain ⟨X', M', st', en', tk', q1, q2, q3, q4, q5, q6⟩ := nextTok hT a2 a4 a7
      rw [hmin, if_pos (nI_le hle (by omega)), q1, pl_bind, if_pos (c := 0 ≤ nI (rvN B st (en - st)) ∧ nI (rvN B st (en - st)) ≤ nI p) ⟨nI_pos' (by omega), nI_le hle (by omega)⟩, if_neg one0, pl_let, pu_id h14, if_pos h14, q2, pl_bind]
      exact ⟨rvN B st (en - st), X', M', st', en', tk', hle, rfl, rfl, Nat.le_trans a1 q3, q4, q5, q6⟩
    · right
      rw [if_neg (nI_ge (by omega) (by omega)), if_neg (c := 0 ≤ nI (rvN B st (en - st)) ∧ nI (rvN B st (en - st)) ≤ nI p) (fun q => hle ((nI_leI (by omega) (by omega)).mp q.2)), if_pos rfl, pl_let, uu, if_neg one0]
      exact ⟨_, rfl, rfl⟩
  · right
    rw [if_neg (c := nI tk = 20) (by rw [c2]; decide)]
    exact hno (by rw [c1]; decide) (by omega)
  · right
    rw [if_neg (c := nI tk = 20) (by rw [c2]; decide)]
    exact hno (by rw [c1]; decide) (by omega)
  · right
    rw [if_neg (c := nI tk = 20) (by rw [c2]; decide)]
    exact hno (by rw [c1]; decide) (by omega)
theorem numberF {M : qs_D} {a b : Int32} (h : M 0 14 = 1) : ∃ v, fX5_number a b M = some (v, M) := by
  unfold fX5_number
  rw [pl_let, if_neg (by rw [h]; exact one0), pl_let, pu_id h, if_neg (by rw [h]; exact one0)]
  exact ⟨_, rfl⟩
theorem kindR {X M : qs_D} {t st en tk : Nat} {B : Nat → Nat} (hT : TP X M t B) (h : Tok X M t B st en tk) : fX3_kindNamed X = some (if tk < 7 then nI tk else -1, X) := by
  unfold fX3_kindNamed
  rw [isWordR hT h (by decide), pl_bind]
  by_cases h0 : tk = 0
  · subst h0; rfl
  · rw [if_neg h0, if_pos rfl, isWordR hT h (by decide), pl_bind]
    by_cases h1 : tk = 1
    · subst h1; rfl
    · rw [if_neg h1, if_pos rfl, isWordR hT h (by decide), pl_bind]
      by_cases h2 : tk = 2
      · subst h2; rfl
      · rw [if_neg h2, if_pos rfl, isWordR hT h (by decide), pl_bind]
        by_cases h3 : tk = 3
        · subst h3; rfl
        · rw [if_neg h3, if_pos rfl, isWordR hT h (by decide), pl_bind]
          by_cases h4 : tk = 4
          · subst h4; rfl
          · rw [if_neg h4, if_pos rfl, isWordR hT h (by decide), pl_bind]
            by_cases h5 : tk = 5
            · subst h5; rfl
            · rw [if_neg h5, if_pos rfl, isWordR hT h (by decide), pl_bind]
              by_cases h6 : tk = 6
              · subst h6; rfl
              · rw [if_neg h6, if_pos rfl, if_neg (by omega)]
