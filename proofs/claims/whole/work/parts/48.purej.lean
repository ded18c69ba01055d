/-! the text's dishes -/
def cT3 (r1 : Nat) (o : Int32) (D : qs_D) : Option (Int32 × qs_D) := qs_let (qs_u D r1 4 o) (fun D16 => qs_bind (fX3_skipWord (1000 + 10) D16) (fun x18 D17 => if x18 = 0 then qs_let (qs_u D17 r1 3 (0 : Int32)) (fun D21 => some ((1 : Int32), D21)) else qs_let (qs_u D17 r1 3 (1 : Int32)) (fun D22 => some ((1 : Int32), D22))))
def cT2 (r1 : Nat) (D : qs_D) : Option (Int32 × qs_D) := qs_bind (fX3_skipWord (1000 + 9) D) (fun x D => if x = 0 then cT3 r1 0 D else cT3 r1 1 D)
def cT1 (r1 : Nat) (D : qs_D) : Option (Int32 × qs_D) := qs_bind (fX3_skipWord (1000 + 8) D) (fun x D => if x = 0 then cT2 r1 D else qs_bind (fX3_readNumber (99 : Int32) D) (fun v D => qs_let (qs_u D r1 2 v) (fun D => if (0 : Int32) ≤ D r1 2 then cT2 r1 D else some ((0 : Int32), D))))
theorem readDish_eq (r1 : Nat) (D : qs_D) : fX3_readDish r1 D = qs_bind (fX3_nextToken D) (fun _ D1 => qs_bind (fX3_skipWord (1000 + 7) D1) (fun x D4 => if x = 0 then cT1 r1 D4 else qs_bind (fX3_readNumber (99 : Int32) D4) (fun v D53 => qs_let (qs_u D53 r1 1 v) (fun D56 => if (0 : Int32) ≤ D56 r1 1 then cT1 r1 D56 else some ((0 : Int32), D56))))) := rfl
def rT4 (k t s o : Int32) (D : qs_D) : Option (Unit × qs_D) := qs_bind (fX5_takes (10 : Int32) D) (fun x D22 => if x = 0 then qs_let (0 : Int32) (fun v26 => if (D22 0 14) = 0 then qs_bind (fX5_comes k t s o v26 D22) (fun x29 D28 => qs_let x29 (fun _ => some ((), D28))) else some ((), D22)) else qs_let (1 : Int32) (fun v26 => if (D22 0 14) = 0 then qs_bind (fX5_comes k t s o v26 D22) (fun x29 D28 => qs_let x29 (fun _ => some ((), D28))) else some ((), D22)))
def rT3 (k t s : Int32) (D : qs_D) : Option (Unit × qs_D) := qs_bind (fX5_takes (9 : Int32) D) (fun x D => if x = 0 then qs_let (0 : Int32) (fun v => rT4 k t s v D) else qs_let (1 : Int32) (fun v => rT4 k t s v D))
def rT2 (k t : Int32) (D : qs_D) : Option (Unit × qs_D) := qs_bind (fX5_perhaps (8 : Int32) (0 : Int32) (99 : Int32) (10 : Int32) D) (fun x D => qs_let x (fun s => rT3 k t s D))
def rT1 (k : Int32) (D : qs_D) : Option (Unit × qs_D) := qs_bind (fX5_reads D) (fun _ D => qs_bind (fX5_perhaps (7 : Int32) (0 : Int32) (99 : Int32) (10 : Int32) D) (fun x D => qs_let x (fun t => rT2 k t D)))
theorem dishItem_eq (D : qs_D) : fX5_dishItem D = qs_let (D 0 10) (fun v1 => qs_g (5 : Int32) 70 (if D 1 (5 : Int32).toNatClampNeg = 8 then qs_let (qs_u D 0 14 (1 : Int32)) (fun D55 => if D55 0 14 = 0 then rT1 v1 D55 else some ((), D55)) else qs_let (qs_u D 0 14 (0 : Int32)) (fun D4 => if D4 0 14 = 0 then rT1 v1 D4 else some ((), D4)))) := rfl
theorem perhapsF {M : qs_D} {p a b d : Int32} (h : M 0 14 = 1) : fX5_perhaps p a b d M = some (d, M) := by
  unfold fX5_perhaps
  rw [takesF h, pl_bind, if_pos rfl]
theorem rT4F {M : qs_D} {k t s o : Int32} (h : M 0 14 = 1) : rT4 k t s o M = some ((), M) := by
  unfold rT4
  rw [takesF h, pl_bind, if_pos rfl, pl_let, if_neg (by rw [h]; exact one0)]
theorem rT3F {M : qs_D} {k t s : Int32} (h : M 0 14 = 1) : rT3 k t s M = some ((), M) := by
  unfold rT3
  rw [takesF h, pl_bind, if_pos rfl, pl_let, rT4F h]
theorem rT2F {M : qs_D} {k t : Int32} (h : M 0 14 = 1) : rT2 k t M = some ((), M) := by
  unfold rT2
  rw [perhapsF h, pl_bind, pl_let, rT3F h]
/-- what reading a text may change -/
def xfr (A X : qs_D) : Prop := (∀ x, ¬ (25 ≤ x ∧ x < 37) → x ≠ 37 → X x = A x) ∧ X 37 1 = A 37 1
def mfr (A M : qs_D) : Prop := (∀ x, x ≠ 0 → x ≠ 1 → M x = A x) ∧ ∀ k, k ≠ 10 → k ≠ 11 → k ≠ 12 → k ≠ 13 → k ≠ 14 → M 0 k = A 0 k
theorem xfr_rf (A : qs_D) : xfr A A := ⟨fun _ _ _ => rfl, rfl⟩
theorem mfr_rf (A : qs_D) : mfr A A := ⟨fun _ _ _ => rfl, fun _ _ _ _ _ _ => rfl⟩
theorem xfr_t {A X Y : qs_D} (h : xfr A X) (h2 : tfX X Y) : xfr A Y := ⟨fun x a b => (h2.1 x b).trans (h.1 x a b), h2.2.trans h.2⟩
theorem mfr_t {A M N : qs_D} (h : mfr A M) (h2 : tfM M N) : mfr A N := ⟨fun x a b => (h2.1 x a).trans (h.1 x a b), fun k a b c d e => (h2.2 k a b c d).trans (h.2 k a b c d e)⟩
theorem xfr_u {A X : qs_D} {i k : Nat} {v : Int32} (h : xfr A X) (hi : 25 ≤ i) (hi2 : i < 37) : xfr A (qs_u X i k v) := ⟨fun x a b => by rw [pu_eq, pw_ne _ _ (by omega)]; exact h.1 x a b, by rw [pu_eq, pw_ne _ _ (by omega)]; exact h.2⟩
theorem mfr_14 {A M : qs_D} {v : Int32} (h : mfr A M) : mfr A (qs_u M 0 14 v) := ⟨fun x a b => by rw [pu_eq, pw_ne _ _ a]; exact h.1 x a b, fun k a b c d e => by rw [un _ _ _ e]; exact h.2 k a b c d e⟩
theorem mfr_w {A M : qs_D} {g : Nat → Int32} (h : mfr A M) : mfr A (qs_w M 1 g) := ⟨fun x a b => by rw [pw_ne _ _ b]; exact h.1 x a b, fun k a b c d e => by rw [pw_ne _ _ (by decide)]; exact h.2 k a b c d e⟩
theorem TP_ab {A A' X M : qs_D} {t : Nat} {B : Nat → Nat} (h : TP A A' t B) (hx : xfr A X) (hm : mfr A' M) : TP X M t B := by
  obtain ⟨t1, t2, t3, t4⟩ := h
  refine ⟨t1, hx.2.trans t2, (hm.2 9 (by decide) (by decide) (by decide) (by decide) (by decide)).trans t3, fun k hk => ?_⟩
  rw [hx.1 38 (by decide) (by decide), hm.1 8 (by decide) (by decide)]
  exact t4 k hk
theorem Tok_c {X M X' M' : qs_D} {t st en tk : Nat} {B : Nat → Nat} (h : Tok X M t B st en tk) (hx : X' 37 = X 37) (hm : ∀ k, k ≠ 14 → M' 0 k = M 0 k) : Tok X' M' t B st en tk := by
  unfold Tok
  rw [hx, hm 10 (by decide), hm 11 (by decide), hm 12 (by decide), hm 13 (by decide)]
  exact h
/-- the class's draft X holds what A holds, and a dish more, with fields f -/
def HD (A X : qs_D) (c : Nat) (f : Nat → Int32) : Prop := (∀ x, 25 < x → x < 37 → x ≠ 25 + 4 + c → X x = A x) ∧ X 25 = upd (A 25) 5 (nI (c + 1)) ∧ ∀ i, i < 6 → X (25 + 4 + c) i = f i
theorem HD_t {A X Y : qs_D} {c : Nat} {f : Nat → Int32} (hc : c < 8) (h : HD A X c f) (h2 : tfX X Y) : HD A Y c f := ⟨fun x a b d => (h2.1 x (by omega)).trans (h.1 x a b d), (h2.1 25 (by decide)).trans h.2.1, fun i hi => by rw [h2.1 _ (by omega)]; exact h.2.2 i hi⟩
theorem HD_u {A X : qs_D} {c k : Nat} {f : Nat → Int32} {v : Int32} (h : HD A X c f) : HD A (qs_u X (25 + 4 + c) k v) c (upd f k v) := by
  refine ⟨fun x a b d => by rw [pu_eq, pw_ne _ _ d]; exact h.1 x a b d, by rw [pu_eq, pw_ne _ _ (by omega)]; exact h.2.1, fun i hi => ?_⟩
  rw [pu_eq, pw_self]
  unfold upd
  by_cases q : i = k
  · simp [q]
  · simp only [q, if_false]; exact h.2.2 i hi
theorem HD_kf {A X : qs_D} {c : Nat} {f f2 g : Nat → Int32} (hc : c < 8) (hk : kf A 25 g c) (h : HD A X c f) (hf : ∀ i, i < 6 → f i = f2 i) : kf X 25 (sW (upd g 5 (nI (c + 1))) c f2) (c + 1) := by
  refine kf_fr (by omega) (fun x h1 h2 => ?_) (kf_add hc hk (f := X (25 + 4 + c)) (fun i hi => (h.2.2 i hi).trans (hf i hi)))
  by_cases q : x = 25
  · subst q
    rw [pu_eq, pw_self, pw_ne _ _ (by omega)]
    exact h.2.1
  · rw [pu_eq, pw_ne _ _ q]
    by_cases q2 : x = 25 + 4 + c
    · subst q2; rw [pw_self]
    · rw [pw_ne _ _ q2]
      exact h.1 x (by omega) (by omega) q2
/-- an item has been read: the drafts agree -/
def iOK (X M : qs_D) (t : Nat) (B : Nat → Nat) (st : Nat) : Prop := (∃ c n, wfr (M 1) c n ∧ kf X 25 (M 1) c) ∧ M 0 14 = 0 ∧ ∃ st' en' tk', st ≤ st' ∧ Tok X M t B st' en' tk'
def iNO (X M : qs_D) : Prop := M 0 14 = 1 ∧ ∃ st, st ≤ 120 ∧ X 37 3 = nI st ∧ M 0 11 = nI st
def iR (A A' : qs_D) (t : Nat) (B : Nat → Nat) (st : Nat) (a : Option (Int32 × qs_D)) (b : Option (Unit × qs_D)) : Prop := ∃ X' M', xfr A X' ∧ mfr A' M' ∧ ((a = some (1, X') ∧ b = some ((), M') ∧ iOK X' M' t B st) ∨ (a = some (0, X') ∧ b = some ((), M') ∧ iNO X' M'))
theorem iR_mono {A A' : qs_D} {t : Nat} {B : Nat → Nat} {st st2 : Nat} {a : Option (Int32 × qs_D)} {b : Option (Unit × qs_D)} (h : iR A A' t B st2 a b) (hs : st ≤ st2) : iR A A' t B st a b := by
  obtain ⟨X', M', h1, h2, h3⟩ := h
  refine ⟨X', M', h1, h2, ?_⟩
  rcases h3 with ⟨q1, q2, q3, q4, st', en', tk', q5, q6⟩ | q
  · exact Or.inl ⟨q1, q2, q3, q4, st', en', tk', by omega, q6⟩
  · exact Or.inr q
theorem takeW' {A A' X M : qs_D} {t st en tk w : Nat} {B : Nat → Nat} (hT : TP A A' t B) (hx : xfr A X) (hm : mfr A' M) (h : Tok X M t B st en tk) (h14 : M 0 14 = 0) (hw : w < 14) : (tk = w ∧ ∃ X' M' st' en' tk', fX3_skipWord (1000 + w) X = some (1, X') ∧ fX5_takes (nI w) M = some (1, M') ∧ st ≤ st' ∧ Tok X' M' t B st' en' tk' ∧ tfX X X' ∧ tfM M M' ∧ xfr A X' ∧ mfr A' M' ∧ M' 0 14 = 0) ∨ (tk ≠ w ∧ fX3_skipWord (1000 + w) X = some (0, X) ∧ fX5_takes (nI w) M = some (0, M)) := by
  rcases takeW (TP_ab hT hx hm) h h14 hw with ⟨q, X', M', st', en', tk', q1, q2, q3, q4, q5, q6⟩ | q
  · exact Or.inl ⟨q, X', M', st', en', tk', q1, q2, q3, q4, q5, q6, xfr_t hx q5, mfr_t hm q6, by rw [q6.2 14 (by decide) (by decide) (by decide) (by decide)]; exact h14⟩
  · exact Or.inr q
theorem numR' {A A' X M : qs_D} {t st en tk p : Nat} {B : Nat → Nat} (hT : TP A A' t B) (hx : xfr A X) (hm : mfr A' M) (h : Tok X M t B st en tk) (h14 : M 0 14 = 0) (hp : p ≤ 99) : (∃ q X' M' st' en' tk', q ≤ p ∧ fX3_readNumber (nI p) X = some (nI q, X') ∧ fX5_number 0 (nI p) M = some (nI q, M') ∧ st ≤ st' ∧ Tok X' M' t B st' en' tk' ∧ tfX X X' ∧ tfM M M' ∧ xfr A X' ∧ mfr A' M' ∧ M' 0 14 = 0) ∨ (∃ v, fX3_readNumber (nI p) X = some (-1, X) ∧ fX5_number 0 (nI p) M = some (v, qs_u M 0 14 1)) := by
  rcases numR (TP_ab hT hx hm) h h14 hp with ⟨q, X', M', st', en', tk', q0, q1, q2, q3, q4, q5, q6⟩ | q
  · exact Or.inl ⟨q, X', M', st', en', tk', q0, q1, q2, q3, q4, q5, q6, xfr_t hx q5, mfr_t hm q6, by rw [q6.2 14 (by decide) (by decide) (by decide) (by decide)]; exact h14⟩
  · exact Or.inr q
/-- a dish is read whole -/
theorem dEnd {A A' A1 X M : qs_D} {t st st' en tk c n : Nat} {B : Nat → Nat} {f g : Nat → Int32} {k tt ss o sp : Nat} (hc : c < 8) (hw : wfr g c n) (hk : kf A1 25 g c) (hx : xfr A X) (hm : mfr A' M) (hs : st ≤ st') (h : Tok X M t B st' en tk) (h14 : M 0 14 = 0) (hg : M 1 = g) (hH : HD A1 X c f) (bk : k ≤ 6) (bt : tt ≤ 99) (bs : ss ≤ 99) (bo : o ≤ 1) (bp : sp ≤ 1) (f0 : f 0 = nI k) (f1 : f 1 = nI tt) (f2 : f 2 = nI ss) (f3 : f 3 = nI sp) (f4 : f 4 = nI o) (f5 : f 5 = 0) : iR A A' t B st (some ((1 : Int32), X)) (if M 0 14 = 0 then qs_bind (fX5_comes (nI k) (nI tt) (nI ss) (nI o) (nI sp) M) (fun x29 D28 => qs_let x29 (fun _ => some ((), D28))) else some ((), M)) := by
  have h5 : M 1 5 = nI c := by rw [hg]; exact hw.2.2.2.2.2.1
  rw [if_pos h14, rComes hc h5, pl_bind, pl_let, hg]
  have hdw : dw (nwr (nI k) (nI tt) (nI ss) (nI sp) (nI o)) := dw_nwr ⟨k, bk, rfl⟩ ⟨tt, bt, rfl⟩ ⟨ss, bs, rfl⟩ ⟨sp, bp, rfl⟩ ⟨o, bo, rfl⟩
  refine ⟨X, _, hx, mfr_w hm, Or.inl ⟨rfl, rfl, ⟨c + 1, n, ?_, ?_⟩, ?_, st', en, tk, hs, Tok_c h rfl (fun k _ => by rw [pw_ne _ _ (by decide)])⟩⟩
  · rw [pw_self]; exact wfr_add hw hc hdw
  · rw [pw_self]
    refine HD_kf hc hk hH (fun i hi => ?_)
    have hi : i = 0 ∨ i = 1 ∨ i = 2 ∨ i = 3 ∨ i = 4 ∨ i = 5 := by omega
    rcases hi with rfl | rfl | rfl | rfl | rfl | rfl
    · exact f0
    · exact f1
    · exact f2
    · exact f3
    · exact f4
    · exact f5
  · rw [pw_ne _ _ (by decide)]; exact h14
theorem dT3 {A A' A1 X M : qs_D} {t st st' en tk c n : Nat} {B : Nat → Nat} {f g : Nat → Int32} {k tt ss o : Nat} (hT : TP A A' t B) (hc : c < 8) (hw : wfr g c n) (hk : kf A1 25 g c) (hx : xfr A X) (hm : mfr A' M) (hs : st ≤ st') (h : Tok X M t B st' en tk) (h14 : M 0 14 = 0) (hg : M 1 = g) (hH : HD A1 X c f) (bk : k ≤ 6) (bt : tt ≤ 99) (bs : ss ≤ 99) (bo : o ≤ 1) (f0 : f 0 = nI k) (f1 : f 1 = nI tt) (f2 : f 2 = nI ss) (f5 : f 5 = 0) : iR A A' t B st (cT3 (25 + 4 + c) (nI o) X) (rT4 (nI k) (nI tt) (nI ss) (nI o) M) := by
  unfold cT3 rT4
  rw [pl_let]
  have hx1 : xfr A (qs_u X (25 + 4 + c) 4 (nI o)) := xfr_u hx (by omega) (by omega)
  have h1 : Tok (qs_u X (25 + 4 + c) 4 (nI o)) M t B st' en tk := Tok_c h (by rw [pu_eq, pw_ne _ _ (by omega)]) (fun _ _ => rfl)
  have hH1 := HD_u (k := 4) (v := nI o) hH
  have e10 : (10 : Int32) = nI 10 := rfl
  rcases takeW' hT hx1 hm h1 h14 (by decide : 10 < 14) with ⟨-, X', M', st2, en2, tk2, q1, q2, q3, q4, q5, q6, q7, q8, q9⟩ | ⟨-, q1, q2⟩
  · rw [q1, e10, q2, pl_bind, pl_bind, if_neg one0, if_neg one0, pl_let, pl_let]
    have hH2 := HD_u (k := 3) (v := (1 : Int32)) (HD_t hc hH1 q5)
    exact dEnd (sp := 1) hc hw hk (xfr_u q7 (by omega) (by omega)) q8 (by omega) (Tok_c q4 (by rw [pu_eq, pw_ne _ _ (by omega)]) (fun _ _ => rfl)) q9 (by rw [q6.1 1 (by decide)]; exact hg) hH2 bk bt bs bo (by decide) f0 f1 f2 rfl rfl f5
  · rw [q1, e10, q2, pl_bind, pl_bind, if_pos rfl, if_pos rfl, pl_let, pl_let]
    have hH2 := HD_u (k := 3) (v := (0 : Int32)) hH1
    exact dEnd (sp := 0) hc hw hk (xfr_u hx1 (by omega) (by omega)) hm (by omega) (Tok_c h1 (by rw [pu_eq, pw_ne _ _ (by omega)]) (fun _ _ => rfl)) h14 hg hH2 bk bt bs bo (by decide) f0 f1 f2 rfl rfl f5
theorem dT2 {A A' A1 X M : qs_D} {t st st' en tk c n : Nat} {B : Nat → Nat} {f g : Nat → Int32} {k tt ss : Nat} (hT : TP A A' t B) (hc : c < 8) (hw : wfr g c n) (hk : kf A1 25 g c) (hx : xfr A X) (hm : mfr A' M) (hs : st ≤ st') (h : Tok X M t B st' en tk) (h14 : M 0 14 = 0) (hg : M 1 = g) (hH : HD A1 X c f) (bk : k ≤ 6) (bt : tt ≤ 99) (bs : ss ≤ 99) (f0 : f 0 = nI k) (f1 : f 1 = nI tt) (f2 : f 2 = nI ss) (f5 : f 5 = 0) : iR A A' t B st (cT2 (25 + 4 + c) X) (rT3 (nI k) (nI tt) (nI ss) M) := by
  unfold cT2 rT3
  have e9 : (9 : Int32) = nI 9 := rfl
  rcases takeW' hT hx hm h h14 (by decide : 9 < 14) with ⟨-, X', M', st2, en2, tk2, q1, q2, q3, q4, q5, q6, q7, q8, q9⟩ | ⟨-, q1, q2⟩
  · rw [q1, e9, q2, pl_bind, pl_bind, if_neg one0, if_neg one0, pl_let]
    exact dT3 (o := 1) hT hc hw hk q7 q8 (by omega) q4 q9 (by rw [q6.1 1 (by decide)]; exact hg) (HD_t hc hH q5) bk bt bs (by decide) f0 f1 f2 f5
  · rw [q1, e9, q2, pl_bind, pl_bind, if_pos rfl, if_pos rfl, pl_let]
    exact dT3 (o := 0) hT hc hw hk hx hm hs h h14 hg hH bk bt bs (by decide) f0 f1 f2 f5
theorem iNO_num {A A' X M : qs_D} {t st st' en tk c k : Nat} {B : Nat → Nat} {v : Int32} (hc : c < 8) (hT : TP A A' t B) (hx : xfr A X) (hm : mfr A' M) (h : Tok X M t B st' en tk) {b : Option (Unit × qs_D)} (hb : b = some ((), qs_u M 0 14 1)) : iR A A' t B st (some ((0 : Int32), qs_u X (25 + 4 + c) k v)) b := by
  have ht := hT.1
  refine ⟨_, _, xfr_u hx (by omega) (by omega), mfr_14 hm, Or.inr ⟨rfl, hb, uu _ _ _ _, st', ?_, ?_, ?_⟩⟩
  · have := h.1; have := h.2.1; omega
  · rw [pu_eq, pw_ne _ _ (by omega)]; exact h.2.2.1
  · rw [un _ _ _ (by decide)]; exact h.2.2.2.2.2.1
theorem dT1 {A A' A1 X M : qs_D} {t st st' en tk c n : Nat} {B : Nat → Nat} {f g : Nat → Int32} {k tt : Nat} (hT : TP A A' t B) (hc : c < 8) (hw : wfr g c n) (hk : kf A1 25 g c) (hx : xfr A X) (hm : mfr A' M) (hs : st ≤ st') (h : Tok X M t B st' en tk) (h14 : M 0 14 = 0) (hg : M 1 = g) (hH : HD A1 X c f) (bk : k ≤ 6) (bt : tt ≤ 99) (f0 : f 0 = nI k) (f1 : f 1 = nI tt) (f2 : f 2 = 10) (f5 : f 5 = 0) : iR A A' t B st (cT1 (25 + 4 + c) X) (rT2 (nI k) (nI tt) M) := by
  unfold cT1 rT2 fX5_perhaps
  have e8 : (8 : Int32) = nI 8 := rfl
  have e99 : (99 : Int32) = nI 99 := rfl
  rcases takeW' hT hx hm h h14 (by decide : 8 < 14) with ⟨-, X', M', st2, en2, tk2, q1, q2, q3, q4, q5, q6, q7, q8, q9⟩ | ⟨-, q1, q2⟩
  · rw [q1, e8, q2, pl_bind, pl_bind, if_neg one0, if_neg one0, e99]
    rcases numR' hT q7 q8 q4 q9 (by decide : 99 ≤ 99) with ⟨q, X2, M2, st3, en3, tk3, r0, r1, r2, r3, r4, r5, r6, r7, r8, r9⟩ | ⟨v, r1, r2⟩
    · rw [r1, r2, pl_bind, pl_bind, pl_bind, pl_let, pl_let, pu_eq, pw_self, up_self, if_pos (nI_pos' (by omega)), ← pu_eq]
      exact dT2 (ss := q) hT hc hw hk (xfr_u r7 (by omega) (by omega)) r8 (by omega) (Tok_c r4 (by rw [pu_eq, pw_ne _ _ (by omega)]) (fun _ _ => rfl)) r9 (by rw [r6.1 1 (by decide), q6.1 1 (by decide)]; exact hg) (HD_u (HD_t hc (HD_t hc hH q5) r5)) bk bt r0 f0 f1 rfl f5
    · rw [r1, r2, pl_bind, pl_bind, pl_bind, pl_let, pl_let, pu_eq X', pw_self, up_self, if_neg neg0, ← pu_eq X']
      exact iNO_num hc hT q7 q8 q4 (rT3F (uu _ _ _ _))
  · rw [q1, e8, q2, pl_bind, pl_bind, if_pos rfl, if_pos rfl, pl_bind, pl_let]
    exact dT2 (ss := 10) hT hc hw hk hx hm hs h h14 hg hH bk bt (by decide) f0 f1 f2 f5
theorem dishR {A A' A1 X M : qs_D} {t st st' en tk c n : Nat} {B : Nat → Nat} {f g : Nat → Int32} {k : Nat} (hT : TP A A' t B) (hc : c < 8) (hw : wfr g c n) (hk : kf A1 25 g c) (hx : xfr A X) (hm : mfr A' M) (hs : st ≤ st') (h : Tok X M t B st' en tk) (h14 : M 0 14 = 0) (hg : M 1 = g) (hH : HD A1 X c f) (bk : k ≤ 6) (f0 : f 0 = nI k) (f1 : f 1 = 10) (f2 : f 2 = 10) (f5 : f 5 = 0) : iR A A' t B st (fX3_readDish (25 + 4 + c) X) (rT1 (nI k) M) := by
  rw [readDish_eq]
  unfold rT1 fX5_perhaps
  have e7 : (7 : Int32) = nI 7 := rfl
  have e99 : (99 : Int32) = nI 99 := rfl
  obtain ⟨Y, N, st1, en1, tk1, p1, p2, p3, p4, p5, p6⟩ := nextTok (TP_ab hT hx hm) h.2.1 h.2.2.2.1 h.2.2.2.2.2.2.1
  have hse := h.1
  have n14 : N 0 14 = 0 := by rw [p6.2 14 (by decide) (by decide) (by decide) (by decide)]; exact h14
  have hxY := xfr_t hx p5
  have hmN := mfr_t hm p6
  have hgN : N 1 = g := by rw [p6.1 1 (by decide)]; exact hg
  have hHY := HD_t hc hH p5
  rw [p1, p2, pl_bind, pl_bind]
  rcases takeW' hT hxY hmN p4 n14 (by decide : 7 < 14) with ⟨-, X', M', st2, en2, tk2, q1, q2, q3, q4, q5, q6, q7, q8, q9⟩ | ⟨-, q1, q2⟩
  · rw [q1, e7, q2, pl_bind, pl_bind, if_neg one0, if_neg one0, e99]
    rcases numR' hT q7 q8 q4 q9 (by decide : 99 ≤ 99) with ⟨q, X2, M2, st3, en3, tk3, r0, r1, r2, r3, r4, r5, r6, r7, r8, r9⟩ | ⟨v, r1, r2⟩
    · rw [r1, r2, pl_bind, pl_bind, pl_bind, pl_let, pl_let, pu_eq, pw_self, up_self, if_pos (nI_pos' (by omega)), ← pu_eq]
      exact dT1 (tt := q) hT hc hw hk (xfr_u r7 (by omega) (by omega)) r8 (by omega) (Tok_c r4 (by rw [pu_eq, pw_ne _ _ (by omega)]) (fun _ _ => rfl)) r9 (by rw [r6.1 1 (by decide), q6.1 1 (by decide)]; exact hgN) (HD_u (HD_t hc (HD_t hc hHY q5) r5)) bk r0 f0 rfl f2 f5
    · rw [r1, r2, pl_bind, pl_bind, pl_bind, pl_let, pl_let, pu_eq X', pw_self, up_self, if_neg neg0, ← pu_eq X']
      exact iNO_num hc hT q7 q8 q4 (rT2F (uu _ _ _ _))
  · rw [q1, e7, q2, pl_bind, pl_bind, if_pos rfl, if_pos rfl, pl_bind, pl_let]
    exact dT1 (tt := 10) hT hc hw hk hxY hmN (by omega) p4 n14 hgN hHY bk (by decide) f0 f1 f2 f5
