/-! the text's words, on both sides -/
def wl (w : Nat) : Nat := qs_slen.getD w 0
def wc (w k : Nat) : Int32 := (qs_sbyt.getD w []).getD k 0
theorem wl_b : ∀ w, w < 14 → 1 ≤ wl w ∧ wl w ≤ 7 := by decide
theorem wtab : ∀ w, w < 14 → ∀ k, k < 7 → (qs_tab 3).getD (7 * w + k) 0 = if k < wl w then wc w k else 0 := by decide
theorem wc_0 : ∀ w, w < 14 → ∀ k, k < wl w → ¬ wc w k = 0 := by decide
theorem wdist : ∀ w, w < 14 → ∀ u, u < 14 → w ≠ u → wl w = wl u → ¬ ∀ k, k < wl w → wc w k = wc u k := by decide
theorem ix98 : ∀ w, w < 14 → ∀ k, k < 7 → (7 : Int32) * nI w + nI k = nI (7 * w + k) := by decide
def wm (B : Nat → Nat) (st len w : Nat) : Prop := len = wl w ∧ ∀ k, k < len → wc w k = nI (B (st + k))
theorem wm_one {B : Nat → Nat} {st len w u : Nat} (hw : w < 14) (hu : u < 14) (h1 : wm B st len w) (h2 : wm B st len u) : w = u := by
  by_cases h : w = u
  · exact h
  · exact absurd (fun k hk => (h1.2 k (by rw [h1.1]; exact hk)).trans (h2.2 k (by rw [h1.1]; exact hk)).symm) (wdist w hw u hu h (h1.1.symm.trans h2.1))
theorem nameZ (k : Nat) (w1 w2 w4 : Int32) (M : qs_D) : fX5_isName_L34 (k + 1) w1 w2 0 w4 M = some (0, M) := by
  rw [fX5_isName_L34]
  by_cases h : w2 ≤ w4
  · rw [if_pos h, pl_gb0]
  · rw [if_neg h, if_pos rfl, pl_gb0]
theorem nameL {M : qs_D} {B : Nat → Nat} {st len w : Nat} (hw : w < 14) (hl : len ≤ 7) (hs : M 0 11 = nI st) (hst : st + len ≤ 120) (hb : ∀ k, k < len → M 8 (st + k) = nI (B (st + k))) : ∀ (k i : Nat), len + 1 - i < k → i ≤ len → (∀ j, j < i → (qs_tab 3).getD (7 * w + j) 0 = nI (B (st + j))) → ∃ r, fX5_isName_L34 k (nI w) (nI len) 1 (nI i) M = some (r, M) ∧ ((r = 1 ∧ ∀ j, j < len → (qs_tab 3).getD (7 * w + j) 0 = nI (B (st + j))) ∨ (r = 0 ∧ ¬ ∀ j, j < len → (qs_tab 3).getD (7 * w + j) 0 = nI (B (st + j)))) := by
  intro k
  induction k with
  | zero => intro i h; omega
  | succ k ih =>
    intro i hk hi hm
    rw [fX5_isName_L34]
    by_cases hin : len ≤ i
    · rw [if_pos (nI_le hin (by omega)), pl_gb1]
      exact ⟨1, rfl, Or.inl ⟨rfl, fun j hj => hm j (by omega)⟩⟩
    · rw [if_neg (nI_ge (by omega) (by omega)), if_neg one0, ix98 w hw i (by omega), hs, nI_add, pl_gN (d := 7 * w + i) (n := 98) (by decide) (by omega), pl_gN (d := st + i) (n := 120) (by decide) (by omega), tnN (d := 7 * w + i) (by omega), tnN (d := st + i) (by omega), hb i (by omega)]
      by_cases he : (qs_tab 3).getD (7 * w + i) 0 = nI (B (st + i))
      · rw [if_pos he, pl_let, pl_let, nI_s]
        refine ih (i + 1) (by omega) (by omega) (fun j hj => ?_)
        by_cases hji : j = i
        · subst hji; exact he
        · exact hm j (by omega)
      · rw [if_neg he, pl_let, pl_let, nI_s]
        obtain ⟨k2, rfl⟩ : ∃ k2, k = k2 + 1 := ⟨k - 1, by omega⟩
        rw [nameZ]
        exact ⟨0, rfl, Or.inr ⟨rfl, fun q => he (q i (by omega))⟩⟩
theorem low_ne0 : ∀ b, b < 256 → 97 ≤ b → ¬ (0 : Int32) = nI b := by decide +kernel
theorem rName {M : qs_D} {B : Nat → Nat} {st len w : Nat} (hw : w < 14) (h1 : 1 ≤ len) (hs : M 0 11 = nI st) (hst : st + len ≤ 120) (hb : ∀ k, k < len → M 8 (st + k) = nI (B (st + k))) (hlo : ∀ k, k < len → 97 ≤ B (st + k) ∧ B (st + k) ≤ 122) : ∃ r, fX5_isName (nI w) (nI len) M = some (r, M) ∧ ((r = 1 ∧ wm B st len w) ∨ (r = 0 ∧ ¬ wm B st len w)) := by
  obtain ⟨wl1, wl7⟩ := wl_b w hw
  unfold fX5_isName
  obtain ⟨F, hF⟩ : ∃ F, F = qs_F := ⟨_, rfl⟩
  rw [← hF]
  rw [qs_F_eq] at hF
  obtain ⟨F2, hF2⟩ : ∃ F2, F = F2 + 1 := ⟨F - 1, by omega⟩
  have hyes : len ≤ 7 → (∀ j, j < len → (qs_tab 3).getD (7 * w + j) 0 = nI (B (st + j))) → (len = 7 ∨ (qs_tab 3).getD (7 * w + len) 0 = 0) → wm B st len w := by
    intro hl7 hm hor
    have hge : wl w ≤ len := by
      by_cases q : len < wl w
      · rcases hor with q7 | q0
        · omega
        · rw [wtab w hw len (by omega), if_pos q] at q0
          exact absurd q0 (wc_0 w hw len q)
      · omega
    have hle : len ≤ wl w := by
      by_cases q : wl w < len
      · have := hm (wl w) q
        rw [wtab w hw (wl w) (by omega), if_neg (by omega)] at this
        have hq := hlo (wl w) q
        exact absurd this (low_ne0 _ (by omega) hq.1)
      · omega
    refine ⟨by omega, fun k hk => ?_⟩
    have := hm k hk
    rw [wtab w hw k (by omega), if_pos (by omega)] at this
    exact this
  have hno : wm B st len w → (∀ j, j < len → (qs_tab 3).getD (7 * w + j) 0 = nI (B (st + j))) := by
    intro hm j hj
    have e := hm.1
    rw [wtab w hw j (by omega), if_pos (by omega)]
    exact hm.2 j hj
  by_cases c7 : 7 < len
  · rw [if_pos (show (7 : Int32) < nI len from nI_lt (a := 7) c7 (by omega)), pl_let, pl_let, hF2, nameZ]
    exact ⟨0, rfl, Or.inr ⟨rfl, fun q => by have := q.1; omega⟩⟩
  · rw [if_neg (show ¬ (7 : Int32) < nI len from nI_nlt (a := 7) (by omega) (by decide))]
    obtain ⟨r, e1, e2⟩ := nameL (M := M) (B := B) hw (by omega : len ≤ 7) hs hst hb F 0 (by omega) (by omega) (fun j hj => absurd hj (by omega))
    have e1 : fX5_isName_L34 F (nI w) (nI len) 1 0 M = some (r, M) := e1
    by_cases d7 : len = 7
    · have : nI len = 7 := by rw [d7]; rfl
      rw [if_pos this, pl_let, pl_let, e1]
      refine ⟨r, rfl, ?_⟩
      rcases e2 with ⟨q1, q2⟩ | ⟨q1, q2⟩
      · exact Or.inl ⟨q1, hyes (by omega) q2 (Or.inl d7)⟩
      · exact Or.inr ⟨q1, fun q => q2 (hno q)⟩
    · have hne : ¬ nI len = 7 := fun q => d7 ((nI_eq (b := 7) (by omega) (by decide)).mp q)
      rw [if_neg hne, ix98 w hw len (by omega), pl_gN (d := 7 * w + len) (n := 98) (by decide) (by omega), tnN (d := 7 * w + len) (by omega)]
      by_cases ht : (qs_tab 3).getD (7 * w + len) 0 = 0
      · rw [if_pos ht, pl_let, pl_let, e1]
        refine ⟨r, rfl, ?_⟩
        rcases e2 with ⟨q1, q2⟩ | ⟨q1, q2⟩
        · exact Or.inl ⟨q1, hyes (by omega) q2 (Or.inr ht)⟩
        · exact Or.inr ⟨q1, fun q => q2 (hno q)⟩
      · rw [if_neg ht, pl_let, pl_let, hF2, nameZ]
        refine ⟨0, rfl, Or.inr ⟨rfl, fun q => ht ?_⟩⟩
        have e := q.1
        rw [wtab w hw len (by omega), if_neg (by omega)]
theorem hereL {M : qs_D} {B : Nat → Nat} {st en : Nat} (hs : M 0 11 = nI st) (he : M 0 12 = nI en) (hlt : st < en) (hen : en ≤ 120) (hb : ∀ k, k < en - st → M 8 (st + k) = nI (B (st + k))) (hlo : ∀ k, k < en - st → 97 ≤ B (st + k) ∧ B (st + k) ≤ 122) : ∀ (k i : Nat), 14 - i < k → i ≤ 14 → (∀ w, w < i → ¬ wm B st (en - st) w) → ∃ tk, fX5_wordHere_L2 k (nI i) M = some (nI tk, M) ∧ ((tk < 14 ∧ wm B st (en - st) tk) ∨ (tk = 23 ∧ ∀ w, w < 14 → ¬ wm B st (en - st) w)) := by
  intro k
  induction k with
  | zero => intro i h; omega
  | succ k ih =>
    intro i hk hi hn
    rw [fX5_wordHere_L2]
    by_cases hin : 14 ≤ i
    · rw [if_pos (show (14 : Int32) ≤ nI i from nI_le (a := 14) hin (by omega)), if_pos (show (14 : Int32) ≤ nI i from nI_le (a := 14) hin (by omega))]
      exact ⟨23, rfl, Or.inr ⟨rfl, fun w hw => hn w (by omega)⟩⟩
    · have h14 : ¬ (14 : Int32) ≤ nI i := nI_ge (b := 14) (by omega) (by decide)
      obtain ⟨r, e1, e2⟩ := rName (M := M) (B := B) (st := st) (len := en - st) (w := i) (by omega) (by omega) hs (by omega) hb hlo
      rw [if_neg h14, hs, he, pk_sub (by omega), e1, pl_bind]
      rcases e2 with ⟨rfl, q⟩ | ⟨rfl, q⟩
      · rw [if_neg one0, if_neg h14]
        exact ⟨i, rfl, Or.inl ⟨by omega, q⟩⟩
      · rw [if_pos rfl, pl_let, nI_s]
        refine ih (i + 1) (by omega) (by omega) (fun w hw => ?_)
        by_cases hwi : w = i
        · subst hwi; exact q
        · exact hn w (by omega)
theorem rHere {M : qs_D} {B : Nat → Nat} {st en : Nat} (hs : M 0 11 = nI st) (he : M 0 12 = nI en) (hlt : st < en) (hen : en ≤ 120) (hb : ∀ k, k < en - st → M 8 (st + k) = nI (B (st + k))) (hlo : ∀ k, k < en - st → 97 ≤ B (st + k) ∧ B (st + k) ≤ 122) : ∃ tk, fX5_wordHere M = some (nI tk, M) ∧ ((tk < 14 ∧ wm B st (en - st) tk) ∨ (tk = 23 ∧ ∀ w, w < 14 → ¬ wm B st (en - st) w)) := by
  unfold fX5_wordHere
  obtain ⟨F, hF⟩ : ∃ F, F = qs_F := ⟨_, rfl⟩
  rw [← hF]
  rw [qs_F_eq] at hF
  rw [pl_let]
  exact hereL hs he hlt hen hb hlo F 0 (by omega) (by omega) (fun w hw => absurd hw (by omega))
theorem lowb : ∀ b, b < 128 → (nI b).toInt8.toInt32 = nI b := by decide +kernel
theorem qs_sl_w (w : Nat) : qs_sl (1000 + w) = nI (wl w) := by unfold qs_sl; rw [Nat.add_sub_cancel_left]; rfl
theorem qs_sc_w (w : Nat) {k : Nat} (hk : k < 2 ^ 31) : qs_sc (1000 + w) (nI k) = wc w k := by unfold qs_sc; rw [Nat.add_sub_cancel_left, tnN hk]; rfl
theorem cwL {X : qs_D} {B : Nat → Nat} {st w : Nat} (hw : w < 14) (hs : X 37 3 = nI st) (hst : st + wl w ≤ 120) (hb : ∀ k, k < wl w → X 38 (st + k) = nI (B (st + k))) : ∀ (k i : Nat), wl w - i < k → i ≤ wl w → (∀ j, j < i → wc w j = nI (B (st + j))) → ∃ r, fX3_isWord_L27 (1000 + w) k (nI i) X = some (r, X) ∧ ((r = 1 ∧ wm B st (wl w) w) ∨ (r = 0 ∧ ¬ wm B st (wl w) w)) := by
  have h7 := wl_b w hw
  intro k
  induction k with
  | zero => intro i h; omega
  | succ k ih =>
    intro i hk hi hm
    rw [fX3_isWord_L27, qs_sl_w]
    by_cases hin : wl w ≤ i
    · rw [if_pos (nI_le hin (by omega))]
      exact ⟨1, rfl, Or.inl ⟨rfl, rfl, fun j hj => hm j (by omega)⟩⟩
    · have hgs : ∀ T : Option (Int32 × qs_D), qs_gs (nI i) (1000 + w) T = T := fun T => if_pos ⟨nI_pos' (by omega), by rw [qs_sl_w]; exact nI_lt (by omega) (by omega)⟩
      rw [if_neg (nI_ge (by omega) (by omega)), hs, nI_add, pl_gN (d := st + i) (n := 120) (by decide) (by omega), hgs, tnN (d := st + i) (by omega), hb i (by omega), qs_sc_w w (by omega)]
      by_cases he : nI (B (st + i)) = wc w i
      · rw [if_pos he, pl_let, nI_s]
        refine ih (i + 1) (by omega) (by omega) (fun j hj => ?_)
        by_cases hji : j = i
        · subst hji; exact he.symm
        · exact hm j (by omega)
      · rw [if_neg he]
        exact ⟨0, rfl, Or.inr ⟨rfl, fun q => he (q.2 i (by omega)).symm⟩⟩
theorem cWord {X : qs_D} {B : Nat → Nat} {st en w : Nat} (hw : w < 14) (h2 : X 37 2 = 0) (hs : X 37 3 = nI st) (he : X 37 4 = nI en) (hlt : st < en) (hen : en ≤ 120) (hb : ∀ k, k < en - st → X 38 (st + k) = nI (B (st + k))) : ∃ r, fX3_isWord (1000 + w) X = some (r, X) ∧ ((r = 1 ∧ wm B st (en - st) w) ∨ (r = 0 ∧ ¬ wm B st (en - st) w)) := by
  have h7 := wl_b w hw
  unfold fX3_isWord
  obtain ⟨F, hF⟩ : ∃ F, F = qs_F := ⟨_, rfl⟩
  rw [← hF]
  rw [qs_F_eq] at hF
  rw [if_pos h2, he, hs, pk_sub (by omega), qs_sl_w]
  by_cases hl : en - st = wl w
  · rw [if_pos (by rw [hl]), pl_let]
    have := cwL (B := B) hw hs (by omega) (fun k hk => hb k (by omega)) F 0 (by omega) (by omega) (fun j hj => absurd hj (by omega))
    rw [hl]
    exact this
  · rw [if_neg (fun q => hl ((nI_eq (by omega) (by omega)).mp q))]
    exact ⟨0, rfl, Or.inr ⟨rfl, fun q => hl q.1⟩⟩
theorem cWordN {X : qs_D} {w : Nat} (h2 : ¬ X 37 2 = 0) : fX3_isWord (1000 + w) X = some (0, X) := by
  unfold fX3_isWord
  rw [if_neg h2]
/-! sorts of bytes -/
def srt (b : Nat) : Nat := if 97 ≤ b ∧ b ≤ 122 then 0 else if 48 ≤ b ∧ b ≤ 57 then 1 else if b = 59 then 2 else 4
def bX (b : Nat) : Int32 := (nI b).toInt8.toInt32
theorem bX_f : ∀ b, b < 256 → (bX b < 97 ↔ (b < 97 ∨ 128 ≤ b)) ∧ (bX b < 48 ↔ (b < 48 ∨ 128 ≤ b)) ∧ (57 < bX b ↔ (57 < b ∧ b < 128)) ∧ (122 < bX b ↔ (122 < b ∧ b < 128)) ∧ (bX b = 59 ↔ b = 59) ∧ (bX b = 32 ↔ b = 32) := by decide +kernel
theorem cSort {b : Nat} (hb : b < 256) (D : qs_D) : fX3_sortOf (bX b) D = some (nI (srt b), D) := by
  obtain ⟨f1, f2, f3, f4, f5, -⟩ := bX_f b hb
  unfold fX3_sortOf
  simp only [f1, f2, f3, f4, f5]
  unfold srt
  by_cases a1 : 97 ≤ b ∧ b ≤ 122
  · rw [if_neg (by omega), if_neg (by omega), if_pos a1]; rfl
  · rw [if_neg a1]
    by_cases a2 : 48 ≤ b ∧ b ≤ 57
    · rw [if_pos (by omega), if_neg (by omega), if_neg (by omega), if_pos a2]; rfl
    · rw [if_neg a2]
      by_cases a3 : b = 59
      · rw [if_pos (by omega), if_neg (by omega), if_pos (by omega), if_pos a3, if_pos a3]; rfl
      · rw [if_neg a3]
        by_cases a4 : b < 97 ∨ 128 ≤ b
        · rw [if_pos a4]
          by_cases a5 : b < 48 ∨ 128 ≤ b
          · rw [if_pos a5, if_neg a3]; rfl
          · rw [if_neg a5, if_pos (by omega), if_neg a3]; rfl
        · rw [if_neg a4, if_pos (by omega)]
          by_cases a5 : b < 48 ∨ 128 ≤ b
          · rw [if_pos a5, if_neg a3]; rfl
          · rw [if_neg a5, if_pos (by omega), if_neg a3]; rfl
theorem srt_0 {b : Nat} : srt b = 0 ↔ 97 ≤ b ∧ b ≤ 122 := by
  unfold srt
  by_cases a1 : 97 ≤ b ∧ b ≤ 122
  · rw [if_pos a1]; exact ⟨fun _ => a1, fun _ => rfl⟩
  · rw [if_neg a1]
    refine ⟨fun h => ?_, fun h => absurd h a1⟩
    by_cases a2 : 48 ≤ b ∧ b ≤ 57
    · rw [if_pos a2] at h; omega
    · rw [if_neg a2] at h
      by_cases a3 : b = 59
      · rw [if_pos a3] at h; omega
      · rw [if_neg a3] at h; omega
theorem srt_1 {b : Nat} : srt b = 1 ↔ 48 ≤ b ∧ b ≤ 57 := by
  unfold srt
  by_cases a1 : 97 ≤ b ∧ b ≤ 122
  · rw [if_pos a1]; exact ⟨fun h => by omega, fun h => by omega⟩
  · rw [if_neg a1]
    by_cases a2 : 48 ≤ b ∧ b ≤ 57
    · rw [if_pos a2]; exact ⟨fun _ => a2, fun _ => rfl⟩
    · rw [if_neg a2]
      refine ⟨fun h => ?_, fun h => absurd h a2⟩
      by_cases a3 : b = 59
      · rw [if_pos a3] at h; omega
      · rw [if_neg a3] at h; omega
theorem srt_4 (b : Nat) : srt b ≤ 4 := by
  unfold srt
  by_cases a1 : 97 ≤ b ∧ b ≤ 122
  · rw [if_pos a1]; omega
  · rw [if_neg a1]
    by_cases a2 : 48 ≤ b ∧ b ≤ 57
    · rw [if_pos a2]; omega
    · rw [if_neg a2]
      by_cases a3 : b = 59
      · rw [if_pos a3]; omega
      · rw [if_neg a3]; omega
/-- the tape on both sides: t bytes B -/
def TP (X M : qs_D) (t : Nat) (B : Nat → Nat) : Prop := t ≤ 120 ∧ X 37 1 = nI t ∧ M 0 9 = nI t ∧ ∀ k, k < t → B k < 256 ∧ M 8 k = nI (B k) ∧ X 38 k = bX (B k)
theorem rByte {X M : qs_D} {t p lo hi : Nat} {B : Nat → Nat} (h : TP X M t B) (hp : p ≤ t) (hl : lo < 256) (hh : hi < 256) : fX5_isByte (nI p) (nI lo) (nI hi) M = some (if p < t ∧ lo ≤ B p ∧ B p ≤ hi then 1 else 0, M) := by
  obtain ⟨t1, t2, t3, t4⟩ := h
  unfold fX5_isByte
  rw [t3]
  by_cases hpt : p < t
  · obtain ⟨b1, b2, b3⟩ := t4 p hpt
    rw [if_neg (nI_ge (by omega) (by omega)), pl_gN (d := p) (n := 120) (by decide) (by omega), tnN (d := p) (by omega), b2, rIn, pl_bind]
    by_cases q : lo ≤ B p ∧ B p ≤ hi
    · rw [if_pos (c := nI lo ≤ nI (B p) ∧ nI (B p) ≤ nI hi) ⟨nI_le q.1 (by omega), nI_le q.2 (by omega)⟩, if_neg one0, if_pos ⟨hpt, q⟩]
    · rw [if_neg (c := nI lo ≤ nI (B p) ∧ nI (B p) ≤ nI hi) (fun z => q ⟨(nI_leI (by omega) (by omega)).mp z.1, (nI_leI (by omega) (by omega)).mp z.2⟩), if_pos rfl, if_neg (fun z => q z.2)]
  · rw [if_pos (nI_le (by omega) (by omega)), if_neg (fun z => hpt z.1)]
