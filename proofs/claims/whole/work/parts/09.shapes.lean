/-! which cell is what -/
def qs_F : Nat := 4096
def qs_kT (kb : Nat) : List (Option (Option Nat)) := [none, none, none, none, none, none, some (some (kb + 1)), some (some (kb + 2)), some (some (kb + 3))]
def qs_dT : List (Option (Option Nat)) := [none, none, none, none, none, none]
def qs_kit (kb : Nat) : List qs_Sh := [.inl (1, qs_kT kb), .inr (0, 6, fun _ => none), .inr (0, 10, fun _ => none), .inr (2, 8, fun j => some (kb + 4 + j)), .inl (0, qs_dT), .inl (0, qs_dT), .inl (0, qs_dT), .inl (0, qs_dT), .inl (0, qs_dT), .inl (0, qs_dT), .inl (0, qs_dT), .inl (0, qs_dT)]
def qs_sht (i : Nat) : List qs_Sh := [.inl (2, [none, none, some (some (i + 1))]), .inr (0, 40, fun _ => none)]
def shX : List qs_Sh := [.inl (4, [some (some 1), some (some 13), some (some 25), some (some 37), some (some 39), some (some 40), none])] ++ (qs_kit 1 ++ (qs_kit 13 ++ (qs_kit 25 ++ ([.inl (3, [some (some 38), none, none, none, none]), .inr (1, 120, fun _ => none), .inr (3, 4, fun j => some (41 + 2 * j)), .inr (0, 7, fun _ => none)] ++ (qs_sht 41 ++ (qs_sht 43 ++ (qs_sht 45 ++ qs_sht 47)))))))
def shM : List qs_Sh := [.inl (5, [some (some 1), some (some 2), some (some 3), none, some (some 4), some (some 5), some (some 6), some (some 7), some (some 8), none, none, none, none, none, none]), .inr (0, 70, fun _ => none), .inr (0, 70, fun _ => none), .inr (0, 70, fun _ => none), .inr (0, 7, fun _ => none), .inr (0, 4, fun _ => none), .inr (0, 4, fun _ => none), .inr (0, 160, fun _ => none), .inr (0, 120, fun _ => none)]
abbrev qs_isK (kb : Nat) : Prop := kb = 1 ∨ kb = 13 ∨ kb = 25
abbrev qs_isD (i : Nat) : Prop := shX[i]? = some (.inl (0, qs_dT))
abbrev qs_isS (i : Nat) : Prop := shX[i]? = some (.inl (2, [none, none, some (some (i + 1))])) ∧ shX[i + 1]? = some (.inr (0, 40, fun _ => none))
abbrev qs_isW (w : Nat) : Prop := 1000 ≤ w ∧ w < 1014
theorem qs_k1 : qs_isK 1 := Or.inl rfl
theorem qs_k13 : qs_isK 13 := Or.inr (Or.inl rfl)
theorem qs_k25 : qs_isK 25 := Or.inr (Or.inr rfl)
theorem qs_k0 {kb : Nat} (h : qs_isK kb) : shX[kb]? = some (.inl (1, qs_kT kb)) := by rcases h with rfl | rfl | rfl <;> rfl
theorem qs_kL {kb : Nat} (h : qs_isK kb) : shX[kb + 1]? = some (.inr (0, 6, fun _ => none)) := by rcases h with rfl | rfl | rfl <;> rfl
theorem qs_kS {kb : Nat} (h : qs_isK kb) : shX[kb + 2]? = some (.inr (0, 10, fun _ => none)) := by rcases h with rfl | rfl | rfl <;> rfl
theorem qs_kA {kb : Nat} (h : qs_isK kb) : shX[kb + 3]? = some (.inr (2, 8, fun j => some (kb + 4 + j))) := by rcases h with rfl | rfl | rfl <;> rfl
theorem qs_kdN {kb n : Nat} (h : qs_isK kb) (hn : n < 8) : qs_isD (kb + 4 + n) := by
  have hc : n = 0 ∨ n = 1 ∨ n = 2 ∨ n = 3 ∨ n = 4 ∨ n = 5 ∨ n = 6 ∨ n = 7 := by omega
  rcases h with rfl | rfl | rfl <;> rcases hc with rfl | rfl | rfl | rfl | rfl | rfl | rfl | rfl <;> rfl
theorem qs_kd {kb : Nat} {j : Int32} (h : qs_isK kb) (hj : 0 ≤ j ∧ j < Int32.ofNat 8) : qs_isD (kb + 4 + j.toNatClampNeg) := qs_kdN h (qs_in_lt (by decide) hj)
theorem qs_ssN {n : Nat} (hn : n < 4) : qs_isS (41 + 2 * n) := by
  have hc : n = 0 ∨ n = 1 ∨ n = 2 ∨ n = 3 := by omega
  rcases hc with rfl | rfl | rfl | rfl <;> exact ⟨rfl, rfl⟩
theorem qs_ss {j : Int32} (hj : 0 ≤ j ∧ j < Int32.ofNat 4) : qs_isS (41 + 2 * j.toNatClampNeg) := qs_ssN (qs_in_lt (by decide) hj)
theorem qs_w0 (k : Nat) (h : k < 14) : qs_isW (1000 + k) := ⟨by omega, by omega⟩
def qs_tab (t : Nat) : List Int32 := ((qs_tabs[t]?).getD ("", "", [])).2.2
def qs_sl (w : Nat) : Int32 := Int32.ofNat (qs_slen.getD (w - 1000) 0)
def qs_sc (w : Nat) (j : Int32) : Int32 := (qs_sbyt.getD (w - 1000) []).getD j.toNatClampNeg 0
def qs_gs {σ : Type} (j : Int32) (w : Nat) (T : Option σ) : Option σ := if 0 ≤ j ∧ j < qs_sl w then T else none
