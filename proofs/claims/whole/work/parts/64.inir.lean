def dK (sp : Nat → Int32) (i : Nat) : Nat → Int32 := if i = 0 then (fun k => if k = 0 then 50 else if k = 1 then 3 else if k = 4 then 1 else 0) else if i = 2 then sp else fun _ => 0
def dX (s1 s2 s3 : Nat → Int32) : qs_D := fun i => if i = 0 then (fun _ => 0) else if i < 13 then dK s1 (i - 1) else if i < 25 then dK s2 (i - 13) else if i < 37 then dK s3 (i - 25) else if i = 37 then (fun k => if k = 2 then 3 else 0) else fun _ => 0
def adX (E : qs_E) (ad : Nat → Nat) (s1 s2 s3 : Nat → Int32) : va_W := [((ad 0), .inr (4, [.ref (ad 1), .ref (ad 13), .ref (ad 25), .ref (ad 37), .ref (ad 39), .ref (ad 40), .int 0])), ((ad 1), .inr (1, [.int 50, .int 3, .int 0, .int 0, .int 1, .int 0, .ref (ad 2), .ref (ad 3), .ref (ad 4)])), ((ad 2), .inl (E.2.1 0, 6, .inl (fun _ => 0))), ((ad 3), .inl (E.2.1 0, 10, .inl (s1))), ((ad 4), .inl (E.2.1 2, 8, .inr (.inr (.inr (.inr (fun j => some (ad (1 + 4 + j)))))))), ((ad 5), .inr (0, [.int 0, .int 0, .int 0, .int 0, .int 0, .int 0])), ((ad 6), .inr (0, [.int 0, .int 0, .int 0, .int 0, .int 0, .int 0])), ((ad 7), .inr (0, [.int 0, .int 0, .int 0, .int 0, .int 0, .int 0])), ((ad 8), .inr (0, [.int 0, .int 0, .int 0, .int 0, .int 0, .int 0])), ((ad 9), .inr (0, [.int 0, .int 0, .int 0, .int 0, .int 0, .int 0])), ((ad 10), .inr (0, [.int 0, .int 0, .int 0, .int 0, .int 0, .int 0])), ((ad 11), .inr (0, [.int 0, .int 0, .int 0, .int 0, .int 0, .int 0])), ((ad 12), .inr (0, [.int 0, .int 0, .int 0, .int 0, .int 0, .int 0])), ((ad 13), .inr (1, [.int 50, .int 3, .int 0, .int 0, .int 1, .int 0, .ref (ad 14), .ref (ad 15), .ref (ad 16)])), ((ad 14), .inl (E.2.1 0, 6, .inl (fun _ => 0))), ((ad 15), .inl (E.2.1 0, 10, .inl (s2))), ((ad 16), .inl (E.2.1 2, 8, .inr (.inr (.inr (.inr (fun j => some (ad (13 + 4 + j)))))))), ((ad 17), .inr (0, [.int 0, .int 0, .int 0, .int 0, .int 0, .int 0])), ((ad 18), .inr (0, [.int 0, .int 0, .int 0, .int 0, .int 0, .int 0])), ((ad 19), .inr (0, [.int 0, .int 0, .int 0, .int 0, .int 0, .int 0])), ((ad 20), .inr (0, [.int 0, .int 0, .int 0, .int 0, .int 0, .int 0])), ((ad 21), .inr (0, [.int 0, .int 0, .int 0, .int 0, .int 0, .int 0])), ((ad 22), .inr (0, [.int 0, .int 0, .int 0, .int 0, .int 0, .int 0])), ((ad 23), .inr (0, [.int 0, .int 0, .int 0, .int 0, .int 0, .int 0])), ((ad 24), .inr (0, [.int 0, .int 0, .int 0, .int 0, .int 0, .int 0])), ((ad 25), .inr (1, [.int 50, .int 3, .int 0, .int 0, .int 1, .int 0, .ref (ad 26), .ref (ad 27), .ref (ad 28)])), ((ad 26), .inl (E.2.1 0, 6, .inl (fun _ => 0))), ((ad 27), .inl (E.2.1 0, 10, .inl (s3))), ((ad 28), .inl (E.2.1 2, 8, .inr (.inr (.inr (.inr (fun j => some (ad (25 + 4 + j)))))))), ((ad 29), .inr (0, [.int 0, .int 0, .int 0, .int 0, .int 0, .int 0])), ((ad 30), .inr (0, [.int 0, .int 0, .int 0, .int 0, .int 0, .int 0])), ((ad 31), .inr (0, [.int 0, .int 0, .int 0, .int 0, .int 0, .int 0])), ((ad 32), .inr (0, [.int 0, .int 0, .int 0, .int 0, .int 0, .int 0])), ((ad 33), .inr (0, [.int 0, .int 0, .int 0, .int 0, .int 0, .int 0])), ((ad 34), .inr (0, [.int 0, .int 0, .int 0, .int 0, .int 0, .int 0])), ((ad 35), .inr (0, [.int 0, .int 0, .int 0, .int 0, .int 0, .int 0])), ((ad 36), .inr (0, [.int 0, .int 0, .int 0, .int 0, .int 0, .int 0])), ((ad 37), .inr (3, [.ref (ad 38), .int 0, .int 3, .int 0, .int 0])), ((ad 38), .inl (E.2.1 1, 120, .inl (fun _ => 0))), ((ad 39), .inl (E.2.1 3, 4, .inr (.inr (.inr (.inr (fun j => some (ad (41 + 2 * j)))))))), ((ad 40), .inl (E.2.1 0, 7, .inl (fun _ => 0))), ((ad 41), .inr (2, [.int 0, .int 0, .ref (ad 42)])), ((ad 42), .inl (E.2.1 0, 40, .inl (fun _ => 0))), ((ad 43), .inr (2, [.int 0, .int 0, .ref (ad 44)])), ((ad 44), .inl (E.2.1 0, 40, .inl (fun _ => 0))), ((ad 45), .inr (2, [.int 0, .int 0, .ref (ad 46)])), ((ad 46), .inl (E.2.1 0, 40, .inl (fun _ => 0))), ((ad 47), .inr (2, [.int 0, .int 0, .ref (ad 48)])), ((ad 48), .inl (E.2.1 0, 40, .inl (fun _ => 0)))]
theorem rx_0 {E : qs_E} {ad : Nat → Nat} {s1 s2 s3 : Nat → Int32} : (qs_ren (E.1, E.2.1, ad, 0) shX (dX s1 s2 s3))[0]? = (adX E ad s1 s2 s3)[0]? := (qs_ren_at (sh := .inl (4, [some (some 1), some (some 13), some (some 25), some (some 37), some (some 39), some (some 40), none])) rfl).trans rfl
theorem rx_1 {E : qs_E} {ad : Nat → Nat} {s1 s2 s3 : Nat → Int32} : (qs_ren (E.1, E.2.1, ad, 0) shX (dX s1 s2 s3))[1]? = (adX E ad s1 s2 s3)[1]? := (qs_ren_at (sh := .inl (1, qs_kT 1)) rfl).trans rfl
theorem rx_2 {E : qs_E} {ad : Nat → Nat} {s1 s2 s3 : Nat → Int32} : (qs_ren (E.1, E.2.1, ad, 0) shX (dX s1 s2 s3))[2]? = (adX E ad s1 s2 s3)[2]? := (qs_ren_at (sh := .inr (0, 6, fun _ => none)) rfl).trans rfl
theorem rx_3 {E : qs_E} {ad : Nat → Nat} {s1 s2 s3 : Nat → Int32} : (qs_ren (E.1, E.2.1, ad, 0) shX (dX s1 s2 s3))[3]? = (adX E ad s1 s2 s3)[3]? := (qs_ren_at (sh := .inr (0, 10, fun _ => none)) rfl).trans rfl
theorem rx_4 {E : qs_E} {ad : Nat → Nat} {s1 s2 s3 : Nat → Int32} : (qs_ren (E.1, E.2.1, ad, 0) shX (dX s1 s2 s3))[4]? = (adX E ad s1 s2 s3)[4]? := (qs_ren_at (sh := .inr (2, 8, fun j => some (1 + 4 + j))) rfl).trans rfl
theorem rx_5 {E : qs_E} {ad : Nat → Nat} {s1 s2 s3 : Nat → Int32} : (qs_ren (E.1, E.2.1, ad, 0) shX (dX s1 s2 s3))[5]? = (adX E ad s1 s2 s3)[5]? := (qs_ren_at (sh := .inl (0, qs_dT)) rfl).trans rfl
theorem rx_6 {E : qs_E} {ad : Nat → Nat} {s1 s2 s3 : Nat → Int32} : (qs_ren (E.1, E.2.1, ad, 0) shX (dX s1 s2 s3))[6]? = (adX E ad s1 s2 s3)[6]? := (qs_ren_at (sh := .inl (0, qs_dT)) rfl).trans rfl
theorem rx_7 {E : qs_E} {ad : Nat → Nat} {s1 s2 s3 : Nat → Int32} : (qs_ren (E.1, E.2.1, ad, 0) shX (dX s1 s2 s3))[7]? = (adX E ad s1 s2 s3)[7]? := (qs_ren_at (sh := .inl (0, qs_dT)) rfl).trans rfl
theorem rx_8 {E : qs_E} {ad : Nat → Nat} {s1 s2 s3 : Nat → Int32} : (qs_ren (E.1, E.2.1, ad, 0) shX (dX s1 s2 s3))[8]? = (adX E ad s1 s2 s3)[8]? := (qs_ren_at (sh := .inl (0, qs_dT)) rfl).trans rfl
theorem rx_9 {E : qs_E} {ad : Nat → Nat} {s1 s2 s3 : Nat → Int32} : (qs_ren (E.1, E.2.1, ad, 0) shX (dX s1 s2 s3))[9]? = (adX E ad s1 s2 s3)[9]? := (qs_ren_at (sh := .inl (0, qs_dT)) rfl).trans rfl
theorem rx_10 {E : qs_E} {ad : Nat → Nat} {s1 s2 s3 : Nat → Int32} : (qs_ren (E.1, E.2.1, ad, 0) shX (dX s1 s2 s3))[10]? = (adX E ad s1 s2 s3)[10]? := (qs_ren_at (sh := .inl (0, qs_dT)) rfl).trans rfl
theorem rx_11 {E : qs_E} {ad : Nat → Nat} {s1 s2 s3 : Nat → Int32} : (qs_ren (E.1, E.2.1, ad, 0) shX (dX s1 s2 s3))[11]? = (adX E ad s1 s2 s3)[11]? := (qs_ren_at (sh := .inl (0, qs_dT)) rfl).trans rfl
theorem rx_12 {E : qs_E} {ad : Nat → Nat} {s1 s2 s3 : Nat → Int32} : (qs_ren (E.1, E.2.1, ad, 0) shX (dX s1 s2 s3))[12]? = (adX E ad s1 s2 s3)[12]? := (qs_ren_at (sh := .inl (0, qs_dT)) rfl).trans rfl
theorem rx_13 {E : qs_E} {ad : Nat → Nat} {s1 s2 s3 : Nat → Int32} : (qs_ren (E.1, E.2.1, ad, 0) shX (dX s1 s2 s3))[13]? = (adX E ad s1 s2 s3)[13]? := (qs_ren_at (sh := .inl (1, qs_kT 13)) rfl).trans rfl
theorem rx_14 {E : qs_E} {ad : Nat → Nat} {s1 s2 s3 : Nat → Int32} : (qs_ren (E.1, E.2.1, ad, 0) shX (dX s1 s2 s3))[14]? = (adX E ad s1 s2 s3)[14]? := (qs_ren_at (sh := .inr (0, 6, fun _ => none)) rfl).trans rfl
theorem rx_15 {E : qs_E} {ad : Nat → Nat} {s1 s2 s3 : Nat → Int32} : (qs_ren (E.1, E.2.1, ad, 0) shX (dX s1 s2 s3))[15]? = (adX E ad s1 s2 s3)[15]? := (qs_ren_at (sh := .inr (0, 10, fun _ => none)) rfl).trans rfl
theorem rx_16 {E : qs_E} {ad : Nat → Nat} {s1 s2 s3 : Nat → Int32} : (qs_ren (E.1, E.2.1, ad, 0) shX (dX s1 s2 s3))[16]? = (adX E ad s1 s2 s3)[16]? := (qs_ren_at (sh := .inr (2, 8, fun j => some (13 + 4 + j))) rfl).trans rfl
theorem rx_17 {E : qs_E} {ad : Nat → Nat} {s1 s2 s3 : Nat → Int32} : (qs_ren (E.1, E.2.1, ad, 0) shX (dX s1 s2 s3))[17]? = (adX E ad s1 s2 s3)[17]? := (qs_ren_at (sh := .inl (0, qs_dT)) rfl).trans rfl
theorem rx_18 {E : qs_E} {ad : Nat → Nat} {s1 s2 s3 : Nat → Int32} : (qs_ren (E.1, E.2.1, ad, 0) shX (dX s1 s2 s3))[18]? = (adX E ad s1 s2 s3)[18]? := (qs_ren_at (sh := .inl (0, qs_dT)) rfl).trans rfl
theorem rx_19 {E : qs_E} {ad : Nat → Nat} {s1 s2 s3 : Nat → Int32} : (qs_ren (E.1, E.2.1, ad, 0) shX (dX s1 s2 s3))[19]? = (adX E ad s1 s2 s3)[19]? := (qs_ren_at (sh := .inl (0, qs_dT)) rfl).trans rfl
theorem rx_20 {E : qs_E} {ad : Nat → Nat} {s1 s2 s3 : Nat → Int32} : (qs_ren (E.1, E.2.1, ad, 0) shX (dX s1 s2 s3))[20]? = (adX E ad s1 s2 s3)[20]? := (qs_ren_at (sh := .inl (0, qs_dT)) rfl).trans rfl
theorem rx_21 {E : qs_E} {ad : Nat → Nat} {s1 s2 s3 : Nat → Int32} : (qs_ren (E.1, E.2.1, ad, 0) shX (dX s1 s2 s3))[21]? = (adX E ad s1 s2 s3)[21]? := (qs_ren_at (sh := .inl (0, qs_dT)) rfl).trans rfl
theorem rx_22 {E : qs_E} {ad : Nat → Nat} {s1 s2 s3 : Nat → Int32} : (qs_ren (E.1, E.2.1, ad, 0) shX (dX s1 s2 s3))[22]? = (adX E ad s1 s2 s3)[22]? := (qs_ren_at (sh := .inl (0, qs_dT)) rfl).trans rfl
theorem rx_23 {E : qs_E} {ad : Nat → Nat} {s1 s2 s3 : Nat → Int32} : (qs_ren (E.1, E.2.1, ad, 0) shX (dX s1 s2 s3))[23]? = (adX E ad s1 s2 s3)[23]? := (qs_ren_at (sh := .inl (0, qs_dT)) rfl).trans rfl
theorem rx_24 {E : qs_E} {ad : Nat → Nat} {s1 s2 s3 : Nat → Int32} : (qs_ren (E.1, E.2.1, ad, 0) shX (dX s1 s2 s3))[24]? = (adX E ad s1 s2 s3)[24]? := (qs_ren_at (sh := .inl (0, qs_dT)) rfl).trans rfl
theorem rx_25 {E : qs_E} {ad : Nat → Nat} {s1 s2 s3 : Nat → Int32} : (qs_ren (E.1, E.2.1, ad, 0) shX (dX s1 s2 s3))[25]? = (adX E ad s1 s2 s3)[25]? := (qs_ren_at (sh := .inl (1, qs_kT 25)) rfl).trans rfl
theorem rx_26 {E : qs_E} {ad : Nat → Nat} {s1 s2 s3 : Nat → Int32} : (qs_ren (E.1, E.2.1, ad, 0) shX (dX s1 s2 s3))[26]? = (adX E ad s1 s2 s3)[26]? := (qs_ren_at (sh := .inr (0, 6, fun _ => none)) rfl).trans rfl
theorem rx_27 {E : qs_E} {ad : Nat → Nat} {s1 s2 s3 : Nat → Int32} : (qs_ren (E.1, E.2.1, ad, 0) shX (dX s1 s2 s3))[27]? = (adX E ad s1 s2 s3)[27]? := (qs_ren_at (sh := .inr (0, 10, fun _ => none)) rfl).trans rfl
theorem rx_28 {E : qs_E} {ad : Nat → Nat} {s1 s2 s3 : Nat → Int32} : (qs_ren (E.1, E.2.1, ad, 0) shX (dX s1 s2 s3))[28]? = (adX E ad s1 s2 s3)[28]? := (qs_ren_at (sh := .inr (2, 8, fun j => some (25 + 4 + j))) rfl).trans rfl
theorem rx_29 {E : qs_E} {ad : Nat → Nat} {s1 s2 s3 : Nat → Int32} : (qs_ren (E.1, E.2.1, ad, 0) shX (dX s1 s2 s3))[29]? = (adX E ad s1 s2 s3)[29]? := (qs_ren_at (sh := .inl (0, qs_dT)) rfl).trans rfl
theorem rx_30 {E : qs_E} {ad : Nat → Nat} {s1 s2 s3 : Nat → Int32} : (qs_ren (E.1, E.2.1, ad, 0) shX (dX s1 s2 s3))[30]? = (adX E ad s1 s2 s3)[30]? := (qs_ren_at (sh := .inl (0, qs_dT)) rfl).trans rfl
theorem rx_31 {E : qs_E} {ad : Nat → Nat} {s1 s2 s3 : Nat → Int32} : (qs_ren (E.1, E.2.1, ad, 0) shX (dX s1 s2 s3))[31]? = (adX E ad s1 s2 s3)[31]? := (qs_ren_at (sh := .inl (0, qs_dT)) rfl).trans rfl
theorem rx_32 {E : qs_E} {ad : Nat → Nat} {s1 s2 s3 : Nat → Int32} : (qs_ren (E.1, E.2.1, ad, 0) shX (dX s1 s2 s3))[32]? = (adX E ad s1 s2 s3)[32]? := (qs_ren_at (sh := .inl (0, qs_dT)) rfl).trans rfl
theorem rx_33 {E : qs_E} {ad : Nat → Nat} {s1 s2 s3 : Nat → Int32} : (qs_ren (E.1, E.2.1, ad, 0) shX (dX s1 s2 s3))[33]? = (adX E ad s1 s2 s3)[33]? := (qs_ren_at (sh := .inl (0, qs_dT)) rfl).trans rfl
theorem rx_34 {E : qs_E} {ad : Nat → Nat} {s1 s2 s3 : Nat → Int32} : (qs_ren (E.1, E.2.1, ad, 0) shX (dX s1 s2 s3))[34]? = (adX E ad s1 s2 s3)[34]? := (qs_ren_at (sh := .inl (0, qs_dT)) rfl).trans rfl
theorem rx_35 {E : qs_E} {ad : Nat → Nat} {s1 s2 s3 : Nat → Int32} : (qs_ren (E.1, E.2.1, ad, 0) shX (dX s1 s2 s3))[35]? = (adX E ad s1 s2 s3)[35]? := (qs_ren_at (sh := .inl (0, qs_dT)) rfl).trans rfl
theorem rx_36 {E : qs_E} {ad : Nat → Nat} {s1 s2 s3 : Nat → Int32} : (qs_ren (E.1, E.2.1, ad, 0) shX (dX s1 s2 s3))[36]? = (adX E ad s1 s2 s3)[36]? := (qs_ren_at (sh := .inl (0, qs_dT)) rfl).trans rfl
theorem rx_37 {E : qs_E} {ad : Nat → Nat} {s1 s2 s3 : Nat → Int32} : (qs_ren (E.1, E.2.1, ad, 0) shX (dX s1 s2 s3))[37]? = (adX E ad s1 s2 s3)[37]? := (qs_ren_at (sh := .inl (3, [some (some 38), none, none, none, none])) rfl).trans rfl
theorem rx_38 {E : qs_E} {ad : Nat → Nat} {s1 s2 s3 : Nat → Int32} : (qs_ren (E.1, E.2.1, ad, 0) shX (dX s1 s2 s3))[38]? = (adX E ad s1 s2 s3)[38]? := (qs_ren_at (sh := .inr (1, 120, fun _ => none)) rfl).trans rfl
theorem rx_39 {E : qs_E} {ad : Nat → Nat} {s1 s2 s3 : Nat → Int32} : (qs_ren (E.1, E.2.1, ad, 0) shX (dX s1 s2 s3))[39]? = (adX E ad s1 s2 s3)[39]? := (qs_ren_at (sh := .inr (3, 4, fun j => some (41 + 2 * j))) rfl).trans rfl
theorem rx_40 {E : qs_E} {ad : Nat → Nat} {s1 s2 s3 : Nat → Int32} : (qs_ren (E.1, E.2.1, ad, 0) shX (dX s1 s2 s3))[40]? = (adX E ad s1 s2 s3)[40]? := (qs_ren_at (sh := .inr (0, 7, fun _ => none)) rfl).trans rfl
theorem rx_41 {E : qs_E} {ad : Nat → Nat} {s1 s2 s3 : Nat → Int32} : (qs_ren (E.1, E.2.1, ad, 0) shX (dX s1 s2 s3))[41]? = (adX E ad s1 s2 s3)[41]? := (qs_ren_at (sh := .inl (2, [none, none, some (some (41 + 1))])) rfl).trans rfl
theorem rx_42 {E : qs_E} {ad : Nat → Nat} {s1 s2 s3 : Nat → Int32} : (qs_ren (E.1, E.2.1, ad, 0) shX (dX s1 s2 s3))[42]? = (adX E ad s1 s2 s3)[42]? := (qs_ren_at (sh := .inr (0, 40, fun _ => none)) rfl).trans rfl
theorem rx_43 {E : qs_E} {ad : Nat → Nat} {s1 s2 s3 : Nat → Int32} : (qs_ren (E.1, E.2.1, ad, 0) shX (dX s1 s2 s3))[43]? = (adX E ad s1 s2 s3)[43]? := (qs_ren_at (sh := .inl (2, [none, none, some (some (43 + 1))])) rfl).trans rfl
theorem rx_44 {E : qs_E} {ad : Nat → Nat} {s1 s2 s3 : Nat → Int32} : (qs_ren (E.1, E.2.1, ad, 0) shX (dX s1 s2 s3))[44]? = (adX E ad s1 s2 s3)[44]? := (qs_ren_at (sh := .inr (0, 40, fun _ => none)) rfl).trans rfl
theorem rx_45 {E : qs_E} {ad : Nat → Nat} {s1 s2 s3 : Nat → Int32} : (qs_ren (E.1, E.2.1, ad, 0) shX (dX s1 s2 s3))[45]? = (adX E ad s1 s2 s3)[45]? := (qs_ren_at (sh := .inl (2, [none, none, some (some (45 + 1))])) rfl).trans rfl
theorem rx_46 {E : qs_E} {ad : Nat → Nat} {s1 s2 s3 : Nat → Int32} : (qs_ren (E.1, E.2.1, ad, 0) shX (dX s1 s2 s3))[46]? = (adX E ad s1 s2 s3)[46]? := (qs_ren_at (sh := .inr (0, 40, fun _ => none)) rfl).trans rfl
theorem rx_47 {E : qs_E} {ad : Nat → Nat} {s1 s2 s3 : Nat → Int32} : (qs_ren (E.1, E.2.1, ad, 0) shX (dX s1 s2 s3))[47]? = (adX E ad s1 s2 s3)[47]? := (qs_ren_at (sh := .inl (2, [none, none, some (some (47 + 1))])) rfl).trans rfl
theorem rx_48 {E : qs_E} {ad : Nat → Nat} {s1 s2 s3 : Nat → Int32} : (qs_ren (E.1, E.2.1, ad, 0) shX (dX s1 s2 s3))[48]? = (adX E ad s1 s2 s3)[48]? := (qs_ren_at (sh := .inr (0, 40, fun _ => none)) rfl).trans rfl
theorem renX {E : qs_E} {ad : Nat → Nat} {s1 s2 s3 : Nat → Int32} : qs_ren (E.1, E.2.1, ad, 0) shX (dX s1 s2 s3) = adX E ad s1 s2 s3 := by
  apply List.ext_getElem?
  intro i
  match i with
  | 0 => exact rx_0
  | 1 => exact rx_1
  | 2 => exact rx_2
  | 3 => exact rx_3
  | 4 => exact rx_4
  | 5 => exact rx_5
  | 6 => exact rx_6
  | 7 => exact rx_7
  | 8 => exact rx_8
  | 9 => exact rx_9
  | 10 => exact rx_10
  | 11 => exact rx_11
  | 12 => exact rx_12
  | 13 => exact rx_13
  | 14 => exact rx_14
  | 15 => exact rx_15
  | 16 => exact rx_16
  | 17 => exact rx_17
  | 18 => exact rx_18
  | 19 => exact rx_19
  | 20 => exact rx_20
  | 21 => exact rx_21
  | 22 => exact rx_22
  | 23 => exact rx_23
  | 24 => exact rx_24
  | 25 => exact rx_25
  | 26 => exact rx_26
  | 27 => exact rx_27
  | 28 => exact rx_28
  | 29 => exact rx_29
  | 30 => exact rx_30
  | 31 => exact rx_31
  | 32 => exact rx_32
  | 33 => exact rx_33
  | 34 => exact rx_34
  | 35 => exact rx_35
  | 36 => exact rx_36
  | 37 => exact rx_37
  | 38 => exact rx_38
  | 39 => exact rx_39
  | 40 => exact rx_40
  | 41 => exact rx_41
  | 42 => exact rx_42
  | 43 => exact rx_43
  | 44 => exact rx_44
  | 45 => exact rx_45
  | 46 => exact rx_46
  | 47 => exact rx_47
  | 48 => exact rx_48
  | n + 49 => rw [List.getElem?_eq_none (by simp [qs_ren, shX, qs_kit, qs_sht]), List.getElem?_eq_none (by simp [adX])]
