/-! REGION LEMMAS of the integer machine (printed by wip/whole/tools/zemit.py) -/
/-! PartingTrains$Arrivals.begin -/
set_option maxRecDepth 30000 in
theorem z1 {L : Nat} {xs : Nat → Int32} (hL : L ≤ 3072) {D : Nat} {x1 x2 x3 : Int} {J : zJ} {K : zK} {Q : zR → Nat → zJ → zK → Prop}
  (h : 0 ≤ x1 ∧ x1 < 7 ∧ 0 ≤ x1 ∧ x1 < 7 ∧ 0 ≤ x1 ∧ x1 < 32 ∧ 0 ≤ x1 ∧ x1 < 7 ∧ 0 ≤ x1 ∧ x1 < 7 ∧ 0 ≤ x1 ∧ x1 < 7 ∧ Q (.inl none) 0 (zup (zup (zup (zup (zup J 122 0 x1 x2) 123 0 x1 x3) 124 0 x1 (1 * 2 ^ (x1.toNat))) 125 0 x1 x1) 126 0 x1 (-1)) K) :
  zCall L xs (D + 1) 1 [zr 121, zi x1, zi x2, zi x3] J K Q :=
  zrun_ok (T := mct1) (o := 0) (ret := none) (hs := []) hL rfl 28 _ _ _ _ _ _ _ h
/-! PartingTrains$Arrivals.copyFrom -/
set_option maxRecDepth 30000 in
theorem z2 {L : Nat} {xs : Nat → Int32} (hL : L ≤ 3072) {D : Nat} {J : zJ} {K : zK} {Q : zR → Nat → zJ → zK → Prop}
  (h : 1 ≤ D + 1 ∧ 0 ≤ (0 : Int) ∧ 0 ≤ (0 : Int) ∧ 0 ≤ (7 : Int) ∧ (0 : Int) + (7 : Int) ≤ 7 ∧ (0 : Int) + (7 : Int) ≤ 7 ∧ 1 ≤ D + 1 ∧ 0 ≤ (0 : Int) ∧ 0 ≤ (0 : Int) ∧ 0 ≤ (7 : Int) ∧ (0 : Int) + (7 : Int) ≤ 7 ∧ (0 : Int) + (7 : Int) ≤ 7 ∧ 1 ≤ D + 1 ∧ 0 ≤ (0 : Int) ∧ 0 ≤ (0 : Int) ∧ 0 ≤ (7 : Int) ∧ (0 : Int) + (7 : Int) ≤ 7 ∧ (0 : Int) + (7 : Int) ≤ 7 ∧ 1 ≤ D + 1 ∧ 0 ≤ (0 : Int) ∧ 0 ≤ (0 : Int) ∧ 0 ≤ (7 : Int) ∧ (0 : Int) + (7 : Int) ≤ 7 ∧ (0 : Int) + (7 : Int) ≤ 7 ∧ 1 ≤ D + 1 ∧ 0 ≤ (0 : Int) ∧ 0 ≤ (0 : Int) ∧ 0 ≤ (7 : Int) ∧ (0 : Int) + (7 : Int) ≤ 7 ∧ (0 : Int) + (7 : Int) ≤ 7 ∧ Q (.inl none) 0 (zcp (zcp (zcp (zcp (zcp J 122 128 0 0 7) 123 129 0 0 7) 124 130 0 0 7) 125 131 0 0 7) 126 132 0 0 7) K) :
  zCall L xs (D + 1) 2 [zr 127, zr 121] J K Q :=
  zrun_ok (T := mct2) (o := 0) (ret := none) (hs := []) hL rfl 41 _ _ _ _ _ _ _ h
/-! PartingTrains$Arrivals.copyFrom -/
set_option maxRecDepth 30000 in
theorem z2a {L : Nat} {xs : Nat → Int32} (hL : L ≤ 3072) {D : Nat} {J : zJ} {K : zK} {Q : zR → Nat → zJ → zK → Prop}
  (h : 1 ≤ D + 1 ∧ 0 ≤ (0 : Int) ∧ 0 ≤ (0 : Int) ∧ 0 ≤ (7 : Int) ∧ (0 : Int) + (7 : Int) ≤ 7 ∧ (0 : Int) + (7 : Int) ≤ 7 ∧ 1 ≤ D + 1 ∧ 0 ≤ (0 : Int) ∧ 0 ≤ (0 : Int) ∧ 0 ≤ (7 : Int) ∧ (0 : Int) + (7 : Int) ≤ 7 ∧ (0 : Int) + (7 : Int) ≤ 7 ∧ 1 ≤ D + 1 ∧ 0 ≤ (0 : Int) ∧ 0 ≤ (0 : Int) ∧ 0 ≤ (7 : Int) ∧ (0 : Int) + (7 : Int) ≤ 7 ∧ (0 : Int) + (7 : Int) ≤ 7 ∧ 1 ≤ D + 1 ∧ 0 ≤ (0 : Int) ∧ 0 ≤ (0 : Int) ∧ 0 ≤ (7 : Int) ∧ (0 : Int) + (7 : Int) ≤ 7 ∧ (0 : Int) + (7 : Int) ≤ 7 ∧ 1 ≤ D + 1 ∧ 0 ≤ (0 : Int) ∧ 0 ≤ (0 : Int) ∧ 0 ≤ (7 : Int) ∧ (0 : Int) + (7 : Int) ≤ 7 ∧ (0 : Int) + (7 : Int) ≤ 7 ∧ Q (.inl none) 0 (zcp (zcp (zcp (zcp (zcp J 128 122 0 0 7) 129 123 0 0 7) 130 124 0 0 7) 131 125 0 0 7) 132 126 0 0 7) K) :
  zCall L xs (D + 1) 2 [zr 121, zr 127] J K Q :=
  zrun_ok (T := mct2) (o := 0) (ret := none) (hs := []) hL rfl 41 _ _ _ _ _ _ _ h
/-! PartingTrains$Arrivals.isAhead -/
set_option maxRecDepth 30000 in
theorem z3 {L : Nat} {xs : Nat → Int32} (hL : L ≤ 3072) {D : Nat} {x1 x2 : Int} {J : zJ} {K : zK} {Q : zR → Nat → zJ → zK → Prop}
  (h : 0 ≤ x1 ∧ x1 < 7 ∧ 0 ≤ x2 ∧ x2 < 7 ∧ zin (J 123 0 x1) ∧ zin (J 123 0 x2) ∧ ((J 123 0 x1) = (J 123 0 x2) → 0 ≤ x1 ∧ x1 < 7 ∧ 0 ≤ x1 ∧ x1 < 7 ∧ 0 ≤ x2 ∧ x2 < 7 ∧ 0 ≤ x2 ∧ x2 < 7 ∧ zin (zand (J 124 0 x1) (-(J 124 0 x1))) ∧ zin (zand (J 124 0 x2) (-(J 124 0 x2))) ∧ ((zand (J 124 0 x2) (-(J 124 0 x2))) ≤ (zand (J 124 0 x1) (-(J 124 0 x1))) → ((0 : Int) = 0 ∨ (0 : Int) = 1) ∧ Q (.inl (some (zi 0))) 0 J K) ∧ ((zand (J 124 0 x1) (-(J 124 0 x1))) < (zand (J 124 0 x2) (-(J 124 0 x2))) → ((1 : Int) = 0 ∨ (1 : Int) = 1) ∧ Q (.inl (some (zi 1))) 0 J K)) ∧ ((J 123 0 x1) ≠ (J 123 0 x2) → 0 ≤ x1 ∧ x1 < 7 ∧ 0 ≤ x2 ∧ x2 < 7 ∧ zin (J 123 0 x1) ∧ zin (J 123 0 x2) ∧ ((J 123 0 x2) ≤ (J 123 0 x1) → ((0 : Int) = 0 ∨ (0 : Int) = 1) ∧ Q (.inl (some (zi 0))) 0 J K) ∧ ((J 123 0 x1) < (J 123 0 x2) → ((1 : Int) = 0 ∨ (1 : Int) = 1) ∧ Q (.inl (some (zi 1))) 0 J K))) :
  zCall L xs (D + 1) 3 [zr 121, zi x1, zi x2] J K Q :=
  zrun_ok (T := mct3) (o := 0) (ret := (some FieldType.boolean)) (hs := []) hL rfl 33 _ _ _ _ _ _ _ h
/-! PartingTrains$Arrivals.join -/
set_option maxRecDepth 30000 in
theorem z4 {L : Nat} {xs : Nat → Int32} (hL : L ≤ 3072) {D : Nat} {x1 x2 : Int} {J : zJ} {K : zK} {Q : zR → Nat → zJ → zK → Prop}
  (h : 0 ≤ x1 ∧ x1 < 7 ∧ 0 ≤ (J 125 0 x1) ∧ (J 125 0 x1) < 7 ∧ 0 ≤ x2 ∧ x2 < 7 ∧ 0 ≤ x1 ∧ x1 < 7 ∧ 0 ≤ x1 ∧ x1 < 7 ∧ 0 ≤ x2 ∧ x2 < 7 ∧ 0 ≤ x1 ∧ x1 < 7 ∧ 0 ≤ x2 ∧ x2 < 7 ∧ Q (.inl none) 0 (zup (zup (zup (zup J 126 0 (J 125 0 x1) x2) 125 0 x1 (J 125 0 x2)) 124 0 x1 (zor (J 124 0 x1) (J 124 0 x2))) 122 0 x2 (-1)) K) :
  zCall L xs (D + 1) 4 [zr 121, zi x1, zi x2] J K Q :=
  zrun_ok (T := mct4) (o := 0) (ret := none) (hs := []) hL rfl 33 _ _ _ _ _ _ _ h
/-! PartingTrains$Evening.addHarms -/
set_option maxRecDepth 30000 in
theorem z6 {L : Nat} {xs : Nat → Int32} (hL : L ≤ 3072) {D : Nat} {x1 x2 : Int} {J : zJ} {K : zK} {Q : zR → Nat → zJ → zK → Prop}
  (h : zCall L xs D 2 [zr 127, zr 121] J K fun r1 e1 J1 K1 => zaV r1 e1 (zCall L xs D 26 [zr 117, zi x1] J1 K1 fun r2 e2 J2 K2 => zaI r2 e2 (fun x2_ => zGo L xs (D + 1) 6 24 [some (zr 117), some (zi x1), some (zl x2), none, some (zi x2_), some (zl 0), none, some (zi 0)] [] J2 K2 Q) (fun E => Q (.inr E) e2 J2 K2)) (fun E => Q (.inr E) e1 J1 K1)) :
  zCall L xs (D + 1) 6 [zr 117, zi x1, zl x2] J K Q :=
  zrun_ok (T := mct6) (o := 1) (ret := none) (hs := [(24, [3, 6])]) hL rfl 13 _ _ _ _ _ _ _ h
set_option maxRecDepth 30000 in
theorem z6_24 {L : Nat} {xs : Nat → Int32} (hL : L ≤ 3072) {D : Nat} {x1 x2 x4 x5 x7 : Int} {J : zJ} {K : zK} {Q : zR → Nat → zJ → zK → Prop}
  (h : zin x7 ∧ zin 13 ∧ ((13 : Int) ≤ x7 → Q (.inl none) 0 J K) ∧ (x7 < (13 : Int) → zin x4 ∧ 0 ≤ x7 ∧ x7 < 32 ∧ zin (zand (x4 / 2 ^ (x7.toNat)) 1) ∧ ((zand (x4 / 2 ^ (x7.toNat)) 1) = (0 : Int) → 0 ≤ x7 ∧ x7 < 13 ∧ 0 ≤ x7 ∧ x7 < 13 ∧ zGo L xs (D + 1) 6 24 [some (zr 117), some (zi x1), some (zl x2), none, some (zi x4), some (zl x5), none, some (zi (x7 + 1))] [] J (zku K 134 x7 ((K 134 x7) + x5)) Q) ∧ ((zand (x4 / 2 ^ (x7.toNat)) 1) ≠ (0 : Int) → zCall L xs D 2 [zr 121, zr 127] J K fun r1 e1 J1 K1 => zaV r1 e1 (0 ≤ x1 ∧ x1 < 12 ∧ zCall L xs D 27 [zr 117, zi x1, zi 1] (zup J1 118 0 x1 (x7 * 5)) K1 fun r2 e2 J2 K2 => zaV r2 e2 (zCall L xs D 12 [zr 117] J2 K2 fun r3 e3 J3 K3 => zaI r3 e3 (fun x3_ => zin x3_ ∧ 0 ≤ x7 ∧ x7 < 13 ∧ 0 ≤ x7 ∧ x7 < 13 ∧ zGo L xs (D + 1) 6 24 [some (zr 117), some (zi x1), some (zl x2), none, some (zi x4), some (zl (x2 * x3_)), none, some (zi (x7 + 1))] [] J3 (zku K3 134 x7 ((K3 134 x7) + (x2 * x3_))) Q) (fun E => Q (.inr E) e3 J3 K3)) (fun E => Q (.inr E) e2 J2 K2)) (fun E => Q (.inr E) e1 J1 K1)))) :
  zGo L xs (D + 1) 6 24 [some (zr 117), some (zi x1), some (zl x2), none, some (zi x4), some (zl x5), none, some (zi x7)] [] J K Q :=
  zrun_ok (T := mct6) (o := 1) (ret := none) (hs := [(24, [3, 6])]) hL rfl 41 _ _ _ _ _ _ _ h
/-! PartingTrains$Evening.bestWaitAt -/
set_option maxRecDepth 30000 in
theorem z7 {L : Nat} {xs : Nat → Int32} (hL : L ≤ 3072) {D : Nat} {x1 : Int} {J : zJ} {K : zK} {Q : zR → Nat → zJ → zK → Prop}
  (h : zCall L xs D 20 [zr 117] J K fun r1 e1 J1 K1 => zaV r1 e1 (zCall L xs D 14 [zr 117, zi x1] J1 K1 fun r2 e2 J2 K2 => zaI r2 e2 (fun x2_ => zin x2_ ∧ (x2_ ≠ (0 : Int) → zCall L xs D 9 [zr 117] J2 K2 fun r3 e3 J3 K3 => zaI r3 e3 (fun x3_ => zCall L xs D 316 [zr 134, zl 0] J3 K3 fun r4 e4 J4 K4 => zaV r4 e4 (zGo L xs (D + 1) 7 29 [some (zr 117), some (zi x1), some (zi x3_), some (zi 0), none] [] J4 K4 Q) (fun E => Q (.inr E) e4 J4 K4)) (fun E => Q (.inr E) e3 J3 K3)) ∧ (x2_ = (0 : Int) → Q (.inl (some (zi 0))) 0 J2 K2)) (fun E => Q (.inr E) e2 J2 K2)) (fun E => Q (.inr E) e1 J1 K1)) :
  zCall L xs (D + 1) 7 [zr 117, zi x1] J K Q :=
  zrun_ok (T := mct7) (o := 1) (ret := (some FieldType.int)) (hs := [(29, [4]), (89, [1, 2])]) hL rfl 15 _ _ _ _ _ _ _ h
set_option maxRecDepth 30000 in
theorem z7_29 {L : Nat} {xs : Nat → Int32} (hL : L ≤ 3072) {D : Nat} {x1 x2 x3 : Int} {J : zJ} {K : zK} {Q : zR → Nat → zJ → zK → Prop}
  (h : zin x3 ∧ zin x2 ∧ (x2 < x3 → zGo L xs (D + 1) 7 89 [some (zr 117), none, none, some (zi 0), some (zi 1)] [] J K Q) ∧ (x3 ≤ x2 → zin (zand x3 (zxor x2 (-1))) ∧ ((zand x3 (zxor x2 (-1))) ≠ (0 : Int) → zGo L xs (D + 1) 7 29 [some (zr 117), some (zi x1), some (zi x2), some (zi (x3 + 1)), none] [] J K Q) ∧ ((zand x3 (zxor x2 (-1))) = (0 : Int) → zCall L xs D 23 [zr 117, zi x3] J K fun r1 e1 J1 K1 => zaV r1 e1 (zCall L xs D 24 [zr 117] J1 K1 fun r2 e2 J2 K2 => zaV r2 e2 (zCall L xs D 27 [zr 117, zi ((J2 18 0 0) - 1), zi (x1 + 1)] J2 K2 fun r3 e3 J3 K3 => zaV r3 e3 (zCall L xs D 28 [zr 117, zi x3, zi x2] J3 K3 fun r4 e4 J4 K4 => zaL r4 e4 (fun x4_ => zCall L xs D 6 [zr 117, zi x1, zl x4_] J4 K4 fun r5 e5 J5 K5 => zaV r5 e5 (zGo L xs (D + 1) 7 29 [some (zr 117), some (zi x1), some (zi x2), some (zi (x3 + 1)), none] [] J5 K5 Q) (fun E => Q (.inr E) e5 J5 K5)) (fun E => Q (.inr E) e4 J4 K4)) (fun E => Q (.inr E) e3 J3 K3)) (fun E => Q (.inr E) e2 J2 K2)) (fun E => Q (.inr E) e1 J1 K1)))) :
  zGo L xs (D + 1) 7 29 [some (zr 117), some (zi x1), some (zi x2), some (zi x3), none] [] J K Q :=
  zrun_ok (T := mct7) (o := 1) (ret := (some FieldType.int)) (hs := [(29, [4]), (89, [1, 2])]) hL rfl 33 _ _ _ _ _ _ _ h
set_option maxRecDepth 30000 in
theorem z7_89 {L : Nat} {xs : Nat → Int32} (hL : L ≤ 3072) {D : Nat} {x3 x4 : Int} {J : zJ} {K : zK} {Q : zR → Nat → zJ → zK → Prop}
  (h : zin x4 ∧ zin 13 ∧ ((13 : Int) ≤ x4 → Q (.inl (some (zi (x3 * 5)))) 0 J K) ∧ (x4 < (13 : Int) → 0 ≤ x4 ∧ x4 < 13 ∧ 0 ≤ x3 ∧ x3 < 13 ∧ zin (zcmp (K 134 x4) (K 134 x3)) ∧ ((0 : Int) ≤ (zcmp (K 134 x4) (K 134 x3)) → zGo L xs (D + 1) 7 89 [some (zr 117), none, none, some (zi x3), some (zi (x4 + 1))] [] J K Q) ∧ ((zcmp (K 134 x4) (K 134 x3)) < (0 : Int) → zGo L xs (D + 1) 7 89 [some (zr 117), none, none, some (zi x4), some (zi (x4 + 1))] [] J K Q))) :
  zGo L xs (D + 1) 7 89 [some (zr 117), none, none, some (zi x3), some (zi x4)] [] J K Q :=
  zrun_ok (T := mct7) (o := 1) (ret := (some FieldType.int)) (hs := [(29, [4]), (89, [1, 2])]) hL rfl 17 _ _ _ _ _ _ _ h
/-! PartingTrains$Evening.bringsTurned -/
set_option maxRecDepth 30000 in
theorem z8 {L : Nat} {xs : Nat → Int32} (hL : L ≤ 3072) {D : Nat} {x1 : Int} {J : zJ} {K : zK} {Q : zR → Nat → zJ → zK → Prop}
  (h : 0 ≤ x1 ∧ x1 < 4 ∧ 0 ≤ (((x1 * 7) + (J 42 0 x1)) - 1) ∧ (((x1 * 7) + (J 42 0 x1)) - 1) < 28 ∧ 0 ≤ (J 43 0 (((x1 * 7) + (J 42 0 x1)) - 1)) ∧ (J 43 0 (((x1 * 7) + (J 42 0 x1)) - 1)) < 7 ∧ zin (J 122 0 (J 43 0 (((x1 * 7) + (J 42 0 x1)) - 1))) ∧ ((J 122 0 (J 43 0 (((x1 * 7) + (J 42 0 x1)) - 1))) = (0 : Int) → zGo L xs (D + 1) 8 50 [some (zr 117), none, none, some (zi (x1 * 7)), some (zi (J 43 0 (((x1 * 7) + (J 42 0 x1)) - 1))), some (zi ((J 42 0 x1) - 1))] [] J K Q) ∧ ((J 122 0 (J 43 0 (((x1 * 7) + (J 42 0 x1)) - 1))) ≠ (0 : Int) → ((0 : Int) = 0 ∨ (0 : Int) = 1) ∧ Q (.inl (some (zi 0))) 0 J K)) :
  zCall L xs (D + 1) 8 [zr 117, zi x1] J K Q :=
  zrun_ok (T := mct8) (o := 1) (ret := (some FieldType.boolean)) (hs := [(50, [1, 2])]) hL rfl 30 _ _ _ _ _ _ _ h
set_option maxRecDepth 30000 in
theorem z8_50 {L : Nat} {xs : Nat → Int32} (hL : L ≤ 3072) {D : Nat} {x3 x4 x5 : Int} {J : zJ} {K : zK} {Q : zR → Nat → zJ → zK → Prop}
  (h : zin x5 ∧ (x5 < (0 : Int) → zin x4 ∧ zin (-1) ∧ (x4 ≠ (-1 : Int) → ((0 : Int) = 0 ∨ (0 : Int) = 1) ∧ Q (.inl (some (zi 0))) 0 J K) ∧ (x4 = (-1 : Int) → ((1 : Int) = 0 ∨ (1 : Int) = 1) ∧ Q (.inl (some (zi 1))) 0 J K)) ∧ ((0 : Int) ≤ x5 → 0 ≤ (x3 + x5) ∧ (x3 + x5) < 28 ∧ zin x4 ∧ zin (J 43 0 (x3 + x5)) ∧ (x4 = (J 43 0 (x3 + x5)) → 0 ≤ x4 ∧ x4 < 7 ∧ zGo L xs (D + 1) 8 50 [some (zr 117), none, none, some (zi x3), some (zi (J 126 0 x4)), some (zi (x5 + (-1)))] [] J K Q) ∧ (x4 ≠ (J 43 0 (x3 + x5)) → ((0 : Int) = 0 ∨ (0 : Int) = 1) ∧ Q (.inl (some (zi 0))) 0 J K))) :
  zGo L xs (D + 1) 8 50 [some (zr 117), none, none, some (zi x3), some (zi x4), some (zi x5)] [] J K Q :=
  zrun_ok (T := mct8) (o := 1) (ret := (some FieldType.boolean)) (hs := [(50, [1, 2])]) hL rfl 19 _ _ _ _ _ _ _ h
/-! PartingTrains$Evening.chancers -/
set_option maxRecDepth 30000 in
theorem z9 {L : Nat} {xs : Nat → Int32} (hL : L ≤ 3072) {D : Nat} {J : zJ} {K : zK} {Q : zR → Nat → zJ → zK → Prop}
  (h : zGo L xs (D + 1) 9 4 [some (zr 117), some (zi 0), some (zi 0)] [] J K Q) :
  zCall L xs (D + 1) 9 [zr 117] J K Q :=
  zrun_ok (T := mct9) (o := 1) (ret := (some FieldType.int)) (hs := [(4, [])]) hL rfl 4 _ _ _ _ _ _ _ h
set_option maxRecDepth 30000 in
theorem z9_4 {L : Nat} {xs : Nat → Int32} (hL : L ≤ 3072) {D : Nat} {x1 x2 : Int} {J : zJ} {K : zK} {Q : zR → Nat → zJ → zK → Prop}
  (h : zin x2 ∧ zin (J 18 0 6) ∧ ((J 18 0 6) ≤ x2 → Q (.inl (some (zi x1))) 0 J K) ∧ (x2 < (J 18 0 6) → 0 ≤ x2 ∧ x2 < 7 ∧ zin (J 26 0 x2) ∧ ((J 26 0 x2) ≤ (0 : Int) → zGo L xs (D + 1) 9 4 [some (zr 117), some (zi x1), some (zi (x2 + 1))] [] J K Q) ∧ ((0 : Int) < (J 26 0 x2) → 0 ≤ x2 ∧ x2 < 32 ∧ zGo L xs (D + 1) 9 4 [some (zr 117), some (zi (zor x1 (1 * 2 ^ (x2.toNat)))), some (zi (x2 + 1))] [] J K Q))) :
  zGo L xs (D + 1) 9 4 [some (zr 117), some (zi x1), some (zi x2)] [] J K Q :=
  zrun_ok (T := mct9) (o := 1) (ret := (some FieldType.int)) (hs := [(4, [])]) hL rfl 19 _ _ _ _ _ _ _ h
/-! PartingTrains$Evening.drawLate -/
set_option maxRecDepth 30000 in
theorem z10 {L : Nat} {xs : Nat → Int32} (hL : L ≤ 3072) {D : Nat} {J : zJ} {K : zK} {Q : zR → Nat → zJ → zK → Prop}
  (h : zGo L xs (D + 1) 10 4 [some (zr 117), some (zi 0), some (zi 0)] [] J K Q) :
  zCall L xs (D + 1) 10 [zr 117] J K Q :=
  zrun_ok (T := mct10) (o := 1) (ret := (some FieldType.int)) (hs := [(4, [])]) hL rfl 4 _ _ _ _ _ _ _ h
set_option maxRecDepth 30000 in
theorem z10_4 {L : Nat} {xs : Nat → Int32} (hL : L ≤ 3072) {D : Nat} {x1 x2 : Int} {J : zJ} {K : zK} {Q : zR → Nat → zJ → zK → Prop}
  (h : zin x2 ∧ zin (J 18 0 6) ∧ ((J 18 0 6) ≤ x2 → Q (.inl (some (zi x1))) 0 J K) ∧ (x2 < (J 18 0 6) → 0 ≤ x2 ∧ x2 < 7 ∧ zin (J 26 0 x2) ∧ ((J 26 0 x2) ≤ (0 : Int) → zGo L xs (D + 1) 10 4 [some (zr 117), some (zi x1), some (zi (x2 + 1))] [] J K Q) ∧ ((0 : Int) < (J 26 0 x2) → 0 ≤ (16 : Int) ∧ (16 : Int) < 32 ∧ 0 ≤ (zand ((((J 117 0 14) * 1103515245) + 12345) % 4294967296 / 2 ^ (16 : Int).toNat) 32767) ∧ (zand ((((J 117 0 14) * 1103515245) + 12345) % 4294967296 / 2 ^ (16 : Int).toNat) 32767) < 2147483648 ∧ 0 < (20 : Int) ∧ (20 : Int) < 2147483648 ∧ 0 ≤ x2 ∧ x2 < 7 ∧ zin ((zand ((((J 117 0 14) * 1103515245) + 12345) % 4294967296 / 2 ^ (16 : Int).toNat) 32767) % 20) ∧ zin (J 26 0 x2) ∧ ((J 26 0 x2) ≤ ((zand ((((J 117 0 14) * 1103515245) + 12345) % 4294967296 / 2 ^ (16 : Int).toNat) 32767) % 20) → zGo L xs (D + 1) 10 4 [some (zr 117), some (zi x1), some (zi (x2 + 1))] [] (zup J 117 0 14 (((J 117 0 14) * 1103515245) + 12345)) K Q) ∧ (((zand ((((J 117 0 14) * 1103515245) + 12345) % 4294967296 / 2 ^ (16 : Int).toNat) 32767) % 20) < (J 26 0 x2) → 0 ≤ x2 ∧ x2 < 32 ∧ zGo L xs (D + 1) 10 4 [some (zr 117), some (zi (zor x1 (1 * 2 ^ (x2.toNat)))), some (zi (x2 + 1))] [] (zup J 117 0 14 (((J 117 0 14) * 1103515245) + 12345)) K Q)))) :
  zGo L xs (D + 1) 10 4 [some (zr 117), some (zi x1), some (zi x2)] [] J K Q :=
  zrun_ok (T := mct10) (o := 1) (ret := (some FieldType.int)) (hs := [(4, [])]) hL rfl 41 _ _ _ _ _ _ _ h
/-! PartingTrains$Evening.gather -/
set_option maxRecDepth 30000 in
theorem z11 {L : Nat} {xs : Nat → Int32} (hL : L ≤ 3072) {D : Nat} {x1 : Int} {J : zJ} {K : zK} {Q : zR → Nat → zJ → zK → Prop}
  (h : zGo L xs (D + 1) 11 7 [some (zr 117), some (zi x1), some (zi 0), none] [] (zup J 117 0 10 0) K Q) :
  zCall L xs (D + 1) 11 [zr 117, zi x1] J K Q :=
  zrun_ok (T := mct11) (o := 1) (ret := none) (hs := [(7, [3]), (36, [])]) hL rfl 5 _ _ _ _ _ _ _ h
set_option maxRecDepth 30000 in
theorem z11_7 {L : Nat} {xs : Nat → Int32} (hL : L ≤ 3072) {D : Nat} {x1 x2 : Int} {J : zJ} {K : zK} {Q : zR → Nat → zJ → zK → Prop}
  (h : zin x2 ∧ zin (J 18 0 6) ∧ ((J 18 0 6) ≤ x2 → Q (.inl none) 0 J K) ∧ (x2 < (J 18 0 6) → 0 ≤ x2 ∧ x2 < 7 ∧ zin (J 122 0 x2) ∧ zin x1 ∧ ((J 122 0 x2) ≠ x1 → zGo L xs (D + 1) 11 7 [some (zr 117), some (zi x1), some (zi (x2 + 1)), none] [] J K Q) ∧ ((J 122 0 x2) = x1 → zGo L xs (D + 1) 11 36 [some (zr 117), some (zi x1), some (zi x2), some (zi (J 117 0 10))] [] J K Q))) :
  zGo L xs (D + 1) 11 7 [some (zr 117), some (zi x1), some (zi x2), none] [] J K Q :=
  zrun_ok (T := mct11) (o := 1) (ret := none) (hs := [(7, [3]), (36, [])]) hL rfl 15 _ _ _ _ _ _ _ h
set_option maxRecDepth 30000 in
theorem z11_36 {L : Nat} {xs : Nat → Int32} (hL : L ≤ 3072) {D : Nat} {x1 x2 x3 : Int} {J : zJ} {K : zK} {Q : zR → Nat → zJ → zK → Prop}
  (h : zin x3 ∧ (x3 ≤ (0 : Int) → 0 ≤ x3 ∧ x3 < 7 ∧ zGo L xs (D + 1) 11 7 [some (zr 117), some (zi x1), some (zi (x2 + 1)), none] [] (zup (zup J 133 0 x3 x2) 117 0 10 ((J 117 0 10) + 1)) K Q) ∧ ((0 : Int) < x3 → 0 ≤ (x3 - 1) ∧ (x3 - 1) < 7 ∧ zCall L xs D 3 [zr 121, zi x2, zi (J 133 0 (x3 - 1))] J K fun r1 e1 J1 K1 => zaI r1 e1 (fun x1_ => zin x1_ ∧ (x1_ = (0 : Int) → 0 ≤ x3 ∧ x3 < 7 ∧ zGo L xs (D + 1) 11 7 [some (zr 117), some (zi x1), some (zi (x2 + 1)), none] [] (zup (zup J1 133 0 x3 x2) 117 0 10 ((J1 117 0 10) + 1)) K1 Q) ∧ (x1_ ≠ (0 : Int) → 0 ≤ (x3 - 1) ∧ (x3 - 1) < 7 ∧ 0 ≤ x3 ∧ x3 < 7 ∧ zGo L xs (D + 1) 11 36 [some (zr 117), some (zi x1), some (zi x2), some (zi (x3 + (-1)))] [] (zup J1 133 0 x3 (J1 133 0 (x3 - 1))) K1 Q)) (fun E => Q (.inr E) e1 J1 K1))) :
  zGo L xs (D + 1) 11 36 [some (zr 117), some (zi x1), some (zi x2), some (zi x3)] [] J K Q :=
  zrun_ok (T := mct11) (o := 1) (ret := none) (hs := [(7, [3]), (36, [])]) hL rfl 26 _ _ _ _ _ _ _ h
/-! PartingTrains$Evening.harmDone -/
set_option maxRecDepth 30000 in
theorem z12 {L : Nat} {xs : Nat → Int32} (hL : L ≤ 3072) {D : Nat} {J : zJ} {K : zK} {Q : zR → Nat → zJ → zK → Prop}
  (h : zGo L xs (D + 1) 12 10 [some (zr 117), some (zi (-(J 117 0 11))), some (zi 0), some (zi 0)] [] J K Q) :
  zCall L xs (D + 1) 12 [zr 117] J K Q :=
  zrun_ok (T := mct12) (o := 1) (ret := (some FieldType.int)) (hs := [(10, [])]) hL rfl 8 _ _ _ _ _ _ _ h
set_option maxRecDepth 30000 in
theorem z12_10 {L : Nat} {xs : Nat → Int32} (hL : L ≤ 3072) {D : Nat} {x1 x2 x3 : Int} {J : zJ} {K : zK} {Q : zR → Nat → zJ → zK → Prop}
  (h : zin x3 ∧ zin (J 18 0 6) ∧ ((J 18 0 6) ≤ x3 → zin x2 ∧ zin 1 ∧ (x2 ≤ (1 : Int) → Q (.inl (some (zi x1))) 0 J K) ∧ ((1 : Int) < x2 → Q (.inl (some (zi (x1 + (60 * (x2 - 1)))))) 0 J K)) ∧ (x3 < (J 18 0 6) → 0 ≤ x3 ∧ x3 < 7 ∧ zin (J 122 0 x3) ∧ ((J 122 0 x3) ≠ (0 : Int) → zGo L xs (D + 1) 12 10 [some (zr 117), some (zi x1), some (zi x2), some (zi (x3 + 1))] [] J K Q) ∧ ((J 122 0 x3) = (0 : Int) → 0 ≤ x3 ∧ x3 < 7 ∧ 0 ≤ (J 124 0 x3) ∧ (J 124 0 x3) < 128 ∧ 0 ≤ x3 ∧ x3 < 7 ∧ zGo L xs (D + 1) 12 10 [some (zr 117), some (zi (x1 + ((J 39 0 (J 124 0 x3)) * (J 123 0 x3)))), some (zi (x2 + 1)), some (zi (x3 + 1))] [] J K Q))) :
  zGo L xs (D + 1) 12 10 [some (zr 117), some (zi x1), some (zi x2), some (zi x3)] [] J K Q :=
  zrun_ok (T := mct12) (o := 1) (ret := (some FieldType.int)) (hs := [(10, [])]) hL rfl 32 _ _ _ _ _ _ _ h
/-! PartingTrains$Evening.harmOfDays -/
set_option maxRecDepth 30000 in
theorem z13 {L : Nat} {xs : Nat → Int32} (hL : L ≤ 3072) {D : Nat} {x1 x2 : Int} {J : zJ} {K : zK} {Q : zR → Nat → zJ → zK → Prop}
  (h : zCall L xs D 20 [zr 117] J K fun r1 e1 J1 K1 => zaV r1 e1 (zGo L xs (D + 1) 13 14 [some (zr 117), none, some (zi x2), some (zi 0), some (zi 0)] [] (zup J1 117 0 14 x1) K1 Q) (fun E => Q (.inr E) e1 J1 K1)) :
  zCall L xs (D + 1) 13 [zr 117, zi x1, zi x2] J K Q :=
  zrun_ok (T := mct13) (o := 1) (ret := (some FieldType.int)) (hs := [(14, [1])]) hL rfl 9 _ _ _ _ _ _ _ h
set_option maxRecDepth 30000 in
theorem z13_14 {L : Nat} {xs : Nat → Int32} (hL : L ≤ 3072) {D : Nat} {x2 x3 x4 : Int} {J : zJ} {K : zK} {Q : zR → Nat → zJ → zK → Prop}
  (h : zin x4 ∧ zin x2 ∧ (x2 ≤ x4 → Q (.inl (some (zi x3))) 0 J K) ∧ (x4 < x2 → zCall L xs D 10 [zr 117] J K fun r1 e1 J1 K1 => zaI r1 e1 (fun x1_ => zCall L xs D 23 [zr 117, zi x1_] J1 K1 fun r2 e2 J2 K2 => zaV r2 e2 (zCall L xs D 24 [zr 117] J2 K2 fun r3 e3 J3 K3 => zaV r3 e3 (zCall L xs D 27 [zr 117, zi ((J3 18 0 0) - 1), zi 1] J3 K3 fun r4 e4 J4 K4 => zaV r4 e4 (zCall L xs D 12 [zr 117] J4 K4 fun r5 e5 J5 K5 => zaI r5 e5 (fun x5_ => zGo L xs (D + 1) 13 14 [some (zr 117), none, some (zi x2), some (zi (x3 + x5_)), some (zi (x4 + 1))] [] J5 K5 Q) (fun E => Q (.inr E) e5 J5 K5)) (fun E => Q (.inr E) e4 J4 K4)) (fun E => Q (.inr E) e3 J3 K3)) (fun E => Q (.inr E) e2 J2 K2)) (fun E => Q (.inr E) e1 J1 K1))) :
  zGo L xs (D + 1) 13 14 [some (zr 117), none, some (zi x2), some (zi x3), some (zi x4)] [] J K Q :=
  zrun_ok (T := mct13) (o := 1) (ret := (some FieldType.int)) (hs := [(14, [1])]) hL rfl 24 _ _ _ _ _ _ _ h
/-! PartingTrains$Evening.isHalt -/
set_option maxRecDepth 30000 in
theorem z14 {L : Nat} {xs : Nat → Int32} (hL : L ≤ 3072) {D : Nat} {x1 : Int} {J : zJ} {K : zK} {Q : zR → Nat → zJ → zK → Prop}
  (h : zin (J 117 0 4) ∧ 0 ≤ x1 ∧ x1 < 32 ∧ zin (zand ((J 117 0 4) / 2 ^ (x1.toNat)) 1) ∧ ((zand ((J 117 0 4) / 2 ^ (x1.toNat)) 1) = (0 : Int) → ((0 : Int) = 0 ∨ (0 : Int) = 1) ∧ Q (.inl (some (zi 0))) 0 J K) ∧ ((zand ((J 117 0 4) / 2 ^ (x1.toNat)) 1) ≠ (0 : Int) → ((1 : Int) = 0 ∨ (1 : Int) = 1) ∧ Q (.inl (some (zi 1))) 0 J K)) :
  zCall L xs (D + 1) 14 [zr 117, zi x1] J K Q :=
  zrun_ok (T := mct14) (o := 1) (ret := (some FieldType.boolean)) (hs := []) hL rfl 10 _ _ _ _ _ _ _ h
/-! PartingTrains$Evening.joinBehind -/
set_option maxRecDepth 30000 in
theorem z15 {L : Nat} {xs : Nat → Int32} (hL : L ≤ 3072) {D : Nat} {x1 x2 : Int} {J : zJ} {K : zK} {Q : zR → Nat → zJ → zK → Prop}
  (h : 0 ≤ x1 ∧ x1 < 7 ∧ 0 ≤ (J 133 0 x1) ∧ (J 133 0 x1) < 7 ∧ 0 ≤ x2 ∧ x2 < 12 ∧ 0 ≤ (J 133 0 x1) ∧ (J 133 0 x1) < 7 ∧ zGo L xs (D + 1) 15 44 [some (zr 117), none, some (zi x2), some (zi (J 133 0 x1)), some (zi ((J 123 0 (J 133 0 x1)) + (J 118 0 x2))), some (zi (J 123 0 (J 133 0 x1))), some (zi 0), some (zi (x1 + 1)), none, none] [] J K Q) :
  zCall L xs (D + 1) 15 [zr 117, zi x1, zi x2] J K Q :=
  zrun_ok (T := mct15) (o := 1) (ret := none) (hs := [(44, [1, 8, 9])]) hL rfl 28 _ _ _ _ _ _ _ h
set_option maxRecDepth 30000 in
theorem z15_44 {L : Nat} {xs : Nat → Int32} (hL : L ≤ 3072) {D : Nat} {x2 x3 x4 x5 x6 x7 : Int} {J : zJ} {K : zK} {Q : zR → Nat → zJ → zK → Prop}
  (h : zin x7 ∧ zin (J 117 0 10) ∧ ((J 117 0 10) ≤ x7 → 0 ≤ x2 ∧ x2 < 12 ∧ 0 ≤ x3 ∧ x3 < 7 ∧ Q (.inl none) 0 (zup J 123 0 x3 (x5 + (x6 * (J 23 0 x2)))) K) ∧ (x7 < (J 117 0 10) → 0 ≤ x7 ∧ x7 < 7 ∧ 0 ≤ (J 133 0 x7) ∧ (J 133 0 x7) < 7 ∧ zin (J 123 0 (J 133 0 x7)) ∧ zin x4 ∧ (x4 < (J 123 0 (J 133 0 x7)) → 0 ≤ x2 ∧ x2 < 12 ∧ 0 ≤ x3 ∧ x3 < 7 ∧ Q (.inl none) 0 (zup J 123 0 x3 (x5 + (x6 * (J 23 0 x2)))) K) ∧ ((J 123 0 (J 133 0 x7)) ≤ x4 → 0 ≤ x7 ∧ x7 < 7 ∧ 0 ≤ (J 133 0 x7) ∧ (J 133 0 x7) < 7 ∧ zin (J 122 0 (J 133 0 x7)) ∧ zin x2 ∧ ((J 122 0 (J 133 0 x7)) ≠ x2 → zin 0 ∧ ((0 : Int) = (0 : Int) → zGo L xs (D + 1) 15 44 [some (zr 117), none, some (zi x2), some (zi x3), some (zi x4), some (zi x5), some (zi x6), some (zi (x7 + 1)), none, none] [] J K Q) ∧ ((0 : Int) ≠ (0 : Int) → 0 ≤ x3 ∧ x3 < 7 ∧ 0 ≤ (J 133 0 x7) ∧ (J 133 0 x7) < 7 ∧ 0 ≤ (zor (J 124 0 x3) (J 124 0 (J 133 0 x7))) ∧ (zor (J 124 0 x3) (J 124 0 (J 133 0 x7))) < 128 ∧ 0 ≤ x2 ∧ x2 < 12 ∧ zin (J 39 0 (zor (J 124 0 x3) (J 124 0 (J 133 0 x7)))) ∧ zin (J 21 0 x2) ∧ ((J 21 0 x2) < (J 39 0 (zor (J 124 0 x3) (J 124 0 (J 133 0 x7)))) → zGo L xs (D + 1) 15 44 [some (zr 117), none, some (zi x2), some (zi x3), some (zi x4), some (zi x5), some (zi x6), some (zi (x7 + 1)), none, none] [] J K Q) ∧ ((J 39 0 (zor (J 124 0 x3) (J 124 0 (J 133 0 x7)))) ≤ (J 21 0 x2) → zCall L xs D 4 [zr 121, zi x3, zi (J 133 0 x7)] J K fun r1 e1 J1 K1 => zaV r1 e1 (0 ≤ (J 133 0 x7) ∧ (J 133 0 x7) < 7 ∧ zGo L xs (D + 1) 15 44 [some (zr 117), none, some (zi x2), some (zi x3), some (zi x4), some (zi (J1 123 0 (J 133 0 x7))), some (zi (x6 + 1)), some (zi (x7 + 1)), none, none] [] J1 K1 Q) (fun E => Q (.inr E) e1 J1 K1)))) ∧ ((J 122 0 (J 133 0 x7)) = x2 → zin 1 ∧ ((1 : Int) = (0 : Int) → zGo L xs (D + 1) 15 44 [some (zr 117), none, some (zi x2), some (zi x3), some (zi x4), some (zi x5), some (zi x6), some (zi (x7 + 1)), none, none] [] J K Q) ∧ ((1 : Int) ≠ (0 : Int) → 0 ≤ x3 ∧ x3 < 7 ∧ 0 ≤ (J 133 0 x7) ∧ (J 133 0 x7) < 7 ∧ 0 ≤ (zor (J 124 0 x3) (J 124 0 (J 133 0 x7))) ∧ (zor (J 124 0 x3) (J 124 0 (J 133 0 x7))) < 128 ∧ 0 ≤ x2 ∧ x2 < 12 ∧ zin (J 39 0 (zor (J 124 0 x3) (J 124 0 (J 133 0 x7)))) ∧ zin (J 21 0 x2) ∧ ((J 21 0 x2) < (J 39 0 (zor (J 124 0 x3) (J 124 0 (J 133 0 x7)))) → zGo L xs (D + 1) 15 44 [some (zr 117), none, some (zi x2), some (zi x3), some (zi x4), some (zi x5), some (zi x6), some (zi (x7 + 1)), none, none] [] J K Q) ∧ ((J 39 0 (zor (J 124 0 x3) (J 124 0 (J 133 0 x7)))) ≤ (J 21 0 x2) → zCall L xs D 4 [zr 121, zi x3, zi (J 133 0 x7)] J K fun r2 e2 J2 K2 => zaV r2 e2 (0 ≤ (J 133 0 x7) ∧ (J 133 0 x7) < 7 ∧ zGo L xs (D + 1) 15 44 [some (zr 117), none, some (zi x2), some (zi x3), some (zi x4), some (zi (J2 123 0 (J 133 0 x7))), some (zi (x6 + 1)), some (zi (x7 + 1)), none, none] [] J2 K2 Q) (fun E => Q (.inr E) e2 J2 K2))))))) :
  zGo L xs (D + 1) 15 44 [some (zr 117), none, some (zi x2), some (zi x3), some (zi x4), some (zi x5), some (zi x6), some (zi x7), none, none] [] J K Q :=
  zrun_ok (T := mct15) (o := 1) (ret := none) (hs := [(44, [1, 8, 9])]) hL rfl 66 _ _ _ _ _ _ _ h
/-! PartingTrains$Evening.joinRows -/
set_option maxRecDepth 30000 in
theorem z16 {L : Nat} {xs : Nat → Int32} (hL : L ≤ 3072) {D : Nat} {x1 : Int} {J : zJ} {K : zK} {Q : zR → Nat → zJ → zK → Prop}
  (h : zGo L xs (D + 1) 16 2 [some (zr 117), some (zi x1), some (zi 0)] [] J K Q) :
  zCall L xs (D + 1) 16 [zr 117, zi x1] J K Q :=
  zrun_ok (T := mct16) (o := 1) (ret := none) (hs := [(2, [])]) hL rfl 2 _ _ _ _ _ _ _ h
set_option maxRecDepth 30000 in
theorem z16_2 {L : Nat} {xs : Nat → Int32} (hL : L ≤ 3072) {D : Nat} {x1 x2 : Int} {J : zJ} {K : zK} {Q : zR → Nat → zJ → zK → Prop}
  (h : zin x2 ∧ zin ((J 117 0 10) - 1) ∧ (((J 117 0 10) - 1) ≤ x2 → Q (.inl none) 0 J K) ∧ (x2 < ((J 117 0 10) - 1) → 0 ≤ x2 ∧ x2 < 7 ∧ 0 ≤ (J 133 0 x2) ∧ (J 133 0 x2) < 7 ∧ zin (J 122 0 (J 133 0 x2)) ∧ zin x1 ∧ ((J 122 0 (J 133 0 x2)) ≠ x1 → zGo L xs (D + 1) 16 2 [some (zr 117), some (zi x1), some (zi (x2 + 1))] [] J K Q) ∧ ((J 122 0 (J 133 0 x2)) = x1 → zCall L xs D 15 [zr 117, zi x2, zi x1] J K fun r1 e1 J1 K1 => zaV r1 e1 (zGo L xs (D + 1) 16 2 [some (zr 117), some (zi x1), some (zi (x2 + 1))] [] J1 K1 Q) (fun E => Q (.inr E) e1 J1 K1)))) :
  zGo L xs (D + 1) 16 2 [some (zr 117), some (zi x1), some (zi x2)] [] J K Q :=
  zrun_ok (T := mct16) (o := 1) (ret := none) (hs := [(2, [])]) hL rfl 22 _ _ _ _ _ _ _ h
/-! PartingTrains$Evening.leave -/
set_option maxRecDepth 30000 in
theorem z17 {L : Nat} {xs : Nat → Int32} (hL : L ≤ 3072) {D : Nat} {x1 : Int} {J : zJ} {K : zK} {Q : zR → Nat → zJ → zK → Prop}
  (h : 0 ≤ x1 ∧ x1 < 12 ∧ zCall L xs D 121 [zr 33, zi x1, zi (J 119 0 x1)] J K fun r1 e1 J1 K1 => zaI r1 e1 (fun x1_ => zGo L xs (D + 1) 17 20 [some (zr 117), some (zi x1), some (zi (J 119 0 x1)), some (zi x1_), some (zi 0), none] [] J1 K1 Q) (fun E => Q (.inr E) e1 J1 K1)) :
  zCall L xs (D + 1) 17 [zr 117, zi x1] J K Q :=
  zrun_ok (T := mct17) (o := 1) (ret := none) (hs := [(20, [5])]) hL rfl 13 _ _ _ _ _ _ _ h
set_option maxRecDepth 30000 in
theorem z17_20 {L : Nat} {xs : Nat → Int32} (hL : L ≤ 3072) {D : Nat} {x1 x2 x3 x4 : Int} {J : zJ} {K : zK} {Q : zR → Nat → zJ → zK → Prop}
  (h : zin x4 ∧ zin (J 117 0 10) ∧ ((J 117 0 10) ≤ x4 → Q (.inl none) 0 J K) ∧ (x4 < (J 117 0 10) → 0 ≤ x4 ∧ x4 < 7 ∧ 0 ≤ (J 133 0 x4) ∧ (J 133 0 x4) < 7 ∧ zin (J 122 0 (J 133 0 x4)) ∧ zin x1 ∧ ((J 122 0 (J 133 0 x4)) ≠ x1 → zGo L xs (D + 1) 17 20 [some (zr 117), some (zi x1), some (zi x2), some (zi x3), some (zi (x4 + 1)), none] [] J K Q) ∧ ((J 122 0 (J 133 0 x4)) = x1 → 0 ≤ (J 133 0 x4) ∧ (J 133 0 x4) < 7 ∧ 0 ≤ (J 133 0 x4) ∧ (J 133 0 x4) < 7 ∧ 0 ≤ (J 133 0 x4) ∧ (J 133 0 x4) < 7 ∧ zGo L xs (D + 1) 17 20 [some (zr 117), some (zi x1), some (zi x2), some (zi x3), some (zi (x4 + 1)), none] [] (zup (zup J 122 0 (J 133 0 x4) x2) 123 0 (J 133 0 x4) ((J 123 0 (J 133 0 x4)) + x3)) K Q))) :
  zGo L xs (D + 1) 17 20 [some (zr 117), some (zi x1), some (zi x2), some (zi x3), some (zi x4), none] [] J K Q :=
  zrun_ok (T := mct17) (o := 1) (ret := none) (hs := [(20, [5])]) hL rfl 33 _ _ _ _ _ _ _ h
/-! PartingTrains$Evening.meanHarm -/
set_option maxRecDepth 30000 in
theorem z18 {L : Nat} {xs : Nat → Int32} (hL : L ≤ 3072) {D : Nat} {J : zJ} {K : zK} {Q : zR → Nat → zJ → zK → Prop}
  (h : zCall L xs D 20 [zr 117] J K fun r1 e1 J1 K1 => zaV r1 e1 (zCall L xs D 9 [zr 117] J1 K1 fun r2 e2 J2 K2 => zaI r2 e2 (fun x2_ => zGo L xs (D + 1) 18 14 [some (zr 117), some (zi x2_), some (zl 0), none, some (zi 0)] [] J2 K2 Q) (fun E => Q (.inr E) e2 J2 K2)) (fun E => Q (.inr E) e1 J1 K1)) :
  zCall L xs (D + 1) 18 [zr 117] J K Q :=
  zrun_ok (T := mct18) (o := 1) (ret := (some FieldType.long)) (hs := [(14, [3])]) hL rfl 9 _ _ _ _ _ _ _ h
set_option maxRecDepth 30000 in
theorem z18_14 {L : Nat} {xs : Nat → Int32} (hL : L ≤ 3072) {D : Nat} {x1 x2 x4 : Int} {J : zJ} {K : zK} {Q : zR → Nat → zJ → zK → Prop}
  (h : zin x4 ∧ zin x1 ∧ (x1 < x4 → Q (.inl (some (zl x2))) 0 J K) ∧ (x4 ≤ x1 → zin (zand x4 (zxor x1 (-1))) ∧ ((zand x4 (zxor x1 (-1))) ≠ (0 : Int) → zGo L xs (D + 1) 18 14 [some (zr 117), some (zi x1), some (zl x2), none, some (zi (x4 + 1))] [] J K Q) ∧ ((zand x4 (zxor x1 (-1))) = (0 : Int) → zCall L xs D 23 [zr 117, zi x4] J K fun r1 e1 J1 K1 => zaV r1 e1 (zCall L xs D 24 [zr 117] J1 K1 fun r2 e2 J2 K2 => zaV r2 e2 (zCall L xs D 27 [zr 117, zi ((J2 18 0 0) - 1), zi 1] J2 K2 fun r3 e3 J3 K3 => zaV r3 e3 (zCall L xs D 28 [zr 117, zi x4, zi x1] J3 K3 fun r4 e4 J4 K4 => zaL r4 e4 (fun x4_ => zCall L xs D 12 [zr 117] J4 K4 fun r5 e5 J5 K5 => zaI r5 e5 (fun x5_ => zin x5_ ∧ zGo L xs (D + 1) 18 14 [some (zr 117), some (zi x1), some (zl (x2 + (x4_ * x5_))), none, some (zi (x4 + 1))] [] J5 K5 Q) (fun E => Q (.inr E) e5 J5 K5)) (fun E => Q (.inr E) e4 J4 K4)) (fun E => Q (.inr E) e3 J3 K3)) (fun E => Q (.inr E) e2 J2 K2)) (fun E => Q (.inr E) e1 J1 K1)))) :
  zGo L xs (D + 1) 18 14 [some (zr 117), some (zi x1), some (zl x2), none, some (zi x4)] [] J K Q :=
  zrun_ok (T := mct18) (o := 1) (ret := (some FieldType.long)) (hs := [(14, [3])]) hL rfl 35 _ _ _ _ _ _ _ h
/-! PartingTrains$Evening.play -/
set_option maxRecDepth 30000 in
theorem z19 {L : Nat} {xs : Nat → Int32} (hL : L ≤ 3072) {D : Nat} {x1 : Int} {J : zJ} {K : zK} {Q : zR → Nat → zJ → zK → Prop}
  (h : zCall L xs D 20 [zr 117] J K fun r1 e1 J1 K1 => zaV r1 e1 (zCall L xs D 23 [zr 117, zi x1] J1 K1 fun r2 e2 J2 K2 => zaV r2 e2 (zCall L xs D 24 [zr 117] J2 K2 fun r3 e3 J3 K3 => zaV r3 e3 (zCall L xs D 27 [zr 117, zi ((J3 18 0 0) - 1), zi 1] J3 K3 fun r4 e4 J4 K4 => zaV r4 e4 (Q (.inl none) 0 J4 K4) (fun E => Q (.inr E) e4 J4 K4)) (fun E => Q (.inr E) e3 J3 K3)) (fun E => Q (.inr E) e2 J2 K2)) (fun E => Q (.inr E) e1 J1 K1)) :
  zCall L xs (D + 1) 19 [zr 117, zi x1] J K Q :=
  zrun_ok (T := mct19) (o := 1) (ret := none) (hs := []) hL rfl 16 _ _ _ _ _ _ _ h
/-! PartingTrains$Evening.prepare -/
set_option maxRecDepth 30000 in
theorem z20 {L : Nat} {xs : Nat → Int32} (hL : L ≤ 3072) {D : Nat} {J : zJ} {K : zK} {Q : zR → Nat → zJ → zK → Prop}
  (h : 1 ≤ D + 1 ∧ 0 ≤ (0 : Int) ∧ 0 ≤ (0 : Int) ∧ 0 ≤ (12 : Int) ∧ (0 : Int) + (12 : Int) ≤ 12 ∧ (0 : Int) + (12 : Int) ≤ 12 ∧ zGo L xs (D + 1) 20 25 [some (zr 117), some (zi 1), none, none] [] (zup (zcp J 49 118 0 0 12) 117 0 4 0) K Q) :
  zCall L xs (D + 1) 20 [zr 117] J K Q :=
  zrun_ok (T := mct20) (o := 1) (ret := none) (hs := [(25, [2, 3]), (139, [2, 3])]) hL rfl 14 _ _ _ _ _ _ _ h
set_option maxRecDepth 30000 in
theorem z20_25 {L : Nat} {xs : Nat → Int32} (hL : L ≤ 3072) {D : Nat} {x1 : Int} {J : zJ} {K : zK} {Q : zR → Nat → zJ → zK → Prop}
  (h : zin x1 ∧ zin (J 18 0 0) ∧ ((J 18 0 0) ≤ x1 → zGo L xs (D + 1) 20 139 [some (zr 117), some (zi 0), none, none] [] (zup J 117 0 11 0) K Q) ∧ (x1 < (J 18 0 0) → 0 ≤ x1 ∧ x1 < 12 ∧ zin (J 19 0 x1) ∧ ((J 19 0 x1) = (0 : Int) → 0 ≤ x1 ∧ x1 < 12 ∧ 0 ≤ x1 ∧ x1 < 12 ∧ zCall L xs D 62 [zr 18, zi x1] (zup J 119 0 x1 (J 19 0 x1)) K fun r1 e1 J1 K1 => zaI r1 e1 (fun x1_ => zin x1_ ∧ (x1_ = (0 : Int) → zGo L xs (D + 1) 20 25 [some (zr 117), some (zi (x1 + 1)), none, none] [] J1 K1 Q) ∧ (x1_ ≠ (0 : Int) → zCall L xs D 81 [zr 40, zi x1] J1 K1 fun r2 e2 J2 K2 => zaI r2 e2 (fun x2_ => zin x2_ ∧ (x2_ ≠ (0 : Int) → zGo L xs (D + 1) 20 25 [some (zr 117), some (zi (x1 + 1)), none, none] [] J2 K2 Q) ∧ (x2_ = (0 : Int) → zin (zand (J 37 0 x1) ((J 37 0 x1) - 1)) ∧ ((zand (J 37 0 x1) ((J 37 0 x1) - 1)) = (0 : Int) → zGo L xs (D + 1) 20 25 [some (zr 117), some (zi (x1 + 1)), none, none] [] J2 K2 Q) ∧ ((zand (J 37 0 x1) ((J 37 0 x1) - 1)) ≠ (0 : Int) → 0 ≤ x1 ∧ x1 < 32 ∧ zGo L xs (D + 1) 20 25 [some (zr 117), some (zi (x1 + 1)), none, none] [] (zup J2 117 0 4 (zor (J2 117 0 4) (1 * 2 ^ (x1.toNat)))) K2 Q))) (fun E => Q (.inr E) e2 J2 K2))) (fun E => Q (.inr E) e1 J1 K1)) ∧ ((J 19 0 x1) ≠ (0 : Int) → zCall L xs D 14 [zr 117, zi (J 19 0 x1)] J K fun r3 e3 J3 K3 => zaI r3 e3 (fun x3_ => zin x3_ ∧ (x3_ = (0 : Int) → 0 ≤ (J 19 0 x1) ∧ (J 19 0 x1) < 12 ∧ 0 ≤ x1 ∧ x1 < 12 ∧ 0 ≤ x1 ∧ x1 < 12 ∧ zCall L xs D 62 [zr 18, zi x1] (zup J3 119 0 x1 (J3 119 0 (J 19 0 x1))) K3 fun r4 e4 J4 K4 => zaI r4 e4 (fun x4_ => zin x4_ ∧ (x4_ = (0 : Int) → zGo L xs (D + 1) 20 25 [some (zr 117), some (zi (x1 + 1)), none, none] [] J4 K4 Q) ∧ (x4_ ≠ (0 : Int) → zCall L xs D 81 [zr 40, zi x1] J4 K4 fun r5 e5 J5 K5 => zaI r5 e5 (fun x5_ => zin x5_ ∧ (x5_ ≠ (0 : Int) → zGo L xs (D + 1) 20 25 [some (zr 117), some (zi (x1 + 1)), none, none] [] J5 K5 Q) ∧ (x5_ = (0 : Int) → zin (zand (J3 37 0 x1) ((J3 37 0 x1) - 1)) ∧ ((zand (J3 37 0 x1) ((J3 37 0 x1) - 1)) = (0 : Int) → zGo L xs (D + 1) 20 25 [some (zr 117), some (zi (x1 + 1)), none, none] [] J5 K5 Q) ∧ ((zand (J3 37 0 x1) ((J3 37 0 x1) - 1)) ≠ (0 : Int) → 0 ≤ x1 ∧ x1 < 32 ∧ zGo L xs (D + 1) 20 25 [some (zr 117), some (zi (x1 + 1)), none, none] [] (zup J5 117 0 4 (zor (J5 117 0 4) (1 * 2 ^ (x1.toNat)))) K5 Q))) (fun E => Q (.inr E) e5 J5 K5))) (fun E => Q (.inr E) e4 J4 K4)) ∧ (x3_ ≠ (0 : Int) → 0 ≤ x1 ∧ x1 < 12 ∧ 0 ≤ x1 ∧ x1 < 12 ∧ zCall L xs D 62 [zr 18, zi x1] (zup J3 119 0 x1 (J 19 0 x1)) K3 fun r6 e6 J6 K6 => zaI r6 e6 (fun x6_ => zin x6_ ∧ (x6_ = (0 : Int) → zGo L xs (D + 1) 20 25 [some (zr 117), some (zi (x1 + 1)), none, none] [] J6 K6 Q) ∧ (x6_ ≠ (0 : Int) → zCall L xs D 81 [zr 40, zi x1] J6 K6 fun r7 e7 J7 K7 => zaI r7 e7 (fun x7_ => zin x7_ ∧ (x7_ ≠ (0 : Int) → zGo L xs (D + 1) 20 25 [some (zr 117), some (zi (x1 + 1)), none, none] [] J7 K7 Q) ∧ (x7_ = (0 : Int) → zin (zand (J3 37 0 x1) ((J3 37 0 x1) - 1)) ∧ ((zand (J3 37 0 x1) ((J3 37 0 x1) - 1)) = (0 : Int) → zGo L xs (D + 1) 20 25 [some (zr 117), some (zi (x1 + 1)), none, none] [] J7 K7 Q) ∧ ((zand (J3 37 0 x1) ((J3 37 0 x1) - 1)) ≠ (0 : Int) → 0 ≤ x1 ∧ x1 < 32 ∧ zGo L xs (D + 1) 20 25 [some (zr 117), some (zi (x1 + 1)), none, none] [] (zup J7 117 0 4 (zor (J7 117 0 4) (1 * 2 ^ (x1.toNat)))) K7 Q))) (fun E => Q (.inr E) e7 J7 K7))) (fun E => Q (.inr E) e6 J6 K6))) (fun E => Q (.inr E) e3 J3 K3)))) :
  zGo L xs (D + 1) 20 25 [some (zr 117), some (zi x1), none, none] [] J K Q :=
  zrun_ok (T := mct20) (o := 1) (ret := none) (hs := [(25, [2, 3]), (139, [2, 3])]) hL rfl 57 _ _ _ _ _ _ _ h
set_option maxRecDepth 30000 in
theorem z20_139 {L : Nat} {xs : Nat → Int32} (hL : L ≤ 3072) {D : Nat} {x1 : Int} {J : zJ} {K : zK} {Q : zR → Nat → zJ → zK → Prop}
  (h : zin x1 ∧ zin (J 18 0 6) ∧ ((J 18 0 6) ≤ x1 → Q (.inl none) 0 J K) ∧ (x1 < (J 18 0 6) → 0 ≤ x1 ∧ x1 < 7 ∧ 0 ≤ x1 ∧ x1 < 7 ∧ 0 ≤ x1 ∧ x1 < 7 ∧ zCall L xs D 121 [zr 33, zi (J 24 0 x1), zi 0] J K fun r1 e1 J1 K1 => zaI r1 e1 (fun x1_ => zGo L xs (D + 1) 20 139 [some (zr 117), some (zi (x1 + 1)), none, none] [] (zup J1 117 0 11 ((J 117 0 11) + ((J 25 0 x1) * ((J 51 0 x1) + x1_)))) K1 Q) (fun E => Q (.inr E) e1 J1 K1))) :
  zGo L xs (D + 1) 20 139 [some (zr 117), some (zi x1), none, none] [] J K Q :=
  zrun_ok (T := mct20) (o := 1) (ret := none) (hs := [(25, [2, 3]), (139, [2, 3])]) hL rfl 33 _ _ _ _ _ _ _ h
/-! PartingTrains$Evening.reachOf -/
set_option maxRecDepth 30000 in
theorem z21 {L : Nat} {xs : Nat → Int32} (hL : L ≤ 3072) {D : Nat} {x1 : Int} {J : zJ} {K : zK} {Q : zR → Nat → zJ → zK → Prop}
  (h : zGo L xs (D + 1) 21 2 [some (zr 117), some (zi x1), some (zi 0)] [] J K Q) :
  zCall L xs (D + 1) 21 [zr 117, zi x1] J K Q :=
  zrun_ok (T := mct21) (o := 1) (ret := (some FieldType.int)) (hs := [(2, [])]) hL rfl 2 _ _ _ _ _ _ _ h
set_option maxRecDepth 30000 in
theorem z21_2 {L : Nat} {xs : Nat → Int32} (hL : L ≤ 3072) {D : Nat} {x1 x2 : Int} {J : zJ} {K : zK} {Q : zR → Nat → zJ → zK → Prop}
  (h : zin x2 ∧ zin (J 18 0 6) ∧ ((J 18 0 6) ≤ x2 → Q (.inl (some (zi (-1)))) 0 J K) ∧ (x2 < (J 18 0 6) → 0 ≤ x2 ∧ x2 < 7 ∧ zin (J 122 0 x2) ∧ ((J 122 0 x2) ≠ (0 : Int) → zGo L xs (D + 1) 21 2 [some (zr 117), some (zi x1), some (zi (x2 + 1))] [] J K Q) ∧ ((J 122 0 x2) = (0 : Int) → 0 ≤ x2 ∧ x2 < 7 ∧ zin (J 124 0 x2) ∧ 0 ≤ x1 ∧ x1 < 32 ∧ zin (zand ((J 124 0 x2) / 2 ^ (x1.toNat)) 1) ∧ ((zand ((J 124 0 x2) / 2 ^ (x1.toNat)) 1) = (0 : Int) → zGo L xs (D + 1) 21 2 [some (zr 117), some (zi x1), some (zi (x2 + 1))] [] J K Q) ∧ ((zand ((J 124 0 x2) / 2 ^ (x1.toNat)) 1) ≠ (0 : Int) → 0 ≤ x2 ∧ x2 < 7 ∧ Q (.inl (some (zi (J 123 0 x2)))) 0 J K)))) :
  zGo L xs (D + 1) 21 2 [some (zr 117), some (zi x1), some (zi x2)] [] J K Q :=
  zrun_ok (T := mct21) (o := 1) (ret := (some FieldType.int)) (hs := [(2, [])]) hL rfl 27 _ _ _ _ _ _ _ h
/-! PartingTrains$Evening.rowsAtRoot -/
set_option maxRecDepth 30000 in
theorem z22 {L : Nat} {xs : Nat → Int32} (hL : L ≤ 3072) {D : Nat} {J : zJ} {K : zK} {Q : zR → Nat → zJ → zK → Prop}
  (h : zGo L xs (D + 1) 22 4 [some (zr 117), some (zi 0), some (zi 0)] [] J K Q) :
  zCall L xs (D + 1) 22 [zr 117] J K Q :=
  zrun_ok (T := mct22) (o := 1) (ret := (some FieldType.int)) (hs := [(4, [])]) hL rfl 4 _ _ _ _ _ _ _ h
set_option maxRecDepth 30000 in
theorem z22_4 {L : Nat} {xs : Nat → Int32} (hL : L ≤ 3072) {D : Nat} {x1 x2 : Int} {J : zJ} {K : zK} {Q : zR → Nat → zJ → zK → Prop}
  (h : zin x2 ∧ zin (J 18 0 6) ∧ ((J 18 0 6) ≤ x2 → Q (.inl (some (zi x1))) 0 J K) ∧ (x2 < (J 18 0 6) → 0 ≤ x2 ∧ x2 < 7 ∧ zin (J 122 0 x2) ∧ ((J 122 0 x2) ≠ (0 : Int) → zGo L xs (D + 1) 22 4 [some (zr 117), some (zi x1), some (zi (x2 + 1))] [] J K Q) ∧ ((J 122 0 x2) = (0 : Int) → zGo L xs (D + 1) 22 4 [some (zr 117), some (zi (x1 + 1)), some (zi (x2 + 1))] [] J K Q))) :
  zGo L xs (D + 1) 22 4 [some (zr 117), some (zi x1), some (zi x2)] [] J K Q :=
  zrun_ok (T := mct22) (o := 1) (ret := (some FieldType.int)) (hs := [(4, [])]) hL rfl 14 _ _ _ _ _ _ _ h
/-! PartingTrains$Evening.setLate -/
set_option maxRecDepth 30000 in
theorem z23 {L : Nat} {xs : Nat → Int32} (hL : L ≤ 3072) {D : Nat} {x1 : Int} {J : zJ} {K : zK} {Q : zR → Nat → zJ → zK → Prop}
  (h : zGo L xs (D + 1) 23 2 [some (zr 117), some (zi x1), some (zi 0)] [] J K Q) :
  zCall L xs (D + 1) 23 [zr 117, zi x1] J K Q :=
  zrun_ok (T := mct23) (o := 1) (ret := none) (hs := [(2, [])]) hL rfl 2 _ _ _ _ _ _ _ h
set_option maxRecDepth 30000 in
theorem z23_2 {L : Nat} {xs : Nat → Int32} (hL : L ≤ 3072) {D : Nat} {x1 x2 : Int} {J : zJ} {K : zK} {Q : zR → Nat → zJ → zK → Prop}
  (h : zin x2 ∧ zin (J 18 0 6) ∧ ((J 18 0 6) ≤ x2 → Q (.inl none) 0 J K) ∧ (x2 < (J 18 0 6) → zin x1 ∧ 0 ≤ x2 ∧ x2 < 32 ∧ zin (zand (x1 / 2 ^ (x2.toNat)) 1) ∧ ((zand (x1 / 2 ^ (x2.toNat)) 1) = (0 : Int) → 0 ≤ x2 ∧ x2 < 7 ∧ zGo L xs (D + 1) 23 2 [some (zr 117), some (zi x1), some (zi (x2 + 1))] [] (zup J 120 0 x2 0) K Q) ∧ ((zand (x1 / 2 ^ (x2.toNat)) 1) ≠ (0 : Int) → 0 ≤ x2 ∧ x2 < 7 ∧ 0 ≤ x2 ∧ x2 < 7 ∧ zGo L xs (D + 1) 23 2 [some (zr 117), some (zi x1), some (zi (x2 + 1))] [] (zup J 120 0 x2 (J 27 0 x2)) K Q))) :
  zGo L xs (D + 1) 23 2 [some (zr 117), some (zi x1), some (zi x2)] [] J K Q :=
  zrun_ok (T := mct23) (o := 1) (ret := none) (hs := [(2, [])]) hL rfl 23 _ _ _ _ _ _ _ h
/-! PartingTrains$Evening.setOut -/
set_option maxRecDepth 30000 in
theorem z24 {L : Nat} {xs : Nat → Int32} (hL : L ≤ 3072) {D : Nat} {J : zJ} {K : zK} {Q : zR → Nat → zJ → zK → Prop}
  (h : zGo L xs (D + 1) 24 2 [some (zr 117), some (zi 0), none, none] [] J K Q) :
  zCall L xs (D + 1) 24 [zr 117] J K Q :=
  zrun_ok (T := mct24) (o := 1) (ret := none) (hs := [(2, [2, 3])]) hL rfl 2 _ _ _ _ _ _ _ h
set_option maxRecDepth 30000 in
theorem z24_2 {L : Nat} {xs : Nat → Int32} (hL : L ≤ 3072) {D : Nat} {x1 : Int} {J : zJ} {K : zK} {Q : zR → Nat → zJ → zK → Prop}
  (h : zin x1 ∧ zin (J 18 0 6) ∧ ((J 18 0 6) ≤ x1 → Q (.inl none) 0 J K) ∧ (x1 < (J 18 0 6) → 0 ≤ x1 ∧ x1 < 7 ∧ zCall L xs D 14 [zr 117, zi (J 24 0 x1)] J K fun r1 e1 J1 K1 => zaI r1 e1 (fun x1_ => zin x1_ ∧ (x1_ = (0 : Int) → 0 ≤ (J 24 0 x1) ∧ (J 24 0 x1) < 12 ∧ 0 ≤ x1 ∧ x1 < 7 ∧ 0 ≤ x1 ∧ x1 < 7 ∧ zCall L xs D 121 [zr 33, zi (J 24 0 x1), zi (J1 119 0 (J 24 0 x1))] J1 K1 fun r2 e2 J2 K2 => zaI r2 e2 (fun x2_ => zCall L xs D 1 [zr 121, zi x1, zi (J1 119 0 (J 24 0 x1)), zi (((J1 51 0 x1) + (J1 120 0 x1)) + x2_)] J2 K2 fun r3 e3 J3 K3 => zaV r3 e3 (zGo L xs (D + 1) 24 2 [some (zr 117), some (zi (x1 + 1)), none, none] [] J3 K3 Q) (fun E => Q (.inr E) e3 J3 K3)) (fun E => Q (.inr E) e2 J2 K2)) ∧ (x1_ ≠ (0 : Int) → 0 ≤ x1 ∧ x1 < 7 ∧ 0 ≤ x1 ∧ x1 < 7 ∧ zCall L xs D 121 [zr 33, zi (J 24 0 x1), zi (J 24 0 x1)] J1 K1 fun r4 e4 J4 K4 => zaI r4 e4 (fun x4_ => zCall L xs D 1 [zr 121, zi x1, zi (J 24 0 x1), zi (((J1 51 0 x1) + (J1 120 0 x1)) + x4_)] J4 K4 fun r5 e5 J5 K5 => zaV r5 e5 (zGo L xs (D + 1) 24 2 [some (zr 117), some (zi (x1 + 1)), none, none] [] J5 K5 Q) (fun E => Q (.inr E) e5 J5 K5)) (fun E => Q (.inr E) e4 J4 K4))) (fun E => Q (.inr E) e1 J1 K1))) :
  zGo L xs (D + 1) 24 2 [some (zr 117), some (zi x1), none, none] [] J K Q :=
  zrun_ok (T := mct24) (o := 1) (ret := none) (hs := [(2, [2, 3])]) hL rfl 43 _ _ _ _ _ _ _ h
/-! PartingTrains$Evening.spoiltBy -/
set_option maxRecDepth 30000 in
theorem z25 {L : Nat} {xs : Nat → Int32} (hL : L ≤ 3072) {D : Nat} {x1 x2 x3 : Int} {J : zJ} {K : zK} {Q : zR → Nat → zJ → zK → Prop}
  (h : zCall L xs D 19 [zr 117, zi 0] J K fun r1 e1 J1 K1 => zaV r1 e1 (zGo L xs (D + 1) 25 8 [some (zr 117), some (zi x1), some (zi x2), some (zi x3), some (zi 0), none, none] [] J1 K1 Q) (fun E => Q (.inr E) e1 J1 K1)) :
  zCall L xs (D + 1) 25 [zr 117, zi x1, zi x2, zi x3] J K Q :=
  zrun_ok (T := mct25) (o := 1) (ret := (some FieldType.int)) (hs := [(8, [5, 6]), (70, [2, 6])]) hL rfl 5 _ _ _ _ _ _ _ h
set_option maxRecDepth 30000 in
theorem z25_8 {L : Nat} {xs : Nat → Int32} (hL : L ≤ 3072) {D : Nat} {x1 x2 x3 x4 : Int} {J : zJ} {K : zK} {Q : zR → Nat → zJ → zK → Prop}
  (h : zin x4 ∧ zin (J 18 0 6) ∧ ((J 18 0 6) ≤ x4 → 0 ≤ x1 ∧ x1 < 7 ∧ zCall L xs D 24 [zr 117] (zup J 120 0 x1 x2) K fun r1 e1 J1 K1 => zaV r1 e1 (zCall L xs D 27 [zr 117, zi ((J1 18 0 0) - 1), zi 1] J1 K1 fun r2 e2 J2 K2 => zaV r2 e2 (zGo L xs (D + 1) 25 70 [some (zr 117), some (zi x1), none, some (zi x3), some (zi 0), some (zi 0), none] [] J2 K2 Q) (fun E => Q (.inr E) e2 J2 K2)) (fun E => Q (.inr E) e1 J1 K1)) ∧ (x4 < (J 18 0 6) → zCall L xs D 21 [zr 117, zi x4] J K fun r3 e3 J3 K3 => zaI r3 e3 (fun x3_ => 0 ≤ x4 ∧ x4 < 7 ∧ zGo L xs (D + 1) 25 8 [some (zr 117), some (zi x1), some (zi x2), some (zi x3), some (zi (x4 + 1)), none, none] [] (zup J3 135 0 x4 x3_) K3 Q) (fun E => Q (.inr E) e3 J3 K3))) :
  zGo L xs (D + 1) 25 8 [some (zr 117), some (zi x1), some (zi x2), some (zi x3), some (zi x4), none, none] [] J K Q :=
  zrun_ok (T := mct25) (o := 1) (ret := (some FieldType.int)) (hs := [(8, [5, 6]), (70, [2, 6])]) hL rfl 24 _ _ _ _ _ _ _ h
set_option maxRecDepth 30000 in
theorem z25_70 {L : Nat} {xs : Nat → Int32} (hL : L ≤ 3072) {D : Nat} {x1 x3 x4 x5 : Int} {J : zJ} {K : zK} {Q : zR → Nat → zJ → zK → Prop}
  (h : zin x5 ∧ zin (J 18 0 6) ∧ ((J 18 0 6) ≤ x5 → Q (.inl (some (zi x4))) 0 J K) ∧ (x5 < (J 18 0 6) → zCall L xs D 21 [zr 117, zi x5] J K fun r1 e1 J1 K1 => zaI r1 e1 (fun x1_ => 0 ≤ x5 ∧ x5 < 7 ∧ zin x5 ∧ zin x1 ∧ (x5 = x1 → zGo L xs (D + 1) 25 70 [some (zr 117), some (zi x1), none, some (zi x3), some (zi x4), some (zi (x5 + 1)), none] [] J1 K1 Q) ∧ (x5 ≠ x1 → zin (x1_ - (J1 135 0 x5)) ∧ ((x1_ - (J1 135 0 x5)) ≤ (0 : Int) → zGo L xs (D + 1) 25 70 [some (zr 117), some (zi x1), none, some (zi x3), some (zi x4), some (zi (x5 + 1)), none] [] J1 K1 Q) ∧ ((0 : Int) < (x1_ - (J1 135 0 x5)) → zin x3 ∧ (x3 = (0 : Int) → zGo L xs (D + 1) 25 70 [some (zr 117), some (zi x1), none, some (zi x3), some (zi (x4 + 1)), some (zi (x5 + 1)), none] [] J1 K1 Q) ∧ (x3 ≠ (0 : Int) → zGo L xs (D + 1) 25 70 [some (zr 117), some (zi x1), none, some (zi x3), some (zi (x4 + (x1_ - (J1 135 0 x5)))), some (zi (x5 + 1)), none] [] J1 K1 Q)))) (fun E => Q (.inr E) e1 J1 K1))) :
  zGo L xs (D + 1) 25 70 [some (zr 117), some (zi x1), none, some (zi x3), some (zi x4), some (zi x5), none] [] J K Q :=
  zrun_ok (T := mct25) (o := 1) (ret := (some FieldType.int)) (hs := [(8, [5, 6]), (70, [2, 6])]) hL rfl 28 _ _ _ _ _ _ _ h
/-! PartingTrains$Evening.tellingWaits -/
set_option maxRecDepth 30000 in
theorem z26 {L : Nat} {xs : Nat → Int32} (hL : L ≤ 3072) {D : Nat} {x1 : Int} {J : zJ} {K : zK} {Q : zR → Nat → zJ → zK → Prop}
  (h : zCall L xs D 11 [zr 117, zi x1] J K fun r1 e1 J1 K1 => zaV r1 e1 (zGo L xs (D + 1) 26 9 [some (zr 117), none, some (zi 1), some (zi 0), none, none] [] J1 K1 Q) (fun E => Q (.inr E) e1 J1 K1)) :
  zCall L xs (D + 1) 26 [zr 117, zi x1] J K Q :=
  zrun_ok (T := mct26) (o := 1) (ret := (some FieldType.int)) (hs := [(9, [1, 4, 5]), (22, [1, 5])]) hL rfl 7 _ _ _ _ _ _ _ h
set_option maxRecDepth 30000 in
theorem z26_9 {L : Nat} {xs : Nat → Int32} (hL : L ≤ 3072) {D : Nat} {x2 x3 : Int} {J : zJ} {K : zK} {Q : zR → Nat → zJ → zK → Prop}
  (h : zin x3 ∧ zin (J 117 0 10) ∧ ((J 117 0 10) ≤ x3 → Q (.inl (some (zi x2))) 0 J K) ∧ (x3 < (J 117 0 10) → zGo L xs (D + 1) 26 22 [some (zr 117), none, some (zi x2), some (zi x3), some (zi (x3 + 1)), none] [] J K Q)) :
  zGo L xs (D + 1) 26 9 [some (zr 117), none, some (zi x2), some (zi x3), none, none] [] J K Q :=
  zrun_ok (T := mct26) (o := 1) (ret := (some FieldType.int)) (hs := [(9, [1, 4, 5]), (22, [1, 5])]) hL rfl 8 _ _ _ _ _ _ _ h
set_option maxRecDepth 30000 in
theorem z26_22 {L : Nat} {xs : Nat → Int32} (hL : L ≤ 3072) {D : Nat} {x2 x3 x4 : Int} {J : zJ} {K : zK} {Q : zR → Nat → zJ → zK → Prop}
  (h : zin x4 ∧ zin (J 117 0 10) ∧ ((J 117 0 10) ≤ x4 → zGo L xs (D + 1) 26 9 [some (zr 117), none, some (zi x2), some (zi (x3 + 1)), none, none] [] J K Q) ∧ (x4 < (J 117 0 10) → 0 ≤ x4 ∧ x4 < 7 ∧ 0 ≤ (J 133 0 x4) ∧ (J 133 0 x4) < 7 ∧ 0 ≤ x3 ∧ x3 < 7 ∧ 0 ≤ (J 133 0 x3) ∧ (J 133 0 x3) < 7 ∧ zin ((J 123 0 (J 133 0 x4)) - (J 123 0 (J 133 0 x3))) ∧ zin 60 ∧ ((60 : Int) < ((J 123 0 (J 133 0 x4)) - (J 123 0 (J 133 0 x3))) → zGo L xs (D + 1) 26 22 [some (zr 117), none, some (zi x2), some (zi x3), some (zi (x4 + 1)), none] [] J K Q) ∧ (((J 123 0 (J 133 0 x4)) - (J 123 0 (J 133 0 x3))) ≤ (60 : Int) → 0 ≤ ((((J 123 0 (J 133 0 x4)) - (J 123 0 (J 133 0 x3))) + 5) - 1) ∧ ((((J 123 0 (J 133 0 x4)) - (J 123 0 (J 133 0 x3))) + 5) - 1) < 2147483648 ∧ 0 < (5 : Int) ∧ (5 : Int) < 2147483648 ∧ 0 ≤ (((((J 123 0 (J 133 0 x4)) - (J 123 0 (J 133 0 x3))) + 5) - 1) / 5) ∧ (((((J 123 0 (J 133 0 x4)) - (J 123 0 (J 133 0 x3))) + 5) - 1) / 5) < 32 ∧ zGo L xs (D + 1) 26 22 [some (zr 117), none, some (zi (zor x2 (1 * 2 ^ ((((((J 123 0 (J 133 0 x4)) - (J 123 0 (J 133 0 x3))) + 5) - 1) / 5).toNat)))), some (zi x3), some (zi (x4 + 1)), none] [] J K Q))) :
  zGo L xs (D + 1) 26 22 [some (zr 117), none, some (zi x2), some (zi x3), some (zi x4), none] [] J K Q :=
  zrun_ok (T := mct26) (o := 1) (ret := (some FieldType.int)) (hs := [(9, [1, 4, 5]), (22, [1, 5])]) hL rfl 39 _ _ _ _ _ _ _ h
/-! PartingTrains$Evening.travel -/
set_option maxRecDepth 30000 in
theorem z27 {L : Nat} {xs : Nat → Int32} (hL : L ≤ 3072) {D : Nat} {x1 x2 : Int} {J : zJ} {K : zK} {Q : zR → Nat → zJ → zK → Prop}
  (h : zGo L xs (D + 1) 27 2 [some (zr 117), none, some (zi x2), some (zi x1)] [] J K Q) :
  zCall L xs (D + 1) 27 [zr 117, zi x1, zi x2] J K Q :=
  zrun_ok (T := mct27) (o := 1) (ret := none) (hs := [(2, [1])]) hL rfl 2 _ _ _ _ _ _ _ h
set_option maxRecDepth 30000 in
theorem z27_2 {L : Nat} {xs : Nat → Int32} (hL : L ≤ 3072) {D : Nat} {x2 x3 : Int} {J : zJ} {K : zK} {Q : zR → Nat → zJ → zK → Prop}
  (h : zin x3 ∧ zin x2 ∧ (x3 < x2 → Q (.inl none) 0 J K) ∧ (x2 ≤ x3 → zCall L xs D 14 [zr 117, zi x3] J K fun r1 e1 J1 K1 => zaI r1 e1 (fun x1_ => zin x1_ ∧ (x1_ = (0 : Int) → zGo L xs (D + 1) 27 2 [some (zr 117), none, some (zi x2), some (zi (x3 + (-1)))] [] J1 K1 Q) ∧ (x1_ ≠ (0 : Int) → zCall L xs D 11 [zr 117, zi x3] J1 K1 fun r2 e2 J2 K2 => zaV r2 e2 (zCall L xs D 16 [zr 117, zi x3] J2 K2 fun r3 e3 J3 K3 => zaV r3 e3 (zCall L xs D 17 [zr 117, zi x3] J3 K3 fun r4 e4 J4 K4 => zaV r4 e4 (zGo L xs (D + 1) 27 2 [some (zr 117), none, some (zi x2), some (zi (x3 + (-1)))] [] J4 K4 Q) (fun E => Q (.inr E) e4 J4 K4)) (fun E => Q (.inr E) e3 J3 K3)) (fun E => Q (.inr E) e2 J2 K2))) (fun E => Q (.inr E) e1 J1 K1))) :
  zGo L xs (D + 1) 27 2 [some (zr 117), none, some (zi x2), some (zi x3)] [] J K Q :=
  zrun_ok (T := mct27) (o := 1) (ret := none) (hs := [(2, [1])]) hL rfl 18 _ _ _ _ _ _ _ h
/-! PartingTrains$Evening.weightOf -/
set_option maxRecDepth 30000 in
theorem z28 {L : Nat} {xs : Nat → Int32} (hL : L ≤ 3072) {D : Nat} {x1 x2 : Int} {J : zJ} {K : zK} {Q : zR → Nat → zJ → zK → Prop}
  (h : zGo L xs (D + 1) 28 5 [some (zr 117), some (zi x1), some (zi x2), some (zl 1), none, some (zi 0)] [] J K Q) :
  zCall L xs (D + 1) 28 [zr 117, zi x1, zi x2] J K Q :=
  zrun_ok (T := mct28) (o := 1) (ret := (some FieldType.long)) (hs := [(5, [4])]) hL rfl 4 _ _ _ _ _ _ _ h
set_option maxRecDepth 30000 in
theorem z28_5 {L : Nat} {xs : Nat → Int32} (hL : L ≤ 3072) {D : Nat} {x1 x2 x3 x5 : Int} {J : zJ} {K : zK} {Q : zR → Nat → zJ → zK → Prop}
  (h : zin x5 ∧ zin (J 18 0 6) ∧ ((J 18 0 6) ≤ x5 → Q (.inl (some (zl x3))) 0 J K) ∧ (x5 < (J 18 0 6) → zin x2 ∧ 0 ≤ x5 ∧ x5 < 32 ∧ zin (zand (x2 / 2 ^ (x5.toNat)) 1) ∧ ((zand (x2 / 2 ^ (x5.toNat)) 1) = (0 : Int) → zGo L xs (D + 1) 28 5 [some (zr 117), some (zi x1), some (zi x2), some (zl x3), none, some (zi (x5 + 1))] [] J K Q) ∧ ((zand (x2 / 2 ^ (x5.toNat)) 1) ≠ (0 : Int) → zin x1 ∧ 0 ≤ x5 ∧ x5 < 32 ∧ zin (zand (x1 / 2 ^ (x5.toNat)) 1) ∧ ((zand (x1 / 2 ^ (x5.toNat)) 1) = (0 : Int) → 0 ≤ x5 ∧ x5 < 7 ∧ zin (20 - (J 26 0 x5)) ∧ zGo L xs (D + 1) 28 5 [some (zr 117), some (zi x1), some (zi x2), some (zl (x3 * (20 - (J 26 0 x5)))), none, some (zi (x5 + 1))] [] J K Q) ∧ ((zand (x1 / 2 ^ (x5.toNat)) 1) ≠ (0 : Int) → 0 ≤ x5 ∧ x5 < 7 ∧ zin (J 26 0 x5) ∧ zGo L xs (D + 1) 28 5 [some (zr 117), some (zi x1), some (zi x2), some (zl (x3 * (J 26 0 x5))), none, some (zi (x5 + 1))] [] J K Q)))) :
  zGo L xs (D + 1) 28 5 [some (zr 117), some (zi x1), some (zi x2), some (zl x3), none, some (zi x5)] [] J K Q :=
  zrun_ok (T := mct28) (o := 1) (ret := (some FieldType.long)) (hs := [(5, [4])]) hL rfl 30 _ _ _ _ _ _ _ h
/-! java/util/Arrays.fill -/
set_option maxRecDepth 30000 in
theorem z315 {L : Nat} {xs : Nat → Int32} (hL : L ≤ 3072) {D : Nat} {x1 : Int} {J : zJ} {K : zK} {Q : zR → Nat → zJ → zK → Prop}
  (h : zGo L xs (D + 1) 315 5 [some (zr 103), some (zi x1), some (zi 0), some (zi 7)] [] J K Q) :
  zCall L xs (D + 1) 315 [zr 103, zi x1] J K Q :=
  zrun_ok (T := mct315) (o := 14) (ret := none) (hs := [(5, [])]) hL rfl 5 _ _ _ _ _ _ _ h
set_option maxRecDepth 30000 in
theorem z315_5 {L : Nat} {xs : Nat → Int32} (hL : L ≤ 3072) {D : Nat} {x1 x2 x3 : Int} {J : zJ} {K : zK} {Q : zR → Nat → zJ → zK → Prop}
  (h : zin x2 ∧ zin x3 ∧ (x3 ≤ x2 → Q (.inl none) 0 J K) ∧ (x2 < x3 → 0 ≤ x2 ∧ x2 < 7 ∧ zGo L xs (D + 1) 315 5 [some (zr 103), some (zi x1), some (zi (x2 + 1)), some (zi x3)] [] (zup J 103 0 x2 x1) K Q)) :
  zGo L xs (D + 1) 315 5 [some (zr 103), some (zi x1), some (zi x2), some (zi x3)] [] J K Q :=
  zrun_ok (T := mct315) (o := 14) (ret := none) (hs := [(5, [])]) hL rfl 9 _ _ _ _ _ _ _ h
/-! java/util/Arrays.fill -/
set_option maxRecDepth 30000 in
theorem z315a {L : Nat} {xs : Nat → Int32} (hL : L ≤ 3072) {D : Nat} {x1 : Int} {J : zJ} {K : zK} {Q : zR → Nat → zJ → zK → Prop}
  (h : zGo L xs (D + 1) 315 5 [some (zr 104), some (zi x1), some (zi 0), some (zi 7)] [] J K Q) :
  zCall L xs (D + 1) 315 [zr 104, zi x1] J K Q :=
  zrun_ok (T := mct315) (o := 14) (ret := none) (hs := [(5, [])]) hL rfl 5 _ _ _ _ _ _ _ h
set_option maxRecDepth 30000 in
theorem z315a_5 {L : Nat} {xs : Nat → Int32} (hL : L ≤ 3072) {D : Nat} {x1 x2 x3 : Int} {J : zJ} {K : zK} {Q : zR → Nat → zJ → zK → Prop}
  (h : zin x2 ∧ zin x3 ∧ (x3 ≤ x2 → Q (.inl none) 0 J K) ∧ (x2 < x3 → 0 ≤ x2 ∧ x2 < 7 ∧ zGo L xs (D + 1) 315 5 [some (zr 104), some (zi x1), some (zi (x2 + 1)), some (zi x3)] [] (zup J 104 0 x2 x1) K Q)) :
  zGo L xs (D + 1) 315 5 [some (zr 104), some (zi x1), some (zi x2), some (zi x3)] [] J K Q :=
  zrun_ok (T := mct315) (o := 14) (ret := none) (hs := [(5, [])]) hL rfl 9 _ _ _ _ _ _ _ h
/-! java/util/Arrays.fill -/
set_option maxRecDepth 30000 in
theorem z315b {L : Nat} {xs : Nat → Int32} (hL : L ≤ 3072) {D : Nat} {x1 : Int} {J : zJ} {K : zK} {Q : zR → Nat → zJ → zK → Prop}
  (h : zGo L xs (D + 1) 315 5 [some (zr 42), some (zi x1), some (zi 0), some (zi 4)] [] J K Q) :
  zCall L xs (D + 1) 315 [zr 42, zi x1] J K Q :=
  zrun_ok (T := mct315) (o := 14) (ret := none) (hs := [(5, [])]) hL rfl 5 _ _ _ _ _ _ _ h
set_option maxRecDepth 30000 in
theorem z315b_5 {L : Nat} {xs : Nat → Int32} (hL : L ≤ 3072) {D : Nat} {x1 x2 x3 : Int} {J : zJ} {K : zK} {Q : zR → Nat → zJ → zK → Prop}
  (h : zin x2 ∧ zin x3 ∧ (x3 ≤ x2 → Q (.inl none) 0 J K) ∧ (x2 < x3 → 0 ≤ x2 ∧ x2 < 4 ∧ zGo L xs (D + 1) 315 5 [some (zr 42), some (zi x1), some (zi (x2 + 1)), some (zi x3)] [] (zup J 42 0 x2 x1) K Q)) :
  zGo L xs (D + 1) 315 5 [some (zr 42), some (zi x1), some (zi x2), some (zi x3)] [] J K Q :=
  zrun_ok (T := mct315) (o := 14) (ret := none) (hs := [(5, [])]) hL rfl 9 _ _ _ _ _ _ _ h
/-! java/util/Arrays.fill -/
set_option maxRecDepth 30000 in
theorem z315c {L : Nat} {xs : Nat → Int32} (hL : L ≤ 3072) {D : Nat} {x1 : Int} {J : zJ} {K : zK} {Q : zR → Nat → zJ → zK → Prop}
  (h : zGo L xs (D + 1) 315 5 [some (zr 44), some (zi x1), some (zi 0), some (zi 7)] [] J K Q) :
  zCall L xs (D + 1) 315 [zr 44, zi x1] J K Q :=
  zrun_ok (T := mct315) (o := 14) (ret := none) (hs := [(5, [])]) hL rfl 5 _ _ _ _ _ _ _ h
set_option maxRecDepth 30000 in
theorem z315c_5 {L : Nat} {xs : Nat → Int32} (hL : L ≤ 3072) {D : Nat} {x1 x2 x3 : Int} {J : zJ} {K : zK} {Q : zR → Nat → zJ → zK → Prop}
  (h : zin x2 ∧ zin x3 ∧ (x3 ≤ x2 → Q (.inl none) 0 J K) ∧ (x2 < x3 → 0 ≤ x2 ∧ x2 < 7 ∧ zGo L xs (D + 1) 315 5 [some (zr 44), some (zi x1), some (zi (x2 + 1)), some (zi x3)] [] (zup J 44 0 x2 x1) K Q)) :
  zGo L xs (D + 1) 315 5 [some (zr 44), some (zi x1), some (zi x2), some (zi x3)] [] J K Q :=
  zrun_ok (T := mct315) (o := 14) (ret := none) (hs := [(5, [])]) hL rfl 9 _ _ _ _ _ _ _ h
/-! java/util/Arrays.fill -/
set_option maxRecDepth 30000 in
theorem z315d {L : Nat} {xs : Nat → Int32} (hL : L ≤ 3072) {D : Nat} {x1 : Int} {J : zJ} {K : zK} {Q : zR → Nat → zJ → zK → Prop}
  (h : zGo L xs (D + 1) 315 5 [some (zr 49), some (zi x1), some (zi 0), some (zi 12)] [] J K Q) :
  zCall L xs (D + 1) 315 [zr 49, zi x1] J K Q :=
  zrun_ok (T := mct315) (o := 14) (ret := none) (hs := [(5, [])]) hL rfl 5 _ _ _ _ _ _ _ h
set_option maxRecDepth 30000 in
theorem z315d_5 {L : Nat} {xs : Nat → Int32} (hL : L ≤ 3072) {D : Nat} {x1 x2 x3 : Int} {J : zJ} {K : zK} {Q : zR → Nat → zJ → zK → Prop}
  (h : zin x2 ∧ zin x3 ∧ (x3 ≤ x2 → Q (.inl none) 0 J K) ∧ (x2 < x3 → 0 ≤ x2 ∧ x2 < 12 ∧ zGo L xs (D + 1) 315 5 [some (zr 49), some (zi x1), some (zi (x2 + 1)), some (zi x3)] [] (zup J 49 0 x2 x1) K Q)) :
  zGo L xs (D + 1) 315 5 [some (zr 49), some (zi x1), some (zi x2), some (zi x3)] [] J K Q :=
  zrun_ok (T := mct315) (o := 14) (ret := none) (hs := [(5, [])]) hL rfl 9 _ _ _ _ _ _ _ h
/-! java/util/Arrays.fill -/
set_option maxRecDepth 30000 in
theorem z315e {L : Nat} {xs : Nat → Int32} (hL : L ≤ 3072) {D : Nat} {x1 : Int} {J : zJ} {K : zK} {Q : zR → Nat → zJ → zK → Prop}
  (h : zGo L xs (D + 1) 315 5 [some (zr 50), some (zi x1), some (zi 0), some (zi 7)] [] J K Q) :
  zCall L xs (D + 1) 315 [zr 50, zi x1] J K Q :=
  zrun_ok (T := mct315) (o := 14) (ret := none) (hs := [(5, [])]) hL rfl 5 _ _ _ _ _ _ _ h
set_option maxRecDepth 30000 in
theorem z315e_5 {L : Nat} {xs : Nat → Int32} (hL : L ≤ 3072) {D : Nat} {x1 x2 x3 : Int} {J : zJ} {K : zK} {Q : zR → Nat → zJ → zK → Prop}
  (h : zin x2 ∧ zin x3 ∧ (x3 ≤ x2 → Q (.inl none) 0 J K) ∧ (x2 < x3 → 0 ≤ x2 ∧ x2 < 7 ∧ zGo L xs (D + 1) 315 5 [some (zr 50), some (zi x1), some (zi (x2 + 1)), some (zi x3)] [] (zup J 50 0 x2 x1) K Q)) :
  zGo L xs (D + 1) 315 5 [some (zr 50), some (zi x1), some (zi x2), some (zi x3)] [] J K Q :=
  zrun_ok (T := mct315) (o := 14) (ret := none) (hs := [(5, [])]) hL rfl 9 _ _ _ _ _ _ _ h
/-! java/util/Arrays.fill -/
set_option maxRecDepth 30000 in
theorem z315f {L : Nat} {xs : Nat → Int32} (hL : L ≤ 3072) {D : Nat} {x1 : Int} {J : zJ} {K : zK} {Q : zR → Nat → zJ → zK → Prop}
  (h : zGo L xs (D + 1) 315 5 [some (zr 51), some (zi x1), some (zi 0), some (zi 7)] [] J K Q) :
  zCall L xs (D + 1) 315 [zr 51, zi x1] J K Q :=
  zrun_ok (T := mct315) (o := 14) (ret := none) (hs := [(5, [])]) hL rfl 5 _ _ _ _ _ _ _ h
set_option maxRecDepth 30000 in
theorem z315f_5 {L : Nat} {xs : Nat → Int32} (hL : L ≤ 3072) {D : Nat} {x1 x2 x3 : Int} {J : zJ} {K : zK} {Q : zR → Nat → zJ → zK → Prop}
  (h : zin x2 ∧ zin x3 ∧ (x3 ≤ x2 → Q (.inl none) 0 J K) ∧ (x2 < x3 → 0 ≤ x2 ∧ x2 < 7 ∧ zGo L xs (D + 1) 315 5 [some (zr 51), some (zi x1), some (zi (x2 + 1)), some (zi x3)] [] (zup J 51 0 x2 x1) K Q)) :
  zGo L xs (D + 1) 315 5 [some (zr 51), some (zi x1), some (zi x2), some (zi x3)] [] J K Q :=
  zrun_ok (T := mct315) (o := 14) (ret := none) (hs := [(5, [])]) hL rfl 9 _ _ _ _ _ _ _ h
/-! java/util/Arrays.fill -/
set_option maxRecDepth 30000 in
theorem z315g {L : Nat} {xs : Nat → Int32} (hL : L ≤ 3072) {D : Nat} {x1 : Int} {J : zJ} {K : zK} {Q : zR → Nat → zJ → zK → Prop}
  (h : zGo L xs (D + 1) 315 5 [some (zr 114), some (zi x1), some (zi 0), some (zi 4)] [] J K Q) :
  zCall L xs (D + 1) 315 [zr 114, zi x1] J K Q :=
  zrun_ok (T := mct315) (o := 14) (ret := none) (hs := [(5, [])]) hL rfl 5 _ _ _ _ _ _ _ h
set_option maxRecDepth 30000 in
theorem z315g_5 {L : Nat} {xs : Nat → Int32} (hL : L ≤ 3072) {D : Nat} {x1 x2 x3 : Int} {J : zJ} {K : zK} {Q : zR → Nat → zJ → zK → Prop}
  (h : zin x2 ∧ zin x3 ∧ (x3 ≤ x2 → Q (.inl none) 0 J K) ∧ (x2 < x3 → 0 ≤ x2 ∧ x2 < 4 ∧ zGo L xs (D + 1) 315 5 [some (zr 114), some (zi x1), some (zi (x2 + 1)), some (zi x3)] [] (zup J 114 0 x2 x1) K Q)) :
  zGo L xs (D + 1) 315 5 [some (zr 114), some (zi x1), some (zi x2), some (zi x3)] [] J K Q :=
  zrun_ok (T := mct315) (o := 14) (ret := none) (hs := [(5, [])]) hL rfl 9 _ _ _ _ _ _ _ h
/-! java/util/Arrays.fill -/
set_option maxRecDepth 30000 in
theorem z315h {L : Nat} {xs : Nat → Int32} (hL : L ≤ 3072) {D : Nat} {x1 : Int} {J : zJ} {K : zK} {Q : zR → Nat → zJ → zK → Prop}
  (h : zGo L xs (D + 1) 315 5 [some (zr 137), some (zi x1), some (zi 0), some (zi 14)] [] J K Q) :
  zCall L xs (D + 1) 315 [zr 137, zi x1] J K Q :=
  zrun_ok (T := mct315) (o := 14) (ret := none) (hs := [(5, [])]) hL rfl 5 _ _ _ _ _ _ _ h
set_option maxRecDepth 30000 in
theorem z315h_5 {L : Nat} {xs : Nat → Int32} (hL : L ≤ 3072) {D : Nat} {x1 x2 x3 : Int} {J : zJ} {K : zK} {Q : zR → Nat → zJ → zK → Prop}
  (h : zin x2 ∧ zin x3 ∧ (x3 ≤ x2 → Q (.inl none) 0 J K) ∧ (x2 < x3 → 0 ≤ x2 ∧ x2 < 14 ∧ zGo L xs (D + 1) 315 5 [some (zr 137), some (zi x1), some (zi (x2 + 1)), some (zi x3)] [] (zup J 137 0 x2 x1) K Q)) :
  zGo L xs (D + 1) 315 5 [some (zr 137), some (zi x1), some (zi x2), some (zi x3)] [] J K Q :=
  zrun_ok (T := mct315) (o := 14) (ret := none) (hs := [(5, [])]) hL rfl 9 _ _ _ _ _ _ _ h
/-! java/util/Arrays.fill -/
set_option maxRecDepth 30000 in
theorem z315i {L : Nat} {xs : Nat → Int32} (hL : L ≤ 3072) {D : Nat} {x1 : Int} {J : zJ} {K : zK} {Q : zR → Nat → zJ → zK → Prop}
  (h : zGo L xs (D + 1) 315 5 [some (zr 138), some (zi x1), some (zi 0), some (zi 14)] [] J K Q) :
  zCall L xs (D + 1) 315 [zr 138, zi x1] J K Q :=
  zrun_ok (T := mct315) (o := 14) (ret := none) (hs := [(5, [])]) hL rfl 5 _ _ _ _ _ _ _ h
set_option maxRecDepth 30000 in
theorem z315i_5 {L : Nat} {xs : Nat → Int32} (hL : L ≤ 3072) {D : Nat} {x1 x2 x3 : Int} {J : zJ} {K : zK} {Q : zR → Nat → zJ → zK → Prop}
  (h : zin x2 ∧ zin x3 ∧ (x3 ≤ x2 → Q (.inl none) 0 J K) ∧ (x2 < x3 → 0 ≤ x2 ∧ x2 < 14 ∧ zGo L xs (D + 1) 315 5 [some (zr 138), some (zi x1), some (zi (x2 + 1)), some (zi x3)] [] (zup J 138 0 x2 x1) K Q)) :
  zGo L xs (D + 1) 315 5 [some (zr 138), some (zi x1), some (zi x2), some (zi x3)] [] J K Q :=
  zrun_ok (T := mct315) (o := 14) (ret := none) (hs := [(5, [])]) hL rfl 9 _ _ _ _ _ _ _ h
/-! java/util/Arrays.fill -/
set_option maxRecDepth 30000 in
theorem z315j {L : Nat} {xs : Nat → Int32} (hL : L ≤ 3072) {D : Nat} {x1 : Int} {J : zJ} {K : zK} {Q : zR → Nat → zJ → zK → Prop}
  (h : zGo L xs (D + 1) 315 5 [some (zr 139), some (zi x1), some (zi 0), some (zi 14)] [] J K Q) :
  zCall L xs (D + 1) 315 [zr 139, zi x1] J K Q :=
  zrun_ok (T := mct315) (o := 14) (ret := none) (hs := [(5, [])]) hL rfl 5 _ _ _ _ _ _ _ h
set_option maxRecDepth 30000 in
theorem z315j_5 {L : Nat} {xs : Nat → Int32} (hL : L ≤ 3072) {D : Nat} {x1 x2 x3 : Int} {J : zJ} {K : zK} {Q : zR → Nat → zJ → zK → Prop}
  (h : zin x2 ∧ zin x3 ∧ (x3 ≤ x2 → Q (.inl none) 0 J K) ∧ (x2 < x3 → 0 ≤ x2 ∧ x2 < 14 ∧ zGo L xs (D + 1) 315 5 [some (zr 139), some (zi x1), some (zi (x2 + 1)), some (zi x3)] [] (zup J 139 0 x2 x1) K Q)) :
  zGo L xs (D + 1) 315 5 [some (zr 139), some (zi x1), some (zi x2), some (zi x3)] [] J K Q :=
  zrun_ok (T := mct315) (o := 14) (ret := none) (hs := [(5, [])]) hL rfl 9 _ _ _ _ _ _ _ h
/-! java/util/Arrays.fill -/
set_option maxRecDepth 30000 in
theorem z315k {L : Nat} {xs : Nat → Int32} (hL : L ≤ 3072) {D : Nat} {x1 : Int} {J : zJ} {K : zK} {Q : zR → Nat → zJ → zK → Prop}
  (h : zGo L xs (D + 1) 315 5 [some (zr 7), some (zi x1), some (zi 0), some (zi 12)] [] J K Q) :
  zCall L xs (D + 1) 315 [zr 7, zi x1] J K Q :=
  zrun_ok (T := mct315) (o := 14) (ret := none) (hs := [(5, [])]) hL rfl 5 _ _ _ _ _ _ _ h
set_option maxRecDepth 30000 in
theorem z315k_5 {L : Nat} {xs : Nat → Int32} (hL : L ≤ 3072) {D : Nat} {x1 x2 x3 : Int} {J : zJ} {K : zK} {Q : zR → Nat → zJ → zK → Prop}
  (h : zin x2 ∧ zin x3 ∧ (x3 ≤ x2 → Q (.inl none) 0 J K) ∧ (x2 < x3 → 0 ≤ x2 ∧ x2 < 12 ∧ zGo L xs (D + 1) 315 5 [some (zr 7), some (zi x1), some (zi (x2 + 1)), some (zi x3)] [] (zup J 7 0 x2 x1) K Q)) :
  zGo L xs (D + 1) 315 5 [some (zr 7), some (zi x1), some (zi x2), some (zi x3)] [] J K Q :=
  zrun_ok (T := mct315) (o := 14) (ret := none) (hs := [(5, [])]) hL rfl 9 _ _ _ _ _ _ _ h
/-! java/util/Arrays.fill -/
set_option maxRecDepth 30000 in
theorem z315l {L : Nat} {xs : Nat → Int32} (hL : L ≤ 3072) {D : Nat} {x1 : Int} {J : zJ} {K : zK} {Q : zR → Nat → zJ → zK → Prop}
  (h : zGo L xs (D + 1) 315 5 [some (zr 8), some (zi x1), some (zi 0), some (zi 12)] [] J K Q) :
  zCall L xs (D + 1) 315 [zr 8, zi x1] J K Q :=
  zrun_ok (T := mct315) (o := 14) (ret := none) (hs := [(5, [])]) hL rfl 5 _ _ _ _ _ _ _ h
set_option maxRecDepth 30000 in
theorem z315l_5 {L : Nat} {xs : Nat → Int32} (hL : L ≤ 3072) {D : Nat} {x1 x2 x3 : Int} {J : zJ} {K : zK} {Q : zR → Nat → zJ → zK → Prop}
  (h : zin x2 ∧ zin x3 ∧ (x3 ≤ x2 → Q (.inl none) 0 J K) ∧ (x2 < x3 → 0 ≤ x2 ∧ x2 < 12 ∧ zGo L xs (D + 1) 315 5 [some (zr 8), some (zi x1), some (zi (x2 + 1)), some (zi x3)] [] (zup J 8 0 x2 x1) K Q)) :
  zGo L xs (D + 1) 315 5 [some (zr 8), some (zi x1), some (zi x2), some (zi x3)] [] J K Q :=
  zrun_ok (T := mct315) (o := 14) (ret := none) (hs := [(5, [])]) hL rfl 9 _ _ _ _ _ _ _ h
/-! java/util/Arrays.fill -/
set_option maxRecDepth 30000 in
theorem z315m {L : Nat} {xs : Nat → Int32} (hL : L ≤ 3072) {D : Nat} {x1 : Int} {J : zJ} {K : zK} {Q : zR → Nat → zJ → zK → Prop}
  (h : zGo L xs (D + 1) 315 5 [some (zr 11), some (zi x1), some (zi 0), some (zi 7)] [] J K Q) :
  zCall L xs (D + 1) 315 [zr 11, zi x1] J K Q :=
  zrun_ok (T := mct315) (o := 14) (ret := none) (hs := [(5, [])]) hL rfl 5 _ _ _ _ _ _ _ h
set_option maxRecDepth 30000 in
theorem z315m_5 {L : Nat} {xs : Nat → Int32} (hL : L ≤ 3072) {D : Nat} {x1 x2 x3 : Int} {J : zJ} {K : zK} {Q : zR → Nat → zJ → zK → Prop}
  (h : zin x2 ∧ zin x3 ∧ (x3 ≤ x2 → Q (.inl none) 0 J K) ∧ (x2 < x3 → 0 ≤ x2 ∧ x2 < 7 ∧ zGo L xs (D + 1) 315 5 [some (zr 11), some (zi x1), some (zi (x2 + 1)), some (zi x3)] [] (zup J 11 0 x2 x1) K Q)) :
  zGo L xs (D + 1) 315 5 [some (zr 11), some (zi x1), some (zi x2), some (zi x3)] [] J K Q :=
  zrun_ok (T := mct315) (o := 14) (ret := none) (hs := [(5, [])]) hL rfl 9 _ _ _ _ _ _ _ h
/-! java/util/Arrays.fill -/
set_option maxRecDepth 30000 in
theorem z315n {L : Nat} {xs : Nat → Int32} (hL : L ≤ 3072) {D : Nat} {x1 : Int} {J : zJ} {K : zK} {Q : zR → Nat → zJ → zK → Prop}
  (h : zGo L xs (D + 1) 315 5 [some (zr 12), some (zi x1), some (zi 0), some (zi 7)] [] J K Q) :
  zCall L xs (D + 1) 315 [zr 12, zi x1] J K Q :=
  zrun_ok (T := mct315) (o := 14) (ret := none) (hs := [(5, [])]) hL rfl 5 _ _ _ _ _ _ _ h
set_option maxRecDepth 30000 in
theorem z315n_5 {L : Nat} {xs : Nat → Int32} (hL : L ≤ 3072) {D : Nat} {x1 x2 x3 : Int} {J : zJ} {K : zK} {Q : zR → Nat → zJ → zK → Prop}
  (h : zin x2 ∧ zin x3 ∧ (x3 ≤ x2 → Q (.inl none) 0 J K) ∧ (x2 < x3 → 0 ≤ x2 ∧ x2 < 7 ∧ zGo L xs (D + 1) 315 5 [some (zr 12), some (zi x1), some (zi (x2 + 1)), some (zi x3)] [] (zup J 12 0 x2 x1) K Q)) :
  zGo L xs (D + 1) 315 5 [some (zr 12), some (zi x1), some (zi x2), some (zi x3)] [] J K Q :=
  zrun_ok (T := mct315) (o := 14) (ret := none) (hs := [(5, [])]) hL rfl 9 _ _ _ _ _ _ _ h
/-! java/util/Arrays.fill -/
set_option maxRecDepth 30000 in
theorem z316 {L : Nat} {xs : Nat → Int32} (hL : L ≤ 3072) {D : Nat} {x1 : Int} {J : zJ} {K : zK} {Q : zR → Nat → zJ → zK → Prop}
  (h : zGo L xs (D + 1) 316 6 [some (zr 134), some (zl x1), none, some (zi 0), some (zi 13)] [] J K Q) :
  zCall L xs (D + 1) 316 [zr 134, zl x1] J K Q :=
  zrun_ok (T := mct316) (o := 14) (ret := none) (hs := [(6, [2])]) hL rfl 5 _ _ _ _ _ _ _ h
set_option maxRecDepth 30000 in
theorem z316_6 {L : Nat} {xs : Nat → Int32} (hL : L ≤ 3072) {D : Nat} {x1 x3 x4 : Int} {J : zJ} {K : zK} {Q : zR → Nat → zJ → zK → Prop}
  (h : zin x3 ∧ zin x4 ∧ (x4 ≤ x3 → Q (.inl none) 0 J K) ∧ (x3 < x4 → 0 ≤ x3 ∧ x3 < 13 ∧ zGo L xs (D + 1) 316 6 [some (zr 134), some (zl x1), none, some (zi (x3 + 1)), some (zi x4)] [] J (zku K 134 x3 x1) Q)) :
  zGo L xs (D + 1) 316 6 [some (zr 134), some (zl x1), none, some (zi x3), some (zi x4)] [] J K Q :=
  zrun_ok (T := mct316) (o := 14) (ret := none) (hs := [(6, [2])]) hL rfl 9 _ _ _ _ _ _ _ h
/-! java/lang/Integer.bitCount -/
set_option maxRecDepth 30000 in
theorem z317 {L : Nat} {xs : Nat → Int32} (hL : L ≤ 3072) {D : Nat} {x0 : Int} {J : zJ} {K : zK} {Q : zR → Nat → zJ → zK → Prop}
  (h : 0 ≤ (1 : Int) ∧ (1 : Int) < 32 ∧ 0 ≤ (2 : Int) ∧ (2 : Int) < 32 ∧ 0 ≤ (4 : Int) ∧ (4 : Int) < 32 ∧ 0 ≤ (8 : Int) ∧ (8 : Int) < 32 ∧ 0 ≤ (16 : Int) ∧ (16 : Int) < 32 ∧ Q (.inl (some (zi (zand (((zand (((zand (x0 - (zand (x0 % 4294967296 / 2 ^ (1 : Int).toNat) 1431655765)) 858993459) + (zand ((x0 - (zand (x0 % 4294967296 / 2 ^ (1 : Int).toNat) 1431655765)) % 4294967296 / 2 ^ (2 : Int).toNat) 858993459)) + (((zand (x0 - (zand (x0 % 4294967296 / 2 ^ (1 : Int).toNat) 1431655765)) 858993459) + (zand ((x0 - (zand (x0 % 4294967296 / 2 ^ (1 : Int).toNat) 1431655765)) % 4294967296 / 2 ^ (2 : Int).toNat) 858993459)) % 4294967296 / 2 ^ (4 : Int).toNat)) 252645135) + ((zand (((zand (x0 - (zand (x0 % 4294967296 / 2 ^ (1 : Int).toNat) 1431655765)) 858993459) + (zand ((x0 - (zand (x0 % 4294967296 / 2 ^ (1 : Int).toNat) 1431655765)) % 4294967296 / 2 ^ (2 : Int).toNat) 858993459)) + (((zand (x0 - (zand (x0 % 4294967296 / 2 ^ (1 : Int).toNat) 1431655765)) 858993459) + (zand ((x0 - (zand (x0 % 4294967296 / 2 ^ (1 : Int).toNat) 1431655765)) % 4294967296 / 2 ^ (2 : Int).toNat) 858993459)) % 4294967296 / 2 ^ (4 : Int).toNat)) 252645135) % 4294967296 / 2 ^ (8 : Int).toNat)) + (((zand (((zand (x0 - (zand (x0 % 4294967296 / 2 ^ (1 : Int).toNat) 1431655765)) 858993459) + (zand ((x0 - (zand (x0 % 4294967296 / 2 ^ (1 : Int).toNat) 1431655765)) % 4294967296 / 2 ^ (2 : Int).toNat) 858993459)) + (((zand (x0 - (zand (x0 % 4294967296 / 2 ^ (1 : Int).toNat) 1431655765)) 858993459) + (zand ((x0 - (zand (x0 % 4294967296 / 2 ^ (1 : Int).toNat) 1431655765)) % 4294967296 / 2 ^ (2 : Int).toNat) 858993459)) % 4294967296 / 2 ^ (4 : Int).toNat)) 252645135) + ((zand (((zand (x0 - (zand (x0 % 4294967296 / 2 ^ (1 : Int).toNat) 1431655765)) 858993459) + (zand ((x0 - (zand (x0 % 4294967296 / 2 ^ (1 : Int).toNat) 1431655765)) % 4294967296 / 2 ^ (2 : Int).toNat) 858993459)) + (((zand (x0 - (zand (x0 % 4294967296 / 2 ^ (1 : Int).toNat) 1431655765)) 858993459) + (zand ((x0 - (zand (x0 % 4294967296 / 2 ^ (1 : Int).toNat) 1431655765)) % 4294967296 / 2 ^ (2 : Int).toNat) 858993459)) % 4294967296 / 2 ^ (4 : Int).toNat)) 252645135) % 4294967296 / 2 ^ (8 : Int).toNat)) % 4294967296 / 2 ^ (16 : Int).toNat)) 63)))) 0 J K) :
  zCall L xs (D + 1) 317 [zi x0] J K Q :=
  zrun_ok (T := mct317) (o := 15) (ret := (some FieldType.int)) (hs := []) hL rfl 42 _ _ _ _ _ _ _ h
