/-! REGION LEMMAS of the integer machine (printed by wip/whole/tools/zemit.py) -/
/-! PartingTrains$Grouping.beginSearch -/
set_option maxRecDepth 30000 in
theorem z30 {L : Nat} {xs : Nat → Int32} (hL : L ≤ 3072) {D : Nat} {J : zJ} {K : zK} {Q : zR → Nat → zJ → zK → Prop}
  (h : zCall L xs D 58 [zr 18] (zup J 105 0 13 (-1)) K fun r1 e1 J1 K1 => zaI r1 e1 (fun x1_ => zGo L xs (D + 1) 30 33 [some (zr 105), some (zi 0), none] [] (zup J1 105 0 15 (zand x1_ (zxor (J1 40 0 10) (-1)))) (zku K1 105 16 0) Q) (fun E => Q (.inr E) e1 J1 K1)) :
  zCall L xs (D + 1) 30 [zr 105] J K Q :=
  zrun_ok (T := mct30) (o := 2) (ret := none) (hs := [(33, [2]), (82, [2]), (95, [])]) hL rfl 19 _ _ _ _ _ _ _ h
set_option maxRecDepth 30000 in
theorem z30_33 {L : Nat} {xs : Nat → Int32} (hL : L ≤ 3072) {D : Nat} {x1 : Int} {J : zJ} {K : zK} {Q : zR → Nat → zJ → zK → Prop}
  (h : zin x1 ∧ zin (J 18 0 11) ∧ ((J 18 0 11) ≤ x1 → zCall L xs D 315 [zr 114, zi 0] J K fun r1 e1 J1 K1 => zaV r1 e1 (zGo L xs (D + 1) 30 82 [some (zr 105), some (zi 0), none] [] J1 K1 Q) (fun E => Q (.inr E) e1 J1 K1)) ∧ (x1 < (J 18 0 11) → 0 ≤ x1 ∧ x1 < 8 ∧ 0 ≤ (5 * (J 28 0 x1)) ∧ (5 * (J 28 0 x1)) < 64 ∧ zGo L xs (D + 1) 30 33 [some (zr 105), some (zi (x1 + 1)), none] [] J (zku K 105 16 ((K 105 16) + (1 * 2 ^ ((5 * (J 28 0 x1)).toNat)))) Q)) :
  zGo L xs (D + 1) 30 33 [some (zr 105), some (zi x1), none] [] J K Q :=
  zrun_ok (T := mct30) (o := 2) (ret := none) (hs := [(33, [2]), (82, [2]), (95, [])]) hL rfl 21 _ _ _ _ _ _ _ h
set_option maxRecDepth 30000 in
theorem z30_82 {L : Nat} {xs : Nat → Int32} (hL : L ≤ 3072) {D : Nat} {x1 : Int} {J : zJ} {K : zK} {Q : zR → Nat → zJ → zK → Prop}
  (h : zin x1 ∧ zin (J 40 0 0) ∧ ((J 40 0 0) ≤ x1 → Q (.inl none) 0 J K) ∧ (x1 < (J 40 0 0) → zGo L xs (D + 1) 30 95 [some (zr 105), some (zi x1), some (zi 0)] [] J K Q)) :
  zGo L xs (D + 1) 30 82 [some (zr 105), some (zi x1), none] [] J K Q :=
  zrun_ok (T := mct30) (o := 2) (ret := none) (hs := [(33, [2]), (82, [2]), (95, [])]) hL rfl 7 _ _ _ _ _ _ _ h
set_option maxRecDepth 30000 in
theorem z30_95 {L : Nat} {xs : Nat → Int32} (hL : L ≤ 3072) {D : Nat} {x1 x2 : Int} {J : zJ} {K : zK} {Q : zR → Nat → zJ → zK → Prop}
  (h : zin x2 ∧ zin (J 18 0 14) ∧ ((J 18 0 14) ≤ x2 → zGo L xs (D + 1) 30 82 [some (zr 105), some (zi (x1 + 1)), none] [] J K Q) ∧ (x2 < (J 18 0 14) → 0 ≤ x1 ∧ x1 < 4 ∧ zCall L xs D 60 [zr 18, zi x2, zi (J 41 0 x1)] J K fun r1 e1 J1 K1 => zaI r1 e1 (fun x1_ => 0 ≤ ((x1 * 12) + x2) ∧ ((x1 * 12) + x2) < 48 ∧ zGo L xs (D + 1) 30 95 [some (zr 105), some (zi x1), some (zi (x2 + 1))] [] (zup J1 116 0 ((x1 * 12) + x2) x1_) K1 Q) (fun E => Q (.inr E) e1 J1 K1))) :
  zGo L xs (D + 1) 30 95 [some (zr 105), some (zi x1), some (zi x2)] [] J K Q :=
  zrun_ok (T := mct30) (o := 2) (ret := none) (hs := [(33, [2]), (82, [2]), (95, [])]) hL rfl 24 _ _ _ _ _ _ _ h
/-! PartingTrains$Grouping.enginesMaySuffice -/
set_option maxRecDepth 30000 in
theorem z31 {L : Nat} {xs : Nat → Int32} (hL : L ≤ 3072) {D : Nat} {J : zJ} {K : zK} {Q : zR → Nat → zJ → zK → Prop}
  (h : zin (zcmp (zandL ((K 105 16) + 595056260442243600) 595056260442243600) 595056260442243600) ∧ ((zcmp (zandL ((K 105 16) + 595056260442243600) 595056260442243600) 595056260442243600) ≠ (0 : Int) → ((0 : Int) = 0 ∨ (0 : Int) = 1) ∧ Q (.inl (some (zi 0))) 0 J K) ∧ ((zcmp (zandL ((K 105 16) + 595056260442243600) 595056260442243600) 595056260442243600) = (0 : Int) → ((1 : Int) = 0 ∨ (1 : Int) = 1) ∧ Q (.inl (some (zi 1))) 0 J K)) :
  zCall L xs (D + 1) 31 [zr 105] J K Q :=
  zrun_ok (T := mct31) (o := 2) (ret := (some FieldType.boolean)) (hs := []) hL rfl 12 _ _ _ _ _ _ _ h
/-! PartingTrains$Grouping.enginesSuffice -/
set_option maxRecDepth 30000 in
theorem z32 {L : Nat} {xs : Nat → Int32} (hL : L ≤ 3072) {D : Nat} {J : zJ} {K : zK} {Q : zR → Nat → zJ → zK → Prop}
  (h : zGo L xs (D + 1) 32 4 [some (zr 105), some (zi 0), some (zi 0), none, none, none, none] [] J K Q) :
  zCall L xs (D + 1) 32 [zr 105] J K Q :=
  zrun_ok (T := mct32) (o := 2) (ret := (some FieldType.boolean)) (hs := [(4, [3, 4, 5, 6]), (25, [5, 6])]) hL rfl 4 _ _ _ _ _ _ _ h
set_option maxRecDepth 30000 in
theorem z32_4 {L : Nat} {xs : Nat → Int32} (hL : L ≤ 3072) {D : Nat} {x1 x2 : Int} {J : zJ} {K : zK} {Q : zR → Nat → zJ → zK → Prop}
  (h : zin x2 ∧ zin (J 40 0 0) ∧ ((J 40 0 0) ≤ x2 → ((1 : Int) = 0 ∨ (1 : Int) = 1) ∧ Q (.inl (some (zi 1))) 0 J K) ∧ (x2 < (J 40 0 0) → 0 ≤ x2 ∧ x2 < 4 ∧ zGo L xs (D + 1) 32 25 [some (zr 105), some (zi x1), some (zi x2), some (zi (J 114 0 x2)), some (zi 0), none, none] [] J K Q)) :
  zGo L xs (D + 1) 32 4 [some (zr 105), some (zi x1), some (zi x2), none, none, none, none] [] J K Q :=
  zrun_ok (T := mct32) (o := 2) (ret := (some FieldType.boolean)) (hs := [(4, [3, 4, 5, 6]), (25, [5, 6])]) hL rfl 12 _ _ _ _ _ _ _ h
set_option maxRecDepth 30000 in
theorem z32_25 {L : Nat} {xs : Nat → Int32} (hL : L ≤ 3072) {D : Nat} {x1 x2 x3 x4 : Int} {J : zJ} {K : zK} {Q : zR → Nat → zJ → zK → Prop}
  (h : 0 ≤ x3 ∧ x3 < 128 ∧ zin x4 ∧ zin (J 109 0 x3) ∧ ((J 109 0 x3) ≤ x4 → zGo L xs (D + 1) 32 4 [some (zr 105), some (zi x1), some (zi (x2 + 1)), none, none, none, none] [] J K Q) ∧ (x4 < (J 109 0 x3) → 0 ≤ ((x3 * 7) + x4) ∧ ((x3 * 7) + x4) < 896 ∧ 0 ≤ ((x3 * 7) + x4) ∧ ((x3 * 7) + x4) < 896 ∧ zCall L xs D 59 [zr 18, zi (J 110 0 ((x3 * 7) + x4)), zi (J 111 0 ((x3 * 7) + x4)), zi x1] J K fun r1 e1 J1 K1 => zaI r1 e1 (fun x1_ => zin x1_ ∧ zin (-1) ∧ (x1_ ≠ (-1 : Int) → 0 ≤ x1_ ∧ x1_ < 32 ∧ zGo L xs (D + 1) 32 25 [some (zr 105), some (zi (zor x1 (1 * 2 ^ (x1_.toNat)))), some (zi x2), some (zi x3), some (zi (x4 + 1)), none, none] [] J1 K1 Q) ∧ (x1_ = (-1 : Int) → ((0 : Int) = 0 ∨ (0 : Int) = 1) ∧ Q (.inl (some (zi 0))) 0 J1 K1)) (fun E => Q (.inr E) e1 J1 K1))) :
  zGo L xs (D + 1) 32 25 [some (zr 105), some (zi x1), some (zi x2), some (zi x3), some (zi x4), none, none] [] J K Q :=
  zrun_ok (T := mct32) (o := 2) (ret := (some FieldType.boolean)) (hs := [(4, [3, 4, 5, 6]), (25, [5, 6])]) hL rfl 36 _ _ _ _ _ _ _ h
/-! PartingTrains$Grouping.find -/
set_option maxRecDepth 30000 in
theorem z33 {L : Nat} {xs : Nat → Int32} (hL : L ≤ 3072) {D : Nat} {J : zJ} {K : zK} {Q : zR → Nat → zJ → zK → Prop}
  (h : zin (J 105 0 5) ∧ ((J 105 0 5) ≠ (0 : Int) → zin (J 105 0 5) ∧ zin 1 ∧ ((J 105 0 5) ≠ (1 : Int) → zin (J 105 0 13) ∧ zin (-1) ∧ ((J 105 0 13) = (-1 : Int) → ((0 : Int) = 0 ∨ (0 : Int) = 1) ∧ Q (.inl (some (zi 0))) 0 J K) ∧ ((J 105 0 13) ≠ (-1 : Int) → ((1 : Int) = 0 ∨ (1 : Int) = 1) ∧ Q (.inl (some (zi 1))) 0 J K)) ∧ ((J 105 0 5) = (1 : Int) → zCall L xs D 30 [zr 105] J K fun r1 e1 J1 K1 => zaV r1 e1 (zCall L xs D 42 [zr 105, zi 0] J1 K1 fun r2 e2 J2 K2 => zaV r2 e2 (zin (J2 105 0 13) ∧ zin (-1) ∧ ((J2 105 0 13) = (-1 : Int) → ((0 : Int) = 0 ∨ (0 : Int) = 1) ∧ Q (.inl (some (zi 0))) 0 (zup J2 105 0 5 2) K2) ∧ ((J2 105 0 13) ≠ (-1 : Int) → ((1 : Int) = 0 ∨ (1 : Int) = 1) ∧ Q (.inl (some (zi 1))) 0 (zup J2 105 0 5 2) K2)) (fun E => Q (.inr E) e2 J2 K2)) (fun E => Q (.inr E) e1 J1 K1))) ∧ ((J 105 0 5) = (0 : Int) → zGo L xs (D + 1) 33 9 [some (zr 105), some (zi 0)] [] J K Q)) :
  zCall L xs (D + 1) 33 [zr 105] J K Q :=
  zrun_ok (T := mct33) (o := 2) (ret := (some FieldType.boolean)) (hs := [(9, [])]) hL rfl 22 _ _ _ _ _ _ _ h
set_option maxRecDepth 30000 in
theorem z33_9 {L : Nat} {xs : Nat → Int32} (hL : L ≤ 3072) {D : Nat} {x1 : Int} {J : zJ} {K : zK} {Q : zR → Nat → zJ → zK → Prop}
  (h : zCall L xs D 55 [zr 18] J K fun r1 e1 J1 K1 => zaI r1 e1 (fun x1_ => zin x1 ∧ zin x1_ ∧ (x1_ < x1 → zin 1 ∧ zin 1 ∧ ((1 : Int) ≠ (1 : Int) → zin (J1 105 0 13) ∧ zin (-1) ∧ ((J1 105 0 13) = (-1 : Int) → ((0 : Int) = 0 ∨ (0 : Int) = 1) ∧ Q (.inl (some (zi 0))) 0 (zup J1 105 0 5 1) K1) ∧ ((J1 105 0 13) ≠ (-1 : Int) → ((1 : Int) = 0 ∨ (1 : Int) = 1) ∧ Q (.inl (some (zi 1))) 0 (zup J1 105 0 5 1) K1)) ∧ ((1 : Int) = (1 : Int) → zCall L xs D 30 [zr 105] (zup J1 105 0 5 1) K1 fun r2 e2 J2 K2 => zaV r2 e2 (zCall L xs D 42 [zr 105, zi 0] J2 K2 fun r3 e3 J3 K3 => zaV r3 e3 (zin (J3 105 0 13) ∧ zin (-1) ∧ ((J3 105 0 13) = (-1 : Int) → ((0 : Int) = 0 ∨ (0 : Int) = 1) ∧ Q (.inl (some (zi 0))) 0 (zup J3 105 0 5 2) K3) ∧ ((J3 105 0 13) ≠ (-1 : Int) → ((1 : Int) = 0 ∨ (1 : Int) = 1) ∧ Q (.inl (some (zi 1))) 0 (zup J3 105 0 5 2) K3)) (fun E => Q (.inr E) e3 J3 K3)) (fun E => Q (.inr E) e2 J2 K2))) ∧ (x1 ≤ x1_ → zCall L xs D 40 [zr 105, zi x1] J1 K1 fun r4 e4 J4 K4 => zaV r4 e4 (zGo L xs (D + 1) 33 9 [some (zr 105), some (zi (x1 + 1))] [] J4 K4 Q) (fun E => Q (.inr E) e4 J4 K4))) (fun E => Q (.inr E) e1 J1 K1)) :
  zGo L xs (D + 1) 33 9 [some (zr 105), some (zi x1)] [] J K Q :=
  zrun_ok (T := mct33) (o := 2) (ret := (some FieldType.boolean)) (hs := [(9, [])]) hL rfl 27 _ _ _ _ _ _ _ h
/-! PartingTrains$Grouping.forgetLand -/
set_option maxRecDepth 30000 in
theorem z34 {L : Nat} {xs : Nat → Int32} (hL : L ≤ 3072) {D : Nat} {J : zJ} {K : zK} {Q : zR → Nat → zJ → zK → Prop}
  (h : Q (.inl none) 0 (zup J 105 0 5 0) K) :
  zCall L xs (D + 1) 34 [zr 105] J K Q :=
  zrun_ok (T := mct34) (o := 2) (ret := none) (hs := []) hL rfl 4 _ _ _ _ _ _ _ h
/-! PartingTrains$Grouping.forgetPlan -/
set_option maxRecDepth 30000 in
theorem z35 {L : Nat} {xs : Nat → Int32} (hL : L ≤ 3072) {D : Nat} {J : zJ} {K : zK} {Q : zR → Nat → zJ → zK → Prop}
  (h : zin (J 105 0 5) ∧ zin 1 ∧ 1 ≤ D + 1 ∧ Q (.inl none) 0 (zup J 105 0 5 (if 1 < (J 105 0 5) then 1 else (J 105 0 5))) K) :
  zCall L xs (D + 1) 35 [zr 105] J K Q :=
  zrun_ok (T := mct35) (o := 2) (ret := none) (hs := []) hL rfl 7 _ _ _ _ _ _ _ h
/-! PartingTrains$Grouping.hope -/
set_option maxRecDepth 30000 in
theorem z36 {L : Nat} {xs : Nat → Int32} (hL : L ≤ 3072) {D : Nat} {x1 : Int} {J : zJ} {K : zK} {Q : zR → Nat → zJ → zK → Prop}
  (h : zGo L xs (D + 1) 36 4 [some (zr 105), some (zi x1), some (zi 0), some (zi 0), none, none, none, none] [] J K Q) :
  zCall L xs (D + 1) 36 [zr 105, zi x1] J K Q :=
  zrun_ok (T := mct36) (o := 2) (ret := (some FieldType.int)) (hs := [(4, [4, 5, 6, 7]), (21, [6, 7])]) hL rfl 4 _ _ _ _ _ _ _ h
set_option maxRecDepth 30000 in
theorem z36_4 {L : Nat} {xs : Nat → Int32} (hL : L ≤ 3072) {D : Nat} {x1 x2 x3 : Int} {J : zJ} {K : zK} {Q : zR → Nat → zJ → zK → Prop}
  (h : zin x3 ∧ zin (J 18 0 14) ∧ ((J 18 0 14) ≤ x3 → Q (.inl (some (zi x2))) 0 J K) ∧ (x3 < (J 18 0 14) → zGo L xs (D + 1) 36 21 [some (zr 105), some (zi x1), some (zi x2), some (zi x3), some (zi 0), some (zi 0), none, none] [] J K Q)) :
  zGo L xs (D + 1) 36 4 [some (zr 105), some (zi x1), some (zi x2), some (zi x3), none, none, none, none] [] J K Q :=
  zrun_ok (T := mct36) (o := 2) (ret := (some FieldType.int)) (hs := [(4, [4, 5, 6, 7]), (21, [6, 7])]) hL rfl 9 _ _ _ _ _ _ _ h
set_option maxRecDepth 30000 in
theorem z36_21 {L : Nat} {xs : Nat → Int32} (hL : L ≤ 3072) {D : Nat} {x1 x2 x3 x4 x5 : Int} {J : zJ} {K : zK} {Q : zR → Nat → zJ → zK → Prop}
  (h : zin x5 ∧ zin (J 40 0 0) ∧ ((J 40 0 0) ≤ x5 → zGo L xs (D + 1) 36 4 [some (zr 105), some (zi x1), some (zi (x2 + x4)), some (zi (x3 + 1)), none, none, none, none] [] J K Q) ∧ (x5 < (J 40 0 0) → 0 ≤ x5 ∧ x5 < 4 ∧ 0 ≤ ((x5 * 12) + x3) ∧ ((x5 * 12) + x3) < 48 ∧ 0 ≤ (zor (J 114 0 x5) x1) ∧ (zor (J 114 0 x5) x1) < 128 ∧ zin (J 107 0 (zor (J 114 0 x5) x1)) ∧ 0 ≤ x3 ∧ x3 < 32 ∧ zin (zand ((J 107 0 (zor (J 114 0 x5) x1)) / 2 ^ (x3.toNat)) 1) ∧ ((zand ((J 107 0 (zor (J 114 0 x5) x1)) / 2 ^ (x3.toNat)) 1) = (0 : Int) → 0 ≤ (zor (J 114 0 x5) x1) ∧ (zor (J 114 0 x5) x1) < 128 ∧ zin (J 108 0 (zor (J 114 0 x5) x1)) ∧ 0 ≤ x3 ∧ x3 < 32 ∧ zin (zand ((J 108 0 (zor (J 114 0 x5) x1)) / 2 ^ (x3.toNat)) 1) ∧ ((zand ((J 108 0 (zor (J 114 0 x5) x1)) / 2 ^ (x3.toNat)) 1) = (0 : Int) → zGo L xs (D + 1) 36 21 [some (zr 105), some (zi x1), some (zi x2), some (zi x3), some (zi x4), some (zi (x5 + 1)), none, none] [] J K Q) ∧ ((zand ((J 108 0 (zor (J 114 0 x5) x1)) / 2 ^ (x3.toNat)) 1) ≠ (0 : Int) → 0 ≤ (J 116 0 ((x5 * 12) + x3)) ∧ (J 116 0 ((x5 * 12) + x3)) < 2147483648 ∧ 0 < (2 : Int) ∧ (2 : Int) < 2147483648 ∧ zin x4 ∧ zin ((J 116 0 ((x5 * 12) + x3)) / 2) ∧ 1 ≤ D + 1 ∧ zGo L xs (D + 1) 36 21 [some (zr 105), some (zi x1), some (zi x2), some (zi x3), some (zi (if x4 < ((J 116 0 ((x5 * 12) + x3)) / 2) then ((J 116 0 ((x5 * 12) + x3)) / 2) else x4)), some (zi (x5 + 1)), none, none] [] J K Q)) ∧ ((zand ((J 107 0 (zor (J 114 0 x5) x1)) / 2 ^ (x3.toNat)) 1) ≠ (0 : Int) → zin x4 ∧ zin (J 116 0 ((x5 * 12) + x3)) ∧ 1 ≤ D + 1 ∧ zGo L xs (D + 1) 36 21 [some (zr 105), some (zi x1), some (zi x2), some (zi x3), some (zi (if x4 < (J 116 0 ((x5 * 12) + x3)) then (J 116 0 ((x5 * 12) + x3)) else x4)), some (zi (x5 + 1)), none, none] [] J K Q))) :
  zGo L xs (D + 1) 36 21 [some (zr 105), some (zi x1), some (zi x2), some (zi x3), some (zi x4), some (zi x5), none, none] [] J K Q :=
  zrun_ok (T := mct36) (o := 2) (ret := (some FieldType.int)) (hs := [(4, [4, 5, 6, 7]), (21, [6, 7])]) hL rfl 47 _ _ _ _ _ _ _ h
/-! PartingTrains$Grouping.keepIfBest -/
set_option maxRecDepth 30000 in
theorem z37 {L : Nat} {xs : Nat → Int32} (hL : L ≤ 3072) {D : Nat} {J : zJ} {K : zK} {Q : zR → Nat → zJ → zK → Prop}
  (h : zCall L xs D 32 [zr 105] J K fun r1 e1 J1 K1 => zaI r1 e1 (fun x1_ => zin x1_ ∧ (x1_ ≠ (0 : Int) → zCall L xs D 36 [zr 105, zi 0] J1 K1 fun r2 e2 J2 K2 => zaI r2 e2 (fun x2_ => zin x2_ ∧ zin (J2 105 0 13) ∧ (x2_ ≤ (J2 105 0 13) → Q (.inl none) 0 J2 K2) ∧ ((J2 105 0 13) < x2_ → 1 ≤ D + 1 ∧ 0 ≤ (0 : Int) ∧ 0 ≤ (0 : Int) ∧ 0 ≤ (7 : Int) ∧ (0 : Int) + (7 : Int) ≤ 7 ∧ (0 : Int) + (7 : Int) ≤ 7 ∧ Q (.inl none) 0 (zcp (zup J2 105 0 13 x2_) 115 113 0 0 7) K2)) (fun E => Q (.inr E) e2 J2 K2)) ∧ (x1_ = (0 : Int) → Q (.inl none) 0 J1 K1)) (fun E => Q (.inr E) e1 J1 K1)) :
  zCall L xs (D + 1) 37 [zr 105] J K Q :=
  zrun_ok (T := mct37) (o := 2) (ret := none) (hs := []) hL rfl 23 _ _ _ _ _ _ _ h
/-! PartingTrains$Grouping.learnEngine -/
set_option maxRecDepth 30000 in
theorem z38 {L : Nat} {xs : Nat → Int32} (hL : L ≤ 3072) {D : Nat} {x1 x2 : Int} {J : zJ} {K : zK} {Q : zR → Nat → zJ → zK → Prop}
  (h : 0 ≤ x1 ∧ x1 < 128 ∧ zin (J 109 0 x1) ∧ zin 7 ∧ ((7 : Int) ≤ (J 109 0 x1) → Q (.inl none) 0 J K) ∧ ((J 109 0 x1) < (7 : Int) → 0 ≤ x1 ∧ x1 < 128 ∧ 0 ≤ ((x1 * 7) + (J 109 0 x1)) ∧ ((x1 * 7) + (J 109 0 x1)) < 896 ∧ 0 ≤ ((x1 * 7) + (J 109 0 x1)) ∧ ((x1 * 7) + (J 109 0 x1)) < 896 ∧ 0 ≤ x1 ∧ x1 < 128 ∧ 0 ≤ x1 ∧ x1 < 128 ∧ 0 ≤ x1 ∧ x1 < 128 ∧ 0 ≤ (5 * (J 92 0 9)) ∧ (5 * (J 92 0 9)) < 64 ∧ 0 ≤ x1 ∧ x1 < 128 ∧ Q (.inl none) 0 (zup (zup (zup J 110 0 ((x1 * 7) + (J 109 0 x1)) (J 92 0 9)) 111 0 ((x1 * 7) + (J 109 0 x1)) x2) 109 0 x1 ((J 109 0 x1) + 1)) (zku K 112 x1 ((K 112 x1) + (1 * 2 ^ ((5 * (J 92 0 9)).toNat)))))) :
  zCall L xs (D + 1) 38 [zr 105, zi x1, zi x2] J K Q :=
  zrun_ok (T := mct38) (o := 2) (ret := none) (hs := []) hL rfl 50 _ _ _ _ _ _ _ h
/-! PartingTrains$Grouping.learnHalt -/
set_option maxRecDepth 30000 in
theorem z39 {L : Nat} {xs : Nat → Int32} (hL : L ≤ 3072) {D : Nat} {x1 : Int} {J : zJ} {K : zK} {Q : zR → Nat → zJ → zK → Prop}
  (h : zCall L xs D 130 [zr 92] J K fun r1 e1 J1 K1 => zaI r1 e1 (fun x1_ => 0 ≤ (J1 92 0 9) ∧ (J1 92 0 9) < 12 ∧ zin x1_ ∧ zin (J1 21 0 (J1 92 0 9)) ∧ (x1_ ≤ (J1 21 0 (J1 92 0 9)) → zCall L xs D 126 [zr 92] J1 K1 fun r2 e2 J2 K2 => zaI r2 e2 (fun x2_ => zin x2_ ∧ (x2_ ≤ (0 : Int) → zin (J2 92 0 9) ∧ ((J2 92 0 9) ≠ (0 : Int) → zGo L xs (D + 1) 39 89 [some (zr 105), some (zi x1), some (zi 1)] [] J2 K2 Q) ∧ ((J2 92 0 9) = (0 : Int) → zCall L xs D 130 [zr 92] J2 K2 fun r3 e3 J3 K3 => zaI r3 e3 (fun x3_ => zCall L xs D 38 [zr 105, zi x1, zi x3_] J3 K3 fun r4 e4 J4 K4 => zaV r4 e4 (zGo L xs (D + 1) 39 89 [some (zr 105), some (zi x1), some (zi 1)] [] J4 K4 Q) (fun E => Q (.inr E) e4 J4 K4)) (fun E => Q (.inr E) e3 J3 K3))) ∧ ((0 : Int) < x2_ → 0 ≤ x1 ∧ x1 < 128 ∧ 0 ≤ (J2 92 0 9) ∧ (J2 92 0 9) < 32 ∧ 0 ≤ x1 ∧ x1 < 128 ∧ zin (J2 92 0 9) ∧ ((J2 92 0 9) ≠ (0 : Int) → zGo L xs (D + 1) 39 89 [some (zr 105), some (zi x1), some (zi 1)] [] (zup J2 106 0 x1 (zor (J2 106 0 x1) (1 * 2 ^ ((J2 92 0 9).toNat)))) K2 Q) ∧ ((J2 92 0 9) = (0 : Int) → zCall L xs D 130 [zr 92] (zup J2 106 0 x1 (zor (J2 106 0 x1) (1 * 2 ^ ((J2 92 0 9).toNat)))) K2 fun r5 e5 J5 K5 => zaI r5 e5 (fun x5_ => zCall L xs D 38 [zr 105, zi x1, zi x5_] J5 K5 fun r6 e6 J6 K6 => zaV r6 e6 (zGo L xs (D + 1) 39 89 [some (zr 105), some (zi x1), some (zi 1)] [] J6 K6 Q) (fun E => Q (.inr E) e6 J6 K6)) (fun E => Q (.inr E) e5 J5 K5)))) (fun E => Q (.inr E) e2 J2 K2)) ∧ ((J1 21 0 (J1 92 0 9)) < x1_ → 0 ≤ x1 ∧ x1 < 128 ∧ 0 ≤ x1 ∧ x1 < 128 ∧ zCall L xs D 126 [zr 92] (zup J1 106 0 x1 (zor (J1 106 0 x1) 4096)) K1 fun r7 e7 J7 K7 => zaI r7 e7 (fun x7_ => zin x7_ ∧ (x7_ ≤ (0 : Int) → zin (J7 92 0 9) ∧ ((J7 92 0 9) ≠ (0 : Int) → zGo L xs (D + 1) 39 89 [some (zr 105), some (zi x1), some (zi 1)] [] J7 K7 Q) ∧ ((J7 92 0 9) = (0 : Int) → zCall L xs D 130 [zr 92] J7 K7 fun r8 e8 J8 K8 => zaI r8 e8 (fun x8_ => zCall L xs D 38 [zr 105, zi x1, zi x8_] J8 K8 fun r9 e9 J9 K9 => zaV r9 e9 (zGo L xs (D + 1) 39 89 [some (zr 105), some (zi x1), some (zi 1)] [] J9 K9 Q) (fun E => Q (.inr E) e9 J9 K9)) (fun E => Q (.inr E) e8 J8 K8))) ∧ ((0 : Int) < x7_ → 0 ≤ x1 ∧ x1 < 128 ∧ 0 ≤ (J7 92 0 9) ∧ (J7 92 0 9) < 32 ∧ 0 ≤ x1 ∧ x1 < 128 ∧ zin (J7 92 0 9) ∧ ((J7 92 0 9) ≠ (0 : Int) → zGo L xs (D + 1) 39 89 [some (zr 105), some (zi x1), some (zi 1)] [] (zup J7 106 0 x1 (zor (J7 106 0 x1) (1 * 2 ^ ((J7 92 0 9).toNat)))) K7 Q) ∧ ((J7 92 0 9) = (0 : Int) → zCall L xs D 130 [zr 92] (zup J7 106 0 x1 (zor (J7 106 0 x1) (1 * 2 ^ ((J7 92 0 9).toNat)))) K7 fun r10 e10 J10 K10 => zaI r10 e10 (fun x10_ => zCall L xs D 38 [zr 105, zi x1, zi x10_] J10 K10 fun r11 e11 J11 K11 => zaV r11 e11 (zGo L xs (D + 1) 39 89 [some (zr 105), some (zi x1), some (zi 1)] [] J11 K11 Q) (fun E => Q (.inr E) e11 J11 K11)) (fun E => Q (.inr E) e10 J10 K10)))) (fun E => Q (.inr E) e7 J7 K7))) (fun E => Q (.inr E) e1 J1 K1)) :
  zCall L xs (D + 1) 39 [zr 105, zi x1] J K Q :=
  zrun_ok (T := mct39) (o := 2) (ret := none) (hs := [(89, [])]) hL rfl 47 _ _ _ _ _ _ _ h
set_option maxRecDepth 30000 in
theorem z39_89 {L : Nat} {xs : Nat → Int32} (hL : L ≤ 3072) {D : Nat} {x1 x2 : Int} {J : zJ} {K : zK} {Q : zR → Nat → zJ → zK → Prop}
  (h : zin x2 ∧ zin (J 92 0 14) ∧ ((J 92 0 14) ≤ x2 → Q (.inl none) 0 J K) ∧ (x2 < (J 92 0 14) → zCall L xs D 131 [zr 92, zi x2] J K fun r1 e1 J1 K1 => zaI r1 e1 (fun x1_ => zCall L xs D 38 [zr 105, zi x1, zi x1_] J1 K1 fun r2 e2 J2 K2 => zaV r2 e2 (zGo L xs (D + 1) 39 89 [some (zr 105), some (zi x1), some (zi (x2 + 1))] [] J2 K2 Q) (fun E => Q (.inr E) e2 J2 K2)) (fun E => Q (.inr E) e1 J1 K1))) :
  zGo L xs (D + 1) 39 89 [some (zr 105), some (zi x1), some (zi x2)] [] J K Q :=
  zrun_ok (T := mct39) (o := 2) (ret := none) (hs := [(89, [])]) hL rfl 14 _ _ _ _ _ _ _ h
/-! PartingTrains$Grouping.learnSet -/
set_option maxRecDepth 30000 in
theorem z40 {L : Nat} {xs : Nat → Int32} (hL : L ≤ 3072) {D : Nat} {x1 : Int} {J : zJ} {K : zK} {Q : zR → Nat → zJ → zK → Prop}
  (h : 0 ≤ x1 ∧ x1 < 128 ∧ 0 ≤ x1 ∧ x1 < 128 ∧ 0 ≤ x1 ∧ x1 < 128 ∧ zCall L xs D 67 [zr 89, zi x1, zr 115, zi 0] (zup (zup J 106 0 x1 0) 109 0 x1 0) (zku K 112 x1 0) fun r1 e1 J1 K1 => zaV r1 e1 (zCall L xs D 317 [zi x1] J1 K1 fun r2 e2 J2 K2 => zaI r2 e2 (fun x2_ => zCall L xs D 129 [zr 92, zr 115, zi 0, zi x2_, zi 0] J2 K2 fun r3 e3 J3 K3 => zaV r3 e3 (zGo L xs (D + 1) 40 55 [some (zr 105), some (zi x1), some (zi 0), some (zi 0)] [] J3 K3 Q) (fun E => Q (.inr E) e3 J3 K3)) (fun E => Q (.inr E) e2 J2 K2)) (fun E => Q (.inr E) e1 J1 K1)) :
  zCall L xs (D + 1) 40 [zr 105, zi x1] J K Q :=
  zrun_ok (T := mct40) (o := 2) (ret := none) (hs := [(55, [])]) hL rfl 35 _ _ _ _ _ _ _ h
set_option maxRecDepth 30000 in
theorem z40_55 {L : Nat} {xs : Nat → Int32} (hL : L ≤ 3072) {D : Nat} {x1 x2 x3 : Int} {J : zJ} {K : zK} {Q : zR → Nat → zJ → zK → Prop}
  (h : zin x3 ∧ zin 84 ∧ ((84 : Int) ≤ x3 → zCall L xs D 41 [zr 105, zi x1, zi x2] J K fun r1 e1 J1 K1 => zaV r1 e1 (Q (.inl none) 0 J1 K1) (fun E => Q (.inr E) e1 J1 K1)) ∧ (x3 < (84 : Int) → zCall L xs D 125 [zr 92] J K fun r2 e2 J2 K2 => zaI r2 e2 (fun x2_ => zin x2_ ∧ (x2_ = (0 : Int) → zCall L xs D 41 [zr 105, zi x1, zi x2] J2 K2 fun r3 e3 J3 K3 => zaV r3 e3 (Q (.inl none) 0 J3 K3) (fun E => Q (.inr E) e3 J3 K3)) ∧ (x2_ ≠ (0 : Int) → zCall L xs D 135 [zr 92] J2 K2 fun r4 e4 J4 K4 => zaI r4 e4 (fun x4_ => zin x4_ ∧ (x4_ = (0 : Int) → zCall L xs D 41 [zr 105, zi x1, zi x2] J4 K4 fun r5 e5 J5 K5 => zaV r5 e5 (Q (.inl none) 0 J5 K5) (fun E => Q (.inr E) e5 J5 K5)) ∧ (x4_ ≠ (0 : Int) → 0 ≤ (J4 92 0 9) ∧ (J4 92 0 9) < 32 ∧ zCall L xs D 39 [zr 105, zi x1] J4 K4 fun r6 e6 J6 K6 => zaV r6 e6 (zCall L xs D 128 [zr 92] J6 K6 fun r7 e7 J7 K7 => zaV r7 e7 (zGo L xs (D + 1) 40 55 [some (zr 105), some (zi x1), some (zi (zor x2 (1 * 2 ^ ((J4 92 0 9).toNat)))), some (zi (x3 + 1))] [] J7 K7 Q) (fun E => Q (.inr E) e7 J7 K7)) (fun E => Q (.inr E) e6 J6 K6))) (fun E => Q (.inr E) e4 J4 K4))) (fun E => Q (.inr E) e2 J2 K2))) :
  zGo L xs (D + 1) 40 55 [some (zr 105), some (zi x1), some (zi x2), some (zi x3)] [] J K Q :=
  zrun_ok (T := mct40) (o := 2) (ret := none) (hs := [(55, [])]) hL rfl 27 _ _ _ _ _ _ _ h
/-! PartingTrains$Grouping.learnWants -/
set_option maxRecDepth 30000 in
theorem z41 {L : Nat} {xs : Nat → Int32} (hL : L ≤ 3072) {D : Nat} {x1 x2 : Int} {J : zJ} {K : zK} {Q : zR → Nat → zJ → zK → Prop}
  (h : 0 ≤ x1 ∧ x1 < 128 ∧ 0 ≤ x1 ∧ x1 < 128 ∧ zGo L xs (D + 1) 41 16 [some (zr 105), some (zi x1), some (zi x2), some (zi 0)] [] (zup (zup J 107 0 x1 0) 108 0 x1 0) K Q) :
  zCall L xs (D + 1) 41 [zr 105, zi x1, zi x2] J K Q :=
  zrun_ok (T := mct41) (o := 2) (ret := none) (hs := [(16, [])]) hL rfl 12 _ _ _ _ _ _ _ h
set_option maxRecDepth 30000 in
theorem z41_16 {L : Nat} {xs : Nat → Int32} (hL : L ≤ 3072) {D : Nat} {x1 x2 x3 : Int} {J : zJ} {K : zK} {Q : zR → Nat → zJ → zK → Prop}
  (h : zin x3 ∧ zin (J 18 0 14) ∧ ((J 18 0 14) ≤ x3 → Q (.inl none) 0 J K) ∧ (x3 < (J 18 0 14) → 0 ≤ x3 ∧ x3 < 12 ∧ zCall L xs D 120 [zr 33, zi (J 30 0 x3), zi x2] J K fun r1 e1 J1 K1 => zaI r1 e1 (fun x1_ => zin x1_ ∧ (x1_ = (0 : Int) → 0 ≤ x3 ∧ x3 < 12 ∧ zCall L xs D 119 [zr 33, zi (J1 30 0 x3), zi x2] J1 K1 fun r2 e2 J2 K2 => zaI r2 e2 (fun x2_ => zin x2_ ∧ (x2_ = (0 : Int) → zGo L xs (D + 1) 41 16 [some (zr 105), some (zi x1), some (zi x2), some (zi (x3 + 1))] [] J2 K2 Q) ∧ (x2_ ≠ (0 : Int) → 0 ≤ x1 ∧ x1 < 128 ∧ 0 ≤ x3 ∧ x3 < 32 ∧ 0 ≤ x1 ∧ x1 < 128 ∧ zGo L xs (D + 1) 41 16 [some (zr 105), some (zi x1), some (zi x2), some (zi (x3 + 1))] [] (zup J2 108 0 x1 (zor (J2 108 0 x1) (1 * 2 ^ (x3.toNat)))) K2 Q)) (fun E => Q (.inr E) e2 J2 K2)) ∧ (x1_ ≠ (0 : Int) → 0 ≤ x1 ∧ x1 < 128 ∧ 0 ≤ x3 ∧ x3 < 32 ∧ 0 ≤ x1 ∧ x1 < 128 ∧ zGo L xs (D + 1) 41 16 [some (zr 105), some (zi x1), some (zi x2), some (zi (x3 + 1))] [] (zup J1 107 0 x1 (zor (J1 107 0 x1) (1 * 2 ^ (x3.toNat)))) K1 Q)) (fun E => Q (.inr E) e1 J1 K1))) :
  zGo L xs (D + 1) 41 16 [some (zr 105), some (zi x1), some (zi x2), some (zi x3)] [] J K Q :=
  zrun_ok (T := mct41) (o := 2) (ret := none) (hs := [(16, [])]) hL rfl 37 _ _ _ _ _ _ _ h
/-! PartingTrains$Grouping.search -/
set_option maxRecDepth 30000 in
theorem z42 {L : Nat} {xs : Nat → Int32} (hL : L ≤ 3072) {D : Nat} {x1 : Int} {J : zJ} {K : zK} {Q : zR → Nat → zJ → zK → Prop}
  (h : zin x1 ∧ zin (J 18 0 6) ∧ (x1 < (J 18 0 6) → zCall L xs D 55 [zr 18] J K fun r1 e1 J1 K1 => zaI r1 e1 (fun x1_ => 0 ≤ x1 ∧ x1 < 32 ∧ zGo L xs (D + 1) 42 40 [some (zr 105), some (zi x1), some (zi (zand x1_ (zxor ((2 * 2 ^ (x1.toNat)) - 1) (-1)))), some (zl (K1 105 16)), none, some (zi 0), none, none] [] J1 K1 Q) (fun E => Q (.inr E) e1 J1 K1)) ∧ ((J 18 0 6) ≤ x1 → zCall L xs D 37 [zr 105] J K fun r2 e2 J2 K2 => zaV r2 e2 (Q (.inl none) 0 J2 K2) (fun E => Q (.inr E) e2 J2 K2))) :
  zCall L xs (D + 1) 42 [zr 105, zi x1] J K Q :=
  zrun_ok (T := mct42) (o := 2) (ret := none) (hs := [(40, [4, 6, 7])]) hL rfl 22 _ _ _ _ _ _ _ h
set_option maxRecDepth 30000 in
theorem z42_40 {L : Nat} {xs : Nat → Int32} (hL : L ≤ 3072) {D : Nat} {x1 x2 x3 x5 : Int} {J : zJ} {K : zK} {Q : zR → Nat → zJ → zK → Prop}
  (h : zin x5 ∧ zin (J 40 0 0) ∧ ((J 40 0 0) ≤ x5 → Q (.inl none) 0 J K) ∧ (x5 < (J 40 0 0) → 0 ≤ x5 ∧ x5 < 4 ∧ 0 ≤ x1 ∧ x1 < 32 ∧ 0 ≤ (zor (J 114 0 x5) (1 * 2 ^ (x1.toNat))) ∧ (zor (J 114 0 x5) (1 * 2 ^ (x1.toNat))) < 128 ∧ zin (zand (J 106 0 (zor (J 114 0 x5) (1 * 2 ^ (x1.toNat)))) (zxor (J 105 0 15) (-1))) ∧ ((zand (J 106 0 (zor (J 114 0 x5) (1 * 2 ^ (x1.toNat)))) (zxor (J 105 0 15) (-1))) ≠ (0 : Int) → zGo L xs (D + 1) 42 40 [some (zr 105), some (zi x1), some (zi x2), some (zl x3), none, some (zi (x5 + 1)), none, none] [] J K Q) ∧ ((zand (J 106 0 (zor (J 114 0 x5) (1 * 2 ^ (x1.toNat)))) (zxor (J 105 0 15) (-1))) = (0 : Int) → 0 ≤ x5 ∧ x5 < 4 ∧ 0 ≤ x1 ∧ x1 < 7 ∧ 0 ≤ (zor (J 114 0 x5) (1 * 2 ^ (x1.toNat))) ∧ (zor (J 114 0 x5) (1 * 2 ^ (x1.toNat))) < 128 ∧ 0 ≤ (J 114 0 x5) ∧ (J 114 0 x5) < 128 ∧ zCall L xs D 31 [zr 105] (zup (zup J 114 0 x5 (zor (J 114 0 x5) (1 * 2 ^ (x1.toNat)))) 115 0 x1 x5) (zku K 105 16 ((x3 - (K 112 (zor (J 114 0 x5) (1 * 2 ^ (x1.toNat))))) + (K 112 (J 114 0 x5)))) fun r1 e1 J1 K1 => zaI r1 e1 (fun x1_ => zin x1_ ∧ (x1_ = (0 : Int) → 0 ≤ x5 ∧ x5 < 4 ∧ zGo L xs (D + 1) 42 40 [some (zr 105), some (zi x1), some (zi x2), some (zl x3), none, some (zi (x5 + 1)), none, none] [] (zup J1 114 0 x5 (J 114 0 x5)) (zku K1 105 16 x3) Q) ∧ (x1_ ≠ (0 : Int) → zin (J1 105 0 13) ∧ zin (-1) ∧ ((J1 105 0 13) = (-1 : Int) → zCall L xs D 42 [zr 105, zi (x1 + 1)] J1 K1 fun r2 e2 J2 K2 => zaV r2 e2 (0 ≤ x5 ∧ x5 < 4 ∧ zGo L xs (D + 1) 42 40 [some (zr 105), some (zi x1), some (zi x2), some (zl x3), none, some (zi (x5 + 1)), none, none] [] (zup J2 114 0 x5 (J 114 0 x5)) (zku K2 105 16 x3) Q) (fun E => Q (.inr E) e2 J2 K2)) ∧ ((J1 105 0 13) ≠ (-1 : Int) → zCall L xs D 36 [zr 105, zi x2] J1 K1 fun r3 e3 J3 K3 => zaI r3 e3 (fun x3_ => zin x3_ ∧ zin (J3 105 0 13) ∧ (x3_ ≤ (J3 105 0 13) → 0 ≤ x5 ∧ x5 < 4 ∧ zGo L xs (D + 1) 42 40 [some (zr 105), some (zi x1), some (zi x2), some (zl x3), none, some (zi (x5 + 1)), none, none] [] (zup J3 114 0 x5 (J 114 0 x5)) (zku K3 105 16 x3) Q) ∧ ((J3 105 0 13) < x3_ → zCall L xs D 42 [zr 105, zi (x1 + 1)] J3 K3 fun r4 e4 J4 K4 => zaV r4 e4 (0 ≤ x5 ∧ x5 < 4 ∧ zGo L xs (D + 1) 42 40 [some (zr 105), some (zi x1), some (zi x2), some (zl x3), none, some (zi (x5 + 1)), none, none] [] (zup J4 114 0 x5 (J 114 0 x5)) (zku K4 105 16 x3) Q) (fun E => Q (.inr E) e4 J4 K4))) (fun E => Q (.inr E) e3 J3 K3)))) (fun E => Q (.inr E) e1 J1 K1)))) :
  zGo L xs (D + 1) 42 40 [some (zr 105), some (zi x1), some (zi x2), some (zl x3), none, some (zi x5), none, none] [] J K Q :=
  zrun_ok (T := mct42) (o := 2) (ret := none) (hs := [(40, [4, 6, 7])]) hL rfl 77 _ _ _ _ _ _ _ h
/-! PartingTrains$Judge.errorHere -/
set_option maxRecDepth 30000 in
theorem z44 {L : Nat} {xs : Nat → Int32} (hL : L ≤ 3072) {D : Nat} {J : zJ} {K : zK} {Q : zR → Nat → zJ → zK → Prop}
  (h : zCall L xs D 130 [zr 92] J K fun r1 e1 J1 K1 => zaI r1 e1 (fun x1_ => 0 ≤ (J1 92 0 9) ∧ (J1 92 0 9) < 12 ∧ zin x1_ ∧ zin (J1 21 0 (J1 92 0 9)) ∧ (x1_ ≤ (J1 21 0 (J1 92 0 9)) → zCall L xs D 135 [zr 92] J1 K1 fun r2 e2 J2 K2 => zaI r2 e2 (fun x2_ => zin x2_ ∧ (x2_ ≠ (0 : Int) → zCall L xs D 62 [zr 18, zi (J2 92 0 9)] J2 K2 fun r3 e3 J3 K3 => zaI r3 e3 (fun x3_ => zin x3_ ∧ (x3_ = (0 : Int) → zCall L xs D 126 [zr 92] J3 K3 fun r4 e4 J4 K4 => zaI r4 e4 (fun x4_ => zin x4_ ∧ (x4_ ≤ (0 : Int) → zCall L xs D 50 [zr 101] J4 K4 fun r5 e5 J5 K5 => zaI r5 e5 (fun x5_ => zin x5_ ∧ (x5_ = (0 : Int) → Q (.inl (some (zi 100))) 0 J5 K5) ∧ (x5_ ≠ (0 : Int) → Q (.inl (some (zi 0))) 0 J5 K5)) (fun E => Q (.inr E) e5 J5 K5)) ∧ ((0 : Int) < x4_ → zin 0 ∧ ((0 : Int) ≠ (0 : Int) → zCall L xs D 50 [zr 101] J4 K4 fun r6 e6 J6 K6 => zaI r6 e6 (fun x6_ => zin x6_ ∧ (x6_ = (0 : Int) → Q (.inl (some (zi 100))) 0 J6 K6) ∧ (x6_ ≠ (0 : Int) → Q (.inl (some (zi 0))) 0 J6 K6)) (fun E => Q (.inr E) e6 J6 K6)) ∧ ((0 : Int) = (0 : Int) → Q (.inl (some (zi 400))) 0 J4 K4))) (fun E => Q (.inr E) e4 J4 K4)) ∧ (x3_ ≠ (0 : Int) → zCall L xs D 81 [zr 40, zi (J3 92 0 9)] J3 K3 fun r7 e7 J7 K7 => zaI r7 e7 (fun x7_ => zin x7_ ∧ (x7_ ≠ (0 : Int) → zCall L xs D 126 [zr 92] J7 K7 fun r8 e8 J8 K8 => zaI r8 e8 (fun x8_ => zin x8_ ∧ (x8_ ≤ (0 : Int) → zCall L xs D 50 [zr 101] J8 K8 fun r9 e9 J9 K9 => zaI r9 e9 (fun x9_ => zin x9_ ∧ (x9_ = (0 : Int) → Q (.inl (some (zi 100))) 0 J9 K9) ∧ (x9_ ≠ (0 : Int) → Q (.inl (some (zi 0))) 0 J9 K9)) (fun E => Q (.inr E) e9 J9 K9)) ∧ ((0 : Int) < x8_ → zin 0 ∧ ((0 : Int) ≠ (0 : Int) → zCall L xs D 50 [zr 101] J8 K8 fun r10 e10 J10 K10 => zaI r10 e10 (fun x10_ => zin x10_ ∧ (x10_ = (0 : Int) → Q (.inl (some (zi 100))) 0 J10 K10) ∧ (x10_ ≠ (0 : Int) → Q (.inl (some (zi 0))) 0 J10 K10)) (fun E => Q (.inr E) e10 J10 K10)) ∧ ((0 : Int) = (0 : Int) → Q (.inl (some (zi 400))) 0 J8 K8))) (fun E => Q (.inr E) e8 J8 K8)) ∧ (x7_ = (0 : Int) → zCall L xs D 126 [zr 92] J7 K7 fun r11 e11 J11 K11 => zaI r11 e11 (fun x11_ => zin x11_ ∧ (x11_ ≤ (0 : Int) → zCall L xs D 50 [zr 101] J11 K11 fun r12 e12 J12 K12 => zaI r12 e12 (fun x12_ => zin x12_ ∧ (x12_ = (0 : Int) → Q (.inl (some (zi 100))) 0 J12 K12) ∧ (x12_ ≠ (0 : Int) → Q (.inl (some (zi 0))) 0 J12 K12)) (fun E => Q (.inr E) e12 J12 K12)) ∧ ((0 : Int) < x11_ → zin 1 ∧ ((1 : Int) ≠ (0 : Int) → zCall L xs D 50 [zr 101] J11 K11 fun r13 e13 J13 K13 => zaI r13 e13 (fun x13_ => zin x13_ ∧ (x13_ = (0 : Int) → Q (.inl (some (zi 100))) 0 J13 K13) ∧ (x13_ ≠ (0 : Int) → Q (.inl (some (zi 0))) 0 J13 K13)) (fun E => Q (.inr E) e13 J13 K13)) ∧ ((1 : Int) = (0 : Int) → Q (.inl (some (zi 400))) 0 J11 K11))) (fun E => Q (.inr E) e11 J11 K11))) (fun E => Q (.inr E) e7 J7 K7))) (fun E => Q (.inr E) e3 J3 K3)) ∧ (x2_ = (0 : Int) → Q (.inl (some (zi 200))) 0 J2 K2)) (fun E => Q (.inr E) e2 J2 K2)) ∧ ((J1 21 0 (J1 92 0 9)) < x1_ → Q (.inl (some (zi 300))) 0 J1 K1)) (fun E => Q (.inr E) e1 J1 K1)) :
  zCall L xs (D + 1) 44 [zr 101] J K Q :=
  zrun_ok (T := mct44) (o := 3) (ret := (some FieldType.int)) (hs := []) hL rfl 44 _ _ _ _ _ _ _ h
/-! PartingTrains$Judge.forgetArrivals -/
set_option maxRecDepth 30000 in
theorem z45 {L : Nat} {xs : Nat → Int32} (hL : L ≤ 3072) {D : Nat} {x1 : Int} {J : zJ} {K : zK} {Q : zR → Nat → zJ → zK → Prop}
  (h : zGo L xs (D + 1) 45 2 [some (zr 101), some (zi x1), some (zi 0), none] [] J K Q) :
  zCall L xs (D + 1) 45 [zr 101, zi x1] J K Q :=
  zrun_ok (T := mct45) (o := 3) (ret := none) (hs := [(2, [3])]) hL rfl 2 _ _ _ _ _ _ _ h
set_option maxRecDepth 30000 in
theorem z45_2 {L : Nat} {xs : Nat → Int32} (hL : L ≤ 3072) {D : Nat} {x1 x2 : Int} {J : zJ} {K : zK} {Q : zR → Nat → zJ → zK → Prop}
  (h : 0 ≤ x1 ∧ x1 < 4 ∧ zin x2 ∧ zin (J 42 0 x1) ∧ ((J 42 0 x1) ≤ x2 → Q (.inl none) 0 J K) ∧ (x2 < (J 42 0 x1) → 0 ≤ ((x1 * 7) + x2) ∧ ((x1 * 7) + x2) < 28 ∧ 0 ≤ (J 43 0 ((x1 * 7) + x2)) ∧ (J 43 0 ((x1 * 7) + x2)) < 7 ∧ 0 ≤ (J 43 0 ((x1 * 7) + x2)) ∧ (J 43 0 ((x1 * 7) + x2)) < 7 ∧ zGo L xs (D + 1) 45 2 [some (zr 101), some (zi x1), some (zi (x2 + 1)), none] [] (zup (zup J 104 0 (J 43 0 ((x1 * 7) + x2)) (-1)) 103 0 (J 43 0 ((x1 * 7) + x2)) (-1)) K Q)) :
  zGo L xs (D + 1) 45 2 [some (zr 101), some (zi x1), some (zi x2), none] [] J K Q :=
  zrun_ok (T := mct45) (o := 3) (ret := none) (hs := [(2, [3])]) hL rfl 29 _ _ _ _ _ _ _ h
/-! PartingTrains$Judge.judgeAll -/
set_option maxRecDepth 30000 in
theorem z46 {L : Nat} {xs : Nat → Int32} (hL : L ≤ 3072) {D : Nat} {J : zJ} {K : zK} {Q : zR → Nat → zJ → zK → Prop}
  (h : zCall L xs D 315 [zr 103, zi (-1)] (zup J 101 0 7 0) K fun r1 e1 J1 K1 => zaV r1 e1 (zCall L xs D 315 [zr 104, zi (-1)] J1 K1 fun r2 e2 J2 K2 => zaV r2 e2 (zGo L xs (D + 1) 46 23 [some (zr 101), some (zi 0)] [] J2 K2 Q) (fun E => Q (.inr E) e2 J2 K2)) (fun E => Q (.inr E) e1 J1 K1)) :
  zCall L xs (D + 1) 46 [zr 101] J K Q :=
  zrun_ok (T := mct46) (o := 3) (ret := none) (hs := [(23, [])]) hL rfl 13 _ _ _ _ _ _ _ h
set_option maxRecDepth 30000 in
theorem z46_23 {L : Nat} {xs : Nat → Int32} (hL : L ≤ 3072) {D : Nat} {x1 : Int} {J : zJ} {K : zK} {Q : zR → Nat → zJ → zK → Prop}
  (h : zin x1 ∧ zin (J 40 0 0) ∧ ((J 40 0 0) ≤ x1 → Q (.inl none) 0 J K) ∧ (x1 < (J 40 0 0) → zCall L xs D 47 [zr 101, zi x1] J K fun r1 e1 J1 K1 => zaI r1 e1 (fun x1_ => 0 ≤ x1 ∧ x1 < 4 ∧ 0 ≤ x1 ∧ x1 < 4 ∧ zin ((zup J1 102 0 x1 x1_) 102 0 x1) ∧ (((zup J1 102 0 x1 x1_) 102 0 x1) = (0 : Int) → zGo L xs (D + 1) 46 23 [some (zr 101), some (zi (x1 + 1))] [] (zup J1 102 0 x1 x1_) K1 Q) ∧ (((zup J1 102 0 x1 x1_) 102 0 x1) ≠ (0 : Int) → zCall L xs D 45 [zr 101, zi x1] (zup J1 102 0 x1 x1_) K1 fun r2 e2 J2 K2 => zaV r2 e2 (zGo L xs (D + 1) 46 23 [some (zr 101), some (zi (x1 + 1))] [] J2 K2 Q) (fun E => Q (.inr E) e2 J2 K2))) (fun E => Q (.inr E) e1 J1 K1))) :
  zGo L xs (D + 1) 46 23 [some (zr 101), some (zi x1)] [] J K Q :=
  zrun_ok (T := mct46) (o := 3) (ret := none) (hs := [(23, [])]) hL rfl 22 _ _ _ _ _ _ _ h
/-! PartingTrains$Judge.judgeTrain -/
set_option maxRecDepth 30000 in
theorem z47 {L : Nat} {xs : Nat → Int32} (hL : L ≤ 3072) {D : Nat} {x1 : Int} {J : zJ} {K : zK} {Q : zR → Nat → zJ → zK → Prop}
  (h : 0 ≤ x1 ∧ x1 < 4 ∧ 0 ≤ x1 ∧ x1 < 4 ∧ zCall L xs D 129 [zr 92, zr 43, zi (x1 * 7), zi (J 42 0 x1), zi (J 41 0 x1)] J K fun r1 e1 J1 K1 => zaV r1 e1 (zGo L xs (D + 1) 47 38 [some (zr 101), none, some (zi 0), none, none] [] J1 K1 Q) (fun E => Q (.inr E) e1 J1 K1)) :
  zCall L xs (D + 1) 47 [zr 101, zi x1] J K Q :=
  zrun_ok (T := mct47) (o := 3) (ret := (some FieldType.int)) (hs := [(38, [1, 3, 4]), (90, [1, 3])]) hL rfl 21 _ _ _ _ _ _ _ h
set_option maxRecDepth 30000 in
theorem z47_38 {L : Nat} {xs : Nat → Int32} (hL : L ≤ 3072) {D : Nat} {x2 : Int} {J : zJ} {K : zK} {Q : zR → Nat → zJ → zK → Prop}
  (h : zin x2 ∧ zin 84 ∧ ((84 : Int) ≤ x2 → Q (.inl (some (zi 0))) 0 J K) ∧ (x2 < (84 : Int) → zCall L xs D 125 [zr 92] J K fun r1 e1 J1 K1 => zaI r1 e1 (fun x1_ => zin x1_ ∧ (x1_ = (0 : Int) → Q (.inl (some (zi 0))) 0 J1 K1) ∧ (x1_ ≠ (0 : Int) → zCall L xs D 44 [zr 101] J1 K1 fun r2 e2 J2 K2 => zaI r2 e2 (fun x2_ => zin x2_ ∧ (x2_ = (0 : Int) → 0 ≤ (J2 92 0 14) ∧ (J2 92 0 14) < 8 ∧ zGo L xs (D + 1) 47 90 [some (zr 101), none, some (zi x2), none, some (zi (J2 99 0 (J2 92 0 14)))] [] J2 K2 Q) ∧ (x2_ ≠ (0 : Int) → Q (.inl (some (zi (x2_ + (J2 92 0 9))))) 0 J2 K2)) (fun E => Q (.inr E) e2 J2 K2))) (fun E => Q (.inr E) e1 J1 K1))) :
  zGo L xs (D + 1) 47 38 [some (zr 101), none, some (zi x2), none, none] [] J K Q :=
  zrun_ok (T := mct47) (o := 3) (ret := (some FieldType.int)) (hs := [(38, [1, 3, 4]), (90, [1, 3])]) hL rfl 20 _ _ _ _ _ _ _ h
set_option maxRecDepth 30000 in
theorem z47_90 {L : Nat} {xs : Nat → Int32} (hL : L ≤ 3072) {D : Nat} {x2 x4 : Int} {J : zJ} {K : zK} {Q : zR → Nat → zJ → zK → Prop}
  (h : zin x4 ∧ zin (J 92 0 11) ∧ ((J 92 0 11) ≤ x4 → zCall L xs D 128 [zr 92] J K fun r1 e1 J1 K1 => zaV r1 e1 (zGo L xs (D + 1) 47 38 [some (zr 101), none, some (zi (x2 + 1)), none, none] [] J1 K1 Q) (fun E => Q (.inr E) e1 J1 K1)) ∧ (x4 < (J 92 0 11) → 0 ≤ x4 ∧ x4 < 7 ∧ 0 ≤ (J 93 0 x4) ∧ (J 93 0 x4) < 7 ∧ 0 ≤ x4 ∧ x4 < 7 ∧ 0 ≤ (J 93 0 x4) ∧ (J 93 0 x4) < 7 ∧ zGo L xs (D + 1) 47 90 [some (zr 101), none, some (zi x2), none, some (zi (x4 + 1))] [] (zup (zup J 104 0 (J 93 0 x4) (J 92 0 12)) 103 0 (J 93 0 x4) (J 92 0 13)) K Q)) :
  zGo L xs (D + 1) 47 90 [some (zr 101), none, some (zi x2), none, some (zi x4)] [] J K Q :=
  zrun_ok (T := mct47) (o := 3) (ret := (some FieldType.int)) (hs := [(38, [1, 3, 4]), (90, [1, 3])]) hL rfl 29 _ _ _ _ _ _ _ h
/-! PartingTrains$Judge.servedBy -/
set_option maxRecDepth 30000 in
theorem z48 {L : Nat} {xs : Nat → Int32} (hL : L ≤ 3072) {D : Nat} {x1 : Int} {J : zJ} {K : zK} {Q : zR → Nat → zJ → zK → Prop}
  (h : 0 ≤ x1 ∧ x1 < 4 ∧ zin (J 102 0 x1) ∧ ((J 102 0 x1) = (0 : Int) → zGo L xs (D + 1) 48 15 [some (zr 101), some (zi x1), some (zi 0), some (zi 0)] [] J K Q) ∧ ((J 102 0 x1) ≠ (0 : Int) → Q (.inl (some (zi 0))) 0 J K)) :
  zCall L xs (D + 1) 48 [zr 101, zi x1] J K Q :=
  zrun_ok (T := mct48) (o := 3) (ret := (some FieldType.int)) (hs := [(15, [])]) hL rfl 9 _ _ _ _ _ _ _ h
set_option maxRecDepth 30000 in
theorem z48_15 {L : Nat} {xs : Nat → Int32} (hL : L ≤ 3072) {D : Nat} {x1 x2 x3 : Int} {J : zJ} {K : zK} {Q : zR → Nat → zJ → zK → Prop}
  (h : 0 ≤ x1 ∧ x1 < 4 ∧ zin x3 ∧ zin (J 42 0 x1) ∧ ((J 42 0 x1) ≤ x3 → Q (.inl (some (zi x2))) 0 J K) ∧ (x3 < (J 42 0 x1) → 0 ≤ ((x1 * 7) + x3) ∧ ((x1 * 7) + x3) < 28 ∧ 0 ≤ (J 43 0 ((x1 * 7) + x3)) ∧ (J 43 0 ((x1 * 7) + x3)) < 7 ∧ 0 ≤ (J 24 0 (J 43 0 ((x1 * 7) + x3))) ∧ (J 24 0 (J 43 0 ((x1 * 7) + x3))) < 12 ∧ zGo L xs (D + 1) 48 15 [some (zr 101), some (zi x1), some (zi (zor x2 (J 36 0 (J 24 0 (J 43 0 ((x1 * 7) + x3)))))), some (zi (x3 + 1))] [] J K Q)) :
  zGo L xs (D + 1) 48 15 [some (zr 101), some (zi x1), some (zi x2), some (zi x3)] [] J K Q :=
  zrun_ok (T := mct48) (o := 3) (ret := (some FieldType.int)) (hs := [(15, [])]) hL rfl 29 _ _ _ _ _ _ _ h
/-! PartingTrains$Judge.takeEngine -/
set_option maxRecDepth 30000 in
theorem z49 {L : Nat} {xs : Nat → Int32} (hL : L ≤ 3072) {D : Nat} {x1 x2 : Int} {J : zJ} {K : zK} {Q : zR → Nat → zJ → zK → Prop}
  (h : zCall L xs D 59 [zr 18, zi x1, zi x2, zi (J 101 0 7)] J K fun r1 e1 J1 K1 => zaI r1 e1 (fun x1_ => zin x1_ ∧ zin (-1) ∧ (x1_ = (-1 : Int) → Q (.inl (some (zi x1_))) 0 J1 K1) ∧ (x1_ ≠ (-1 : Int) → 0 ≤ x1_ ∧ x1_ < 32 ∧ Q (.inl (some (zi x1_))) 0 (zup J1 101 0 7 (zor (J1 101 0 7) (1 * 2 ^ (x1_.toNat)))) K1)) (fun E => Q (.inr E) e1 J1 K1)) :
  zCall L xs (D + 1) 49 [zr 101, zi x1, zi x2] J K Q :=
  zrun_ok (T := mct49) (o := 3) (ret := (some FieldType.int)) (hs := []) hL rfl 21 _ _ _ _ _ _ _ h
/-! PartingTrains$Judge.takesEngines -/
set_option maxRecDepth 30000 in
theorem z50 {L : Nat} {xs : Nat → Int32} (hL : L ≤ 3072) {D : Nat} {J : zJ} {K : zK} {Q : zR → Nat → zJ → zK → Prop}
  (h : zin (J 92 0 9) ∧ ((J 92 0 9) ≠ (0 : Int) → 0 ≤ (0 : Int) ∧ (0 : Int) < 7 ∧ zGo L xs (D + 1) 50 60 [some (zr 101), some (zi 1), none] [] (zup J 100 0 0 (J 92 0 13)) K Q) ∧ ((J 92 0 9) = (0 : Int) → zCall L xs D 130 [zr 92] J K fun r1 e1 J1 K1 => zaI r1 e1 (fun x1_ => zCall L xs D 49 [zr 101, zi 0, zi x1_] J1 K1 fun r2 e2 J2 K2 => zaI r2 e2 (fun x2_ => zin x2_ ∧ zin (-1) ∧ (x2_ ≠ (-1 : Int) → 0 ≤ (0 : Int) ∧ (0 : Int) < 7 ∧ zGo L xs (D + 1) 50 60 [some (zr 101), some (zi 1), none] [] (zup (zup J2 92 0 13 x2_) 100 0 0 x2_) K2 Q) ∧ (x2_ = (-1 : Int) → ((0 : Int) = 0 ∨ (0 : Int) = 1) ∧ Q (.inl (some (zi 0))) 0 (zup J2 92 0 13 x2_) K2)) (fun E => Q (.inr E) e2 J2 K2)) (fun E => Q (.inr E) e1 J1 K1))) :
  zCall L xs (D + 1) 50 [zr 101] J K Q :=
  zrun_ok (T := mct50) (o := 3) (ret := (some FieldType.boolean)) (hs := [(60, [2])]) hL rfl 28 _ _ _ _ _ _ _ h
set_option maxRecDepth 30000 in
theorem z50_60 {L : Nat} {xs : Nat → Int32} (hL : L ≤ 3072) {D : Nat} {x1 : Int} {J : zJ} {K : zK} {Q : zR → Nat → zJ → zK → Prop}
  (h : zin x1 ∧ zin (J 92 0 14) ∧ ((J 92 0 14) ≤ x1 → ((1 : Int) = 0 ∨ (1 : Int) = 1) ∧ Q (.inl (some (zi 1))) 0 J K) ∧ (x1 < (J 92 0 14) → zCall L xs D 131 [zr 92, zi x1] J K fun r1 e1 J1 K1 => zaI r1 e1 (fun x1_ => zCall L xs D 49 [zr 101, zi (J 92 0 9), zi x1_] J1 K1 fun r2 e2 J2 K2 => zaI r2 e2 (fun x2_ => zin x2_ ∧ zin (-1) ∧ (x2_ ≠ (-1 : Int) → 0 ≤ x1 ∧ x1 < 7 ∧ zGo L xs (D + 1) 50 60 [some (zr 101), some (zi (x1 + 1)), none] [] (zup J2 100 0 x1 x2_) K2 Q) ∧ (x2_ = (-1 : Int) → ((0 : Int) = 0 ∨ (0 : Int) = 1) ∧ Q (.inl (some (zi 0))) 0 J2 K2)) (fun E => Q (.inr E) e2 J2 K2)) (fun E => Q (.inr E) e1 J1 K1))) :
  zGo L xs (D + 1) 50 60 [some (zr 101), some (zi x1), none] [] J K Q :=
  zrun_ok (T := mct50) (o := 3) (ret := (some FieldType.boolean)) (hs := [(60, [2])]) hL rfl 26 _ _ _ _ _ _ _ h
/-! PartingTrains$Judge.worthBy -/
set_option maxRecDepth 30000 in
theorem z51 {L : Nat} {xs : Nat → Int32} (hL : L ≤ 3072) {D : Nat} {x1 x2 : Int} {J : zJ} {K : zK} {Q : zR → Nat → zJ → zK → Prop}
  (h : zCall L xs D 48 [zr 101, zi x2] J K fun r1 e1 J1 K1 => zaI r1 e1 (fun x1_ => 0 ≤ x2 ∧ x2 < 4 ∧ zCall L xs D 60 [zr 18, zi x1, zi (J1 41 0 x2)] J1 K1 fun r2 e2 J2 K2 => zaI r2 e2 (fun x2_ => 0 ≤ x1 ∧ x1 < 12 ∧ zCall L xs D 120 [zr 33, zi (J2 30 0 x1), zi x1_] J2 K2 fun r3 e3 J3 K3 => zaI r3 e3 (fun x3_ => zin x3_ ∧ (x3_ = (0 : Int) → 0 ≤ x1 ∧ x1 < 12 ∧ zCall L xs D 119 [zr 33, zi (J3 30 0 x1), zi x1_] J3 K3 fun r4 e4 J4 K4 => zaI r4 e4 (fun x4_ => zin x4_ ∧ (x4_ = (0 : Int) → Q (.inl (some (zi 0))) 0 J4 K4) ∧ (x4_ ≠ (0 : Int) → 0 ≤ x2_ ∧ x2_ < 2147483648 ∧ 0 < (2 : Int) ∧ (2 : Int) < 2147483648 ∧ Q (.inl (some (zi (x2_ / 2)))) 0 J4 K4)) (fun E => Q (.inr E) e4 J4 K4)) ∧ (x3_ ≠ (0 : Int) → Q (.inl (some (zi x2_))) 0 J3 K3)) (fun E => Q (.inr E) e3 J3 K3)) (fun E => Q (.inr E) e2 J2 K2)) (fun E => Q (.inr E) e1 J1 K1)) :
  zCall L xs (D + 1) 51 [zr 101, zi x1, zi x2] J K Q :=
  zrun_ok (T := mct51) (o := 3) (ret := (some FieldType.int)) (hs := []) hL rfl 39 _ _ _ _ _ _ _ h
/-! PartingTrains$Judge.worthOf -/
set_option maxRecDepth 30000 in
theorem z52 {L : Nat} {xs : Nat → Int32} (hL : L ≤ 3072) {D : Nat} {x1 : Int} {J : zJ} {K : zK} {Q : zR → Nat → zJ → zK → Prop}
  (h : zGo L xs (D + 1) 52 4 [some (zr 101), some (zi x1), some (zi 0), some (zi 0)] [] J K Q) :
  zCall L xs (D + 1) 52 [zr 101, zi x1] J K Q :=
  zrun_ok (T := mct52) (o := 3) (ret := (some FieldType.int)) (hs := [(4, [])]) hL rfl 4 _ _ _ _ _ _ _ h
set_option maxRecDepth 30000 in
theorem z52_4 {L : Nat} {xs : Nat → Int32} (hL : L ≤ 3072) {D : Nat} {x1 x2 x3 : Int} {J : zJ} {K : zK} {Q : zR → Nat → zJ → zK → Prop}
  (h : zin x3 ∧ zin (J 40 0 0) ∧ ((J 40 0 0) ≤ x3 → Q (.inl (some (zi x2))) 0 J K) ∧ (x3 < (J 40 0 0) → zCall L xs D 51 [zr 101, zi x1, zi x3] J K fun r1 e1 J1 K1 => zaI r1 e1 (fun x1_ => zin x2 ∧ zin x1_ ∧ 1 ≤ D + 1 ∧ zGo L xs (D + 1) 52 4 [some (zr 101), some (zi x1), some (zi (if x2 < x1_ then x1_ else x2)), some (zi (x3 + 1))] [] J1 K1 Q) (fun E => Q (.inr E) e1 J1 K1))) :
  zGo L xs (D + 1) 52 4 [some (zr 101), some (zi x1), some (zi x2), some (zi x3)] [] J K Q :=
  zrun_ok (T := mct52) (o := 3) (ret := (some FieldType.int)) (hs := [(4, [])]) hL rfl 14 _ _ _ _ _ _ _ h
/-! PartingTrains$Judge.worthOfAll -/
set_option maxRecDepth 30000 in
theorem z53 {L : Nat} {xs : Nat → Int32} (hL : L ≤ 3072) {D : Nat} {J : zJ} {K : zK} {Q : zR → Nat → zJ → zK → Prop}
  (h : zGo L xs (D + 1) 53 4 [some (zr 101), some (zi 0), some (zi 0)] [] J K Q) :
  zCall L xs (D + 1) 53 [zr 101] J K Q :=
  zrun_ok (T := mct53) (o := 3) (ret := (some FieldType.int)) (hs := [(4, [])]) hL rfl 4 _ _ _ _ _ _ _ h
set_option maxRecDepth 30000 in
theorem z53_4 {L : Nat} {xs : Nat → Int32} (hL : L ≤ 3072) {D : Nat} {x1 x2 : Int} {J : zJ} {K : zK} {Q : zR → Nat → zJ → zK → Prop}
  (h : zin x2 ∧ zin (J 18 0 14) ∧ ((J 18 0 14) ≤ x2 → Q (.inl (some (zi x1))) 0 J K) ∧ (x2 < (J 18 0 14) → zCall L xs D 52 [zr 101, zi x2] J K fun r1 e1 J1 K1 => zaI r1 e1 (fun x1_ => zGo L xs (D + 1) 53 4 [some (zr 101), some (zi (x1 + x1_)), some (zi (x2 + 1))] [] J1 K1 Q) (fun E => Q (.inr E) e1 J1 K1))) :
  zGo L xs (D + 1) 53 4 [some (zr 101), some (zi x1), some (zi x2)] [] J K Q :=
  zrun_ok (T := mct53) (o := 3) (ret := (some FieldType.int)) (hs := [(4, [])]) hL rfl 13 _ _ _ _ _ _ _ h
/-! PartingTrains$Land.allPortions -/
set_option maxRecDepth 30000 in
theorem z55 {L : Nat} {xs : Nat → Int32} (hL : L ≤ 3072) {D : Nat} {J : zJ} {K : zK} {Q : zR → Nat → zJ → zK → Prop}
  (h : 0 ≤ (J 18 0 6) ∧ (J 18 0 6) < 32 ∧ Q (.inl (some (zi ((1 * 2 ^ ((J 18 0 6).toNat)) - 1)))) 0 J K) :
  zCall L xs (D + 1) 55 [zr 18] J K Q :=
  zrun_ok (T := mct55) (o := 4) (ret := (some FieldType.int)) (hs := []) hL rfl 7 _ _ _ _ _ _ _ h
/-! PartingTrains$Land.copyFrom -/
set_option maxRecDepth 30000 in
theorem z56 {L : Nat} {xs : Nat → Int32} (hL : L ≤ 3072) {D : Nat} {J : zJ} {K : zK} {Q : zR → Nat → zJ → zK → Prop}
  (h : 1 ≤ D + 1 ∧ 0 ≤ (0 : Int) ∧ 0 ≤ (0 : Int) ∧ 0 ≤ (12 : Int) ∧ (0 : Int) + (12 : Int) ≤ 12 ∧ (0 : Int) + (12 : Int) ≤ 12 ∧ 1 ≤ D + 1 ∧ 0 ≤ (0 : Int) ∧ 0 ≤ (0 : Int) ∧ 0 ≤ (12 : Int) ∧ (0 : Int) + (12 : Int) ≤ 12 ∧ (0 : Int) + (12 : Int) ≤ 12 ∧ 1 ≤ D + 1 ∧ 0 ≤ (0 : Int) ∧ 0 ≤ (0 : Int) ∧ 0 ≤ (12 : Int) ∧ (0 : Int) + (12 : Int) ≤ 12 ∧ (0 : Int) + (12 : Int) ≤ 12 ∧ 1 ≤ D + 1 ∧ 0 ≤ (0 : Int) ∧ 0 ≤ (0 : Int) ∧ 0 ≤ (12 : Int) ∧ (0 : Int) + (12 : Int) ≤ 12 ∧ (0 : Int) + (12 : Int) ≤ 12 ∧ 1 ≤ D + 1 ∧ 0 ≤ (0 : Int) ∧ 0 ≤ (0 : Int) ∧ 0 ≤ (12 : Int) ∧ (0 : Int) + (12 : Int) ≤ 12 ∧ (0 : Int) + (12 : Int) ≤ 12 ∧ 1 ≤ D + 1 ∧ 0 ≤ (0 : Int) ∧ 0 ≤ (0 : Int) ∧ 0 ≤ (7 : Int) ∧ (0 : Int) + (7 : Int) ≤ 7 ∧ (0 : Int) + (7 : Int) ≤ 7 ∧ 1 ≤ D + 1 ∧ 0 ≤ (0 : Int) ∧ 0 ≤ (0 : Int) ∧ 0 ≤ (7 : Int) ∧ (0 : Int) + (7 : Int) ≤ 7 ∧ (0 : Int) + (7 : Int) ≤ 7 ∧ 1 ≤ D + 1 ∧ 0 ≤ (0 : Int) ∧ 0 ≤ (0 : Int) ∧ 0 ≤ (7 : Int) ∧ (0 : Int) + (7 : Int) ≤ 7 ∧ (0 : Int) + (7 : Int) ≤ 7 ∧ 1 ≤ D + 1 ∧ 0 ≤ (0 : Int) ∧ 0 ≤ (0 : Int) ∧ 0 ≤ (7 : Int) ∧ (0 : Int) + (7 : Int) ≤ 7 ∧ (0 : Int) + (7 : Int) ≤ 7 ∧ 1 ≤ D + 1 ∧ 0 ≤ (0 : Int) ∧ 0 ≤ (0 : Int) ∧ 0 ≤ (8 : Int) ∧ (0 : Int) + (8 : Int) ≤ 8 ∧ (0 : Int) + (8 : Int) ≤ 8 ∧ 1 ≤ D + 1 ∧ 0 ≤ (0 : Int) ∧ 0 ≤ (0 : Int) ∧ 0 ≤ (8 : Int) ∧ (0 : Int) + (8 : Int) ≤ 8 ∧ (0 : Int) + (8 : Int) ≤ 8 ∧ 1 ≤ D + 1 ∧ 0 ≤ (0 : Int) ∧ 0 ≤ (0 : Int) ∧ 0 ≤ (12 : Int) ∧ (0 : Int) + (12 : Int) ≤ 12 ∧ (0 : Int) + (12 : Int) ≤ 12 ∧ 1 ≤ D + 1 ∧ 0 ≤ (0 : Int) ∧ 0 ≤ (0 : Int) ∧ 0 ≤ (12 : Int) ∧ (0 : Int) + (12 : Int) ≤ 12 ∧ (0 : Int) + (12 : Int) ≤ 12 ∧ 1 ≤ D + 1 ∧ 0 ≤ (0 : Int) ∧ 0 ≤ (0 : Int) ∧ 0 ≤ (12 : Int) ∧ (0 : Int) + (12 : Int) ≤ 12 ∧ (0 : Int) + (12 : Int) ≤ 12 ∧ Q (.inl none) 0 (zcp (zcp (zcp (zcp (zcp (zcp (zcp (zcp (zcp (zcp (zcp (zcp (zcp (zcp (zup (zup (zup (zup J 18 0 0 (J 3 0 0)) 18 0 6 (J 3 0 6)) 18 0 11 (J 3 0 11)) 18 0 14 (J 3 0 14)) 4 19 0 0 12) 5 20 0 0 12) 6 21 0 0 12) 7 22 0 0 12) 8 23 0 0 12) 9 24 0 0 7) 10 25 0 0 7) 11 26 0 0 7) 12 27 0 0 7) 13 28 0 0 8) 14 29 0 0 8) 15 30 0 0 12) 16 31 0 0 12) 17 32 0 0 12) K) :
  zCall L xs (D + 1) 56 [zr 18, zr 3] J K Q :=
  zrun_ok (T := mct56) (o := 4) (ret := none) (hs := []) hL rfl 129 _ _ _ _ _ _ _ h
/-! PartingTrains$Land.forget -/
set_option maxRecDepth 30000 in
theorem z57 {L : Nat} {xs : Nat → Int32} (hL : L ≤ 3072) {D : Nat} {J : zJ} {K : zK} {Q : zR → Nat → zJ → zK → Prop}
  (h : zCall L xs D 315 [zr 7, zi 0] (zup (zup (zup (zup J 3 0 0 0) 3 0 6 0) 3 0 11 0) 3 0 14 0) K fun r1 e1 J1 K1 => zaV r1 e1 (zCall L xs D 315 [zr 8, zi 0] J1 K1 fun r2 e2 J2 K2 => zaV r2 e2 (zCall L xs D 315 [zr 11, zi 0] J2 K2 fun r3 e3 J3 K3 => zaV r3 e3 (zCall L xs D 315 [zr 12, zi 0] J3 K3 fun r4 e4 J4 K4 => zaV r4 e4 (Q (.inl none) 0 J4 K4) (fun E => Q (.inr E) e4 J4 K4)) (fun E => Q (.inr E) e3 J3 K3)) (fun E => Q (.inr E) e2 J2 K2)) (fun E => Q (.inr E) e1 J1 K1)) :
  zCall L xs (D + 1) 57 [zr 3] J K Q :=
  zrun_ok (T := mct57) (o := 4) (ret := none) (hs := []) hL rfl 29 _ _ _ _ _ _ _ h
/-! PartingTrains$Land.forkBits -/
set_option maxRecDepth 30000 in
theorem z58 {L : Nat} {xs : Nat → Int32} (hL : L ≤ 3072) {D : Nat} {J : zJ} {K : zK} {Q : zR → Nat → zJ → zK → Prop}
  (h : zGo L xs (D + 1) 58 4 [some (zr 18), some (zi 0), some (zi 0)] [] J K Q) :
  zCall L xs (D + 1) 58 [zr 18] J K Q :=
  zrun_ok (T := mct58) (o := 4) (ret := (some FieldType.int)) (hs := [(4, [])]) hL rfl 4 _ _ _ _ _ _ _ h
set_option maxRecDepth 30000 in
theorem z58_4 {L : Nat} {xs : Nat → Int32} (hL : L ≤ 3072) {D : Nat} {x1 x2 : Int} {J : zJ} {K : zK} {Q : zR → Nat → zJ → zK → Prop}
  (h : zin x2 ∧ zin (J 18 0 0) ∧ ((J 18 0 0) ≤ x2 → Q (.inl (some (zi x1))) 0 J K) ∧ (x2 < (J 18 0 0) → zCall L xs D 62 [zr 18, zi x2] J K fun r1 e1 J1 K1 => zaI r1 e1 (fun x1_ => zin x1_ ∧ (x1_ = (0 : Int) → zGo L xs (D + 1) 58 4 [some (zr 18), some (zi x1), some (zi (x2 + 1))] [] J1 K1 Q) ∧ (x1_ ≠ (0 : Int) → 0 ≤ x2 ∧ x2 < 32 ∧ zGo L xs (D + 1) 58 4 [some (zr 18), some (zi (zor x1 (1 * 2 ^ (x2.toNat)))), some (zi (x2 + 1))] [] J1 K1 Q)) (fun E => Q (.inr E) e1 J1 K1))) :
  zGo L xs (D + 1) 58 4 [some (zr 18), some (zi x1), some (zi x2)] [] J K Q :=
  zrun_ok (T := mct58) (o := 4) (ret := (some FieldType.int)) (hs := [(4, [])]) hL rfl 16 _ _ _ _ _ _ _ h
/-! PartingTrains$Land.freeEngine -/
set_option maxRecDepth 30000 in
theorem z59 {L : Nat} {xs : Nat → Int32} (hL : L ≤ 3072) {D : Nat} {x1 x2 x3 : Int} {J : zJ} {K : zK} {Q : zR → Nat → zJ → zK → Prop}
  (h : zGo L xs (D + 1) 59 3 [some (zr 18), some (zi x1), some (zi x2), some (zi x3), some (zi 0)] [] J K Q) :
  zCall L xs (D + 1) 59 [zr 18, zi x1, zi x2, zi x3] J K Q :=
  zrun_ok (T := mct59) (o := 4) (ret := (some FieldType.int)) (hs := [(3, [])]) hL rfl 2 _ _ _ _ _ _ _ h
set_option maxRecDepth 30000 in
theorem z59_3 {L : Nat} {xs : Nat → Int32} (hL : L ≤ 3072) {D : Nat} {x1 x2 x3 x4 : Int} {J : zJ} {K : zK} {Q : zR → Nat → zJ → zK → Prop}
  (h : zin x4 ∧ zin (J 18 0 11) ∧ ((J 18 0 11) ≤ x4 → Q (.inl (some (zi (-1)))) 0 J K) ∧ (x4 < (J 18 0 11) → 0 ≤ x4 ∧ x4 < 8 ∧ zin (J 28 0 x4) ∧ zin x1 ∧ ((J 28 0 x4) ≠ x1 → zGo L xs (D + 1) 59 3 [some (zr 18), some (zi x1), some (zi x2), some (zi x3), some (zi (x4 + 1))] [] J K Q) ∧ ((J 28 0 x4) = x1 → zin x3 ∧ 0 ≤ x4 ∧ x4 < 32 ∧ zin (zand (x3 / 2 ^ (x4.toNat)) 1) ∧ ((zand (x3 / 2 ^ (x4.toNat)) 1) ≠ (0 : Int) → zGo L xs (D + 1) 59 3 [some (zr 18), some (zi x1), some (zi x2), some (zi x3), some (zi (x4 + 1))] [] J K Q) ∧ ((zand (x3 / 2 ^ (x4.toNat)) 1) = (0 : Int) → 0 ≤ x4 ∧ x4 < 8 ∧ zin (J 29 0 x4) ∧ zin x2 ∧ ((J 29 0 x4) < x2 → zGo L xs (D + 1) 59 3 [some (zr 18), some (zi x1), some (zi x2), some (zi x3), some (zi (x4 + 1))] [] J K Q) ∧ (x2 ≤ (J 29 0 x4) → Q (.inl (some (zi x4))) 0 J K))))) :
  zGo L xs (D + 1) 59 3 [some (zr 18), some (zi x1), some (zi x2), some (zi x3), some (zi x4)] [] J K Q :=
  zrun_ok (T := mct59) (o := 4) (ret := (some FieldType.int)) (hs := [(3, [])]) hL rfl 24 _ _ _ _ _ _ _ h
/-! PartingTrains$Land.fullWorth -/
set_option maxRecDepth 30000 in
theorem z60 {L : Nat} {xs : Nat → Int32} (hL : L ≤ 3072) {D : Nat} {x1 x2 : Int} {J : zJ} {K : zK} {Q : zR → Nat → zJ → zK → Prop}
  (h : 0 ≤ x1 ∧ x1 < 12 ∧ zin (x2 - (J 32 0 x1)) ∧ 1 ≤ D + 1 ∧ 0 ≤ (if 0 ≤ (x2 - (J 32 0 x1)) then (x2 - (J 32 0 x1)) else 0 - (x2 - (J 32 0 x1))) ∧ (if 0 ≤ (x2 - (J 32 0 x1)) then (x2 - (J 32 0 x1)) else 0 - (x2 - (J 32 0 x1))) < 2147483648 ∧ 0 < (10 : Int) ∧ (10 : Int) < 2147483648 ∧ zin 90 ∧ zin ((if 0 ≤ (x2 - (J 32 0 x1)) then (x2 - (J 32 0 x1)) else 0 - (x2 - (J 32 0 x1))) / 10) ∧ 1 ≤ D + 1 ∧ 0 ≤ x1 ∧ x1 < 12 ∧ Q (.inl (some (zi ((J 31 0 x1) * (100 - (if ((if 0 ≤ (x2 - (J 32 0 x1)) then (x2 - (J 32 0 x1)) else 0 - (x2 - (J 32 0 x1))) / 10) < 90 then ((if 0 ≤ (x2 - (J 32 0 x1)) then (x2 - (J 32 0 x1)) else 0 - (x2 - (J 32 0 x1))) / 10) else 90)))))) 0 J K) :
  zCall L xs (D + 1) 60 [zr 18, zi x1, zi x2] J K Q :=
  zrun_ok (T := mct60) (o := 4) (ret := (some FieldType.int)) (hs := []) hL rfl 21 _ _ _ _ _ _ _ h
/-! PartingTrains$Land.hasPlace -/
set_option maxRecDepth 30000 in
theorem z61 {L : Nat} {xs : Nat → Int32} (hL : L ≤ 3072) {D : Nat} {x1 : Int} {J : zJ} {K : zK} {Q : zR → Nat → zJ → zK → Prop}
  (h : zin x1 ∧ (x1 < (0 : Int) → ((0 : Int) = 0 ∨ (0 : Int) = 1) ∧ Q (.inl (some (zi 0))) 0 J K) ∧ ((0 : Int) ≤ x1 → zin x1 ∧ zin (J 18 0 0) ∧ ((J 18 0 0) ≤ x1 → ((0 : Int) = 0 ∨ (0 : Int) = 1) ∧ Q (.inl (some (zi 0))) 0 J K) ∧ (x1 < (J 18 0 0) → ((1 : Int) = 0 ∨ (1 : Int) = 1) ∧ Q (.inl (some (zi 1))) 0 J K))) :
  zCall L xs (D + 1) 61 [zr 18, zi x1] J K Q :=
  zrun_ok (T := mct61) (o := 4) (ret := (some FieldType.boolean)) (hs := []) hL rfl 9 _ _ _ _ _ _ _ h
/-! PartingTrains$Land.isFork -/
set_option maxRecDepth 30000 in
theorem z62 {L : Nat} {xs : Nat → Int32} (hL : L ≤ 3072) {D : Nat} {x1 : Int} {J : zJ} {K : zK} {Q : zR → Nat → zJ → zK → Prop}
  (h : 0 ≤ x1 ∧ x1 < 12 ∧ zin (J 22 0 x1) ∧ ((J 22 0 x1) ≤ (0 : Int) → ((0 : Int) = 0 ∨ (0 : Int) = 1) ∧ Q (.inl (some (zi 0))) 0 J K) ∧ ((0 : Int) < (J 22 0 x1) → ((1 : Int) = 0 ∨ (1 : Int) = 1) ∧ Q (.inl (some (zi 1))) 0 J K)) :
  zCall L xs (D + 1) 62 [zr 18, zi x1] J K Q :=
  zrun_ok (T := mct62) (o := 4) (ret := (some FieldType.boolean)) (hs := []) hL rfl 8 _ _ _ _ _ _ _ h
/-! PartingTrains$Land.peopleTo -/
set_option maxRecDepth 30000 in
theorem z63 {L : Nat} {xs : Nat → Int32} (hL : L ≤ 3072) {D : Nat} {x1 : Int} {J : zJ} {K : zK} {Q : zR → Nat → zJ → zK → Prop}
  (h : zGo L xs (D + 1) 63 4 [some (zr 18), some (zi x1), some (zi 0), some (zi 0)] [] J K Q) :
  zCall L xs (D + 1) 63 [zr 18, zi x1] J K Q :=
  zrun_ok (T := mct63) (o := 4) (ret := (some FieldType.int)) (hs := [(4, [])]) hL rfl 4 _ _ _ _ _ _ _ h
set_option maxRecDepth 30000 in
theorem z63_4 {L : Nat} {xs : Nat → Int32} (hL : L ≤ 3072) {D : Nat} {x1 x2 x3 : Int} {J : zJ} {K : zK} {Q : zR → Nat → zJ → zK → Prop}
  (h : zin x3 ∧ zin (J 18 0 14) ∧ ((J 18 0 14) ≤ x3 → Q (.inl (some (zi x2))) 0 J K) ∧ (x3 < (J 18 0 14) → 0 ≤ x3 ∧ x3 < 12 ∧ zin x1 ∧ 0 ≤ (J 30 0 x3) ∧ (J 30 0 x3) < 32 ∧ zin (zand (x1 / 2 ^ ((J 30 0 x3).toNat)) 1) ∧ ((zand (x1 / 2 ^ ((J 30 0 x3).toNat)) 1) = (0 : Int) → zGo L xs (D + 1) 63 4 [some (zr 18), some (zi x1), some (zi x2), some (zi (x3 + 1))] [] J K Q) ∧ ((zand (x1 / 2 ^ ((J 30 0 x3).toNat)) 1) ≠ (0 : Int) → 0 ≤ x3 ∧ x3 < 12 ∧ zGo L xs (D + 1) 63 4 [some (zr 18), some (zi x1), some (zi (x2 + (J 31 0 x3))), some (zi (x3 + 1))] [] J K Q))) :
  zGo L xs (D + 1) 63 4 [some (zr 18), some (zi x1), some (zi x2), some (zi x3)] [] J K Q :=
  zrun_ok (T := mct63) (o := 4) (ret := (some FieldType.int)) (hs := [(4, [])]) hL rfl 22 _ _ _ _ _ _ _ h
/-! PartingTrains$Orders.factorial -/
set_option maxRecDepth 30000 in
theorem z65 {L : Nat} {xs : Nat → Int32} (hL : L ≤ 3072) {D : Nat} {x1 : Int} {J : zJ} {K : zK} {Q : zR → Nat → zJ → zK → Prop}
  (h : zGo L xs (D + 1) 65 4 [none, some (zi x1), some (zi 1), some (zi 2)] [] J K Q) :
  zCall L xs (D + 1) 65 [zr 89, zi x1] J K Q :=
  zrun_ok (T := mct65) (o := 5) (ret := (some FieldType.int)) (hs := [(4, [0])]) hL rfl 4 _ _ _ _ _ _ _ h
set_option maxRecDepth 30000 in
theorem z65_4 {L : Nat} {xs : Nat → Int32} (hL : L ≤ 3072) {D : Nat} {x1 x2 x3 : Int} {J : zJ} {K : zK} {Q : zR → Nat → zJ → zK → Prop}
  (h : zin x3 ∧ zin x1 ∧ (x1 < x3 → Q (.inl (some (zi x2))) 0 J K) ∧ (x3 ≤ x1 → zGo L xs (D + 1) 65 4 [none, some (zi x1), some (zi (x2 * x3)), some (zi (x3 + 1))] [] J K Q)) :
  zGo L xs (D + 1) 65 4 [none, some (zi x1), some (zi x2), some (zi x3)] [] J K Q :=
  zrun_ok (T := mct65) (o := 5) (ret := (some FieldType.int)) (hs := [(4, [0])]) hL rfl 9 _ _ _ _ _ _ _ h
/-! PartingTrains$Orders.findHeads -/
set_option maxRecDepth 30000 in
theorem z66 {L : Nat} {xs : Nat → Int32} (hL : L ≤ 3072) {D : Nat} {x1 : Int} {J : zJ} {K : zK} {Q : zR → Nat → zJ → zK → Prop}
  (h : zGo L xs (D + 1) 66 2 [some (zr 89), some (zi x1), some (zi 0), none] [] J K Q) :
  zCall L xs (D + 1) 66 [zr 89, zi x1] J K Q :=
  zrun_ok (T := mct66) (o := 5) (ret := none) (hs := [(2, [3]), (37, [3])]) hL rfl 2 _ _ _ _ _ _ _ h
set_option maxRecDepth 30000 in
theorem z66_2 {L : Nat} {xs : Nat → Int32} (hL : L ≤ 3072) {D : Nat} {x1 x2 : Int} {J : zJ} {K : zK} {Q : zR → Nat → zJ → zK → Prop}
  (h : zin x2 ∧ zin (J 18 0 0) ∧ ((J 18 0 0) ≤ x2 → zGo L xs (D + 1) 66 37 [some (zr 89), some (zi x1), some (zi ((J 18 0 0) - 1)), none] [] J K Q) ∧ (x2 < (J 18 0 0) → 0 ≤ x2 ∧ x2 < 12 ∧ zGo L xs (D + 1) 66 2 [some (zr 89), some (zi x1), some (zi (x2 + 1)), none] [] (zup J 90 0 x2 7) K Q)) :
  zGo L xs (D + 1) 66 2 [some (zr 89), some (zi x1), some (zi x2), none] [] J K Q :=
  zrun_ok (T := mct66) (o := 5) (ret := none) (hs := [(2, [3]), (37, [3])]) hL rfl 12 _ _ _ _ _ _ _ h
set_option maxRecDepth 30000 in
theorem z66_37 {L : Nat} {xs : Nat → Int32} (hL : L ≤ 3072) {D : Nat} {x1 x2 : Int} {J : zJ} {K : zK} {Q : zR → Nat → zJ → zK → Prop}
  (h : zin x2 ∧ (x2 < (0 : Int) → Q (.inl none) 0 J K) ∧ ((0 : Int) ≤ x2 → 0 ≤ x2 ∧ x2 < 12 ∧ zin (J 90 0 x2) ∧ zin 7 ∧ ((J 90 0 x2) ≠ (7 : Int) → 0 ≤ x2 ∧ x2 < 12 ∧ zin x2 ∧ (x2 ≤ (0 : Int) → zGo L xs (D + 1) 66 37 [some (zr 89), some (zi x1), some (zi (x2 + (-1))), none] [] J K Q) ∧ ((0 : Int) < x2 → 0 ≤ x2 ∧ x2 < 12 ∧ 0 ≤ (J 19 0 x2) ∧ (J 19 0 x2) < 12 ∧ zin (J 90 0 x2) ∧ zin (J 90 0 (J 19 0 x2)) ∧ ((J 90 0 (J 19 0 x2)) ≤ (J 90 0 x2) → zGo L xs (D + 1) 66 37 [some (zr 89), some (zi x1), some (zi (x2 + (-1))), none] [] J K Q) ∧ ((J 90 0 x2) < (J 90 0 (J 19 0 x2)) → 0 ≤ x2 ∧ x2 < 12 ∧ 0 ≤ (J 19 0 x2) ∧ (J 19 0 x2) < 12 ∧ zGo L xs (D + 1) 66 37 [some (zr 89), some (zi x1), some (zi (x2 + (-1))), none] [] (zup J 90 0 (J 19 0 x2) (J 90 0 x2)) K Q))) ∧ ((J 90 0 x2) = (7 : Int) → 0 ≤ x2 ∧ x2 < 12 ∧ zCall L xs D 71 [zr 89, zi (zand x1 (J 38 0 x2))] J K fun r1 e1 J1 K1 => zaI r1 e1 (fun x1_ => 0 ≤ x2 ∧ x2 < 12 ∧ 0 ≤ x2 ∧ x2 < 12 ∧ zin x2 ∧ (x2 ≤ (0 : Int) → zGo L xs (D + 1) 66 37 [some (zr 89), some (zi x1), some (zi (x2 + (-1))), none] [] (zup J1 90 0 x2 x1_) K1 Q) ∧ ((0 : Int) < x2 → 0 ≤ x2 ∧ x2 < 12 ∧ 0 ≤ (J1 19 0 x2) ∧ (J1 19 0 x2) < 12 ∧ zin ((zup J1 90 0 x2 x1_) 90 0 x2) ∧ zin ((zup J1 90 0 x2 x1_) 90 0 (J1 19 0 x2)) ∧ (((zup J1 90 0 x2 x1_) 90 0 (J1 19 0 x2)) ≤ ((zup J1 90 0 x2 x1_) 90 0 x2) → zGo L xs (D + 1) 66 37 [some (zr 89), some (zi x1), some (zi (x2 + (-1))), none] [] (zup J1 90 0 x2 x1_) K1 Q) ∧ (((zup J1 90 0 x2 x1_) 90 0 x2) < ((zup J1 90 0 x2 x1_) 90 0 (J1 19 0 x2)) → 0 ≤ x2 ∧ x2 < 12 ∧ 0 ≤ (J1 19 0 x2) ∧ (J1 19 0 x2) < 12 ∧ zGo L xs (D + 1) 66 37 [some (zr 89), some (zi x1), some (zi (x2 + (-1))), none] [] (zup (zup J1 90 0 x2 x1_) 90 0 (J1 19 0 x2) ((zup J1 90 0 x2 x1_) 90 0 x2)) K1 Q))) (fun E => Q (.inr E) e1 J1 K1)))) :
  zGo L xs (D + 1) 66 37 [some (zr 89), some (zi x1), some (zi x2), none] [] J K Q :=
  zrun_ok (T := mct66) (o := 5) (ret := none) (hs := [(2, [3]), (37, [3])]) hL rfl 48 _ _ _ _ _ _ _ h
/-! PartingTrains$Orders.firstInto -/
set_option maxRecDepth 30000 in
theorem z67 {L : Nat} {xs : Nat → Int32} (hL : L ≤ 3072) {D : Nat} {x1 x3 : Int} {J : zJ} {K : zK} {Q : zR → Nat → zJ → zK → Prop}
  (h : zCall L xs D 66 [zr 89, zi x1] J K fun r1 e1 J1 K1 => zaV r1 e1 (0 ≤ (0 : Int) ∧ (0 : Int) < 12 ∧ zGo L xs (D + 1) 67 15 [some (zr 89), some (zi x1), some (zr 141), none, some (zi 0), none] [] (zup J1 91 0 0 x3) K1 Q) (fun E => Q (.inr E) e1 J1 K1)) :
  zCall L xs (D + 1) 67 [zr 89, zi x1, zr 141, zi x3] J K Q :=
  zrun_ok (T := mct67) (o := 5) (ret := none) (hs := [(15, [3, 5])]) hL rfl 10 _ _ _ _ _ _ _ h
set_option maxRecDepth 30000 in
theorem z67_15 {L : Nat} {xs : Nat → Int32} (hL : L ≤ 3072) {D : Nat} {x1 x4 : Int} {J : zJ} {K : zK} {Q : zR → Nat → zJ → zK → Prop}
  (h : zin x4 ∧ zin (J 18 0 0) ∧ ((J 18 0 0) ≤ x4 → Q (.inl none) 0 J K) ∧ (x4 < (J 18 0 0) → 0 ≤ x4 ∧ x4 < 12 ∧ zin (zand x1 (J 37 0 x4)) ∧ ((zand x1 (J 37 0 x4)) = (0 : Int) → zGo L xs (D + 1) 67 15 [some (zr 89), some (zi x1), some (zr 141), none, some (zi (x4 + 1)), none] [] J K Q) ∧ ((zand x1 (J 37 0 x4)) ≠ (0 : Int) → zCall L xs D 72 [zr 89, zi x1, zi x4] J K fun r1 e1 J1 K1 => zaI r1 e1 (fun x1_ => 0 ≤ x4 ∧ x4 < 12 ∧ zCall L xs D 73 [zr 89, zi (zand x1 (J1 38 0 x4)), zr 141, zi x1_] J1 K1 fun r2 e2 J2 K2 => zaV r2 e2 (zGo L xs (D + 1) 67 15 [some (zr 89), some (zi x1), some (zr 141), none, some (zi (x4 + 1)), none] [] J2 K2 Q) (fun E => Q (.inr E) e2 J2 K2)) (fun E => Q (.inr E) e1 J1 K1)))) :
  zGo L xs (D + 1) 67 15 [some (zr 89), some (zi x1), some (zr 141), none, some (zi x4), none] [] J K Q :=
  zrun_ok (T := mct67) (o := 5) (ret := none) (hs := [(15, [3, 5])]) hL rfl 31 _ _ _ _ _ _ _ h
/-! PartingTrains$Orders.firstInto -/
set_option maxRecDepth 30000 in
theorem z67a {L : Nat} {xs : Nat → Int32} (hL : L ≤ 3072) {D : Nat} {x1 x3 : Int} {J : zJ} {K : zK} {Q : zR → Nat → zJ → zK → Prop}
  (h : zCall L xs D 66 [zr 89, zi x1] J K fun r1 e1 J1 K1 => zaV r1 e1 (0 ≤ (0 : Int) ∧ (0 : Int) < 12 ∧ zGo L xs (D + 1) 67 15 [some (zr 89), some (zi x1), some (zr 43), none, some (zi 0), none] [] (zup J1 91 0 0 x3) K1 Q) (fun E => Q (.inr E) e1 J1 K1)) :
  zCall L xs (D + 1) 67 [zr 89, zi x1, zr 43, zi x3] J K Q :=
  zrun_ok (T := mct67) (o := 5) (ret := none) (hs := [(15, [3, 5])]) hL rfl 10 _ _ _ _ _ _ _ h
set_option maxRecDepth 30000 in
theorem z67a_15 {L : Nat} {xs : Nat → Int32} (hL : L ≤ 3072) {D : Nat} {x1 x4 : Int} {J : zJ} {K : zK} {Q : zR → Nat → zJ → zK → Prop}
  (h : zin x4 ∧ zin (J 18 0 0) ∧ ((J 18 0 0) ≤ x4 → Q (.inl none) 0 J K) ∧ (x4 < (J 18 0 0) → 0 ≤ x4 ∧ x4 < 12 ∧ zin (zand x1 (J 37 0 x4)) ∧ ((zand x1 (J 37 0 x4)) = (0 : Int) → zGo L xs (D + 1) 67 15 [some (zr 89), some (zi x1), some (zr 43), none, some (zi (x4 + 1)), none] [] J K Q) ∧ ((zand x1 (J 37 0 x4)) ≠ (0 : Int) → zCall L xs D 72 [zr 89, zi x1, zi x4] J K fun r1 e1 J1 K1 => zaI r1 e1 (fun x1_ => 0 ≤ x4 ∧ x4 < 12 ∧ zCall L xs D 73 [zr 89, zi (zand x1 (J1 38 0 x4)), zr 43, zi x1_] J1 K1 fun r2 e2 J2 K2 => zaV r2 e2 (zGo L xs (D + 1) 67 15 [some (zr 89), some (zi x1), some (zr 43), none, some (zi (x4 + 1)), none] [] J2 K2 Q) (fun E => Q (.inr E) e2 J2 K2)) (fun E => Q (.inr E) e1 J1 K1)))) :
  zGo L xs (D + 1) 67 15 [some (zr 89), some (zi x1), some (zr 43), none, some (zi x4), none] [] J K Q :=
  zrun_ok (T := mct67) (o := 5) (ret := none) (hs := [(15, [3, 5])]) hL rfl 31 _ _ _ _ _ _ _ h
/-! PartingTrains$Orders.firstInto -/
set_option maxRecDepth 30000 in
theorem z67b {L : Nat} {xs : Nat → Int32} (hL : L ≤ 3072) {D : Nat} {x1 x3 : Int} {J : zJ} {K : zK} {Q : zR → Nat → zJ → zK → Prop}
  (h : zCall L xs D 66 [zr 89, zi x1] J K fun r1 e1 J1 K1 => zaV r1 e1 (0 ≤ (0 : Int) ∧ (0 : Int) < 12 ∧ zGo L xs (D + 1) 67 15 [some (zr 89), some (zi x1), some (zr 115), none, some (zi 0), none] [] (zup J1 91 0 0 x3) K1 Q) (fun E => Q (.inr E) e1 J1 K1)) :
  zCall L xs (D + 1) 67 [zr 89, zi x1, zr 115, zi x3] J K Q :=
  zrun_ok (T := mct67) (o := 5) (ret := none) (hs := [(15, [3, 5])]) hL rfl 10 _ _ _ _ _ _ _ h
set_option maxRecDepth 30000 in
theorem z67b_15 {L : Nat} {xs : Nat → Int32} (hL : L ≤ 3072) {D : Nat} {x1 x4 : Int} {J : zJ} {K : zK} {Q : zR → Nat → zJ → zK → Prop}
  (h : zin x4 ∧ zin (J 18 0 0) ∧ ((J 18 0 0) ≤ x4 → Q (.inl none) 0 J K) ∧ (x4 < (J 18 0 0) → 0 ≤ x4 ∧ x4 < 12 ∧ zin (zand x1 (J 37 0 x4)) ∧ ((zand x1 (J 37 0 x4)) = (0 : Int) → zGo L xs (D + 1) 67 15 [some (zr 89), some (zi x1), some (zr 115), none, some (zi (x4 + 1)), none] [] J K Q) ∧ ((zand x1 (J 37 0 x4)) ≠ (0 : Int) → zCall L xs D 72 [zr 89, zi x1, zi x4] J K fun r1 e1 J1 K1 => zaI r1 e1 (fun x1_ => 0 ≤ x4 ∧ x4 < 12 ∧ zCall L xs D 73 [zr 89, zi (zand x1 (J1 38 0 x4)), zr 115, zi x1_] J1 K1 fun r2 e2 J2 K2 => zaV r2 e2 (zGo L xs (D + 1) 67 15 [some (zr 89), some (zi x1), some (zr 115), none, some (zi (x4 + 1)), none] [] J2 K2 Q) (fun E => Q (.inr E) e2 J2 K2)) (fun E => Q (.inr E) e1 J1 K1)))) :
  zGo L xs (D + 1) 67 15 [some (zr 89), some (zi x1), some (zr 115), none, some (zi x4), none] [] J K Q :=
  zrun_ok (T := mct67) (o := 5) (ret := none) (hs := [(15, [3, 5])]) hL rfl 31 _ _ _ _ _ _ _ h
/-! PartingTrains$Orders.groupWithHeadAbove -/
set_option maxRecDepth 30000 in
theorem z68 {L : Nat} {xs : Nat → Int32} (hL : L ≤ 3072) {D : Nat} {x1 x2 : Int} {J : zJ} {K : zK} {Q : zR → Nat → zJ → zK → Prop}
  (h : zGo L xs (D + 1) 68 11 [some (zr 89), some (zi x1), some (zi x2), some (zi x1), some (zi 7), some (zi (x1 + 1))] [] J K Q) :
  zCall L xs (D + 1) 68 [zr 89, zi x1, zi x2] J K Q :=
  zrun_ok (T := mct68) (o := 5) (ret := (some FieldType.int)) (hs := [(11, [])]) hL rfl 8 _ _ _ _ _ _ _ h
set_option maxRecDepth 30000 in
theorem z68_11 {L : Nat} {xs : Nat → Int32} (hL : L ≤ 3072) {D : Nat} {x1 x2 x3 x4 x5 : Int} {J : zJ} {K : zK} {Q : zR → Nat → zJ → zK → Prop}
  (h : zin x5 ∧ zin (J 18 0 0) ∧ ((J 18 0 0) ≤ x5 → Q (.inl (some (zi x3))) 0 J K) ∧ (x5 < (J 18 0 0) → 0 ≤ x5 ∧ x5 < 12 ∧ zin (J 19 0 x5) ∧ zin x1 ∧ ((J 19 0 x5) ≠ x1 → zGo L xs (D + 1) 68 11 [some (zr 89), some (zi x1), some (zi x2), some (zi x3), some (zi x4), some (zi (x5 + 1))] [] J K Q) ∧ ((J 19 0 x5) = x1 → 0 ≤ x5 ∧ x5 < 12 ∧ zin (J 90 0 x5) ∧ zin x2 ∧ ((J 90 0 x5) ≤ x2 → zGo L xs (D + 1) 68 11 [some (zr 89), some (zi x1), some (zi x2), some (zi x3), some (zi x4), some (zi (x5 + 1))] [] J K Q) ∧ (x2 < (J 90 0 x5) → 0 ≤ x5 ∧ x5 < 12 ∧ zin (J 90 0 x5) ∧ zin x4 ∧ (x4 ≤ (J 90 0 x5) → zGo L xs (D + 1) 68 11 [some (zr 89), some (zi x1), some (zi x2), some (zi x3), some (zi x4), some (zi (x5 + 1))] [] J K Q) ∧ ((J 90 0 x5) < x4 → 0 ≤ x5 ∧ x5 < 12 ∧ zGo L xs (D + 1) 68 11 [some (zr 89), some (zi x1), some (zi x2), some (zi x5), some (zi (J 90 0 x5)), some (zi (x5 + 1))] [] J K Q))))) :
  zGo L xs (D + 1) 68 11 [some (zr 89), some (zi x1), some (zi x2), some (zi x3), some (zi x4), some (zi x5)] [] J K Q :=
  zrun_ok (T := mct68) (o := 5) (ret := (some FieldType.int)) (hs := [(11, [])]) hL rfl 33 _ _ _ _ _ _ _ h
/-! PartingTrains$Orders.groupsAt -/
set_option maxRecDepth 30000 in
theorem z69 {L : Nat} {xs : Nat → Int32} (hL : L ≤ 3072) {D : Nat} {x1 x2 : Int} {J : zJ} {K : zK} {Q : zR → Nat → zJ → zK → Prop}
  (h : zGo L xs (D + 1) 69 7 [some (zr 89), some (zi x1), some (zi x2), some (zi 0), some (zi (x1 + 1))] [] J K Q) :
  zCall L xs (D + 1) 69 [zr 89, zi x1, zi x2] J K Q :=
  zrun_ok (T := mct69) (o := 5) (ret := (some FieldType.int)) (hs := [(7, [])]) hL rfl 6 _ _ _ _ _ _ _ h
set_option maxRecDepth 30000 in
theorem z69_7 {L : Nat} {xs : Nat → Int32} (hL : L ≤ 3072) {D : Nat} {x1 x2 x3 x4 : Int} {J : zJ} {K : zK} {Q : zR → Nat → zJ → zK → Prop}
  (h : zin x4 ∧ zin (J 18 0 0) ∧ ((J 18 0 0) ≤ x4 → Q (.inl (some (zi x3))) 0 J K) ∧ (x4 < (J 18 0 0) → 0 ≤ x4 ∧ x4 < 12 ∧ zin (J 19 0 x4) ∧ zin x1 ∧ ((J 19 0 x4) ≠ x1 → zGo L xs (D + 1) 69 7 [some (zr 89), some (zi x1), some (zi x2), some (zi x3), some (zi (x4 + 1))] [] J K Q) ∧ ((J 19 0 x4) = x1 → 0 ≤ x4 ∧ x4 < 12 ∧ zin (zand x2 (J 37 0 x4)) ∧ ((zand x2 (J 37 0 x4)) = (0 : Int) → zGo L xs (D + 1) 69 7 [some (zr 89), some (zi x1), some (zi x2), some (zi x3), some (zi (x4 + 1))] [] J K Q) ∧ ((zand x2 (J 37 0 x4)) ≠ (0 : Int) → zGo L xs (D + 1) 69 7 [some (zr 89), some (zi x1), some (zi x2), some (zi (x3 + 1)), some (zi (x4 + 1))] [] J K Q)))) :
  zGo L xs (D + 1) 69 7 [some (zr 89), some (zi x1), some (zi x2), some (zi x3), some (zi x4)] [] J K Q :=
  zrun_ok (T := mct69) (o := 5) (ret := (some FieldType.int)) (hs := [(7, [])]) hL rfl 23 _ _ _ _ _ _ _ h
/-! PartingTrains$Orders.howMany -/
set_option maxRecDepth 30000 in
theorem z70 {L : Nat} {xs : Nat → Int32} (hL : L ≤ 3072) {D : Nat} {x1 : Int} {J : zJ} {K : zK} {Q : zR → Nat → zJ → zK → Prop}
  (h : zGo L xs (D + 1) 70 4 [some (zr 89), some (zi x1), some (zi 1), some (zi 0)] [] J K Q) :
  zCall L xs (D + 1) 70 [zr 89, zi x1] J K Q :=
  zrun_ok (T := mct70) (o := 5) (ret := (some FieldType.int)) (hs := [(4, [])]) hL rfl 4 _ _ _ _ _ _ _ h
set_option maxRecDepth 30000 in
theorem z70_4 {L : Nat} {xs : Nat → Int32} (hL : L ≤ 3072) {D : Nat} {x1 x2 x3 : Int} {J : zJ} {K : zK} {Q : zR → Nat → zJ → zK → Prop}
  (h : zin x3 ∧ zin (J 18 0 0) ∧ ((J 18 0 0) ≤ x3 → Q (.inl (some (zi x2))) 0 J K) ∧ (x3 < (J 18 0 0) → 0 ≤ x3 ∧ x3 < 12 ∧ zCall L xs D 317 [zi (zand x1 (J 38 0 x3))] J K fun r1 e1 J1 K1 => zaI r1 e1 (fun x1_ => zCall L xs D 65 [zr 89, zi x1_] J1 K1 fun r2 e2 J2 K2 => zaI r2 e2 (fun x2_ => zCall L xs D 69 [zr 89, zi x3, zi x1] J2 K2 fun r3 e3 J3 K3 => zaI r3 e3 (fun x3_ => zCall L xs D 65 [zr 89, zi x3_] J3 K3 fun r4 e4 J4 K4 => zaI r4 e4 (fun x4_ => zGo L xs (D + 1) 70 4 [some (zr 89), some (zi x1), some (zi ((x2 * x2_) * x4_)), some (zi (x3 + 1))] [] J4 K4 Q) (fun E => Q (.inr E) e4 J4 K4)) (fun E => Q (.inr E) e3 J3 K3)) (fun E => Q (.inr E) e2 J2 K2)) (fun E => Q (.inr E) e1 J1 K1))) :
  zGo L xs (D + 1) 70 4 [some (zr 89), some (zi x1), some (zi x2), some (zi x3)] [] J K Q :=
  zrun_ok (T := mct70) (o := 5) (ret := (some FieldType.int)) (hs := [(4, [])]) hL rfl 29 _ _ _ _ _ _ _ h
/-! PartingTrains$Orders.leastOf -/
set_option maxRecDepth 30000 in
theorem z71 {L : Nat} {xs : Nat → Int32} (hL : L ≤ 3072) {D : Nat} {x1 : Int} {J : zJ} {K : zK} {Q : zR → Nat → zJ → zK → Prop}
  (h : zGo L xs (D + 1) 71 2 [none, some (zi x1), some (zi 0)] [] J K Q) :
  zCall L xs (D + 1) 71 [zr 89, zi x1] J K Q :=
  zrun_ok (T := mct71) (o := 5) (ret := (some FieldType.int)) (hs := [(2, [0])]) hL rfl 2 _ _ _ _ _ _ _ h
set_option maxRecDepth 30000 in
theorem z71_2 {L : Nat} {xs : Nat → Int32} (hL : L ≤ 3072) {D : Nat} {x1 x2 : Int} {J : zJ} {K : zK} {Q : zR → Nat → zJ → zK → Prop}
  (h : zin x2 ∧ zin 7 ∧ ((7 : Int) ≤ x2 → Q (.inl (some (zi 7))) 0 J K) ∧ (x2 < (7 : Int) → zin x1 ∧ 0 ≤ x2 ∧ x2 < 32 ∧ zin (zand (x1 / 2 ^ (x2.toNat)) 1) ∧ ((zand (x1 / 2 ^ (x2.toNat)) 1) = (0 : Int) → zGo L xs (D + 1) 71 2 [none, some (zi x1), some (zi (x2 + 1))] [] J K Q) ∧ ((zand (x1 / 2 ^ (x2.toNat)) 1) ≠ (0 : Int) → Q (.inl (some (zi x2))) 0 J K))) :
  zGo L xs (D + 1) 71 2 [none, some (zi x1), some (zi x2)] [] J K Q :=
  zrun_ok (T := mct71) (o := 5) (ret := (some FieldType.int)) (hs := [(2, [0])]) hL rfl 11 _ _ _ _ _ _ _ h
/-! PartingTrains$Orders.placeGroups -/
set_option maxRecDepth 30000 in
theorem z72 {L : Nat} {xs : Nat → Int32} (hL : L ≤ 3072) {D : Nat} {x1 x2 : Int} {J : zJ} {K : zK} {Q : zR → Nat → zJ → zK → Prop}
  (h : 0 ≤ x2 ∧ x2 < 12 ∧ zCall L xs D 69 [zr 89, zi x2, zi x1] J K fun r1 e1 J1 K1 => zaI r1 e1 (fun x1_ => zGo L xs (D + 1) 72 21 [some (zr 89), some (zi x1), some (zi x2), some (zi (J 91 0 x2)), some (zi x1_), some (zi (-1)), some (zi 0), none] [] J1 K1 Q) (fun E => Q (.inr E) e1 J1 K1)) :
  zCall L xs (D + 1) 72 [zr 89, zi x1, zi x2] J K Q :=
  zrun_ok (T := mct72) (o := 5) (ret := (some FieldType.int)) (hs := [(21, [7])]) hL rfl 14 _ _ _ _ _ _ _ h
set_option maxRecDepth 30000 in
theorem z72_21 {L : Nat} {xs : Nat → Int32} (hL : L ≤ 3072) {D : Nat} {x1 x2 x3 x4 x5 x6 : Int} {J : zJ} {K : zK} {Q : zR → Nat → zJ → zK → Prop}
  (h : zin x6 ∧ zin x4 ∧ (x4 ≤ x6 → Q (.inl (some (zi x3))) 0 J K) ∧ (x6 < x4 → zCall L xs D 68 [zr 89, zi x2, zi x5] J K fun r1 e1 J1 K1 => zaI r1 e1 (fun x1_ => 0 ≤ x1_ ∧ x1_ < 12 ∧ 0 ≤ x1_ ∧ x1_ < 12 ∧ 0 ≤ x1_ ∧ x1_ < 12 ∧ zCall L xs D 317 [zi (zand x1 (J1 37 0 x1_))] (zup J1 91 0 x1_ x3) K1 fun r2 e2 J2 K2 => zaI r2 e2 (fun x2_ => zGo L xs (D + 1) 72 21 [some (zr 89), some (zi x1), some (zi x2), some (zi (x3 + x2_)), some (zi x4), some (zi (J1 90 0 x1_)), some (zi (x6 + 1)), none] [] J2 K2 Q) (fun E => Q (.inr E) e2 J2 K2)) (fun E => Q (.inr E) e1 J1 K1))) :
  zGo L xs (D + 1) 72 21 [some (zr 89), some (zi x1), some (zi x2), some (zi x3), some (zi x4), some (zi x5), some (zi x6), none] [] J K Q :=
  zrun_ok (T := mct72) (o := 5) (ret := (some FieldType.int)) (hs := [(21, [7])]) hL rfl 31 _ _ _ _ _ _ _ h
/-! PartingTrains$Orders.writeStays -/
set_option maxRecDepth 30000 in
theorem z73 {L : Nat} {xs : Nat → Int32} (hL : L ≤ 3072) {D : Nat} {x1 x3 : Int} {J : zJ} {K : zK} {Q : zR → Nat → zJ → zK → Prop}
  (h : zGo L xs (D + 1) 73 6 [some (zr 89), some (zi x1), some (zr 141), none, some (zi x3), some (zi 0)] [] J K Q) :
  zCall L xs (D + 1) 73 [zr 89, zi x1, zr 141, zi x3] J K Q :=
  zrun_ok (T := mct73) (o := 5) (ret := none) (hs := [(6, [3])]) hL rfl 4 _ _ _ _ _ _ _ h
set_option maxRecDepth 30000 in
theorem z73_6 {L : Nat} {xs : Nat → Int32} (hL : L ≤ 3072) {D : Nat} {x1 x4 x5 : Int} {J : zJ} {K : zK} {Q : zR → Nat → zJ → zK → Prop}
  (h : zin x5 ∧ zin (J 18 0 6) ∧ ((J 18 0 6) ≤ x5 → Q (.inl none) 0 J K) ∧ (x5 < (J 18 0 6) → zin x1 ∧ 0 ≤ x5 ∧ x5 < 32 ∧ zin (zand (x1 / 2 ^ (x5.toNat)) 1) ∧ ((zand (x1 / 2 ^ (x5.toNat)) 1) = (0 : Int) → zGo L xs (D + 1) 73 6 [some (zr 89), some (zi x1), some (zr 141), none, some (zi x4), some (zi (x5 + 1))] [] J K Q) ∧ ((zand (x1 / 2 ^ (x5.toNat)) 1) ≠ (0 : Int) → 0 ≤ x4 ∧ x4 < 7 ∧ zGo L xs (D + 1) 73 6 [some (zr 89), some (zi x1), some (zr 141), none, some (zi (x4 + 1)), some (zi (x5 + 1))] [] (zup J 141 0 x4 x5) K Q))) :
  zGo L xs (D + 1) 73 6 [some (zr 89), some (zi x1), some (zr 141), none, some (zi x4), some (zi x5)] [] J K Q :=
  zrun_ok (T := mct73) (o := 5) (ret := none) (hs := [(6, [3])]) hL rfl 18 _ _ _ _ _ _ _ h
/-! PartingTrains$Orders.writeStays -/
set_option maxRecDepth 30000 in
theorem z73a {L : Nat} {xs : Nat → Int32} (hL : L ≤ 3072) {D : Nat} {x1 x3 : Int} {J : zJ} {K : zK} {Q : zR → Nat → zJ → zK → Prop}
  (h : zGo L xs (D + 1) 73 6 [some (zr 89), some (zi x1), some (zr 43), none, some (zi x3), some (zi 0)] [] J K Q) :
  zCall L xs (D + 1) 73 [zr 89, zi x1, zr 43, zi x3] J K Q :=
  zrun_ok (T := mct73) (o := 5) (ret := none) (hs := [(6, [3])]) hL rfl 4 _ _ _ _ _ _ _ h
set_option maxRecDepth 30000 in
theorem z73a_6 {L : Nat} {xs : Nat → Int32} (hL : L ≤ 3072) {D : Nat} {x1 x4 x5 : Int} {J : zJ} {K : zK} {Q : zR → Nat → zJ → zK → Prop}
  (h : zin x5 ∧ zin (J 18 0 6) ∧ ((J 18 0 6) ≤ x5 → Q (.inl none) 0 J K) ∧ (x5 < (J 18 0 6) → zin x1 ∧ 0 ≤ x5 ∧ x5 < 32 ∧ zin (zand (x1 / 2 ^ (x5.toNat)) 1) ∧ ((zand (x1 / 2 ^ (x5.toNat)) 1) = (0 : Int) → zGo L xs (D + 1) 73 6 [some (zr 89), some (zi x1), some (zr 43), none, some (zi x4), some (zi (x5 + 1))] [] J K Q) ∧ ((zand (x1 / 2 ^ (x5.toNat)) 1) ≠ (0 : Int) → 0 ≤ x4 ∧ x4 < 28 ∧ zGo L xs (D + 1) 73 6 [some (zr 89), some (zi x1), some (zr 43), none, some (zi (x4 + 1)), some (zi (x5 + 1))] [] (zup J 43 0 x4 x5) K Q))) :
  zGo L xs (D + 1) 73 6 [some (zr 89), some (zi x1), some (zr 43), none, some (zi x4), some (zi x5)] [] J K Q :=
  zrun_ok (T := mct73) (o := 5) (ret := none) (hs := [(6, [3])]) hL rfl 18 _ _ _ _ _ _ _ h
/-! PartingTrains$Orders.writeStays -/
set_option maxRecDepth 30000 in
theorem z73b {L : Nat} {xs : Nat → Int32} (hL : L ≤ 3072) {D : Nat} {x1 x3 : Int} {J : zJ} {K : zK} {Q : zR → Nat → zJ → zK → Prop}
  (h : zGo L xs (D + 1) 73 6 [some (zr 89), some (zi x1), some (zr 115), none, some (zi x3), some (zi 0)] [] J K Q) :
  zCall L xs (D + 1) 73 [zr 89, zi x1, zr 115, zi x3] J K Q :=
  zrun_ok (T := mct73) (o := 5) (ret := none) (hs := [(6, [3])]) hL rfl 4 _ _ _ _ _ _ _ h
set_option maxRecDepth 30000 in
theorem z73b_6 {L : Nat} {xs : Nat → Int32} (hL : L ≤ 3072) {D : Nat} {x1 x4 x5 : Int} {J : zJ} {K : zK} {Q : zR → Nat → zJ → zK → Prop}
  (h : zin x5 ∧ zin (J 18 0 6) ∧ ((J 18 0 6) ≤ x5 → Q (.inl none) 0 J K) ∧ (x5 < (J 18 0 6) → zin x1 ∧ 0 ≤ x5 ∧ x5 < 32 ∧ zin (zand (x1 / 2 ^ (x5.toNat)) 1) ∧ ((zand (x1 / 2 ^ (x5.toNat)) 1) = (0 : Int) → zGo L xs (D + 1) 73 6 [some (zr 89), some (zi x1), some (zr 115), none, some (zi x4), some (zi (x5 + 1))] [] J K Q) ∧ ((zand (x1 / 2 ^ (x5.toNat)) 1) ≠ (0 : Int) → 0 ≤ x4 ∧ x4 < 7 ∧ zGo L xs (D + 1) 73 6 [some (zr 89), some (zi x1), some (zr 115), none, some (zi (x4 + 1)), some (zi (x5 + 1))] [] (zup J 115 0 x4 x5) K Q))) :
  zGo L xs (D + 1) 73 6 [some (zr 89), some (zi x1), some (zr 115), none, some (zi x4), some (zi x5)] [] J K Q :=
  zrun_ok (T := mct73) (o := 5) (ret := none) (hs := [(6, [3])]) hL rfl 18 _ _ _ _ _ _ _ h
/-! PartingTrains$Plan.addJob -/
set_option maxRecDepth 30000 in
theorem z75 {L : Nat} {xs : Nat → Int32} (hL : L ≤ 3072) {D : Nat} {x1 x2 x3 x4 : Int} {J : zJ} {K : zK} {Q : zR → Nat → zJ → zK → Prop}
  (h : 0 ≤ (J 40 0 5) ∧ (J 40 0 5) < 14 ∧ 0 ≤ (J 40 0 5) ∧ (J 40 0 5) < 14 ∧ 0 ≤ (J 40 0 5) ∧ (J 40 0 5) < 14 ∧ 0 ≤ (J 40 0 5) ∧ (J 40 0 5) < 14 ∧ Q (.inl (some (zi (((J 40 0 5) + 1) - 1)))) 0 (zup (zup (zup (zup (zup J 45 0 (J 40 0 5) x1) 46 0 (J 40 0 5) x2) 47 0 (J 40 0 5) x3) 48 0 (J 40 0 5) x4) 40 0 5 ((J 40 0 5) + 1)) K) :
  zCall L xs (D + 1) 75 [zr 40, zi x1, zi x2, zi x3, zi x4] J K Q :=
  zrun_ok (T := mct75) (o := 6) (ret := (some FieldType.int)) (hs := []) hL rfl 35 _ _ _ _ _ _ _ h
/-! PartingTrains$Plan.addTrain -/
set_option maxRecDepth 30000 in
theorem z76 {L : Nat} {xs : Nat → Int32} (hL : L ≤ 3072) {D : Nat} {x1 : Int} {J : zJ} {K : zK} {Q : zR → Nat → zJ → zK → Prop}
  (h : 0 ≤ (J 40 0 0) ∧ (J 40 0 0) < 4 ∧ 0 ≤ (J 40 0 0) ∧ (J 40 0 0) < 4 ∧ Q (.inl (some (zi (((J 40 0 0) + 1) - 1)))) 0 (zup (zup (zup J 41 0 (J 40 0 0) x1) 42 0 (J 40 0 0) 0) 40 0 0 ((J 40 0 0) + 1)) K) :
  zCall L xs (D + 1) 76 [zr 40, zi x1] J K Q :=
  zrun_ok (T := mct76) (o := 6) (ret := (some FieldType.int)) (hs := []) hL rfl 23 _ _ _ _ _ _ _ h
/-! PartingTrains$Plan.append -/
set_option maxRecDepth 30000 in
theorem z77 {L : Nat} {xs : Nat → Int32} (hL : L ≤ 3072) {D : Nat} {x1 x2 : Int} {J : zJ} {K : zK} {Q : zR → Nat → zJ → zK → Prop}
  (h : 0 ≤ x1 ∧ x1 < 4 ∧ 0 ≤ ((x1 * 7) + (J 42 0 x1)) ∧ ((x1 * 7) + (J 42 0 x1)) < 28 ∧ 0 ≤ x1 ∧ x1 < 4 ∧ 0 ≤ x1 ∧ x1 < 4 ∧ 0 ≤ x2 ∧ x2 < 7 ∧ Q (.inl none) 0 (zup (zup (zup J 43 0 ((x1 * 7) + (J 42 0 x1)) x2) 42 0 x1 ((J 42 0 x1) + 1)) 44 0 x2 x1) K) :
  zCall L xs (D + 1) 77 [zr 40, zi x1, zi x2] J K Q :=
  zrun_ok (T := mct77) (o := 6) (ret := none) (hs := []) hL rfl 26 _ _ _ _ _ _ _ h
/-! PartingTrains$Plan.begin -/
set_option maxRecDepth 30000 in
theorem z78 {L : Nat} {xs : Nat → Int32} (hL : L ≤ 3072) {D : Nat} {J : zJ} {K : zK} {Q : zR → Nat → zJ → zK → Prop}
  (h : zCall L xs D 315 [zr 42, zi 0] (zup (zup (zup J 40 0 0 0) 40 0 5 0) 40 0 10 0) K fun r1 e1 J1 K1 => zaV r1 e1 (zCall L xs D 315 [zr 44, zi (-1)] J1 K1 fun r2 e2 J2 K2 => zaV r2 e2 (zCall L xs D 315 [zr 49, zi 0] J2 K2 fun r3 e3 J3 K3 => zaV r3 e3 (zCall L xs D 315 [zr 50, zi 127] J3 K3 fun r4 e4 J4 K4 => zaV r4 e4 (zCall L xs D 315 [zr 51, zi 1080] J4 K4 fun r5 e5 J5 K5 => zaV r5 e5 (Q (.inl none) 0 J5 K5) (fun E => Q (.inr E) e5 J5 K5)) (fun E => Q (.inr E) e4 J4 K4)) (fun E => Q (.inr E) e3 J3 K3)) (fun E => Q (.inr E) e2 J2 K2)) (fun E => Q (.inr E) e1 J1 K1)) :
  zCall L xs (D + 1) 78 [zr 40] J K Q :=
  zrun_ok (T := mct78) (o := 6) (ret := none) (hs := []) hL rfl 30 _ _ _ _ _ _ _ h
/-! PartingTrains$Plan.copyFrom -/
set_option maxRecDepth 30000 in
theorem z79 {L : Nat} {xs : Nat → Int32} (hL : L ≤ 3072) {D : Nat} {J : zJ} {K : zK} {Q : zR → Nat → zJ → zK → Prop}
  (h : 1 ≤ D + 1 ∧ 0 ≤ (0 : Int) ∧ 0 ≤ (0 : Int) ∧ 0 ≤ (4 : Int) ∧ (0 : Int) + (4 : Int) ≤ 4 ∧ (0 : Int) + (4 : Int) ≤ 4 ∧ 1 ≤ D + 1 ∧ 0 ≤ (0 : Int) ∧ 0 ≤ (0 : Int) ∧ 0 ≤ (4 : Int) ∧ (0 : Int) + (4 : Int) ≤ 4 ∧ (0 : Int) + (4 : Int) ≤ 4 ∧ 1 ≤ D + 1 ∧ 0 ≤ (0 : Int) ∧ 0 ≤ (0 : Int) ∧ 0 ≤ (28 : Int) ∧ (0 : Int) + (28 : Int) ≤ 28 ∧ (0 : Int) + (28 : Int) ≤ 28 ∧ 1 ≤ D + 1 ∧ 0 ≤ (0 : Int) ∧ 0 ≤ (0 : Int) ∧ 0 ≤ (7 : Int) ∧ (0 : Int) + (7 : Int) ≤ 7 ∧ (0 : Int) + (7 : Int) ≤ 7 ∧ 1 ≤ D + 1 ∧ 0 ≤ (0 : Int) ∧ 0 ≤ (0 : Int) ∧ 0 ≤ (14 : Int) ∧ (0 : Int) + (14 : Int) ≤ 14 ∧ (0 : Int) + (14 : Int) ≤ 14 ∧ 1 ≤ D + 1 ∧ 0 ≤ (0 : Int) ∧ 0 ≤ (0 : Int) ∧ 0 ≤ (14 : Int) ∧ (0 : Int) + (14 : Int) ≤ 14 ∧ (0 : Int) + (14 : Int) ≤ 14 ∧ 1 ≤ D + 1 ∧ 0 ≤ (0 : Int) ∧ 0 ≤ (0 : Int) ∧ 0 ≤ (14 : Int) ∧ (0 : Int) + (14 : Int) ≤ 14 ∧ (0 : Int) + (14 : Int) ≤ 14 ∧ 1 ≤ D + 1 ∧ 0 ≤ (0 : Int) ∧ 0 ≤ (0 : Int) ∧ 0 ≤ (14 : Int) ∧ (0 : Int) + (14 : Int) ≤ 14 ∧ (0 : Int) + (14 : Int) ≤ 14 ∧ 1 ≤ D + 1 ∧ 0 ≤ (0 : Int) ∧ 0 ≤ (0 : Int) ∧ 0 ≤ (12 : Int) ∧ (0 : Int) + (12 : Int) ≤ 12 ∧ (0 : Int) + (12 : Int) ≤ 12 ∧ 1 ≤ D + 1 ∧ 0 ≤ (0 : Int) ∧ 0 ≤ (0 : Int) ∧ 0 ≤ (7 : Int) ∧ (0 : Int) + (7 : Int) ≤ 7 ∧ (0 : Int) + (7 : Int) ≤ 7 ∧ 1 ≤ D + 1 ∧ 0 ≤ (0 : Int) ∧ 0 ≤ (0 : Int) ∧ 0 ≤ (7 : Int) ∧ (0 : Int) + (7 : Int) ≤ 7 ∧ (0 : Int) + (7 : Int) ≤ 7 ∧ Q (.inl none) 0 (zcp (zcp (zcp (zcp (zcp (zcp (zcp (zcp (zcp (zcp (zcp (zup (zup (zup J 53 0 0 (J 40 0 0)) 53 0 5 (J 40 0 5)) 53 0 10 (J 40 0 10)) 41 54 0 0 4) 42 55 0 0 4) 43 56 0 0 28) 44 57 0 0 7) 45 58 0 0 14) 46 59 0 0 14) 47 60 0 0 14) 48 61 0 0 14) 49 62 0 0 12) 50 63 0 0 7) 51 64 0 0 7) K) :
  zCall L xs (D + 1) 79 [zr 53, zr 40] J K Q :=
  zrun_ok (T := mct79) (o := 6) (ret := none) (hs := []) hL rfl 101 _ _ _ _ _ _ _ h
/-! PartingTrains$Plan.copyFrom -/
set_option maxRecDepth 30000 in
theorem z79a {L : Nat} {xs : Nat → Int32} (hL : L ≤ 3072) {D : Nat} {J : zJ} {K : zK} {Q : zR → Nat → zJ → zK → Prop}
  (h : 1 ≤ D + 1 ∧ 0 ≤ (0 : Int) ∧ 0 ≤ (0 : Int) ∧ 0 ≤ (4 : Int) ∧ (0 : Int) + (4 : Int) ≤ 4 ∧ (0 : Int) + (4 : Int) ≤ 4 ∧ 1 ≤ D + 1 ∧ 0 ≤ (0 : Int) ∧ 0 ≤ (0 : Int) ∧ 0 ≤ (4 : Int) ∧ (0 : Int) + (4 : Int) ≤ 4 ∧ (0 : Int) + (4 : Int) ≤ 4 ∧ 1 ≤ D + 1 ∧ 0 ≤ (0 : Int) ∧ 0 ≤ (0 : Int) ∧ 0 ≤ (28 : Int) ∧ (0 : Int) + (28 : Int) ≤ 28 ∧ (0 : Int) + (28 : Int) ≤ 28 ∧ 1 ≤ D + 1 ∧ 0 ≤ (0 : Int) ∧ 0 ≤ (0 : Int) ∧ 0 ≤ (7 : Int) ∧ (0 : Int) + (7 : Int) ≤ 7 ∧ (0 : Int) + (7 : Int) ≤ 7 ∧ 1 ≤ D + 1 ∧ 0 ≤ (0 : Int) ∧ 0 ≤ (0 : Int) ∧ 0 ≤ (14 : Int) ∧ (0 : Int) + (14 : Int) ≤ 14 ∧ (0 : Int) + (14 : Int) ≤ 14 ∧ 1 ≤ D + 1 ∧ 0 ≤ (0 : Int) ∧ 0 ≤ (0 : Int) ∧ 0 ≤ (14 : Int) ∧ (0 : Int) + (14 : Int) ≤ 14 ∧ (0 : Int) + (14 : Int) ≤ 14 ∧ 1 ≤ D + 1 ∧ 0 ≤ (0 : Int) ∧ 0 ≤ (0 : Int) ∧ 0 ≤ (14 : Int) ∧ (0 : Int) + (14 : Int) ≤ 14 ∧ (0 : Int) + (14 : Int) ≤ 14 ∧ 1 ≤ D + 1 ∧ 0 ≤ (0 : Int) ∧ 0 ≤ (0 : Int) ∧ 0 ≤ (14 : Int) ∧ (0 : Int) + (14 : Int) ≤ 14 ∧ (0 : Int) + (14 : Int) ≤ 14 ∧ 1 ≤ D + 1 ∧ 0 ≤ (0 : Int) ∧ 0 ≤ (0 : Int) ∧ 0 ≤ (12 : Int) ∧ (0 : Int) + (12 : Int) ≤ 12 ∧ (0 : Int) + (12 : Int) ≤ 12 ∧ 1 ≤ D + 1 ∧ 0 ≤ (0 : Int) ∧ 0 ≤ (0 : Int) ∧ 0 ≤ (7 : Int) ∧ (0 : Int) + (7 : Int) ≤ 7 ∧ (0 : Int) + (7 : Int) ≤ 7 ∧ 1 ≤ D + 1 ∧ 0 ≤ (0 : Int) ∧ 0 ≤ (0 : Int) ∧ 0 ≤ (7 : Int) ∧ (0 : Int) + (7 : Int) ≤ 7 ∧ (0 : Int) + (7 : Int) ≤ 7 ∧ Q (.inl none) 0 (zcp (zcp (zcp (zcp (zcp (zcp (zcp (zcp (zcp (zcp (zcp (zup (zup (zup J 65 0 0 (J 40 0 0)) 65 0 5 (J 40 0 5)) 65 0 10 (J 40 0 10)) 41 66 0 0 4) 42 67 0 0 4) 43 68 0 0 28) 44 69 0 0 7) 45 70 0 0 14) 46 71 0 0 14) 47 72 0 0 14) 48 73 0 0 14) 49 74 0 0 12) 50 75 0 0 7) 51 76 0 0 7) K) :
  zCall L xs (D + 1) 79 [zr 65, zr 40] J K Q :=
  zrun_ok (T := mct79) (o := 6) (ret := none) (hs := []) hL rfl 101 _ _ _ _ _ _ _ h
/-! PartingTrains$Plan.copyFrom -/
set_option maxRecDepth 30000 in
theorem z79b {L : Nat} {xs : Nat → Int32} (hL : L ≤ 3072) {D : Nat} {J : zJ} {K : zK} {Q : zR → Nat → zJ → zK → Prop}
  (h : 1 ≤ D + 1 ∧ 0 ≤ (0 : Int) ∧ 0 ≤ (0 : Int) ∧ 0 ≤ (4 : Int) ∧ (0 : Int) + (4 : Int) ≤ 4 ∧ (0 : Int) + (4 : Int) ≤ 4 ∧ 1 ≤ D + 1 ∧ 0 ≤ (0 : Int) ∧ 0 ≤ (0 : Int) ∧ 0 ≤ (4 : Int) ∧ (0 : Int) + (4 : Int) ≤ 4 ∧ (0 : Int) + (4 : Int) ≤ 4 ∧ 1 ≤ D + 1 ∧ 0 ≤ (0 : Int) ∧ 0 ≤ (0 : Int) ∧ 0 ≤ (28 : Int) ∧ (0 : Int) + (28 : Int) ≤ 28 ∧ (0 : Int) + (28 : Int) ≤ 28 ∧ 1 ≤ D + 1 ∧ 0 ≤ (0 : Int) ∧ 0 ≤ (0 : Int) ∧ 0 ≤ (7 : Int) ∧ (0 : Int) + (7 : Int) ≤ 7 ∧ (0 : Int) + (7 : Int) ≤ 7 ∧ 1 ≤ D + 1 ∧ 0 ≤ (0 : Int) ∧ 0 ≤ (0 : Int) ∧ 0 ≤ (14 : Int) ∧ (0 : Int) + (14 : Int) ≤ 14 ∧ (0 : Int) + (14 : Int) ≤ 14 ∧ 1 ≤ D + 1 ∧ 0 ≤ (0 : Int) ∧ 0 ≤ (0 : Int) ∧ 0 ≤ (14 : Int) ∧ (0 : Int) + (14 : Int) ≤ 14 ∧ (0 : Int) + (14 : Int) ≤ 14 ∧ 1 ≤ D + 1 ∧ 0 ≤ (0 : Int) ∧ 0 ≤ (0 : Int) ∧ 0 ≤ (14 : Int) ∧ (0 : Int) + (14 : Int) ≤ 14 ∧ (0 : Int) + (14 : Int) ≤ 14 ∧ 1 ≤ D + 1 ∧ 0 ≤ (0 : Int) ∧ 0 ≤ (0 : Int) ∧ 0 ≤ (14 : Int) ∧ (0 : Int) + (14 : Int) ≤ 14 ∧ (0 : Int) + (14 : Int) ≤ 14 ∧ 1 ≤ D + 1 ∧ 0 ≤ (0 : Int) ∧ 0 ≤ (0 : Int) ∧ 0 ≤ (12 : Int) ∧ (0 : Int) + (12 : Int) ≤ 12 ∧ (0 : Int) + (12 : Int) ≤ 12 ∧ 1 ≤ D + 1 ∧ 0 ≤ (0 : Int) ∧ 0 ≤ (0 : Int) ∧ 0 ≤ (7 : Int) ∧ (0 : Int) + (7 : Int) ≤ 7 ∧ (0 : Int) + (7 : Int) ≤ 7 ∧ 1 ≤ D + 1 ∧ 0 ≤ (0 : Int) ∧ 0 ≤ (0 : Int) ∧ 0 ≤ (7 : Int) ∧ (0 : Int) + (7 : Int) ≤ 7 ∧ (0 : Int) + (7 : Int) ≤ 7 ∧ Q (.inl none) 0 (zcp (zcp (zcp (zcp (zcp (zcp (zcp (zcp (zcp (zcp (zcp (zup (zup (zup J 77 0 0 (J 40 0 0)) 77 0 5 (J 40 0 5)) 77 0 10 (J 40 0 10)) 41 78 0 0 4) 42 79 0 0 4) 43 80 0 0 28) 44 81 0 0 7) 45 82 0 0 14) 46 83 0 0 14) 47 84 0 0 14) 48 85 0 0 14) 49 86 0 0 12) 50 87 0 0 7) 51 88 0 0 7) K) :
  zCall L xs (D + 1) 79 [zr 77, zr 40] J K Q :=
  zrun_ok (T := mct79) (o := 6) (ret := none) (hs := []) hL rfl 101 _ _ _ _ _ _ _ h
/-! PartingTrains$Plan.copyFrom -/
set_option maxRecDepth 30000 in
theorem z79c {L : Nat} {xs : Nat → Int32} (hL : L ≤ 3072) {D : Nat} {J : zJ} {K : zK} {Q : zR → Nat → zJ → zK → Prop}
  (h : 1 ≤ D + 1 ∧ 0 ≤ (0 : Int) ∧ 0 ≤ (0 : Int) ∧ 0 ≤ (4 : Int) ∧ (0 : Int) + (4 : Int) ≤ 4 ∧ (0 : Int) + (4 : Int) ≤ 4 ∧ 1 ≤ D + 1 ∧ 0 ≤ (0 : Int) ∧ 0 ≤ (0 : Int) ∧ 0 ≤ (4 : Int) ∧ (0 : Int) + (4 : Int) ≤ 4 ∧ (0 : Int) + (4 : Int) ≤ 4 ∧ 1 ≤ D + 1 ∧ 0 ≤ (0 : Int) ∧ 0 ≤ (0 : Int) ∧ 0 ≤ (28 : Int) ∧ (0 : Int) + (28 : Int) ≤ 28 ∧ (0 : Int) + (28 : Int) ≤ 28 ∧ 1 ≤ D + 1 ∧ 0 ≤ (0 : Int) ∧ 0 ≤ (0 : Int) ∧ 0 ≤ (7 : Int) ∧ (0 : Int) + (7 : Int) ≤ 7 ∧ (0 : Int) + (7 : Int) ≤ 7 ∧ 1 ≤ D + 1 ∧ 0 ≤ (0 : Int) ∧ 0 ≤ (0 : Int) ∧ 0 ≤ (14 : Int) ∧ (0 : Int) + (14 : Int) ≤ 14 ∧ (0 : Int) + (14 : Int) ≤ 14 ∧ 1 ≤ D + 1 ∧ 0 ≤ (0 : Int) ∧ 0 ≤ (0 : Int) ∧ 0 ≤ (14 : Int) ∧ (0 : Int) + (14 : Int) ≤ 14 ∧ (0 : Int) + (14 : Int) ≤ 14 ∧ 1 ≤ D + 1 ∧ 0 ≤ (0 : Int) ∧ 0 ≤ (0 : Int) ∧ 0 ≤ (14 : Int) ∧ (0 : Int) + (14 : Int) ≤ 14 ∧ (0 : Int) + (14 : Int) ≤ 14 ∧ 1 ≤ D + 1 ∧ 0 ≤ (0 : Int) ∧ 0 ≤ (0 : Int) ∧ 0 ≤ (14 : Int) ∧ (0 : Int) + (14 : Int) ≤ 14 ∧ (0 : Int) + (14 : Int) ≤ 14 ∧ 1 ≤ D + 1 ∧ 0 ≤ (0 : Int) ∧ 0 ≤ (0 : Int) ∧ 0 ≤ (12 : Int) ∧ (0 : Int) + (12 : Int) ≤ 12 ∧ (0 : Int) + (12 : Int) ≤ 12 ∧ 1 ≤ D + 1 ∧ 0 ≤ (0 : Int) ∧ 0 ≤ (0 : Int) ∧ 0 ≤ (7 : Int) ∧ (0 : Int) + (7 : Int) ≤ 7 ∧ (0 : Int) + (7 : Int) ≤ 7 ∧ 1 ≤ D + 1 ∧ 0 ≤ (0 : Int) ∧ 0 ≤ (0 : Int) ∧ 0 ≤ (7 : Int) ∧ (0 : Int) + (7 : Int) ≤ 7 ∧ (0 : Int) + (7 : Int) ≤ 7 ∧ Q (.inl none) 0 (zcp (zcp (zcp (zcp (zcp (zcp (zcp (zcp (zcp (zcp (zcp (zup (zup (zup J 40 0 0 (J 53 0 0)) 40 0 5 (J 53 0 5)) 40 0 10 (J 53 0 10)) 54 41 0 0 4) 55 42 0 0 4) 56 43 0 0 28) 57 44 0 0 7) 58 45 0 0 14) 59 46 0 0 14) 60 47 0 0 14) 61 48 0 0 14) 62 49 0 0 12) 63 50 0 0 7) 64 51 0 0 7) K) :
  zCall L xs (D + 1) 79 [zr 40, zr 53] J K Q :=
  zrun_ok (T := mct79) (o := 6) (ret := none) (hs := []) hL rfl 101 _ _ _ _ _ _ _ h
/-! PartingTrains$Plan.copyFrom -/
set_option maxRecDepth 30000 in
theorem z79d {L : Nat} {xs : Nat → Int32} (hL : L ≤ 3072) {D : Nat} {J : zJ} {K : zK} {Q : zR → Nat → zJ → zK → Prop}
  (h : 1 ≤ D + 1 ∧ 0 ≤ (0 : Int) ∧ 0 ≤ (0 : Int) ∧ 0 ≤ (4 : Int) ∧ (0 : Int) + (4 : Int) ≤ 4 ∧ (0 : Int) + (4 : Int) ≤ 4 ∧ 1 ≤ D + 1 ∧ 0 ≤ (0 : Int) ∧ 0 ≤ (0 : Int) ∧ 0 ≤ (4 : Int) ∧ (0 : Int) + (4 : Int) ≤ 4 ∧ (0 : Int) + (4 : Int) ≤ 4 ∧ 1 ≤ D + 1 ∧ 0 ≤ (0 : Int) ∧ 0 ≤ (0 : Int) ∧ 0 ≤ (28 : Int) ∧ (0 : Int) + (28 : Int) ≤ 28 ∧ (0 : Int) + (28 : Int) ≤ 28 ∧ 1 ≤ D + 1 ∧ 0 ≤ (0 : Int) ∧ 0 ≤ (0 : Int) ∧ 0 ≤ (7 : Int) ∧ (0 : Int) + (7 : Int) ≤ 7 ∧ (0 : Int) + (7 : Int) ≤ 7 ∧ 1 ≤ D + 1 ∧ 0 ≤ (0 : Int) ∧ 0 ≤ (0 : Int) ∧ 0 ≤ (14 : Int) ∧ (0 : Int) + (14 : Int) ≤ 14 ∧ (0 : Int) + (14 : Int) ≤ 14 ∧ 1 ≤ D + 1 ∧ 0 ≤ (0 : Int) ∧ 0 ≤ (0 : Int) ∧ 0 ≤ (14 : Int) ∧ (0 : Int) + (14 : Int) ≤ 14 ∧ (0 : Int) + (14 : Int) ≤ 14 ∧ 1 ≤ D + 1 ∧ 0 ≤ (0 : Int) ∧ 0 ≤ (0 : Int) ∧ 0 ≤ (14 : Int) ∧ (0 : Int) + (14 : Int) ≤ 14 ∧ (0 : Int) + (14 : Int) ≤ 14 ∧ 1 ≤ D + 1 ∧ 0 ≤ (0 : Int) ∧ 0 ≤ (0 : Int) ∧ 0 ≤ (14 : Int) ∧ (0 : Int) + (14 : Int) ≤ 14 ∧ (0 : Int) + (14 : Int) ≤ 14 ∧ 1 ≤ D + 1 ∧ 0 ≤ (0 : Int) ∧ 0 ≤ (0 : Int) ∧ 0 ≤ (12 : Int) ∧ (0 : Int) + (12 : Int) ≤ 12 ∧ (0 : Int) + (12 : Int) ≤ 12 ∧ 1 ≤ D + 1 ∧ 0 ≤ (0 : Int) ∧ 0 ≤ (0 : Int) ∧ 0 ≤ (7 : Int) ∧ (0 : Int) + (7 : Int) ≤ 7 ∧ (0 : Int) + (7 : Int) ≤ 7 ∧ 1 ≤ D + 1 ∧ 0 ≤ (0 : Int) ∧ 0 ≤ (0 : Int) ∧ 0 ≤ (7 : Int) ∧ (0 : Int) + (7 : Int) ≤ 7 ∧ (0 : Int) + (7 : Int) ≤ 7 ∧ Q (.inl none) 0 (zcp (zcp (zcp (zcp (zcp (zcp (zcp (zcp (zcp (zcp (zcp (zup (zup (zup J 40 0 0 (J 65 0 0)) 40 0 5 (J 65 0 5)) 40 0 10 (J 65 0 10)) 66 41 0 0 4) 67 42 0 0 4) 68 43 0 0 28) 69 44 0 0 7) 70 45 0 0 14) 71 46 0 0 14) 72 47 0 0 14) 73 48 0 0 14) 74 49 0 0 12) 75 50 0 0 7) 76 51 0 0 7) K) :
  zCall L xs (D + 1) 79 [zr 40, zr 65] J K Q :=
  zrun_ok (T := mct79) (o := 6) (ret := none) (hs := []) hL rfl 101 _ _ _ _ _ _ _ h
/-! PartingTrains$Plan.copyFrom -/
set_option maxRecDepth 30000 in
theorem z79e {L : Nat} {xs : Nat → Int32} (hL : L ≤ 3072) {D : Nat} {J : zJ} {K : zK} {Q : zR → Nat → zJ → zK → Prop}
  (h : 1 ≤ D + 1 ∧ 0 ≤ (0 : Int) ∧ 0 ≤ (0 : Int) ∧ 0 ≤ (4 : Int) ∧ (0 : Int) + (4 : Int) ≤ 4 ∧ (0 : Int) + (4 : Int) ≤ 4 ∧ 1 ≤ D + 1 ∧ 0 ≤ (0 : Int) ∧ 0 ≤ (0 : Int) ∧ 0 ≤ (4 : Int) ∧ (0 : Int) + (4 : Int) ≤ 4 ∧ (0 : Int) + (4 : Int) ≤ 4 ∧ 1 ≤ D + 1 ∧ 0 ≤ (0 : Int) ∧ 0 ≤ (0 : Int) ∧ 0 ≤ (28 : Int) ∧ (0 : Int) + (28 : Int) ≤ 28 ∧ (0 : Int) + (28 : Int) ≤ 28 ∧ 1 ≤ D + 1 ∧ 0 ≤ (0 : Int) ∧ 0 ≤ (0 : Int) ∧ 0 ≤ (7 : Int) ∧ (0 : Int) + (7 : Int) ≤ 7 ∧ (0 : Int) + (7 : Int) ≤ 7 ∧ 1 ≤ D + 1 ∧ 0 ≤ (0 : Int) ∧ 0 ≤ (0 : Int) ∧ 0 ≤ (14 : Int) ∧ (0 : Int) + (14 : Int) ≤ 14 ∧ (0 : Int) + (14 : Int) ≤ 14 ∧ 1 ≤ D + 1 ∧ 0 ≤ (0 : Int) ∧ 0 ≤ (0 : Int) ∧ 0 ≤ (14 : Int) ∧ (0 : Int) + (14 : Int) ≤ 14 ∧ (0 : Int) + (14 : Int) ≤ 14 ∧ 1 ≤ D + 1 ∧ 0 ≤ (0 : Int) ∧ 0 ≤ (0 : Int) ∧ 0 ≤ (14 : Int) ∧ (0 : Int) + (14 : Int) ≤ 14 ∧ (0 : Int) + (14 : Int) ≤ 14 ∧ 1 ≤ D + 1 ∧ 0 ≤ (0 : Int) ∧ 0 ≤ (0 : Int) ∧ 0 ≤ (14 : Int) ∧ (0 : Int) + (14 : Int) ≤ 14 ∧ (0 : Int) + (14 : Int) ≤ 14 ∧ 1 ≤ D + 1 ∧ 0 ≤ (0 : Int) ∧ 0 ≤ (0 : Int) ∧ 0 ≤ (12 : Int) ∧ (0 : Int) + (12 : Int) ≤ 12 ∧ (0 : Int) + (12 : Int) ≤ 12 ∧ 1 ≤ D + 1 ∧ 0 ≤ (0 : Int) ∧ 0 ≤ (0 : Int) ∧ 0 ≤ (7 : Int) ∧ (0 : Int) + (7 : Int) ≤ 7 ∧ (0 : Int) + (7 : Int) ≤ 7 ∧ 1 ≤ D + 1 ∧ 0 ≤ (0 : Int) ∧ 0 ≤ (0 : Int) ∧ 0 ≤ (7 : Int) ∧ (0 : Int) + (7 : Int) ≤ 7 ∧ (0 : Int) + (7 : Int) ≤ 7 ∧ Q (.inl none) 0 (zcp (zcp (zcp (zcp (zcp (zcp (zcp (zcp (zcp (zcp (zcp (zup (zup (zup J 40 0 0 (J 77 0 0)) 40 0 5 (J 77 0 5)) 40 0 10 (J 77 0 10)) 78 41 0 0 4) 79 42 0 0 4) 80 43 0 0 28) 81 44 0 0 7) 82 45 0 0 14) 83 46 0 0 14) 84 47 0 0 14) 85 48 0 0 14) 86 49 0 0 12) 87 50 0 0 7) 88 51 0 0 7) K) :
  zCall L xs (D + 1) 79 [zr 40, zr 77] J K Q :=
  zrun_ok (T := mct79) (o := 6) (ret := none) (hs := []) hL rfl 101 _ _ _ _ _ _ _ h
/-! PartingTrains$Plan.empty -/
set_option maxRecDepth 30000 in
theorem z80 {L : Nat} {xs : Nat → Int32} (hL : L ≤ 3072) {D : Nat} {x1 : Int} {J : zJ} {K : zK} {Q : zR → Nat → zJ → zK → Prop}
  (h : 0 ≤ x1 ∧ x1 < 4 ∧ zGo L xs (D + 1) 80 9 [some (zr 40), some (zi x1), some (zi (J 42 0 x1)), some (zi 0)] [] J K Q) :
  zCall L xs (D + 1) 80 [zr 40, zi x1] J K Q :=
  zrun_ok (T := mct80) (o := 6) (ret := (some FieldType.int)) (hs := [(9, [])]) hL rfl 7 _ _ _ _ _ _ _ h
set_option maxRecDepth 30000 in
theorem z80_9 {L : Nat} {xs : Nat → Int32} (hL : L ≤ 3072) {D : Nat} {x1 x2 x3 : Int} {J : zJ} {K : zK} {Q : zR → Nat → zJ → zK → Prop}
  (h : zin x3 ∧ zin x2 ∧ (x2 ≤ x3 → 0 ≤ x1 ∧ x1 < 4 ∧ Q (.inl (some (zi x2))) 0 (zup J 42 0 x1 0) K) ∧ (x3 < x2 → 0 ≤ ((x1 * 7) + x3) ∧ ((x1 * 7) + x3) < 28 ∧ 0 ≤ (J 43 0 ((x1 * 7) + x3)) ∧ (J 43 0 ((x1 * 7) + x3)) < 7 ∧ zGo L xs (D + 1) 80 9 [some (zr 40), some (zi x1), some (zi x2), some (zi (x3 + 1))] [] (zup J 44 0 (J 43 0 ((x1 * 7) + x3)) (-1)) K Q)) :
  zGo L xs (D + 1) 80 9 [some (zr 40), some (zi x1), some (zi x2), some (zi x3)] [] J K Q :=
  zrun_ok (T := mct80) (o := 6) (ret := (some FieldType.int)) (hs := [(9, [])]) hL rfl 17 _ _ _ _ _ _ _ h
/-! PartingTrains$Plan.isShut -/
set_option maxRecDepth 30000 in
theorem z81 {L : Nat} {xs : Nat → Int32} (hL : L ≤ 3072) {D : Nat} {x1 : Int} {J : zJ} {K : zK} {Q : zR → Nat → zJ → zK → Prop}
  (h : zin (J 40 0 10) ∧ 0 ≤ x1 ∧ x1 < 32 ∧ zin (zand ((J 40 0 10) / 2 ^ (x1.toNat)) 1) ∧ ((zand ((J 40 0 10) / 2 ^ (x1.toNat)) 1) = (0 : Int) → ((0 : Int) = 0 ∨ (0 : Int) = 1) ∧ Q (.inl (some (zi 0))) 0 J K) ∧ ((zand ((J 40 0 10) / 2 ^ (x1.toNat)) 1) ≠ (0 : Int) → ((1 : Int) = 0 ∨ (1 : Int) = 1) ∧ Q (.inl (some (zi 1))) 0 J K)) :
  zCall L xs (D + 1) 81 [zr 40, zi x1] J K Q :=
  zrun_ok (T := mct81) (o := 6) (ret := (some FieldType.boolean)) (hs := []) hL rfl 10 _ _ _ _ _ _ _ h
/-! PartingTrains$Plan.members -/
set_option maxRecDepth 30000 in
theorem z82 {L : Nat} {xs : Nat → Int32} (hL : L ≤ 3072) {D : Nat} {x1 : Int} {J : zJ} {K : zK} {Q : zR → Nat → zJ → zK → Prop}
  (h : zGo L xs (D + 1) 82 4 [some (zr 40), some (zi x1), some (zi 0), some (zi 0)] [] J K Q) :
  zCall L xs (D + 1) 82 [zr 40, zi x1] J K Q :=
  zrun_ok (T := mct82) (o := 6) (ret := (some FieldType.int)) (hs := [(4, [])]) hL rfl 4 _ _ _ _ _ _ _ h
set_option maxRecDepth 30000 in
theorem z82_4 {L : Nat} {xs : Nat → Int32} (hL : L ≤ 3072) {D : Nat} {x1 x2 x3 : Int} {J : zJ} {K : zK} {Q : zR → Nat → zJ → zK → Prop}
  (h : 0 ≤ x1 ∧ x1 < 4 ∧ zin x3 ∧ zin (J 42 0 x1) ∧ ((J 42 0 x1) ≤ x3 → Q (.inl (some (zi x2))) 0 J K) ∧ (x3 < (J 42 0 x1) → 0 ≤ ((x1 * 7) + x3) ∧ ((x1 * 7) + x3) < 28 ∧ 0 ≤ (J 43 0 ((x1 * 7) + x3)) ∧ (J 43 0 ((x1 * 7) + x3)) < 32 ∧ zGo L xs (D + 1) 82 4 [some (zr 40), some (zi x1), some (zi (zor x2 (1 * 2 ^ ((J 43 0 ((x1 * 7) + x3)).toNat)))), some (zi (x3 + 1))] [] J K Q)) :
  zGo L xs (D + 1) 82 4 [some (zr 40), some (zi x1), some (zi x2), some (zi x3)] [] J K Q :=
  zrun_ok (T := mct82) (o := 6) (ret := (some FieldType.int)) (hs := [(4, [])]) hL rfl 21 _ _ _ _ _ _ _ h
/-! PartingTrains$Plan.portionsPut -/
set_option maxRecDepth 30000 in
theorem z83 {L : Nat} {xs : Nat → Int32} (hL : L ≤ 3072) {D : Nat} {J : zJ} {K : zK} {Q : zR → Nat → zJ → zK → Prop}
  (h : zGo L xs (D + 1) 83 4 [some (zr 40), some (zi 0), some (zi 0)] [] J K Q) :
  zCall L xs (D + 1) 83 [zr 40] J K Q :=
  zrun_ok (T := mct83) (o := 6) (ret := (some FieldType.int)) (hs := [(4, [])]) hL rfl 4 _ _ _ _ _ _ _ h
set_option maxRecDepth 30000 in
theorem z83_4 {L : Nat} {xs : Nat → Int32} (hL : L ≤ 3072) {D : Nat} {x1 x2 : Int} {J : zJ} {K : zK} {Q : zR → Nat → zJ → zK → Prop}
  (h : zin x2 ∧ zin (J 40 0 0) ∧ ((J 40 0 0) ≤ x2 → Q (.inl (some (zi x1))) 0 J K) ∧ (x2 < (J 40 0 0) → 0 ≤ x2 ∧ x2 < 4 ∧ zGo L xs (D + 1) 83 4 [some (zr 40), some (zi (x1 + (J 42 0 x2))), some (zi (x2 + 1))] [] J K Q)) :
  zGo L xs (D + 1) 83 4 [some (zr 40), some (zi x1), some (zi x2)] [] J K Q :=
  zrun_ok (T := mct83) (o := 6) (ret := (some FieldType.int)) (hs := [(4, [])]) hL rfl 13 _ _ _ _ _ _ _ h
/-! PartingTrains$Plan.rowOfDay -/
set_option maxRecDepth 30000 in
theorem z84 {L : Nat} {xs : Nat → Int32} (hL : L ≤ 3072) {D : Nat} {x1 x2 : Int} {J : zJ} {K : zK} {Q : zR → Nat → zJ → zK → Prop}
  (h : zGo L xs (D + 1) 84 6 [some (zr 40), some (zi x1), some (zi x2), some (zr 141), some (zi 0), some (zi 0), none] [] J K Q) :
  zCall L xs (D + 1) 84 [zr 40, zi x1, zi x2, zr 141] J K Q :=
  zrun_ok (T := mct84) (o := 6) (ret := (some FieldType.int)) (hs := [(6, [6])]) hL rfl 4 _ _ _ _ _ _ _ h
set_option maxRecDepth 30000 in
theorem z84_6 {L : Nat} {xs : Nat → Int32} (hL : L ≤ 3072) {D : Nat} {x1 x2 x4 x5 : Int} {J : zJ} {K : zK} {Q : zR → Nat → zJ → zK → Prop}
  (h : 0 ≤ x1 ∧ x1 < 4 ∧ zin x5 ∧ zin (J 42 0 x1) ∧ ((J 42 0 x1) ≤ x5 → Q (.inl (some (zi x4))) 0 J K) ∧ (x5 < (J 42 0 x1) → 0 ≤ ((x1 * 7) + x5) ∧ ((x1 * 7) + x5) < 28 ∧ 0 ≤ (J 43 0 ((x1 * 7) + x5)) ∧ (J 43 0 ((x1 * 7) + x5)) < 7 ∧ zin (J 50 0 (J 43 0 ((x1 * 7) + x5))) ∧ 0 ≤ x2 ∧ x2 < 32 ∧ zin (zand ((J 50 0 (J 43 0 ((x1 * 7) + x5))) / 2 ^ (x2.toNat)) 1) ∧ ((zand ((J 50 0 (J 43 0 ((x1 * 7) + x5))) / 2 ^ (x2.toNat)) 1) = (0 : Int) → zGo L xs (D + 1) 84 6 [some (zr 40), some (zi x1), some (zi x2), some (zr 141), some (zi x4), some (zi (x5 + 1)), none] [] J K Q) ∧ ((zand ((J 50 0 (J 43 0 ((x1 * 7) + x5))) / 2 ^ (x2.toNat)) 1) ≠ (0 : Int) → 0 ≤ x4 ∧ x4 < 7 ∧ zGo L xs (D + 1) 84 6 [some (zr 40), some (zi x1), some (zi x2), some (zr 141), some (zi (x4 + 1)), some (zi (x5 + 1)), none] [] (zup J 141 0 x4 (J 43 0 ((x1 * 7) + x5))) K Q))) :
  zGo L xs (D + 1) 84 6 [some (zr 40), some (zi x1), some (zi x2), some (zr 141), some (zi x4), some (zi x5), none] [] J K Q :=
  zrun_ok (T := mct84) (o := 6) (ret := (some FieldType.int)) (hs := [(6, [6])]) hL rfl 31 _ _ _ _ _ _ _ h
/-! PartingTrains$Reader.blame -/
set_option maxRecDepth 30000 in
theorem z86 {L : Nat} {xs : Nat → Int32} (hL : L ≤ 3072) {D : Nat} {x1 x2 : Int} {J : zJ} {K : zK} {Q : zR → Nat → zJ → zK → Prop}
  (h : zin (J 2 0 5) ∧ ((J 2 0 5) ≠ (0 : Int) → Q (.inl none) 0 J K) ∧ ((J 2 0 5) = (0 : Int) → Q (.inl none) 0 (zup (zup J 2 0 5 x1) 2 0 6 x2) K)) :
  zCall L xs (D + 1) 86 [zr 2, zi x1, zi x2] J K Q :=
  zrun_ok (T := mct86) (o := 7) (ret := none) (hs := []) hL rfl 10 _ _ _ _ _ _ _ h
/-! PartingTrains$Reader.endsWell -/
set_option maxRecDepth 30000 in
theorem z87 {L : Nat} {xs : Nat → Int32} (hL : L ≤ 3072) {D : Nat} {J : zJ} {K : zK} {Q : zR → Nat → zJ → zK → Prop}
  (h : zin (J 2 0 5) ∧ ((J 2 0 5) = (0 : Int) → zCall L xs D 101 [zr 2] J K fun r1 e1 J1 K1 => zaV r1 e1 (zin (J1 2 0 3) ∧ zin (J1 2 0 2) ∧ ((J1 2 0 2) ≤ (J1 2 0 3) → zCall L xs D 86 [zr 2, zi 1, zi (J1 2 0 3)] J1 K1 fun r2 e2 J2 K2 => zaV r2 e2 (((0 : Int) = 0 ∨ (0 : Int) = 1) ∧ Q (.inl (some (zi 0))) 0 J2 K2) (fun E => Q (.inr E) e2 J2 K2)) ∧ ((J1 2 0 3) < (J1 2 0 2) → 0 ≤ (J1 2 0 3) ∧ (J1 2 0 3) < 500 ∧ zin (J1 1 0 (J1 2 0 3)) ∧ zin 59 ∧ ((J1 1 0 (J1 2 0 3)) = (59 : Int) → ((1 : Int) = 0 ∨ (1 : Int) = 1) ∧ Q (.inl (some (zi 1))) 0 (zup J1 2 0 3 ((J1 2 0 3) + 1)) K1) ∧ ((J1 1 0 (J1 2 0 3)) ≠ (59 : Int) → zCall L xs D 86 [zr 2, zi 1, zi (J1 2 0 3)] J1 K1 fun r3 e3 J3 K3 => zaV r3 e3 (((0 : Int) = 0 ∨ (0 : Int) = 1) ∧ Q (.inl (some (zi 0))) 0 J3 K3) (fun E => Q (.inr E) e3 J3 K3)))) (fun E => Q (.inr E) e1 J1 K1)) ∧ ((J 2 0 5) ≠ (0 : Int) → ((0 : Int) = 0 ∨ (0 : Int) = 1) ∧ Q (.inl (some (zi 0))) 0 J K)) :
  zCall L xs (D + 1) 87 [zr 2] J K Q :=
  zrun_ok (T := mct87) (o := 7) (ret := (some FieldType.boolean)) (hs := []) hL rfl 25 _ _ _ _ _ _ _ h
/-! PartingTrains$Reader.isWord -/
set_option maxRecDepth 30000 in
theorem z88 {L : Nat} {xs : Nat → Int32} (hL : L ≤ 3072) {D : Nat} {J : zJ} {K : zK} {Q : zR → Nat → zJ → zK → Prop}
  (h : 8 ≤ D + 1 ∧ zin ((J 2 0 3) - (J 2 0 4)) ∧ zin 4 ∧ (((J 2 0 3) - (J 2 0 4)) = (4 : Int) → zGo L xs (D + 1) 88 20 [some (zr 2), some (zr 1000023), some (zi 0)] [] J K Q) ∧ (((J 2 0 3) - (J 2 0 4)) ≠ (4 : Int) → ((0 : Int) = 0 ∨ (0 : Int) = 1) ∧ Q (.inl (some (zi 0))) 0 J K)) :
  zCall L xs (D + 1) 88 [zr 2, zr 1000023] J K Q :=
  zrun_ok (T := mct88) (o := 7) (ret := (some FieldType.boolean)) (hs := [(20, [])]) hL rfl 10 _ _ _ _ _ _ _ h
set_option maxRecDepth 30000 in
theorem z88_20 {L : Nat} {xs : Nat → Int32} (hL : L ≤ 3072) {D : Nat} {x2 : Int} {J : zJ} {K : zK} {Q : zR → Nat → zJ → zK → Prop}
  (h : 8 ≤ D + 1 ∧ zin x2 ∧ zin 4 ∧ ((4 : Int) ≤ x2 → ((1 : Int) = 0 ∨ (1 : Int) = 1) ∧ Q (.inl (some (zi 1))) 0 J K) ∧ (x2 < (4 : Int) → 0 ≤ ((J 2 0 4) + x2) ∧ ((J 2 0 4) + x2) < 500 ∧ 8 ≤ D + 1 ∧ 0 ≤ x2 ∧ x2 < 4 ∧ zin (J 1 0 ((J 2 0 4) + x2)) ∧ zin ((([114, 111, 111, 116] : List Nat).getD x2.toNat 0 : Nat) : Int) ∧ ((J 1 0 ((J 2 0 4) + x2)) = ((([114, 111, 111, 116] : List Nat).getD x2.toNat 0 : Nat) : Int) → zGo L xs (D + 1) 88 20 [some (zr 2), some (zr 1000023), some (zi (x2 + 1))] [] J K Q) ∧ ((J 1 0 ((J 2 0 4) + x2)) ≠ ((([114, 111, 111, 116] : List Nat).getD x2.toNat 0 : Nat) : Int) → ((0 : Int) = 0 ∨ (0 : Int) = 1) ∧ Q (.inl (some (zi 0))) 0 J K))) :
  zGo L xs (D + 1) 88 20 [some (zr 2), some (zr 1000023), some (zi x2)] [] J K Q :=
  zrun_ok (T := mct88) (o := 7) (ret := (some FieldType.boolean)) (hs := [(20, [])]) hL rfl 17 _ _ _ _ _ _ _ h
/-! PartingTrains$Reader.isWord -/
set_option maxRecDepth 30000 in
theorem z88a {L : Nat} {xs : Nat → Int32} (hL : L ≤ 3072) {D : Nat} {J : zJ} {K : zK} {Q : zR → Nat → zJ → zK → Prop}
  (h : 8 ≤ D + 1 ∧ zin ((J 2 0 3) - (J 2 0 4)) ∧ zin 5 ∧ (((J 2 0 3) - (J 2 0 4)) = (5 : Int) → zGo L xs (D + 1) 88 20 [some (zr 2), some (zr 1000024), some (zi 0)] [] J K Q) ∧ (((J 2 0 3) - (J 2 0 4)) ≠ (5 : Int) → ((0 : Int) = 0 ∨ (0 : Int) = 1) ∧ Q (.inl (some (zi 0))) 0 J K)) :
  zCall L xs (D + 1) 88 [zr 2, zr 1000024] J K Q :=
  zrun_ok (T := mct88) (o := 7) (ret := (some FieldType.boolean)) (hs := [(20, [])]) hL rfl 10 _ _ _ _ _ _ _ h
set_option maxRecDepth 30000 in
theorem z88a_20 {L : Nat} {xs : Nat → Int32} (hL : L ≤ 3072) {D : Nat} {x2 : Int} {J : zJ} {K : zK} {Q : zR → Nat → zJ → zK → Prop}
  (h : 8 ≤ D + 1 ∧ zin x2 ∧ zin 5 ∧ ((5 : Int) ≤ x2 → ((1 : Int) = 0 ∨ (1 : Int) = 1) ∧ Q (.inl (some (zi 1))) 0 J K) ∧ (x2 < (5 : Int) → 0 ≤ ((J 2 0 4) + x2) ∧ ((J 2 0 4) + x2) < 500 ∧ 8 ≤ D + 1 ∧ 0 ≤ x2 ∧ x2 < 5 ∧ zin (J 1 0 ((J 2 0 4) + x2)) ∧ zin ((([112, 108, 97, 99, 101] : List Nat).getD x2.toNat 0 : Nat) : Int) ∧ ((J 1 0 ((J 2 0 4) + x2)) = ((([112, 108, 97, 99, 101] : List Nat).getD x2.toNat 0 : Nat) : Int) → zGo L xs (D + 1) 88 20 [some (zr 2), some (zr 1000024), some (zi (x2 + 1))] [] J K Q) ∧ ((J 1 0 ((J 2 0 4) + x2)) ≠ ((([112, 108, 97, 99, 101] : List Nat).getD x2.toNat 0 : Nat) : Int) → ((0 : Int) = 0 ∨ (0 : Int) = 1) ∧ Q (.inl (some (zi 0))) 0 J K))) :
  zGo L xs (D + 1) 88 20 [some (zr 2), some (zr 1000024), some (zi x2)] [] J K Q :=
  zrun_ok (T := mct88) (o := 7) (ret := (some FieldType.boolean)) (hs := [(20, [])]) hL rfl 17 _ _ _ _ _ _ _ h
/-! PartingTrains$Reader.isWord -/
set_option maxRecDepth 30000 in
theorem z88b {L : Nat} {xs : Nat → Int32} (hL : L ≤ 3072) {D : Nat} {J : zJ} {K : zK} {Q : zR → Nat → zJ → zK → Prop}
  (h : 8 ≤ D + 1 ∧ zin ((J 2 0 3) - (J 2 0 4)) ∧ zin 4 ∧ (((J 2 0 3) - (J 2 0 4)) = (4 : Int) → zGo L xs (D + 1) 88 20 [some (zr 2), some (zr 1000025), some (zi 0)] [] J K Q) ∧ (((J 2 0 3) - (J 2 0 4)) ≠ (4 : Int) → ((0 : Int) = 0 ∨ (0 : Int) = 1) ∧ Q (.inl (some (zi 0))) 0 J K)) :
  zCall L xs (D + 1) 88 [zr 2, zr 1000025] J K Q :=
  zrun_ok (T := mct88) (o := 7) (ret := (some FieldType.boolean)) (hs := [(20, [])]) hL rfl 10 _ _ _ _ _ _ _ h
set_option maxRecDepth 30000 in
theorem z88b_20 {L : Nat} {xs : Nat → Int32} (hL : L ≤ 3072) {D : Nat} {x2 : Int} {J : zJ} {K : zK} {Q : zR → Nat → zJ → zK → Prop}
  (h : 8 ≤ D + 1 ∧ zin x2 ∧ zin 4 ∧ ((4 : Int) ≤ x2 → ((1 : Int) = 0 ∨ (1 : Int) = 1) ∧ Q (.inl (some (zi 1))) 0 J K) ∧ (x2 < (4 : Int) → 0 ≤ ((J 2 0 4) + x2) ∧ ((J 2 0 4) + x2) < 500 ∧ 8 ≤ D + 1 ∧ 0 ≤ x2 ∧ x2 < 4 ∧ zin (J 1 0 ((J 2 0 4) + x2)) ∧ zin ((([102, 111, 114, 107] : List Nat).getD x2.toNat 0 : Nat) : Int) ∧ ((J 1 0 ((J 2 0 4) + x2)) = ((([102, 111, 114, 107] : List Nat).getD x2.toNat 0 : Nat) : Int) → zGo L xs (D + 1) 88 20 [some (zr 2), some (zr 1000025), some (zi (x2 + 1))] [] J K Q) ∧ ((J 1 0 ((J 2 0 4) + x2)) ≠ ((([102, 111, 114, 107] : List Nat).getD x2.toNat 0 : Nat) : Int) → ((0 : Int) = 0 ∨ (0 : Int) = 1) ∧ Q (.inl (some (zi 0))) 0 J K))) :
  zGo L xs (D + 1) 88 20 [some (zr 2), some (zr 1000025), some (zi x2)] [] J K Q :=
  zrun_ok (T := mct88) (o := 7) (ret := (some FieldType.boolean)) (hs := [(20, [])]) hL rfl 17 _ _ _ _ _ _ _ h
/-! PartingTrains$Reader.isWord -/
set_option maxRecDepth 30000 in
theorem z88c {L : Nat} {xs : Nat → Int32} (hL : L ≤ 3072) {D : Nat} {J : zJ} {K : zK} {Q : zR → Nat → zJ → zK → Prop}
  (h : 8 ≤ D + 1 ∧ zin ((J 2 0 3) - (J 2 0 4)) ∧ zin 7 ∧ (((J 2 0 3) - (J 2 0 4)) = (7 : Int) → zGo L xs (D + 1) 88 20 [some (zr 2), some (zr 1000026), some (zi 0)] [] J K Q) ∧ (((J 2 0 3) - (J 2 0 4)) ≠ (7 : Int) → ((0 : Int) = 0 ∨ (0 : Int) = 1) ∧ Q (.inl (some (zi 0))) 0 J K)) :
  zCall L xs (D + 1) 88 [zr 2, zr 1000026] J K Q :=
  zrun_ok (T := mct88) (o := 7) (ret := (some FieldType.boolean)) (hs := [(20, [])]) hL rfl 10 _ _ _ _ _ _ _ h
set_option maxRecDepth 30000 in
theorem z88c_20 {L : Nat} {xs : Nat → Int32} (hL : L ≤ 3072) {D : Nat} {x2 : Int} {J : zJ} {K : zK} {Q : zR → Nat → zJ → zK → Prop}
  (h : 8 ≤ D + 1 ∧ zin x2 ∧ zin 7 ∧ ((7 : Int) ≤ x2 → ((1 : Int) = 0 ∨ (1 : Int) = 1) ∧ Q (.inl (some (zi 1))) 0 J K) ∧ (x2 < (7 : Int) → 0 ≤ ((J 2 0 4) + x2) ∧ ((J 2 0 4) + x2) < 500 ∧ 8 ≤ D + 1 ∧ 0 ≤ x2 ∧ x2 < 7 ∧ zin (J 1 0 ((J 2 0 4) + x2)) ∧ zin ((([112, 111, 114, 116, 105, 111, 110] : List Nat).getD x2.toNat 0 : Nat) : Int) ∧ ((J 1 0 ((J 2 0 4) + x2)) = ((([112, 111, 114, 116, 105, 111, 110] : List Nat).getD x2.toNat 0 : Nat) : Int) → zGo L xs (D + 1) 88 20 [some (zr 2), some (zr 1000026), some (zi (x2 + 1))] [] J K Q) ∧ ((J 1 0 ((J 2 0 4) + x2)) ≠ ((([112, 111, 114, 116, 105, 111, 110] : List Nat).getD x2.toNat 0 : Nat) : Int) → ((0 : Int) = 0 ∨ (0 : Int) = 1) ∧ Q (.inl (some (zi 0))) 0 J K))) :
  zGo L xs (D + 1) 88 20 [some (zr 2), some (zr 1000026), some (zi x2)] [] J K Q :=
  zrun_ok (T := mct88) (o := 7) (ret := (some FieldType.boolean)) (hs := [(20, [])]) hL rfl 17 _ _ _ _ _ _ _ h
/-! PartingTrains$Reader.isWord -/
set_option maxRecDepth 30000 in
theorem z88d {L : Nat} {xs : Nat → Int32} (hL : L ≤ 3072) {D : Nat} {J : zJ} {K : zK} {Q : zR → Nat → zJ → zK → Prop}
  (h : 8 ≤ D + 1 ∧ zin ((J 2 0 3) - (J 2 0 4)) ∧ zin 4 ∧ (((J 2 0 3) - (J 2 0 4)) = (4 : Int) → zGo L xs (D + 1) 88 20 [some (zr 2), some (zr 1000027), some (zi 0)] [] J K Q) ∧ (((J 2 0 3) - (J 2 0 4)) ≠ (4 : Int) → ((0 : Int) = 0 ∨ (0 : Int) = 1) ∧ Q (.inl (some (zi 0))) 0 J K)) :
  zCall L xs (D + 1) 88 [zr 2, zr 1000027] J K Q :=
  zrun_ok (T := mct88) (o := 7) (ret := (some FieldType.boolean)) (hs := [(20, [])]) hL rfl 10 _ _ _ _ _ _ _ h
set_option maxRecDepth 30000 in
theorem z88d_20 {L : Nat} {xs : Nat → Int32} (hL : L ≤ 3072) {D : Nat} {x2 : Int} {J : zJ} {K : zK} {Q : zR → Nat → zJ → zK → Prop}
  (h : 8 ≤ D + 1 ∧ zin x2 ∧ zin 4 ∧ ((4 : Int) ≤ x2 → ((1 : Int) = 0 ∨ (1 : Int) = 1) ∧ Q (.inl (some (zi 1))) 0 J K) ∧ (x2 < (4 : Int) → 0 ≤ ((J 2 0 4) + x2) ∧ ((J 2 0 4) + x2) < 500 ∧ 8 ≤ D + 1 ∧ 0 ≤ x2 ∧ x2 < 4 ∧ zin (J 1 0 ((J 2 0 4) + x2)) ∧ zin ((([108, 97, 116, 101] : List Nat).getD x2.toNat 0 : Nat) : Int) ∧ ((J 1 0 ((J 2 0 4) + x2)) = ((([108, 97, 116, 101] : List Nat).getD x2.toNat 0 : Nat) : Int) → zGo L xs (D + 1) 88 20 [some (zr 2), some (zr 1000027), some (zi (x2 + 1))] [] J K Q) ∧ ((J 1 0 ((J 2 0 4) + x2)) ≠ ((([108, 97, 116, 101] : List Nat).getD x2.toNat 0 : Nat) : Int) → ((0 : Int) = 0 ∨ (0 : Int) = 1) ∧ Q (.inl (some (zi 0))) 0 J K))) :
  zGo L xs (D + 1) 88 20 [some (zr 2), some (zr 1000027), some (zi x2)] [] J K Q :=
  zrun_ok (T := mct88) (o := 7) (ret := (some FieldType.boolean)) (hs := [(20, [])]) hL rfl 17 _ _ _ _ _ _ _ h
/-! PartingTrains$Reader.isWord -/
set_option maxRecDepth 30000 in
theorem z88e {L : Nat} {xs : Nat → Int32} (hL : L ≤ 3072) {D : Nat} {J : zJ} {K : zK} {Q : zR → Nat → zJ → zK → Prop}
  (h : 8 ≤ D + 1 ∧ zin ((J 2 0 3) - (J 2 0 4)) ∧ zin 6 ∧ (((J 2 0 3) - (J 2 0 4)) = (6 : Int) → zGo L xs (D + 1) 88 20 [some (zr 2), some (zr 1000028), some (zi 0)] [] J K Q) ∧ (((J 2 0 3) - (J 2 0 4)) ≠ (6 : Int) → ((0 : Int) = 0 ∨ (0 : Int) = 1) ∧ Q (.inl (some (zi 0))) 0 J K)) :
  zCall L xs (D + 1) 88 [zr 2, zr 1000028] J K Q :=
  zrun_ok (T := mct88) (o := 7) (ret := (some FieldType.boolean)) (hs := [(20, [])]) hL rfl 10 _ _ _ _ _ _ _ h
set_option maxRecDepth 30000 in
theorem z88e_20 {L : Nat} {xs : Nat → Int32} (hL : L ≤ 3072) {D : Nat} {x2 : Int} {J : zJ} {K : zK} {Q : zR → Nat → zJ → zK → Prop}
  (h : 8 ≤ D + 1 ∧ zin x2 ∧ zin 6 ∧ ((6 : Int) ≤ x2 → ((1 : Int) = 0 ∨ (1 : Int) = 1) ∧ Q (.inl (some (zi 1))) 0 J K) ∧ (x2 < (6 : Int) → 0 ≤ ((J 2 0 4) + x2) ∧ ((J 2 0 4) + x2) < 500 ∧ 8 ≤ D + 1 ∧ 0 ≤ x2 ∧ x2 < 6 ∧ zin (J 1 0 ((J 2 0 4) + x2)) ∧ zin ((([101, 110, 103, 105, 110, 101] : List Nat).getD x2.toNat 0 : Nat) : Int) ∧ ((J 1 0 ((J 2 0 4) + x2)) = ((([101, 110, 103, 105, 110, 101] : List Nat).getD x2.toNat 0 : Nat) : Int) → zGo L xs (D + 1) 88 20 [some (zr 2), some (zr 1000028), some (zi (x2 + 1))] [] J K Q) ∧ ((J 1 0 ((J 2 0 4) + x2)) ≠ ((([101, 110, 103, 105, 110, 101] : List Nat).getD x2.toNat 0 : Nat) : Int) → ((0 : Int) = 0 ∨ (0 : Int) = 1) ∧ Q (.inl (some (zi 0))) 0 J K))) :
  zGo L xs (D + 1) 88 20 [some (zr 2), some (zr 1000028), some (zi x2)] [] J K Q :=
  zrun_ok (T := mct88) (o := 7) (ret := (some FieldType.boolean)) (hs := [(20, [])]) hL rfl 17 _ _ _ _ _ _ _ h
/-! PartingTrains$Reader.isWord -/
set_option maxRecDepth 30000 in
theorem z88f {L : Nat} {xs : Nat → Int32} (hL : L ≤ 3072) {D : Nat} {J : zJ} {K : zK} {Q : zR → Nat → zJ → zK → Prop}
  (h : 8 ≤ D + 1 ∧ zin ((J 2 0 3) - (J 2 0 4)) ∧ zin 4 ∧ (((J 2 0 3) - (J 2 0 4)) = (4 : Int) → zGo L xs (D + 1) 88 20 [some (zr 2), some (zr 1000029), some (zi 0)] [] J K Q) ∧ (((J 2 0 3) - (J 2 0 4)) ≠ (4 : Int) → ((0 : Int) = 0 ∨ (0 : Int) = 1) ∧ Q (.inl (some (zi 0))) 0 J K)) :
  zCall L xs (D + 1) 88 [zr 2, zr 1000029] J K Q :=
  zrun_ok (T := mct88) (o := 7) (ret := (some FieldType.boolean)) (hs := [(20, [])]) hL rfl 10 _ _ _ _ _ _ _ h
set_option maxRecDepth 30000 in
theorem z88f_20 {L : Nat} {xs : Nat → Int32} (hL : L ≤ 3072) {D : Nat} {x2 : Int} {J : zJ} {K : zK} {Q : zR → Nat → zJ → zK → Prop}
  (h : 8 ≤ D + 1 ∧ zin x2 ∧ zin 4 ∧ ((4 : Int) ≤ x2 → ((1 : Int) = 0 ∨ (1 : Int) = 1) ∧ Q (.inl (some (zi 1))) 0 J K) ∧ (x2 < (4 : Int) → 0 ≤ ((J 2 0 4) + x2) ∧ ((J 2 0 4) + x2) < 500 ∧ 8 ≤ D + 1 ∧ 0 ≤ x2 ∧ x2 < 4 ∧ zin (J 1 0 ((J 2 0 4) + x2)) ∧ zin ((([119, 97, 110, 116] : List Nat).getD x2.toNat 0 : Nat) : Int) ∧ ((J 1 0 ((J 2 0 4) + x2)) = ((([119, 97, 110, 116] : List Nat).getD x2.toNat 0 : Nat) : Int) → zGo L xs (D + 1) 88 20 [some (zr 2), some (zr 1000029), some (zi (x2 + 1))] [] J K Q) ∧ ((J 1 0 ((J 2 0 4) + x2)) ≠ ((([119, 97, 110, 116] : List Nat).getD x2.toNat 0 : Nat) : Int) → ((0 : Int) = 0 ∨ (0 : Int) = 1) ∧ Q (.inl (some (zi 0))) 0 J K))) :
  zGo L xs (D + 1) 88 20 [some (zr 2), some (zr 1000029), some (zi x2)] [] J K Q :=
  zrun_ok (T := mct88) (o := 7) (ret := (some FieldType.boolean)) (hs := [(20, [])]) hL rfl 17 _ _ _ _ _ _ _ h
/-! PartingTrains$Reader.read -/
set_option maxRecDepth 30000 in
theorem z89 {L : Nat} {xs : Nat → Int32} (hL : L ≤ 3072) {D : Nat} {x1 : Int} {J : zJ} {K : zK} {Q : zR → Nat → zJ → zK → Prop}
  (h : zCall L xs D 57 [zr 3] (zup (zup (zup (zup J 2 0 2 x1) 2 0 3 0) 2 0 5 0) 2 0 6 (-1)) K fun r1 e1 J1 K1 => zaV r1 e1 (zCall L xs D 97 [zr 2] J1 K1 fun r2 e2 J2 K2 => zaV r2 e2 (zCall L xs D 101 [zr 2] J2 K2 fun r3 e3 J3 K3 => zaV r3 e3 (zGo L xs (D + 1) 89 37 [some (zr 2), none, some (zi 1)] [] J3 K3 Q) (fun E => Q (.inr E) e3 J3 K3)) (fun E => Q (.inr E) e2 J2 K2)) (fun E => Q (.inr E) e1 J1 K1)) :
  zCall L xs (D + 1) 89 [zr 2, zi x1] J K Q :=
  zrun_ok (T := mct89) (o := 7) (ret := (some FieldType.int)) (hs := [(37, [1])]) hL rfl 21 _ _ _ _ _ _ _ h
set_option maxRecDepth 30000 in
theorem z89_37 {L : Nat} {xs : Nat → Int32} (hL : L ≤ 3072) {D : Nat} {x2 : Int} {J : zJ} {K : zK} {Q : zR → Nat → zJ → zK → Prop}
  (h : zin (J 2 0 5) ∧ ((J 2 0 5) ≠ (0 : Int) → Q (.inl (some (zi (J 2 0 5)))) 0 J K) ∧ ((J 2 0 5) = (0 : Int) → zin (J 2 0 3) ∧ zin (J 2 0 2) ∧ ((J 2 0 2) ≤ (J 2 0 3) → Q (.inl (some (zi (J 2 0 5)))) 0 J K) ∧ ((J 2 0 3) < (J 2 0 2) → zin x2 ∧ zin 40 ∧ ((40 : Int) < x2 → Q (.inl (some (zi (J 2 0 5)))) 0 J K) ∧ (x2 ≤ (40 : Int) → zin x2 ∧ zin 40 ∧ (x2 ≠ (40 : Int) → zCall L xs D 90 [zr 2, zi 0] J K fun r1 e1 J1 K1 => zaV r1 e1 (zCall L xs D 101 [zr 2] J1 K1 fun r2 e2 J2 K2 => zaV r2 e2 (zGo L xs (D + 1) 89 37 [some (zr 2), none, some (zi (x2 + 1))] [] J2 K2 Q) (fun E => Q (.inr E) e2 J2 K2)) (fun E => Q (.inr E) e1 J1 K1)) ∧ (x2 = (40 : Int) → zCall L xs D 90 [zr 2, zi 1] J K fun r3 e3 J3 K3 => zaV r3 e3 (zCall L xs D 101 [zr 2] J3 K3 fun r4 e4 J4 K4 => zaV r4 e4 (zGo L xs (D + 1) 89 37 [some (zr 2), none, some (zi (x2 + 1))] [] J4 K4 Q) (fun E => Q (.inr E) e4 J4 K4)) (fun E => Q (.inr E) e3 J3 K3)))))) :
  zGo L xs (D + 1) 89 37 [some (zr 2), none, some (zi x2)] [] J K Q :=
  zrun_ok (T := mct89) (o := 7) (ret := (some FieldType.int)) (hs := [(37, [1])]) hL rfl 22 _ _ _ _ _ _ _ h
/-! PartingTrains$Reader.readClause -/
set_option maxRecDepth 30000 in
theorem z90 {L : Nat} {xs : Nat → Int32} (hL : L ≤ 3072) {D : Nat} {x1 : Int} {J : zJ} {K : zK} {Q : zR → Nat → zJ → zK → Prop}
  (h : zCall L xs D 99 [zr 2] J K fun r1 e1 J1 K1 => zaV r1 e1 (zCall L xs D 88 [zr 2, zr 1000024] J1 K1 fun r2 e2 J2 K2 => zaI r2 e2 (fun x2_ => zin x2_ ∧ (x2_ = (0 : Int) → zCall L xs D 88 [zr 2, zr 1000025] J2 K2 fun r3 e3 J3 K3 => zaI r3 e3 (fun x3_ => zin x3_ ∧ (x3_ = (0 : Int) → zCall L xs D 88 [zr 2, zr 1000026] J3 K3 fun r4 e4 J4 K4 => zaI r4 e4 (fun x4_ => zin x4_ ∧ (x4_ = (0 : Int) → zCall L xs D 88 [zr 2, zr 1000027] J4 K4 fun r5 e5 J5 K5 => zaI r5 e5 (fun x5_ => zin x5_ ∧ (x5_ = (0 : Int) → zCall L xs D 88 [zr 2, zr 1000028] J5 K5 fun r6 e6 J6 K6 => zaI r6 e6 (fun x6_ => zin x6_ ∧ (x6_ = (0 : Int) → zCall L xs D 88 [zr 2, zr 1000029] J6 K6 fun r7 e7 J7 K7 => zaI r7 e7 (fun x7_ => zin x7_ ∧ (x7_ = (0 : Int) → zCall L xs D 86 [zr 2, zi 1, zi (J7 2 0 4)] J7 K7 fun r8 e8 J8 K8 => zaV r8 e8 (Q (.inl none) 0 J8 K8) (fun E => Q (.inr E) e8 J8 K8)) ∧ (x7_ ≠ (0 : Int) → zin x1 ∧ (x1 ≠ (0 : Int) → zCall L xs D 98 [zr 2, zi 1] J7 K7 fun r9 e9 J9 K9 => zaV r9 e9 (Q (.inl none) 0 J9 K9) (fun E => Q (.inr E) e9 J9 K9)) ∧ (x1 = (0 : Int) → zin (J7 3 0 14) ∧ zin 12 ∧ ((J7 3 0 14) < (12 : Int) → zCall L xs D 98 [zr 2, zi 0] J7 K7 fun r10 e10 J10 K10 => zaV r10 e10 (Q (.inl none) 0 J10 K10) (fun E => Q (.inr E) e10 J10 K10)) ∧ ((12 : Int) ≤ (J7 3 0 14) → zCall L xs D 98 [zr 2, zi 1] J7 K7 fun r11 e11 J11 K11 => zaV r11 e11 (Q (.inl none) 0 J11 K11) (fun E => Q (.inr E) e11 J11 K11))))) (fun E => Q (.inr E) e7 J7 K7)) ∧ (x6_ ≠ (0 : Int) → zin x1 ∧ (x1 ≠ (0 : Int) → zCall L xs D 91 [zr 2, zi 1] J6 K6 fun r12 e12 J12 K12 => zaV r12 e12 (Q (.inl none) 0 J12 K12) (fun E => Q (.inr E) e12 J12 K12)) ∧ (x1 = (0 : Int) → zin (J6 3 0 11) ∧ zin 8 ∧ ((J6 3 0 11) < (8 : Int) → zCall L xs D 91 [zr 2, zi 0] J6 K6 fun r13 e13 J13 K13 => zaV r13 e13 (Q (.inl none) 0 J13 K13) (fun E => Q (.inr E) e13 J13 K13)) ∧ ((8 : Int) ≤ (J6 3 0 11) → zCall L xs D 91 [zr 2, zi 1] J6 K6 fun r14 e14 J14 K14 => zaV r14 e14 (Q (.inl none) 0 J14 K14) (fun E => Q (.inr E) e14 J14 K14))))) (fun E => Q (.inr E) e6 J6 K6)) ∧ (x5_ ≠ (0 : Int) → zCall L xs D 93 [zr 2, zi x1] J5 K5 fun r15 e15 J15 K15 => zaV r15 e15 (Q (.inl none) 0 J15 K15) (fun E => Q (.inr E) e15 J15 K15))) (fun E => Q (.inr E) e5 J5 K5)) ∧ (x4_ ≠ (0 : Int) → zin x1 ∧ (x1 ≠ (0 : Int) → zCall L xs D 96 [zr 2, zi 1] J4 K4 fun r16 e16 J16 K16 => zaV r16 e16 (Q (.inl none) 0 J16 K16) (fun E => Q (.inr E) e16 J16 K16)) ∧ (x1 = (0 : Int) → zin (J4 3 0 6) ∧ zin 7 ∧ ((J4 3 0 6) < (7 : Int) → zCall L xs D 96 [zr 2, zi 0] J4 K4 fun r17 e17 J17 K17 => zaV r17 e17 (Q (.inl none) 0 J17 K17) (fun E => Q (.inr E) e17 J17 K17)) ∧ ((7 : Int) ≤ (J4 3 0 6) → zCall L xs D 96 [zr 2, zi 1] J4 K4 fun r18 e18 J18 K18 => zaV r18 e18 (Q (.inl none) 0 J18 K18) (fun E => Q (.inr E) e18 J18 K18))))) (fun E => Q (.inr E) e4 J4 K4)) ∧ (x3_ ≠ (0 : Int) → zCall L xs D 92 [zr 2, zi x1] J3 K3 fun r19 e19 J19 K19 => zaV r19 e19 (Q (.inl none) 0 J19 K19) (fun E => Q (.inr E) e19 J19 K19))) (fun E => Q (.inr E) e3 J3 K3)) ∧ (x2_ ≠ (0 : Int) → zin x1 ∧ (x1 ≠ (0 : Int) → zCall L xs D 95 [zr 2, zi 1] J2 K2 fun r20 e20 J20 K20 => zaV r20 e20 (Q (.inl none) 0 J20 K20) (fun E => Q (.inr E) e20 J20 K20)) ∧ (x1 = (0 : Int) → zin (J2 3 0 0) ∧ zin 12 ∧ ((J2 3 0 0) < (12 : Int) → zCall L xs D 95 [zr 2, zi 0] J2 K2 fun r21 e21 J21 K21 => zaV r21 e21 (Q (.inl none) 0 J21 K21) (fun E => Q (.inr E) e21 J21 K21)) ∧ ((12 : Int) ≤ (J2 3 0 0) → zCall L xs D 95 [zr 2, zi 1] J2 K2 fun r22 e22 J22 K22 => zaV r22 e22 (Q (.inl none) 0 J22 K22) (fun E => Q (.inr E) e22 J22 K22))))) (fun E => Q (.inr E) e2 J2 K2)) (fun E => Q (.inr E) e1 J1 K1)) :
  zCall L xs (D + 1) 90 [zr 2, zi x1] J K Q :=
  zrun_ok (T := mct90) (o := 7) (ret := none) (hs := []) hL rfl 39 _ _ _ _ _ _ _ h
/-! PartingTrains$Reader.readEngine -/
set_option maxRecDepth 30000 in
theorem z91 {L : Nat} {xs : Nat → Int32} (hL : L ≤ 3072) {D : Nat} {x1 : Int} {J : zJ} {K : zK} {Q : zR → Nat → zJ → zK → Prop}
  (h : zCall L xs D 100 [zr 2, zi x1] J K fun r1 e1 J1 K1 => zaV r1 e1 (zCall L xs D 94 [zr 2, zi 0, zi ((J1 3 0 0) - 1)] J1 K1 fun r2 e2 J2 K2 => zaI r2 e2 (fun x2_ => zCall L xs D 94 [zr 2, zi 1, zi 60] J2 K2 fun r3 e3 J3 K3 => zaI r3 e3 (fun x3_ => zCall L xs D 87 [zr 2] J3 K3 fun r4 e4 J4 K4 => zaI r4 e4 (fun x4_ => zin x4_ ∧ (x4_ = (0 : Int) → Q (.inl none) 0 J4 K4) ∧ (x4_ ≠ (0 : Int) → 0 ≤ (J4 3 0 11) ∧ (J4 3 0 11) < 8 ∧ 0 ≤ (J4 3 0 11) ∧ (J4 3 0 11) < 8 ∧ Q (.inl none) 0 (zup (zup (zup J4 13 0 (J4 3 0 11) x2_) 14 0 (J4 3 0 11) x3_) 3 0 11 ((J4 3 0 11) + 1)) K4)) (fun E => Q (.inr E) e4 J4 K4)) (fun E => Q (.inr E) e3 J3 K3)) (fun E => Q (.inr E) e2 J2 K2)) (fun E => Q (.inr E) e1 J1 K1)) :
  zCall L xs (D + 1) 91 [zr 2, zi x1] J K Q :=
  zrun_ok (T := mct91) (o := 7) (ret := none) (hs := []) hL rfl 44 _ _ _ _ _ _ _ h
/-! PartingTrains$Reader.readFork -/
set_option maxRecDepth 30000 in
theorem z92 {L : Nat} {xs : Nat → Int32} (hL : L ≤ 3072) {D : Nat} {x1 : Int} {J : zJ} {K : zK} {Q : zR → Nat → zJ → zK → Prop}
  (h : zCall L xs D 100 [zr 2, zi x1] J K fun r1 e1 J1 K1 => zaV r1 e1 (zCall L xs D 94 [zr 2, zi 0, zi ((J1 3 0 0) - 1)] J1 K1 fun r2 e2 J2 K2 => zaI r2 e2 (fun x2_ => zCall L xs D 94 [zr 2, zi 1, zi 60] J2 K2 fun r3 e3 J3 K3 => zaI r3 e3 (fun x3_ => zCall L xs D 94 [zr 2, zi 1, zi 60] J3 K3 fun r4 e4 J4 K4 => zaI r4 e4 (fun x4_ => zCall L xs D 87 [zr 2] J4 K4 fun r5 e5 J5 K5 => zaI r5 e5 (fun x5_ => zin x5_ ∧ (x5_ = (0 : Int) → Q (.inl none) 0 J5 K5) ∧ (x5_ ≠ (0 : Int) → 0 ≤ x2_ ∧ x2_ < 12 ∧ 0 ≤ x2_ ∧ x2_ < 12 ∧ Q (.inl none) 0 (zup (zup J5 7 0 x2_ x3_) 8 0 x2_ x4_) K5)) (fun E => Q (.inr E) e5 J5 K5)) (fun E => Q (.inr E) e4 J4 K4)) (fun E => Q (.inr E) e3 J3 K3)) (fun E => Q (.inr E) e2 J2 K2)) (fun E => Q (.inr E) e1 J1 K1)) :
  zCall L xs (D + 1) 92 [zr 2, zi x1] J K Q :=
  zrun_ok (T := mct92) (o := 7) (ret := none) (hs := []) hL rfl 38 _ _ _ _ _ _ _ h
/-! PartingTrains$Reader.readLate -/
set_option maxRecDepth 30000 in
theorem z93 {L : Nat} {xs : Nat → Int32} (hL : L ≤ 3072) {D : Nat} {x1 : Int} {J : zJ} {K : zK} {Q : zR → Nat → zJ → zK → Prop}
  (h : zCall L xs D 100 [zr 2, zi x1] J K fun r1 e1 J1 K1 => zaV r1 e1 (zCall L xs D 94 [zr 2, zi 0, zi ((J1 3 0 6) - 1)] J1 K1 fun r2 e2 J2 K2 => zaI r2 e2 (fun x2_ => zCall L xs D 94 [zr 2, zi 0, zi 19] J2 K2 fun r3 e3 J3 K3 => zaI r3 e3 (fun x3_ => zCall L xs D 94 [zr 2, zi 1, zi 120] J3 K3 fun r4 e4 J4 K4 => zaI r4 e4 (fun x4_ => zCall L xs D 87 [zr 2] J4 K4 fun r5 e5 J5 K5 => zaI r5 e5 (fun x5_ => zin x5_ ∧ (x5_ = (0 : Int) → Q (.inl none) 0 J5 K5) ∧ (x5_ ≠ (0 : Int) → 0 ≤ x2_ ∧ x2_ < 7 ∧ 0 ≤ x2_ ∧ x2_ < 7 ∧ Q (.inl none) 0 (zup (zup J5 11 0 x2_ x3_) 12 0 x2_ x4_) K5)) (fun E => Q (.inr E) e5 J5 K5)) (fun E => Q (.inr E) e4 J4 K4)) (fun E => Q (.inr E) e3 J3 K3)) (fun E => Q (.inr E) e2 J2 K2)) (fun E => Q (.inr E) e1 J1 K1)) :
  zCall L xs (D + 1) 93 [zr 2, zi x1] J K Q :=
  zrun_ok (T := mct93) (o := 7) (ret := none) (hs := []) hL rfl 38 _ _ _ _ _ _ _ h
/-! PartingTrains$Reader.readNumber -/
set_option maxRecDepth 30000 in
theorem z94 {L : Nat} {xs : Nat → Int32} (hL : L ≤ 3072) {D : Nat} {x1 x2 : Int} {J : zJ} {K : zK} {Q : zR → Nat → zJ → zK → Prop}
  (h : zin (J 2 0 5) ∧ ((J 2 0 5) = (0 : Int) → zCall L xs D 101 [zr 2] J K fun r1 e1 J1 K1 => zaV r1 e1 (zGo L xs (D + 1) 94 21 [some (zr 2), some (zi x1), some (zi x2), some (zi (J1 2 0 3)), some (zi 0)] [] J1 K1 Q) (fun E => Q (.inr E) e1 J1 K1)) ∧ ((J 2 0 5) ≠ (0 : Int) → Q (.inl (some (zi x1))) 0 J K)) :
  zCall L xs (D + 1) 94 [zr 2, zi x1, zi x2] J K Q :=
  zrun_ok (T := mct94) (o := 7) (ret := (some FieldType.int)) (hs := [(21, [])]) hL rfl 10 _ _ _ _ _ _ _ h
set_option maxRecDepth 30000 in
theorem z94_21 {L : Nat} {xs : Nat → Int32} (hL : L ≤ 3072) {D : Nat} {x1 x2 x3 x4 : Int} {J : zJ} {K : zK} {Q : zR → Nat → zJ → zK → Prop}
  (h : zin (J 2 0 3) ∧ zin (J 2 0 2) ∧ ((J 2 0 2) ≤ (J 2 0 3) → zin (J 2 0 3) ∧ zin x3 ∧ ((J 2 0 3) ≠ x3 → zin x4 ∧ zin x1 ∧ (x4 < x1 → zCall L xs D 86 [zr 2, zi 2, zi x3] J K fun r1 e1 J1 K1 => zaV r1 e1 (Q (.inl (some (zi x1))) 0 J1 K1) (fun E => Q (.inr E) e1 J1 K1)) ∧ (x1 ≤ x4 → zin x4 ∧ zin x2 ∧ (x4 ≤ x2 → Q (.inl (some (zi x4))) 0 J K) ∧ (x2 < x4 → zCall L xs D 86 [zr 2, zi 2, zi x3] J K fun r2 e2 J2 K2 => zaV r2 e2 (Q (.inl (some (zi x1))) 0 J2 K2) (fun E => Q (.inr E) e2 J2 K2)))) ∧ ((J 2 0 3) = x3 → zCall L xs D 86 [zr 2, zi 1, zi x3] J K fun r3 e3 J3 K3 => zaV r3 e3 (Q (.inl (some (zi x1))) 0 J3 K3) (fun E => Q (.inr E) e3 J3 K3))) ∧ ((J 2 0 3) < (J 2 0 2) → 0 ≤ (J 2 0 3) ∧ (J 2 0 3) < 500 ∧ zin (J 1 0 (J 2 0 3)) ∧ zin 48 ∧ ((J 1 0 (J 2 0 3)) < (48 : Int) → zin (J 2 0 3) ∧ zin x3 ∧ ((J 2 0 3) ≠ x3 → zin x4 ∧ zin x1 ∧ (x4 < x1 → zCall L xs D 86 [zr 2, zi 2, zi x3] J K fun r4 e4 J4 K4 => zaV r4 e4 (Q (.inl (some (zi x1))) 0 J4 K4) (fun E => Q (.inr E) e4 J4 K4)) ∧ (x1 ≤ x4 → zin x4 ∧ zin x2 ∧ (x4 ≤ x2 → Q (.inl (some (zi x4))) 0 J K) ∧ (x2 < x4 → zCall L xs D 86 [zr 2, zi 2, zi x3] J K fun r5 e5 J5 K5 => zaV r5 e5 (Q (.inl (some (zi x1))) 0 J5 K5) (fun E => Q (.inr E) e5 J5 K5)))) ∧ ((J 2 0 3) = x3 → zCall L xs D 86 [zr 2, zi 1, zi x3] J K fun r6 e6 J6 K6 => zaV r6 e6 (Q (.inl (some (zi x1))) 0 J6 K6) (fun E => Q (.inr E) e6 J6 K6))) ∧ ((48 : Int) ≤ (J 1 0 (J 2 0 3)) → 0 ≤ (J 2 0 3) ∧ (J 2 0 3) < 500 ∧ zin (J 1 0 (J 2 0 3)) ∧ zin 57 ∧ ((57 : Int) < (J 1 0 (J 2 0 3)) → zin (J 2 0 3) ∧ zin x3 ∧ ((J 2 0 3) ≠ x3 → zin x4 ∧ zin x1 ∧ (x4 < x1 → zCall L xs D 86 [zr 2, zi 2, zi x3] J K fun r7 e7 J7 K7 => zaV r7 e7 (Q (.inl (some (zi x1))) 0 J7 K7) (fun E => Q (.inr E) e7 J7 K7)) ∧ (x1 ≤ x4 → zin x4 ∧ zin x2 ∧ (x4 ≤ x2 → Q (.inl (some (zi x4))) 0 J K) ∧ (x2 < x4 → zCall L xs D 86 [zr 2, zi 2, zi x3] J K fun r8 e8 J8 K8 => zaV r8 e8 (Q (.inl (some (zi x1))) 0 J8 K8) (fun E => Q (.inr E) e8 J8 K8)))) ∧ ((J 2 0 3) = x3 → zCall L xs D 86 [zr 2, zi 1, zi x3] J K fun r9 e9 J9 K9 => zaV r9 e9 (Q (.inl (some (zi x1))) 0 J9 K9) (fun E => Q (.inr E) e9 J9 K9))) ∧ ((J 1 0 (J 2 0 3)) ≤ (57 : Int) → 0 ≤ (J 2 0 3) ∧ (J 2 0 3) < 500 ∧ zin (((x4 * 10) + (J 1 0 (J 2 0 3))) - 48) ∧ zin 1000000 ∧ 1 ≤ D + 1 ∧ zGo L xs (D + 1) 94 21 [some (zr 2), some (zi x1), some (zi x2), some (zi x3), some (zi (if 1000000 < (((x4 * 10) + (J 1 0 (J 2 0 3))) - 48) then 1000000 else (((x4 * 10) + (J 1 0 (J 2 0 3))) - 48)))] [] (zup J 2 0 3 ((J 2 0 3) + 1)) K Q)))) :
  zGo L xs (D + 1) 94 21 [some (zr 2), some (zi x1), some (zi x2), some (zi x3), some (zi x4)] [] J K Q :=
  zrun_ok (T := mct94) (o := 7) (ret := (some FieldType.int)) (hs := [(21, [])]) hL rfl 40 _ _ _ _ _ _ _ h
/-! PartingTrains$Reader.readPlace -/
set_option maxRecDepth 30000 in
theorem z95 {L : Nat} {xs : Nat → Int32} (hL : L ≤ 3072) {D : Nat} {x1 : Int} {J : zJ} {K : zK} {Q : zR → Nat → zJ → zK → Prop}
  (h : zCall L xs D 100 [zr 2, zi x1] J K fun r1 e1 J1 K1 => zaV r1 e1 (zCall L xs D 94 [zr 2, zi 0, zi ((J1 3 0 0) - 1)] J1 K1 fun r2 e2 J2 K2 => zaI r2 e2 (fun x2_ => zCall L xs D 94 [zr 2, zi 1, zi 240] J2 K2 fun r3 e3 J3 K3 => zaI r3 e3 (fun x3_ => zCall L xs D 94 [zr 2, zi 1, zi 60] J3 K3 fun r4 e4 J4 K4 => zaI r4 e4 (fun x4_ => zCall L xs D 87 [zr 2] J4 K4 fun r5 e5 J5 K5 => zaI r5 e5 (fun x5_ => zin x5_ ∧ (x5_ = (0 : Int) → Q (.inl none) 0 J5 K5) ∧ (x5_ ≠ (0 : Int) → 0 ≤ (J5 3 0 0) ∧ (J5 3 0 0) < 12 ∧ 0 ≤ (J5 3 0 0) ∧ (J5 3 0 0) < 12 ∧ 0 ≤ (J5 3 0 0) ∧ (J5 3 0 0) < 12 ∧ Q (.inl none) 0 (zup (zup (zup (zup J5 4 0 (J5 3 0 0) x2_) 5 0 (J5 3 0 0) x3_) 6 0 (J5 3 0 0) x4_) 3 0 0 ((J5 3 0 0) + 1)) K5)) (fun E => Q (.inr E) e5 J5 K5)) (fun E => Q (.inr E) e4 J4 K4)) (fun E => Q (.inr E) e3 J3 K3)) (fun E => Q (.inr E) e2 J2 K2)) (fun E => Q (.inr E) e1 J1 K1)) :
  zCall L xs (D + 1) 95 [zr 2, zi x1] J K Q :=
  zrun_ok (T := mct95) (o := 7) (ret := none) (hs := []) hL rfl 54 _ _ _ _ _ _ _ h
/-! PartingTrains$Reader.readPortion -/
set_option maxRecDepth 30000 in
theorem z96 {L : Nat} {xs : Nat → Int32} (hL : L ≤ 3072) {D : Nat} {x1 : Int} {J : zJ} {K : zK} {Q : zR → Nat → zJ → zK → Prop}
  (h : zCall L xs D 100 [zr 2, zi x1] J K fun r1 e1 J1 K1 => zaV r1 e1 (zCall L xs D 94 [zr 2, zi 1, zi ((J1 3 0 0) - 1)] J1 K1 fun r2 e2 J2 K2 => zaI r2 e2 (fun x2_ => zCall L xs D 94 [zr 2, zi 1, zi 15] J2 K2 fun r3 e3 J3 K3 => zaI r3 e3 (fun x3_ => zCall L xs D 87 [zr 2] J3 K3 fun r4 e4 J4 K4 => zaI r4 e4 (fun x4_ => zin x4_ ∧ (x4_ = (0 : Int) → Q (.inl none) 0 J4 K4) ∧ (x4_ ≠ (0 : Int) → 0 ≤ (J4 3 0 6) ∧ (J4 3 0 6) < 7 ∧ 0 ≤ (J4 3 0 6) ∧ (J4 3 0 6) < 7 ∧ Q (.inl none) 0 (zup (zup (zup J4 9 0 (J4 3 0 6) x2_) 10 0 (J4 3 0 6) x3_) 3 0 6 ((J4 3 0 6) + 1)) K4)) (fun E => Q (.inr E) e4 J4 K4)) (fun E => Q (.inr E) e3 J3 K3)) (fun E => Q (.inr E) e2 J2 K2)) (fun E => Q (.inr E) e1 J1 K1)) :
  zCall L xs (D + 1) 96 [zr 2, zi x1] J K Q :=
  zrun_ok (T := mct96) (o := 7) (ret := none) (hs := []) hL rfl 44 _ _ _ _ _ _ _ h
/-! PartingTrains$Reader.readRoot -/
set_option maxRecDepth 30000 in
theorem z97 {L : Nat} {xs : Nat → Int32} (hL : L ≤ 3072) {D : Nat} {J : zJ} {K : zK} {Q : zR → Nat → zJ → zK → Prop}
  (h : zCall L xs D 99 [zr 2] J K fun r1 e1 J1 K1 => zaV r1 e1 (zCall L xs D 88 [zr 2, zr 1000023] J1 K1 fun r2 e2 J2 K2 => zaI r2 e2 (fun x2_ => zin x2_ ∧ (x2_ ≠ (0 : Int) → zCall L xs D 94 [zr 2, zi 1, zi 60] J2 K2 fun r3 e3 J3 K3 => zaI r3 e3 (fun x3_ => zCall L xs D 87 [zr 2] J3 K3 fun r4 e4 J4 K4 => zaI r4 e4 (fun x4_ => zin x4_ ∧ (x4_ = (0 : Int) → Q (.inl none) 0 J4 K4) ∧ (x4_ ≠ (0 : Int) → 0 ≤ (0 : Int) ∧ (0 : Int) < 12 ∧ 0 ≤ (0 : Int) ∧ (0 : Int) < 12 ∧ 0 ≤ (0 : Int) ∧ (0 : Int) < 12 ∧ Q (.inl none) 0 (zup (zup (zup (zup J4 6 0 0 x3_) 4 0 0 0) 5 0 0 0) 3 0 0 1) K4)) (fun E => Q (.inr E) e4 J4 K4)) (fun E => Q (.inr E) e3 J3 K3)) ∧ (x2_ = (0 : Int) → zCall L xs D 86 [zr 2, zi 1, zi (J2 2 0 4)] J2 K2 fun r5 e5 J5 K5 => zaV r5 e5 (Q (.inl none) 0 J5 K5) (fun E => Q (.inr E) e5 J5 K5))) (fun E => Q (.inr E) e2 J2 K2)) (fun E => Q (.inr E) e1 J1 K1)) :
  zCall L xs (D + 1) 97 [zr 2] J K Q :=
  zrun_ok (T := mct97) (o := 7) (ret := none) (hs := []) hL rfl 37 _ _ _ _ _ _ _ h
/-! PartingTrains$Reader.readWant -/
set_option maxRecDepth 30000 in
theorem z98 {L : Nat} {xs : Nat → Int32} (hL : L ≤ 3072) {D : Nat} {x1 : Int} {J : zJ} {K : zK} {Q : zR → Nat → zJ → zK → Prop}
  (h : zCall L xs D 100 [zr 2, zi x1] J K fun r1 e1 J1 K1 => zaV r1 e1 (zCall L xs D 94 [zr 2, zi 1, zi ((J1 3 0 0) - 1)] J1 K1 fun r2 e2 J2 K2 => zaI r2 e2 (fun x2_ => zCall L xs D 94 [zr 2, zi 1, zi 999] J2 K2 fun r3 e3 J3 K3 => zaI r3 e3 (fun x3_ => zCall L xs D 94 [zr 2, zi 0, zi 1439] J3 K3 fun r4 e4 J4 K4 => zaI r4 e4 (fun x4_ => zCall L xs D 87 [zr 2] J4 K4 fun r5 e5 J5 K5 => zaI r5 e5 (fun x5_ => zin x5_ ∧ (x5_ = (0 : Int) → Q (.inl none) 0 J5 K5) ∧ (x5_ ≠ (0 : Int) → 0 ≤ (J5 3 0 14) ∧ (J5 3 0 14) < 12 ∧ 0 ≤ (J5 3 0 14) ∧ (J5 3 0 14) < 12 ∧ 0 ≤ (J5 3 0 14) ∧ (J5 3 0 14) < 12 ∧ Q (.inl none) 0 (zup (zup (zup (zup J5 15 0 (J5 3 0 14) x2_) 16 0 (J5 3 0 14) x3_) 17 0 (J5 3 0 14) x4_) 3 0 14 ((J5 3 0 14) + 1)) K5)) (fun E => Q (.inr E) e5 J5 K5)) (fun E => Q (.inr E) e4 J4 K4)) (fun E => Q (.inr E) e3 J3 K3)) (fun E => Q (.inr E) e2 J2 K2)) (fun E => Q (.inr E) e1 J1 K1)) :
  zCall L xs (D + 1) 98 [zr 2, zi x1] J K Q :=
  zrun_ok (T := mct98) (o := 7) (ret := none) (hs := []) hL rfl 57 _ _ _ _ _ _ _ h
/-! PartingTrains$Reader.readWord -/
set_option maxRecDepth 30000 in
theorem z99 {L : Nat} {xs : Nat → Int32} (hL : L ≤ 3072) {D : Nat} {J : zJ} {K : zK} {Q : zR → Nat → zJ → zK → Prop}
  (h : zCall L xs D 101 [zr 2] J K fun r1 e1 J1 K1 => zaV r1 e1 (zGo L xs (D + 1) 99 12 [some (zr 2)] [] (zup J1 2 0 4 (J1 2 0 3)) K1 Q) (fun E => Q (.inr E) e1 J1 K1)) :
  zCall L xs (D + 1) 99 [zr 2] J K Q :=
  zrun_ok (T := mct99) (o := 7) (ret := none) (hs := [(12, [])]) hL rfl 6 _ _ _ _ _ _ _ h
set_option maxRecDepth 30000 in
theorem z99_12 {L : Nat} {xs : Nat → Int32} (hL : L ≤ 3072) {D : Nat} {J : zJ} {K : zK} {Q : zR → Nat → zJ → zK → Prop}
  (h : zin (J 2 0 3) ∧ zin (J 2 0 2) ∧ ((J 2 0 2) ≤ (J 2 0 3) → Q (.inl none) 0 J K) ∧ ((J 2 0 3) < (J 2 0 2) → 0 ≤ (J 2 0 3) ∧ (J 2 0 3) < 500 ∧ zin (J 1 0 (J 2 0 3)) ∧ zin 97 ∧ ((J 1 0 (J 2 0 3)) < (97 : Int) → Q (.inl none) 0 J K) ∧ ((97 : Int) ≤ (J 1 0 (J 2 0 3)) → 0 ≤ (J 2 0 3) ∧ (J 2 0 3) < 500 ∧ zin (J 1 0 (J 2 0 3)) ∧ zin 122 ∧ ((122 : Int) < (J 1 0 (J 2 0 3)) → Q (.inl none) 0 J K) ∧ ((J 1 0 (J 2 0 3)) ≤ (122 : Int) → zGo L xs (D + 1) 99 12 [some (zr 2)] [] (zup J 2 0 3 ((J 2 0 3) + 1)) K Q)))) :
  zGo L xs (D + 1) 99 12 [some (zr 2)] [] J K Q :=
  zrun_ok (T := mct99) (o := 7) (ret := none) (hs := [(12, [])]) hL rfl 26 _ _ _ _ _ _ _ h
/-! PartingTrains$Reader.refuseIf -/
set_option maxRecDepth 30000 in
theorem z100 {L : Nat} {xs : Nat → Int32} (hL : L ≤ 3072) {D : Nat} {x1 : Int} {J : zJ} {K : zK} {Q : zR → Nat → zJ → zK → Prop}
  (h : zin x1 ∧ (x1 = (0 : Int) → Q (.inl none) 0 J K) ∧ (x1 ≠ (0 : Int) → zCall L xs D 86 [zr 2, zi 3, zi (J 2 0 4)] J K fun r1 e1 J1 K1 => zaV r1 e1 (Q (.inl none) 0 J1 K1) (fun E => Q (.inr E) e1 J1 K1))) :
  zCall L xs (D + 1) 100 [zr 2, zi x1] J K Q :=
  zrun_ok (T := mct100) (o := 7) (ret := none) (hs := []) hL rfl 8 _ _ _ _ _ _ _ h
/-! PartingTrains$Reader.skipBlanks -/
set_option maxRecDepth 30000 in
theorem z101 {L : Nat} {xs : Nat → Int32} (hL : L ≤ 3072) {D : Nat} {J : zJ} {K : zK} {Q : zR → Nat → zJ → zK → Prop}
  (h : zin (J 2 0 3) ∧ zin (J 2 0 2) ∧ ((J 2 0 2) ≤ (J 2 0 3) → Q (.inl none) 0 J K) ∧ ((J 2 0 3) < (J 2 0 2) → 0 ≤ (J 2 0 3) ∧ (J 2 0 3) < 500 ∧ zin (J 1 0 (J 2 0 3)) ∧ zin 32 ∧ ((J 1 0 (J 2 0 3)) ≠ (32 : Int) → Q (.inl none) 0 J K) ∧ ((J 1 0 (J 2 0 3)) = (32 : Int) → zGo L xs (D + 1) 101 0 [some (zr 2)] [] (zup J 2 0 3 ((J 2 0 3) + 1)) K Q))) :
  zCall L xs (D + 1) 101 [zr 2] J K Q :=
  zrun_ok (T := mct101) (o := 7) (ret := none) (hs := [(0, [])]) hL rfl 19 _ _ _ _ _ _ _ h
set_option maxRecDepth 30000 in
theorem z101_0 {L : Nat} {xs : Nat → Int32} (hL : L ≤ 3072) {D : Nat} {J : zJ} {K : zK} {Q : zR → Nat → zJ → zK → Prop}
  (h : zin (J 2 0 3) ∧ zin (J 2 0 2) ∧ ((J 2 0 2) ≤ (J 2 0 3) → Q (.inl none) 0 J K) ∧ ((J 2 0 3) < (J 2 0 2) → 0 ≤ (J 2 0 3) ∧ (J 2 0 3) < 500 ∧ zin (J 1 0 (J 2 0 3)) ∧ zin 32 ∧ ((J 1 0 (J 2 0 3)) ≠ (32 : Int) → Q (.inl none) 0 J K) ∧ ((J 1 0 (J 2 0 3)) = (32 : Int) → zGo L xs (D + 1) 101 0 [some (zr 2)] [] (zup J 2 0 3 ((J 2 0 3) + 1)) K Q))) :
  zGo L xs (D + 1) 101 0 [some (zr 2)] [] J K Q :=
  zrun_ok (T := mct101) (o := 7) (ret := none) (hs := [(0, [])]) hL rfl 19 _ _ _ _ _ _ _ h
