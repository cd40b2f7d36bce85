/-! REGION LEMMAS of the integer machine (printed by wip/whole/tools/zemit.py) -/
/-! PartingTrains$Roster.allJobs -/
set_option maxRecDepth 30000 in
theorem z103 {L : Nat} {xs : Nat → Int32} (hL : L ≤ 3072) {D : Nat} {J : zJ} {K : zK} {Q : zR → Nat → zJ → zK → Prop}
  (h : 0 ≤ (J 40 0 5) ∧ (J 40 0 5) < 32 ∧ Q (.inl (some (zi ((1 * 2 ^ ((J 40 0 5).toNat)) - 1)))) 0 J K) :
  zCall L xs (D + 1) 103 [zr 136] J K Q :=
  zrun_ok (T := mct103) (o := 8) (ret := (some FieldType.int)) (hs := []) hL rfl 8 _ _ _ _ _ _ _ h
/-! PartingTrains$Roster.canFollow -/
set_option maxRecDepth 30000 in
theorem z104 {L : Nat} {xs : Nat → Int32} (hL : L ≤ 3072) {D : Nat} {x1 x2 : Int} {J : zJ} {K : zK} {Q : zR → Nat → zJ → zK → Prop}
  (h : zin x1 ∧ zin x2 ∧ (x1 ≠ x2 → 0 ≤ x2 ∧ x2 < 14 ∧ 0 ≤ x2 ∧ x2 < 14 ∧ 0 ≤ x1 ∧ x1 < 14 ∧ zCall L xs D 121 [zr 33, zi (J 47 0 x2), zi (J 45 0 x1)] J K fun r1 e1 J1 K1 => zaI r1 e1 (fun x1_ => 0 ≤ x1 ∧ x1 < 14 ∧ zin ((J 48 0 x2) + x1_) ∧ zin (J1 46 0 x1) ∧ ((J1 46 0 x1) < ((J 48 0 x2) + x1_) → ((0 : Int) = 0 ∨ (0 : Int) = 1) ∧ Q (.inl (some (zi 0))) 0 J1 K1) ∧ (((J 48 0 x2) + x1_) ≤ (J1 46 0 x1) → ((1 : Int) = 0 ∨ (1 : Int) = 1) ∧ Q (.inl (some (zi 1))) 0 J1 K1)) (fun E => Q (.inr E) e1 J1 K1)) ∧ (x1 = x2 → ((0 : Int) = 0 ∨ (0 : Int) = 1) ∧ Q (.inl (some (zi 0))) 0 J K)) :
  zCall L xs (D + 1) 104 [zr 136, zi x1, zi x2] J K Q :=
  zrun_ok (T := mct104) (o := 8) (ret := (some FieldType.boolean)) (hs := []) hL rfl 33 _ _ _ _ _ _ _ h
/-! PartingTrains$Roster.enginesFor -/
set_option maxRecDepth 30000 in
theorem z105 {L : Nat} {xs : Nat → Int32} (hL : L ≤ 3072) {D : Nat} {x1 : Int} {J : zJ} {K : zK} {Q : zR → Nat → zJ → zK → Prop}
  (h : zCall L xs D 315 [zr 139, zi (-1)] J K fun r1 e1 J1 K1 => zaV r1 e1 (zGo L xs (D + 1) 105 12 [some (zr 136), some (zi x1), some (zi 0), some (zi 0)] [] J1 K1 Q) (fun E => Q (.inr E) e1 J1 K1)) :
  zCall L xs (D + 1) 105 [zr 136, zi x1] J K Q :=
  zrun_ok (T := mct105) (o := 8) (ret := (some FieldType.int)) (hs := [(12, [])]) hL rfl 8 _ _ _ _ _ _ _ h
set_option maxRecDepth 30000 in
theorem z105_12 {L : Nat} {xs : Nat → Int32} (hL : L ≤ 3072) {D : Nat} {x1 x2 x3 : Int} {J : zJ} {K : zK} {Q : zR → Nat → zJ → zK → Prop}
  (h : zin x3 ∧ zin (J 40 0 5) ∧ ((J 40 0 5) ≤ x3 → zCall L xs D 317 [zi x1] J K fun r1 e1 J1 K1 => zaI r1 e1 (fun x1_ => Q (.inl (some (zi (x1_ - x2)))) 0 J1 K1) (fun E => Q (.inr E) e1 J1 K1)) ∧ (x3 < (J 40 0 5) → zin x1 ∧ 0 ≤ x3 ∧ x3 < 32 ∧ zin (zand (x1 / 2 ^ (x3.toNat)) 1) ∧ ((zand (x1 / 2 ^ (x3.toNat)) 1) = (0 : Int) → zGo L xs (D + 1) 105 12 [some (zr 136), some (zi x1), some (zi x2), some (zi (x3 + 1))] [] J K Q) ∧ ((zand (x1 / 2 ^ (x3.toNat)) 1) ≠ (0 : Int) → zCall L xs D 108 [zr 136, zi x3, zi x1, zi 0] (zup J 136 0 6 0) K fun r2 e2 J2 K2 => zaI r2 e2 (fun x2_ => zin x2_ ∧ (x2_ = (0 : Int) → zGo L xs (D + 1) 105 12 [some (zr 136), some (zi x1), some (zi x2), some (zi (x3 + 1))] [] J2 K2 Q) ∧ (x2_ ≠ (0 : Int) → zGo L xs (D + 1) 105 12 [some (zr 136), some (zi x1), some (zi (x2 + 1)), some (zi (x3 + 1))] [] J2 K2 Q)) (fun E => Q (.inr E) e2 J2 K2)))) :
  zGo L xs (D + 1) 105 12 [some (zr 136), some (zi x1), some (zi x2), some (zi x3)] [] J K Q :=
  zrun_ok (T := mct105) (o := 8) (ret := (some FieldType.int)) (hs := [(12, [])]) hL rfl 23 _ _ _ _ _ _ _ h
/-! PartingTrains$Roster.fewestEngines -/
set_option maxRecDepth 30000 in
theorem z106 {L : Nat} {xs : Nat → Int32} (hL : L ≤ 3072) {D : Nat} {J : zJ} {K : zK} {Q : zR → Nat → zJ → zK → Prop}
  (h : zCall L xs D 109 [zr 136] J K fun r1 e1 J1 K1 => zaV r1 e1 (zCall L xs D 103 [zr 136] J1 K1 fun r2 e2 J2 K2 => zaI r2 e2 (fun x2_ => zCall L xs D 105 [zr 136, zi x2_] J2 K2 fun r3 e3 J3 K3 => zaI r3 e3 (fun x3_ => Q (.inl (some (zi x3_))) 0 J3 K3) (fun E => Q (.inr E) e3 J3 K3)) (fun E => Q (.inr E) e2 J2 K2)) (fun E => Q (.inr E) e1 J1 K1)) :
  zCall L xs (D + 1) 106 [zr 136] J K Q :=
  zrun_ok (T := mct106) (o := 8) (ret := (some FieldType.int)) (hs := []) hL rfl 7 _ _ _ _ _ _ _ h
/-! PartingTrains$Roster.findLight -/
set_option maxRecDepth 30000 in
theorem z107 {L : Nat} {xs : Nat → Int32} (hL : L ≤ 3072) {D : Nat} {x1 : Int} {J : zJ} {K : zK} {Q : zR → Nat → zJ → zK → Prop}
  (h : zGo L xs (D + 1) 107 2 [some (zr 136), some (zi x1), some (zi 0), none] [] J K Q) :
  zCall L xs (D + 1) 107 [zr 136, zi x1] J K Q :=
  zrun_ok (T := mct107) (o := 8) (ret := none) (hs := [(2, [3]), (40, [3])]) hL rfl 2 _ _ _ _ _ _ _ h
set_option maxRecDepth 30000 in
theorem z107_2 {L : Nat} {xs : Nat → Int32} (hL : L ≤ 3072) {D : Nat} {x1 x2 : Int} {J : zJ} {K : zK} {Q : zR → Nat → zJ → zK → Prop}
  (h : zin x2 ∧ zin x1 ∧ (x1 ≤ x2 → zCall L xs D 113 [zr 136, zi x1] J K fun r1 e1 J1 K1 => zaI r1 e1 (fun x1_ => zCall L xs D 110 [zr 136, zi x1] (zup J1 136 0 8 x1_) K1 fun r2 e2 J2 K2 => zaI r2 e2 (fun x2_ => zGo L xs (D + 1) 107 40 [some (zr 136), some (zi x1), some (zi 0), none] [] (zup J2 136 0 9 x2_) K2 Q) (fun E => Q (.inr E) e2 J2 K2)) (fun E => Q (.inr E) e1 J1 K1)) ∧ (x2 < x1 → 0 ≤ x2 ∧ x2 < 3 ∧ zGo L xs (D + 1) 107 2 [some (zr 136), some (zi x1), some (zi (x2 + 1)), none] [] (zup J 140 0 x2 x2) K Q)) :
  zGo L xs (D + 1) 107 2 [some (zr 136), some (zi x1), some (zi x2), none] [] J K Q :=
  zrun_ok (T := mct107) (o := 8) (ret := none) (hs := [(2, [3]), (40, [3])]) hL rfl 15 _ _ _ _ _ _ _ h
set_option maxRecDepth 30000 in
theorem z107_40 {L : Nat} {xs : Nat → Int32} (hL : L ≤ 3072) {D : Nat} {x1 x2 : Int} {J : zJ} {K : zK} {Q : zR → Nat → zJ → zK → Prop}
  (h : zin x2 ∧ zin 220 ∧ ((220 : Int) ≤ x2 → Q (.inl none) 0 J K) ∧ (x2 < (220 : Int) → zCall L xs D 111 [zr 136, zi x1] J K fun r1 e1 J1 K1 => zaI r1 e1 (fun x1_ => zin x1_ ∧ (x1_ = (0 : Int) → Q (.inl none) 0 J1 K1) ∧ (x1_ ≠ (0 : Int) → zCall L xs D 113 [zr 136, zi x1] J1 K1 fun r2 e2 J2 K2 => zaI r2 e2 (fun x2_ => zin x2_ ∧ zin (J2 136 0 8) ∧ ((J2 136 0 8) ≤ x2_ → zGo L xs (D + 1) 107 40 [some (zr 136), some (zi x1), some (zi (x2 + 1)), none] [] J2 K2 Q) ∧ (x2_ < (J2 136 0 8) → zCall L xs D 110 [zr 136, zi x1] (zup J2 136 0 8 x2_) K2 fun r3 e3 J3 K3 => zaI r3 e3 (fun x3_ => zGo L xs (D + 1) 107 40 [some (zr 136), some (zi x1), some (zi (x2 + 1)), none] [] (zup J3 136 0 9 x3_) K3 Q) (fun E => Q (.inr E) e3 J3 K3))) (fun E => Q (.inr E) e2 J2 K2))) (fun E => Q (.inr E) e1 J1 K1))) :
  zGo L xs (D + 1) 107 40 [some (zr 136), some (zi x1), some (zi x2), none] [] J K Q :=
  zrun_ok (T := mct107) (o := 8) (ret := none) (hs := [(2, [3]), (40, [3])]) hL rfl 25 _ _ _ _ _ _ _ h
/-! PartingTrains$Roster.findsNext -/
set_option maxRecDepth 30000 in
theorem z108 {L : Nat} {xs : Nat → Int32} (hL : L ≤ 3072) {D : Nat} {x1 x2 x3 : Int} {J : zJ} {K : zK} {Q : zR → Nat → zJ → zK → Prop}
  (h : zin x3 ∧ zin 14 ∧ (x3 ≤ (14 : Int) → zGo L xs (D + 1) 108 11 [some (zr 136), some (zi x1), some (zi x2), some (zi x3), some (zi 0)] [] J K Q) ∧ ((14 : Int) < x3 → ((0 : Int) = 0 ∨ (0 : Int) = 1) ∧ Q (.inl (some (zi 0))) 0 J K)) :
  zCall L xs (D + 1) 108 [zr 136, zi x1, zi x2, zi x3] J K Q :=
  zrun_ok (T := mct108) (o := 8) (ret := (some FieldType.boolean)) (hs := [(11, [])]) hL rfl 5 _ _ _ _ _ _ _ h
set_option maxRecDepth 30000 in
theorem z108_11 {L : Nat} {xs : Nat → Int32} (hL : L ≤ 3072) {D : Nat} {x1 x2 x3 x4 : Int} {J : zJ} {K : zK} {Q : zR → Nat → zJ → zK → Prop}
  (h : zin x4 ∧ zin (J 40 0 5) ∧ ((J 40 0 5) ≤ x4 → ((0 : Int) = 0 ∨ (0 : Int) = 1) ∧ Q (.inl (some (zi 0))) 0 J K) ∧ (x4 < (J 40 0 5) → 0 ≤ x1 ∧ x1 < 14 ∧ 0 ≤ x4 ∧ x4 < 32 ∧ zin (zand (zand (zand (J 137 0 x1) x2) (zxor (J 136 0 6) (-1))) (1 * 2 ^ (x4.toNat))) ∧ ((zand (zand (zand (J 137 0 x1) x2) (zxor (J 136 0 6) (-1))) (1 * 2 ^ (x4.toNat))) = (0 : Int) → zGo L xs (D + 1) 108 11 [some (zr 136), some (zi x1), some (zi x2), some (zi x3), some (zi (x4 + 1))] [] J K Q) ∧ ((zand (zand (zand (J 137 0 x1) x2) (zxor (J 136 0 6) (-1))) (1 * 2 ^ (x4.toNat))) ≠ (0 : Int) → 0 ≤ x4 ∧ x4 < 32 ∧ 0 ≤ x4 ∧ x4 < 14 ∧ zin (J 139 0 x4) ∧ zin (-1) ∧ ((J 139 0 x4) = (-1 : Int) → 0 ≤ x4 ∧ x4 < 14 ∧ ((1 : Int) = 0 ∨ (1 : Int) = 1) ∧ Q (.inl (some (zi 1))) 0 (zup (zup J 136 0 6 (zor (J 136 0 6) (1 * 2 ^ (x4.toNat)))) 139 0 x4 x1) K) ∧ ((J 139 0 x4) ≠ (-1 : Int) → 0 ≤ x4 ∧ x4 < 14 ∧ zCall L xs D 108 [zr 136, zi (J 139 0 x4), zi x2, zi (x3 + 1)] (zup J 136 0 6 (zor (J 136 0 6) (1 * 2 ^ (x4.toNat)))) K fun r1 e1 J1 K1 => zaI r1 e1 (fun x1_ => zin x1_ ∧ (x1_ = (0 : Int) → zGo L xs (D + 1) 108 11 [some (zr 136), some (zi x1), some (zi x2), some (zi x3), some (zi (x4 + 1))] [] J1 K1 Q) ∧ (x1_ ≠ (0 : Int) → 0 ≤ x4 ∧ x4 < 14 ∧ ((1 : Int) = 0 ∨ (1 : Int) = 1) ∧ Q (.inl (some (zi 1))) 0 (zup J1 139 0 x4 x1) K1)) (fun E => Q (.inr E) e1 J1 K1))))) :
  zGo L xs (D + 1) 108 11 [some (zr 136), some (zi x1), some (zi x2), some (zi x3), some (zi x4)] [] J K Q :=
  zrun_ok (T := mct108) (o := 8) (ret := (some FieldType.boolean)) (hs := [(11, [])]) hL rfl 53 _ _ _ _ _ _ _ h
/-! PartingTrains$Roster.link -/
set_option maxRecDepth 30000 in
theorem z109 {L : Nat} {xs : Nat → Int32} (hL : L ≤ 3072) {D : Nat} {J : zJ} {K : zK} {Q : zR → Nat → zJ → zK → Prop}
  (h : zCall L xs D 315 [zr 137, zi 0] J K fun r1 e1 J1 K1 => zaV r1 e1 (zCall L xs D 315 [zr 138, zi 0] J1 K1 fun r2 e2 J2 K2 => zaV r2 e2 (zGo L xs (D + 1) 109 18 [some (zr 136), some (zi 0), none] [] J2 K2 Q) (fun E => Q (.inr E) e2 J2 K2)) (fun E => Q (.inr E) e1 J1 K1)) :
  zCall L xs (D + 1) 109 [zr 136] J K Q :=
  zrun_ok (T := mct109) (o := 8) (ret := none) (hs := [(18, [2]), (31, [])]) hL rfl 10 _ _ _ _ _ _ _ h
set_option maxRecDepth 30000 in
theorem z109_18 {L : Nat} {xs : Nat → Int32} (hL : L ≤ 3072) {D : Nat} {x1 : Int} {J : zJ} {K : zK} {Q : zR → Nat → zJ → zK → Prop}
  (h : zin x1 ∧ zin (J 40 0 5) ∧ ((J 40 0 5) ≤ x1 → Q (.inl none) 0 J K) ∧ (x1 < (J 40 0 5) → zGo L xs (D + 1) 109 31 [some (zr 136), some (zi x1), some (zi 0)] [] J K Q)) :
  zGo L xs (D + 1) 109 18 [some (zr 136), some (zi x1), none] [] J K Q :=
  zrun_ok (T := mct109) (o := 8) (ret := none) (hs := [(18, [2]), (31, [])]) hL rfl 7 _ _ _ _ _ _ _ h
set_option maxRecDepth 30000 in
theorem z109_31 {L : Nat} {xs : Nat → Int32} (hL : L ≤ 3072) {D : Nat} {x1 x2 : Int} {J : zJ} {K : zK} {Q : zR → Nat → zJ → zK → Prop}
  (h : zin x2 ∧ zin (J 40 0 5) ∧ ((J 40 0 5) ≤ x2 → zGo L xs (D + 1) 109 18 [some (zr 136), some (zi (x1 + 1)), none] [] J K Q) ∧ (x2 < (J 40 0 5) → zCall L xs D 104 [zr 136, zi x1, zi x2] J K fun r1 e1 J1 K1 => zaI r1 e1 (fun x1_ => zin x1_ ∧ (x1_ = (0 : Int) → zGo L xs (D + 1) 109 31 [some (zr 136), some (zi x1), some (zi (x2 + 1))] [] J1 K1 Q) ∧ (x1_ ≠ (0 : Int) → 0 ≤ x2 ∧ x2 < 14 ∧ 0 ≤ x1 ∧ x1 < 32 ∧ 0 ≤ x2 ∧ x2 < 14 ∧ 0 ≤ x1 ∧ x1 < 14 ∧ 0 ≤ x2 ∧ x2 < 32 ∧ 0 ≤ x1 ∧ x1 < 14 ∧ zGo L xs (D + 1) 109 31 [some (zr 136), some (zi x1), some (zi (x2 + 1))] [] (zup (zup J1 137 0 x2 (zor (J1 137 0 x2) (1 * 2 ^ (x1.toNat)))) 138 0 x1 (zor (J1 138 0 x1) (1 * 2 ^ (x2.toNat)))) K1 Q)) (fun E => Q (.inr E) e1 J1 K1))) :
  zGo L xs (D + 1) 109 31 [some (zr 136), some (zi x1), some (zi x2)] [] J K Q :=
  zrun_ok (T := mct109) (o := 8) (ret := none) (hs := [(18, [2]), (31, [])]) hL rfl 32 _ _ _ _ _ _ _ h
/-! PartingTrains$Roster.pickBits -/
set_option maxRecDepth 30000 in
theorem z110 {L : Nat} {xs : Nat → Int32} (hL : L ≤ 3072) {D : Nat} {x1 : Int} {J : zJ} {K : zK} {Q : zR → Nat → zJ → zK → Prop}
  (h : zGo L xs (D + 1) 110 4 [some (zr 136), some (zi x1), some (zi 0), some (zi 0)] [] J K Q) :
  zCall L xs (D + 1) 110 [zr 136, zi x1] J K Q :=
  zrun_ok (T := mct110) (o := 8) (ret := (some FieldType.int)) (hs := [(4, [])]) hL rfl 4 _ _ _ _ _ _ _ h
set_option maxRecDepth 30000 in
theorem z110_4 {L : Nat} {xs : Nat → Int32} (hL : L ≤ 3072) {D : Nat} {x1 x2 x3 : Int} {J : zJ} {K : zK} {Q : zR → Nat → zJ → zK → Prop}
  (h : zin x3 ∧ zin x1 ∧ (x1 ≤ x3 → Q (.inl (some (zi x2))) 0 J K) ∧ (x3 < x1 → 0 ≤ x3 ∧ x3 < 3 ∧ 0 ≤ (J 140 0 x3) ∧ (J 140 0 x3) < 32 ∧ zGo L xs (D + 1) 110 4 [some (zr 136), some (zi x1), some (zi (zor x2 (1 * 2 ^ ((J 140 0 x3).toNat)))), some (zi (x3 + 1))] [] J K Q)) :
  zGo L xs (D + 1) 110 4 [some (zr 136), some (zi x1), some (zi x2), some (zi x3)] [] J K Q :=
  zrun_ok (T := mct110) (o := 8) (ret := (some FieldType.int)) (hs := [(4, [])]) hL rfl 14 _ _ _ _ _ _ _ h
/-! PartingTrains$Roster.pickNext -/
set_option maxRecDepth 30000 in
theorem z111 {L : Nat} {xs : Nat → Int32} (hL : L ≤ 3072) {D : Nat} {x1 : Int} {J : zJ} {K : zK} {Q : zR → Nat → zJ → zK → Prop}
  (h : zGo L xs (D + 1) 111 4 [some (zr 136), some (zi x1), some (zi (x1 - 1)), none] [] J K Q) :
  zCall L xs (D + 1) 111 [zr 136, zi x1] J K Q :=
  zrun_ok (T := mct111) (o := 8) (ret := (some FieldType.boolean)) (hs := [(4, [3]), (42, [2])]) hL rfl 4 _ _ _ _ _ _ _ h
set_option maxRecDepth 30000 in
theorem z111_4 {L : Nat} {xs : Nat → Int32} (hL : L ≤ 3072) {D : Nat} {x1 x2 : Int} {J : zJ} {K : zK} {Q : zR → Nat → zJ → zK → Prop}
  (h : zin x2 ∧ (x2 < (0 : Int) → ((0 : Int) = 0 ∨ (0 : Int) = 1) ∧ Q (.inl (some (zi 0))) 0 J K) ∧ ((0 : Int) ≤ x2 → 0 ≤ x2 ∧ x2 < 3 ∧ zin (J 140 0 x2) ∧ zin (((J 18 0 0) - x1) + x2) ∧ ((((J 18 0 0) - x1) + x2) ≤ (J 140 0 x2) → zGo L xs (D + 1) 111 4 [some (zr 136), some (zi x1), some (zi (x2 + (-1))), none] [] J K Q) ∧ ((J 140 0 x2) < (((J 18 0 0) - x1) + x2) → 0 ≤ x2 ∧ x2 < 3 ∧ 0 ≤ x2 ∧ x2 < 3 ∧ zGo L xs (D + 1) 111 42 [some (zr 136), some (zi x1), none, some (zi (x2 + 1))] [] (zup J 140 0 x2 ((J 140 0 x2) + 1)) K Q))) :
  zGo L xs (D + 1) 111 4 [some (zr 136), some (zi x1), some (zi x2), none] [] J K Q :=
  zrun_ok (T := mct111) (o := 8) (ret := (some FieldType.boolean)) (hs := [(4, [3]), (42, [2])]) hL rfl 26 _ _ _ _ _ _ _ h
set_option maxRecDepth 30000 in
theorem z111_42 {L : Nat} {xs : Nat → Int32} (hL : L ≤ 3072) {D : Nat} {x1 x3 : Int} {J : zJ} {K : zK} {Q : zR → Nat → zJ → zK → Prop}
  (h : zin x3 ∧ zin x1 ∧ (x1 ≤ x3 → ((1 : Int) = 0 ∨ (1 : Int) = 1) ∧ Q (.inl (some (zi 1))) 0 J K) ∧ (x3 < x1 → 0 ≤ (x3 - 1) ∧ (x3 - 1) < 3 ∧ 0 ≤ x3 ∧ x3 < 3 ∧ zGo L xs (D + 1) 111 42 [some (zr 136), some (zi x1), none, some (zi (x3 + 1))] [] (zup J 140 0 x3 ((J 140 0 (x3 - 1)) + 1)) K Q)) :
  zGo L xs (D + 1) 111 42 [some (zr 136), some (zi x1), none, some (zi x3)] [] J K Q :=
  zrun_ok (T := mct111) (o := 8) (ret := (some FieldType.boolean)) (hs := [(4, [3]), (42, [2])]) hL rfl 17 _ _ _ _ _ _ _ h
/-! PartingTrains$Roster.proofBits -/
set_option maxRecDepth 30000 in
theorem z112 {L : Nat} {xs : Nat → Int32} (hL : L ≤ 3072) {D : Nat} {J : zJ} {K : zK} {Q : zR → Nat → zJ → zK → Prop}
  (h : zCall L xs D 106 [zr 136] J K fun r1 e1 J1 K1 => zaI r1 e1 (fun x1_ => zCall L xs D 103 [zr 136] J1 K1 fun r2 e2 J2 K2 => zaI r2 e2 (fun x2_ => zGo L xs (D + 1) 112 23 [some (zr 136), some (zi x1_), some (zi 0), some (zi x2_), some (zi ((J2 40 0 5) - 1))] [] J2 K2 Q) (fun E => Q (.inr E) e2 J2 K2)) (fun E => Q (.inr E) e1 J1 K1)) :
  zCall L xs (D + 1) 112 [zr 136] J K Q :=
  zrun_ok (T := mct112) (o := 8) (ret := (some FieldType.int)) (hs := [(23, [])]) hL rfl 14 _ _ _ _ _ _ _ h
set_option maxRecDepth 30000 in
theorem z112_23 {L : Nat} {xs : Nat → Int32} (hL : L ≤ 3072) {D : Nat} {x1 x2 x3 x4 : Int} {J : zJ} {K : zK} {Q : zR → Nat → zJ → zK → Prop}
  (h : zin x4 ∧ (x4 < (0 : Int) → Q (.inl (some (zi x2))) 0 J K) ∧ ((0 : Int) ≤ x4 → zin x3 ∧ 0 ≤ x4 ∧ x4 < 32 ∧ zin (zand (x3 / 2 ^ (x4.toNat)) 1) ∧ ((zand (x3 / 2 ^ (x4.toNat)) 1) = (0 : Int) → zGo L xs (D + 1) 112 23 [some (zr 136), some (zi x1), some (zi x2), some (zi x3), some (zi (x4 + (-1)))] [] J K Q) ∧ ((zand (x3 / 2 ^ (x4.toNat)) 1) ≠ (0 : Int) → 0 ≤ x4 ∧ x4 < 32 ∧ zCall L xs D 105 [zr 136, zi (zand x3 (zxor (1 * 2 ^ (x4.toNat)) (-1)))] J K fun r1 e1 J1 K1 => zaI r1 e1 (fun x1_ => zin x1_ ∧ zin x1 ∧ (x1 ≤ x1_ → zGo L xs (D + 1) 112 23 [some (zr 136), some (zi x1), some (zi x2), some (zi (zand x3 (zxor (1 * 2 ^ (x4.toNat)) (-1)))), some (zi (x4 + (-1)))] [] J1 K1 Q) ∧ (x1_ < x1 → 0 ≤ x4 ∧ x4 < 32 ∧ 0 ≤ x4 ∧ x4 < 14 ∧ 0 ≤ x4 ∧ x4 < 14 ∧ zGo L xs (D + 1) 112 23 [some (zr 136), some (zi (x1 + (-1))), some (zi (zor x2 (1 * 2 ^ (x4.toNat)))), some (zi (zand (zand x3 (zxor (1 * 2 ^ (x4.toNat)) (-1))) (zxor (zor (J1 137 0 x4) (J1 138 0 x4)) (-1)))), some (zi (x4 + (-1)))] [] J1 K1 Q)) (fun E => Q (.inr E) e1 J1 K1)))) :
  zGo L xs (D + 1) 112 23 [some (zr 136), some (zi x1), some (zi x2), some (zi x3), some (zi x4)] [] J K Q :=
  zrun_ok (T := mct112) (o := 8) (ret := (some FieldType.int)) (hs := [(23, [])]) hL rfl 44 _ _ _ _ _ _ _ h
/-! PartingTrains$Roster.waysToPicks -/
set_option maxRecDepth 30000 in
theorem z113 {L : Nat} {xs : Nat → Int32} (hL : L ≤ 3072) {D : Nat} {x1 : Int} {J : zJ} {K : zK} {Q : zR → Nat → zJ → zK → Prop}
  (h : zGo L xs (D + 1) 113 4 [some (zr 136), some (zi x1), some (zi 0), some (zi 0), none, none] [] J K Q) :
  zCall L xs (D + 1) 113 [zr 136, zi x1] J K Q :=
  zrun_ok (T := mct113) (o := 8) (ret := (some FieldType.int)) (hs := [(4, [4, 5]), (45, [])]) hL rfl 4 _ _ _ _ _ _ _ h
set_option maxRecDepth 30000 in
theorem z113_4 {L : Nat} {xs : Nat → Int32} (hL : L ≤ 3072) {D : Nat} {x1 x2 x3 : Int} {J : zJ} {K : zK} {Q : zR → Nat → zJ → zK → Prop}
  (h : zin x3 ∧ zin (J 18 0 0) ∧ ((J 18 0 0) ≤ x3 → Q (.inl (some (zi x2))) 0 J K) ∧ (x3 < (J 18 0 0) → zCall L xs D 62 [zr 18, zi x3] J K fun r1 e1 J1 K1 => zaI r1 e1 (fun x1_ => zin x1_ ∧ (x1_ = (0 : Int) → zGo L xs (D + 1) 113 4 [some (zr 136), some (zi x1), some (zi x2), some (zi (x3 + 1)), none, none] [] J1 K1 Q) ∧ (x1_ ≠ (0 : Int) → 0 ≤ (0 : Int) ∧ (0 : Int) < 3 ∧ zCall L xs D 121 [zr 33, zi x3, zi (J1 140 0 0)] J1 K1 fun r2 e2 J2 K2 => zaI r2 e2 (fun x2_ => zGo L xs (D + 1) 113 45 [some (zr 136), some (zi x1), some (zi x2), some (zi x3), some (zi x2_), some (zi 1)] [] J2 K2 Q) (fun E => Q (.inr E) e2 J2 K2))) (fun E => Q (.inr E) e1 J1 K1))) :
  zGo L xs (D + 1) 113 4 [some (zr 136), some (zi x1), some (zi x2), some (zi x3), none, none] [] J K Q :=
  zrun_ok (T := mct113) (o := 8) (ret := (some FieldType.int)) (hs := [(4, [4, 5]), (45, [])]) hL rfl 21 _ _ _ _ _ _ _ h
set_option maxRecDepth 30000 in
theorem z113_45 {L : Nat} {xs : Nat → Int32} (hL : L ≤ 3072) {D : Nat} {x1 x2 x3 x4 x5 : Int} {J : zJ} {K : zK} {Q : zR → Nat → zJ → zK → Prop}
  (h : zin x5 ∧ zin x1 ∧ (x1 ≤ x5 → zGo L xs (D + 1) 113 4 [some (zr 136), some (zi x1), some (zi (x2 + x4)), some (zi (x3 + 1)), none, none] [] J K Q) ∧ (x5 < x1 → 0 ≤ x5 ∧ x5 < 3 ∧ zCall L xs D 121 [zr 33, zi x3, zi (J 140 0 x5)] J K fun r1 e1 J1 K1 => zaI r1 e1 (fun x1_ => zin x4 ∧ zin x1_ ∧ 1 ≤ D + 1 ∧ zGo L xs (D + 1) 113 45 [some (zr 136), some (zi x1), some (zi x2), some (zi x3), some (zi (if x1_ < x4 then x1_ else x4)), some (zi (x5 + 1))] [] J1 K1 Q) (fun E => Q (.inr E) e1 J1 K1))) :
  zGo L xs (D + 1) 113 45 [some (zr 136), some (zi x1), some (zi x2), some (zi x3), some (zi x4), some (zi x5)] [] J K Q :=
  zrun_ok (T := mct113) (o := 8) (ret := (some FieldType.int)) (hs := [(4, [4, 5]), (45, [])]) hL rfl 16 _ _ _ _ _ _ _ h
/-! PartingTrains$Tree.countPortions -/
set_option maxRecDepth 30000 in
theorem z115 {L : Nat} {xs : Nat → Int32} (hL : L ≤ 3072) {D : Nat} {x1 : Int} {J : zJ} {K : zK} {Q : zR → Nat → zJ → zK → Prop}
  (h : 0 ≤ x1 ∧ x1 < 12 ∧ 0 ≤ x1 ∧ x1 < 12 ∧ zGo L xs (D + 1) 115 16 [some (zr 33), some (zi x1), some (zi 0)] [] (zup (zup J 37 0 x1 0) 38 0 x1 0) K Q) :
  zCall L xs (D + 1) 115 [zr 33, zi x1] J K Q :=
  zrun_ok (T := mct115) (o := 9) (ret := none) (hs := [(16, [])]) hL rfl 12 _ _ _ _ _ _ _ h
set_option maxRecDepth 30000 in
theorem z115_16 {L : Nat} {xs : Nat → Int32} (hL : L ≤ 3072) {D : Nat} {x1 x2 : Int} {J : zJ} {K : zK} {Q : zR → Nat → zJ → zK → Prop}
  (h : zin x2 ∧ zin (J 18 0 6) ∧ ((J 18 0 6) ≤ x2 → Q (.inl none) 0 J K) ∧ (x2 < (J 18 0 6) → 0 ≤ x2 ∧ x2 < 7 ∧ 0 ≤ (J 24 0 x2) ∧ (J 24 0 x2) < 12 ∧ zin (J 36 0 (J 24 0 x2)) ∧ 0 ≤ x1 ∧ x1 < 32 ∧ zin (zand ((J 36 0 (J 24 0 x2)) / 2 ^ (x1.toNat)) 1) ∧ ((zand ((J 36 0 (J 24 0 x2)) / 2 ^ (x1.toNat)) 1) = (0 : Int) → 0 ≤ x2 ∧ x2 < 7 ∧ zin (J 24 0 x2) ∧ zin x1 ∧ ((J 24 0 x2) ≠ x1 → zGo L xs (D + 1) 115 16 [some (zr 33), some (zi x1), some (zi (x2 + 1))] [] J K Q) ∧ ((J 24 0 x2) = x1 → 0 ≤ x1 ∧ x1 < 12 ∧ 0 ≤ x2 ∧ x2 < 32 ∧ 0 ≤ x1 ∧ x1 < 12 ∧ zGo L xs (D + 1) 115 16 [some (zr 33), some (zi x1), some (zi (x2 + 1))] [] (zup J 38 0 x1 (zor (J 38 0 x1) (1 * 2 ^ (x2.toNat)))) K Q)) ∧ ((zand ((J 36 0 (J 24 0 x2)) / 2 ^ (x1.toNat)) 1) ≠ (0 : Int) → 0 ≤ x1 ∧ x1 < 12 ∧ 0 ≤ x2 ∧ x2 < 32 ∧ 0 ≤ x1 ∧ x1 < 12 ∧ 0 ≤ x2 ∧ x2 < 7 ∧ zin (J 24 0 x2) ∧ zin x1 ∧ ((J 24 0 x2) ≠ x1 → zGo L xs (D + 1) 115 16 [some (zr 33), some (zi x1), some (zi (x2 + 1))] [] (zup J 37 0 x1 (zor (J 37 0 x1) (1 * 2 ^ (x2.toNat)))) K Q) ∧ ((J 24 0 x2) = x1 → 0 ≤ x1 ∧ x1 < 12 ∧ 0 ≤ x2 ∧ x2 < 32 ∧ 0 ≤ x1 ∧ x1 < 12 ∧ zGo L xs (D + 1) 115 16 [some (zr 33), some (zi x1), some (zi (x2 + 1))] [] (zup (zup J 37 0 x1 (zor (J 37 0 x1) (1 * 2 ^ (x2.toNat)))) 38 0 x1 (zor (J 38 0 x1) (1 * 2 ^ (x2.toNat)))) K Q)))) :
  zGo L xs (D + 1) 115 16 [some (zr 33), some (zi x1), some (zi x2)] [] J K Q :=
  zrun_ok (T := mct115) (o := 9) (ret := none) (hs := [(16, [])]) hL rfl 47 _ _ _ _ _ _ _ h
/-! PartingTrains$Tree.draw -/
set_option maxRecDepth 30000 in
theorem z116 {L : Nat} {xs : Nat → Int32} (hL : L ≤ 3072) {D : Nat} {J : zJ} {K : zK} {Q : zR → Nat → zJ → zK → Prop}
  (h : 0 ≤ (0 : Int) ∧ (0 : Int) < 12 ∧ 0 ≤ (0 : Int) ∧ (0 : Int) < 144 ∧ zGo L xs (D + 1) 116 16 [some (zr 33), some (zi 1), none, none] [] (zup (zup J 36 0 0 1) 34 0 0 0) K Q) :
  zCall L xs (D + 1) 116 [zr 33] J K Q :=
  zrun_ok (T := mct116) (o := 9) (ret := none) (hs := [(16, [2, 3]), (64, [2, 3]), (93, [2, 3]), (110, [])]) hL rfl 12 _ _ _ _ _ _ _ h
set_option maxRecDepth 30000 in
theorem z116_16 {L : Nat} {xs : Nat → Int32} (hL : L ≤ 3072) {D : Nat} {x1 : Int} {J : zJ} {K : zK} {Q : zR → Nat → zJ → zK → Prop}
  (h : zin x1 ∧ zin (J 18 0 0) ∧ ((J 18 0 0) ≤ x1 → zGo L xs (D + 1) 116 64 [some (zr 33), some (zi 0), none, none] [] J K Q) ∧ (x1 < (J 18 0 0) → 0 ≤ x1 ∧ x1 < 12 ∧ 0 ≤ (J 19 0 x1) ∧ (J 19 0 x1) < 12 ∧ 0 ≤ x1 ∧ x1 < 32 ∧ 0 ≤ x1 ∧ x1 < 12 ∧ zCall L xs D 118 [zr 33, zi x1] (zup J 36 0 x1 (zor (J 36 0 (J 19 0 x1)) (1 * 2 ^ (x1.toNat)))) K fun r1 e1 J1 K1 => zaV r1 e1 (zGo L xs (D + 1) 116 16 [some (zr 33), some (zi (x1 + 1)), none, none] [] J1 K1 Q) (fun E => Q (.inr E) e1 J1 K1))) :
  zGo L xs (D + 1) 116 16 [some (zr 33), some (zi x1), none, none] [] J K Q :=
  zrun_ok (T := mct116) (o := 9) (ret := none) (hs := [(16, [2, 3]), (64, [2, 3]), (93, [2, 3]), (110, [])]) hL rfl 26 _ _ _ _ _ _ _ h
set_option maxRecDepth 30000 in
theorem z116_64 {L : Nat} {xs : Nat → Int32} (hL : L ≤ 3072) {D : Nat} {x1 : Int} {J : zJ} {K : zK} {Q : zR → Nat → zJ → zK → Prop}
  (h : zin x1 ∧ zin (J 18 0 0) ∧ ((J 18 0 0) ≤ x1 → zGo L xs (D + 1) 116 93 [some (zr 33), some (zi 0), none, none] [] J K Q) ∧ (x1 < (J 18 0 0) → zCall L xs D 117 [zr 33, zi x1] J K fun r1 e1 J1 K1 => zaV r1 e1 (zCall L xs D 115 [zr 33, zi x1] J1 K1 fun r2 e2 J2 K2 => zaV r2 e2 (zGo L xs (D + 1) 116 64 [some (zr 33), some (zi (x1 + 1)), none, none] [] J2 K2 Q) (fun E => Q (.inr E) e2 J2 K2)) (fun E => Q (.inr E) e1 J1 K1))) :
  zGo L xs (D + 1) 116 64 [some (zr 33), some (zi x1), none, none] [] J K Q :=
  zrun_ok (T := mct116) (o := 9) (ret := none) (hs := [(16, [2, 3]), (64, [2, 3]), (93, [2, 3]), (110, [])]) hL rfl 13 _ _ _ _ _ _ _ h
set_option maxRecDepth 30000 in
theorem z116_93 {L : Nat} {xs : Nat → Int32} (hL : L ≤ 3072) {D : Nat} {x1 : Int} {J : zJ} {K : zK} {Q : zR → Nat → zJ → zK → Prop}
  (h : zin x1 ∧ zin (J 18 0 6) ∧ ((J 18 0 6) ≤ x1 → Q (.inl none) 0 J K) ∧ (x1 < (J 18 0 6) → 0 ≤ x1 ∧ x1 < 32 ∧ zGo L xs (D + 1) 116 110 [some (zr 33), some (zi x1), some (zi (1 * 2 ^ (x1.toNat))), some (zi 0)] [] J K Q)) :
  zGo L xs (D + 1) 116 93 [some (zr 33), some (zi x1), none, none] [] J K Q :=
  zrun_ok (T := mct116) (o := 9) (ret := none) (hs := [(16, [2, 3]), (64, [2, 3]), (93, [2, 3]), (110, [])]) hL rfl 11 _ _ _ _ _ _ _ h
set_option maxRecDepth 30000 in
theorem z116_110 {L : Nat} {xs : Nat → Int32} (hL : L ≤ 3072) {D : Nat} {x1 x2 x3 : Int} {J : zJ} {K : zK} {Q : zR → Nat → zJ → zK → Prop}
  (h : zin x3 ∧ zin x2 ∧ (x2 ≤ x3 → zGo L xs (D + 1) 116 93 [some (zr 33), some (zi (x1 + 1)), none, none] [] J K Q) ∧ (x3 < x2 → 0 ≤ x3 ∧ x3 < 128 ∧ 0 ≤ x1 ∧ x1 < 7 ∧ 0 ≤ (zor x3 x2) ∧ (zor x3 x2) < 128 ∧ zGo L xs (D + 1) 116 110 [some (zr 33), some (zi x1), some (zi x2), some (zi (x3 + 1))] [] (zup J 39 0 (zor x3 x2) ((J 39 0 x3) + (J 25 0 x1))) K Q)) :
  zGo L xs (D + 1) 116 110 [some (zr 33), some (zi x1), some (zi x2), some (zi x3)] [] J K Q :=
  zrun_ok (T := mct116) (o := 9) (ret := none) (hs := [(16, [2, 3]), (64, [2, 3]), (93, [2, 3]), (110, [])]) hL rfl 21 _ _ _ _ _ _ _ h
/-! PartingTrains$Tree.drawSteps -/
set_option maxRecDepth 30000 in
theorem z117 {L : Nat} {xs : Nat → Int32} (hL : L ≤ 3072) {D : Nat} {x1 : Int} {J : zJ} {K : zK} {Q : zR → Nat → zJ → zK → Prop}
  (h : 0 ≤ ((x1 * 12) + x1) ∧ ((x1 * 12) + x1) < 144 ∧ zGo L xs (D + 1) 117 16 [some (zr 33), some (zi x1), some (zi x1), some (zi 0)] [] (zup J 35 0 ((x1 * 12) + x1) x1) K Q) :
  zCall L xs (D + 1) 117 [zr 33, zi x1] J K Q :=
  zrun_ok (T := mct117) (o := 9) (ret := none) (hs := [(16, [])]) hL rfl 13 _ _ _ _ _ _ _ h
set_option maxRecDepth 30000 in
theorem z117_16 {L : Nat} {xs : Nat → Int32} (hL : L ≤ 3072) {D : Nat} {x1 x2 x3 : Int} {J : zJ} {K : zK} {Q : zR → Nat → zJ → zK → Prop}
  (h : zin x3 ∧ zin 12 ∧ ((12 : Int) ≤ x3 → Q (.inl none) 0 J K) ∧ (x3 < (12 : Int) → zin x2 ∧ (x2 = (0 : Int) → Q (.inl none) 0 J K) ∧ (x2 ≠ (0 : Int) → 0 ≤ x2 ∧ x2 < 12 ∧ 0 ≤ (((J 19 0 x2) * 12) + x1) ∧ (((J 19 0 x2) * 12) + x1) < 144 ∧ 0 ≤ x2 ∧ x2 < 12 ∧ zGo L xs (D + 1) 117 16 [some (zr 33), some (zi x1), some (zi (J 19 0 x2)), some (zi (x3 + 1))] [] (zup J 35 0 (((J 19 0 x2) * 12) + x1) x2) K Q))) :
  zGo L xs (D + 1) 117 16 [some (zr 33), some (zi x1), some (zi x2), some (zi x3)] [] J K Q :=
  zrun_ok (T := mct117) (o := 9) (ret := none) (hs := [(16, [])]) hL rfl 26 _ _ _ _ _ _ _ h
/-! PartingTrains$Tree.drawWays -/
set_option maxRecDepth 30000 in
theorem z118 {L : Nat} {xs : Nat → Int32} (hL : L ≤ 3072) {D : Nat} {x1 : Int} {J : zJ} {K : zK} {Q : zR → Nat → zJ → zK → Prop}
  (h : 0 ≤ x1 ∧ x1 < 12 ∧ zGo L xs (D + 1) 118 12 [some (zr 33), some (zi x1), some (zi (J 19 0 x1)), some (zi 0), none] [] J K Q) :
  zCall L xs (D + 1) 118 [zr 33, zi x1] J K Q :=
  zrun_ok (T := mct118) (o := 9) (ret := none) (hs := [(12, [4])]) hL rfl 8 _ _ _ _ _ _ _ h
set_option maxRecDepth 30000 in
theorem z118_12 {L : Nat} {xs : Nat → Int32} (hL : L ≤ 3072) {D : Nat} {x1 x2 x3 : Int} {J : zJ} {K : zK} {Q : zR → Nat → zJ → zK → Prop}
  (h : zin x3 ∧ zin x1 ∧ (x1 ≤ x3 → 0 ≤ ((x1 * 12) + x1) ∧ ((x1 * 12) + x1) < 144 ∧ Q (.inl none) 0 (zup J 34 0 ((x1 * 12) + x1) 0) K) ∧ (x3 < x1 → 0 ≤ ((x2 * 12) + x3) ∧ ((x2 * 12) + x3) < 144 ∧ 0 ≤ x1 ∧ x1 < 12 ∧ 0 ≤ ((x1 * 12) + x3) ∧ ((x1 * 12) + x3) < 144 ∧ 0 ≤ ((x3 * 12) + x1) ∧ ((x3 * 12) + x1) < 144 ∧ zGo L xs (D + 1) 118 12 [some (zr 33), some (zi x1), some (zi x2), some (zi (x3 + 1)), none] [] (zup (zup J 34 0 ((x1 * 12) + x3) ((J 34 0 ((x2 * 12) + x3)) + (J 20 0 x1))) 34 0 ((x3 * 12) + x1) ((J 34 0 ((x2 * 12) + x3)) + (J 20 0 x1))) K Q)) :
  zGo L xs (D + 1) 118 12 [some (zr 33), some (zi x1), some (zi x2), some (zi x3), none] [] J K Q :=
  zrun_ok (T := mct118) (o := 9) (ret := none) (hs := [(12, [4])]) hL rfl 38 _ _ _ _ _ _ _ h
/-! PartingTrains$Tree.isNearlyServed -/
set_option maxRecDepth 30000 in
theorem z119 {L : Nat} {xs : Nat → Int32} (hL : L ≤ 3072) {D : Nat} {x1 x2 : Int} {J : zJ} {K : zK} {Q : zR → Nat → zJ → zK → Prop}
  (h : 0 ≤ x1 ∧ x1 < 12 ∧ zin (zand (zand x2 (J 36 0 x1)) (-2)) ∧ ((zand (zand x2 (J 36 0 x1)) (-2)) = (0 : Int) → ((0 : Int) = 0 ∨ (0 : Int) = 1) ∧ Q (.inl (some (zi 0))) 0 J K) ∧ ((zand (zand x2 (J 36 0 x1)) (-2)) ≠ (0 : Int) → ((1 : Int) = 0 ∨ (1 : Int) = 1) ∧ Q (.inl (some (zi 1))) 0 J K)) :
  zCall L xs (D + 1) 119 [zr 33, zi x1, zi x2] J K Q :=
  zrun_ok (T := mct119) (o := 9) (ret := (some FieldType.boolean)) (hs := []) hL rfl 12 _ _ _ _ _ _ _ h
/-! PartingTrains$Tree.isServed -/
set_option maxRecDepth 30000 in
theorem z120 {L : Nat} {xs : Nat → Int32} (hL : L ≤ 3072) {D : Nat} {x1 x2 : Int} {J : zJ} {K : zK} {Q : zR → Nat → zJ → zK → Prop}
  (h : zin x2 ∧ 0 ≤ x1 ∧ x1 < 32 ∧ zin (zand (x2 / 2 ^ (x1.toNat)) 1) ∧ ((zand (x2 / 2 ^ (x1.toNat)) 1) = (0 : Int) → ((0 : Int) = 0 ∨ (0 : Int) = 1) ∧ Q (.inl (some (zi 0))) 0 J K) ∧ ((zand (x2 / 2 ^ (x1.toNat)) 1) ≠ (0 : Int) → ((1 : Int) = 0 ∨ (1 : Int) = 1) ∧ Q (.inl (some (zi 1))) 0 J K)) :
  zCall L xs (D + 1) 120 [zr 33, zi x1, zi x2] J K Q :=
  zrun_ok (T := mct120) (o := 9) (ret := (some FieldType.boolean)) (hs := []) hL rfl 9 _ _ _ _ _ _ _ h
/-! PartingTrains$Tree.minutes -/
set_option maxRecDepth 30000 in
theorem z121 {L : Nat} {xs : Nat → Int32} (hL : L ≤ 3072) {D : Nat} {x1 x2 : Int} {J : zJ} {K : zK} {Q : zR → Nat → zJ → zK → Prop}
  (h : 0 ≤ ((x1 * 12) + x2) ∧ ((x1 * 12) + x2) < 144 ∧ Q (.inl (some (zi (J 34 0 ((x1 * 12) + x2))))) 0 J K) :
  zCall L xs (D + 1) 121 [zr 33, zi x1, zi x2] J K Q :=
  zrun_ok (T := mct121) (o := 9) (ret := (some FieldType.int)) (hs := []) hL rfl 9 _ _ _ _ _ _ _ h
/-! PartingTrains$Tree.step -/
set_option maxRecDepth 30000 in
theorem z122 {L : Nat} {xs : Nat → Int32} (hL : L ≤ 3072) {D : Nat} {x1 x2 : Int} {J : zJ} {K : zK} {Q : zR → Nat → zJ → zK → Prop}
  (h : 0 ≤ ((x1 * 12) + x2) ∧ ((x1 * 12) + x2) < 144 ∧ Q (.inl (some (zi (J 35 0 ((x1 * 12) + x2))))) 0 J K) :
  zCall L xs (D + 1) 122 [zr 33, zi x1, zi x2] J K Q :=
  zrun_ok (T := mct122) (o := 9) (ret := (some FieldType.int)) (hs := []) hL rfl 9 _ _ _ _ _ _ _ h
/-! PartingTrains$Walk.bitsOf -/
set_option maxRecDepth 30000 in
theorem z124 {L : Nat} {xs : Nat → Int32} (hL : L ≤ 3072) {D : Nat} {x1 x2 : Int} {J : zJ} {K : zK} {Q : zR → Nat → zJ → zK → Prop}
  (h : zGo L xs (D + 1) 124 5 [some (zr 92), none, some (zi x2), some (zi 0), some (zi x1)] [] J K Q) :
  zCall L xs (D + 1) 124 [zr 92, zi x1, zi x2] J K Q :=
  zrun_ok (T := mct124) (o := 10) (ret := (some FieldType.int)) (hs := [(5, [1])]) hL rfl 4 _ _ _ _ _ _ _ h
set_option maxRecDepth 30000 in
theorem z124_5 {L : Nat} {xs : Nat → Int32} (hL : L ≤ 3072) {D : Nat} {x2 x3 x4 : Int} {J : zJ} {K : zK} {Q : zR → Nat → zJ → zK → Prop}
  (h : zin x4 ∧ zin x2 ∧ (x2 ≤ x4 → Q (.inl (some (zi x3))) 0 J K) ∧ (x4 < x2 → 0 ≤ x4 ∧ x4 < 7 ∧ 0 ≤ (J 93 0 x4) ∧ (J 93 0 x4) < 32 ∧ zGo L xs (D + 1) 124 5 [some (zr 92), none, some (zi x2), some (zi (zor x3 (1 * 2 ^ ((J 93 0 x4).toNat)))), some (zi (x4 + 1))] [] J K Q)) :
  zGo L xs (D + 1) 124 5 [some (zr 92), none, some (zi x2), some (zi x3), some (zi x4)] [] J K Q :=
  zrun_ok (T := mct124) (o := 10) (ret := (some FieldType.int)) (hs := [(5, [1])]) hL rfl 14 _ _ _ _ _ _ _ h
/-! PartingTrains$Walk.comes -/
set_option maxRecDepth 30000 in
theorem z125 {L : Nat} {xs : Nat → Int32} (hL : L ≤ 3072) {D : Nat} {J : zJ} {K : zK} {Q : zR → Nat → zJ → zK → Prop}
  (h : zin (J 92 0 3) ∧ ((J 92 0 3) ≠ (0 : Int) → 0 ≤ ((J 92 0 3) - 1) ∧ ((J 92 0 3) - 1) < 7 ∧ 0 ≤ ((J 92 0 3) - 1) ∧ ((J 92 0 3) - 1) < 7 ∧ 0 ≤ ((J 92 0 3) - 1) ∧ ((J 92 0 3) - 1) < 7 ∧ 0 ≤ ((J 92 0 3) - 1) ∧ ((J 92 0 3) - 1) < 7 ∧ 0 ≤ ((J 92 0 3) - 1) ∧ ((J 92 0 3) - 1) < 7 ∧ ((1 : Int) = 0 ∨ (1 : Int) = 1) ∧ Q (.inl (some (zi 1))) 0 (zup (zup (zup (zup (zup (zup J 92 0 3 ((J 92 0 3) - 1)) 92 0 9 (J 94 0 ((J 92 0 3) - 1))) 92 0 10 (J 95 0 ((J 92 0 3) - 1))) 92 0 11 (J 96 0 ((J 92 0 3) - 1))) 92 0 12 (J 97 0 ((J 92 0 3) - 1))) 92 0 13 (J 98 0 ((J 92 0 3) - 1))) K) ∧ ((J 92 0 3) = (0 : Int) → ((0 : Int) = 0 ∨ (0 : Int) = 1) ∧ Q (.inl (some (zi 0))) 0 J K)) :
  zCall L xs (D + 1) 125 [zr 92] J K Q :=
  zrun_ok (T := mct125) (o := 10) (ret := (some FieldType.boolean)) (hs := []) hL rfl 46 _ _ _ _ _ _ _ h
/-! PartingTrains$Walk.cutsHere -/
set_option maxRecDepth 30000 in
theorem z126 {L : Nat} {xs : Nat → Int32} (hL : L ≤ 3072) {D : Nat} {J : zJ} {K : zK} {Q : zR → Nat → zJ → zK → Prop}
  (h : 0 ≤ (J 92 0 14) ∧ (J 92 0 14) < 8 ∧ zin (J 99 0 (J 92 0 14)) ∧ zin (J 92 0 11) ∧ ((J 92 0 11) ≤ (J 99 0 (J 92 0 14)) → Q (.inl (some (zi ((J 92 0 14) - 1)))) 0 J K) ∧ ((J 99 0 (J 92 0 14)) < (J 92 0 11) → Q (.inl (some (zi (J 92 0 14)))) 0 J K)) :
  zCall L xs (D + 1) 126 [zr 92] J K Q :=
  zrun_ok (T := mct126) (o := 10) (ret := (some FieldType.int)) (hs := []) hL rfl 13 _ _ _ _ _ _ _ h
/-! PartingTrains$Walk.cutsOf -/
set_option maxRecDepth 30000 in
theorem z127 {L : Nat} {xs : Nat → Int32} (hL : L ≤ 3072) {D : Nat} {x1 : Int} {J : zJ} {K : zK} {Q : zR → Nat → zJ → zK → Prop}
  (h : zCall L xs D 129 [zr 92, zr 141, zi 0, zi x1, zi 0] J K fun r1 e1 J1 K1 => zaV r1 e1 (zGo L xs (D + 1) 127 13 [some (zr 92), none, none, some (zi 0), some (zi 0)] [] J1 K1 Q) (fun E => Q (.inr E) e1 J1 K1)) :
  zCall L xs (D + 1) 127 [zr 92, zi x1, zr 141] J K Q :=
  zrun_ok (T := mct127) (o := 10) (ret := (some FieldType.int)) (hs := [(13, [1, 2])]) hL rfl 10 _ _ _ _ _ _ _ h
set_option maxRecDepth 30000 in
theorem z127_13 {L : Nat} {xs : Nat → Int32} (hL : L ≤ 3072) {D : Nat} {x3 x4 : Int} {J : zJ} {K : zK} {Q : zR → Nat → zJ → zK → Prop}
  (h : zin x4 ∧ zin 84 ∧ ((84 : Int) ≤ x4 → Q (.inl (some (zi x3))) 0 J K) ∧ (x4 < (84 : Int) → zCall L xs D 125 [zr 92] J K fun r1 e1 J1 K1 => zaI r1 e1 (fun x1_ => zin x1_ ∧ (x1_ = (0 : Int) → Q (.inl (some (zi x3))) 0 J1 K1) ∧ (x1_ ≠ (0 : Int) → zCall L xs D 135 [zr 92] J1 K1 fun r2 e2 J2 K2 => zaI r2 e2 (fun x2_ => zin x2_ ∧ (x2_ ≠ (0 : Int) → zCall L xs D 126 [zr 92] J2 K2 fun r3 e3 J3 K3 => zaI r3 e3 (fun x3_ => zCall L xs D 128 [zr 92] J3 K3 fun r4 e4 J4 K4 => zaV r4 e4 (zGo L xs (D + 1) 127 13 [some (zr 92), none, none, some (zi (x3 + x3_)), some (zi (x4 + 1))] [] J4 K4 Q) (fun E => Q (.inr E) e4 J4 K4)) (fun E => Q (.inr E) e3 J3 K3)) ∧ (x2_ = (0 : Int) → Q (.inl (some (zi (-1)))) 0 J2 K2)) (fun E => Q (.inr E) e2 J2 K2))) (fun E => Q (.inr E) e1 J1 K1))) :
  zGo L xs (D + 1) 127 13 [some (zr 92), none, none, some (zi x3), some (zi x4)] [] J K Q :=
  zrun_ok (T := mct127) (o := 10) (ret := (some FieldType.int)) (hs := [(13, [1, 2])]) hL rfl 18 _ _ _ _ _ _ _ h
/-! PartingTrains$Walk.goOn -/
set_option maxRecDepth 30000 in
theorem z128 {L : Nat} {xs : Nat → Int32} (hL : L ≤ 3072) {D : Nat} {J : zJ} {K : zK} {Q : zR → Nat → zJ → zK → Prop}
  (h : zCall L xs D 126 [zr 92] J K fun r1 e1 J1 K1 => zaI r1 e1 (fun x1_ => zin x1_ ∧ (x1_ ≤ (0 : Int) → zGo L xs (D + 1) 128 31 [some (zr 92), some (zi 0), some (zi ((J1 92 0 14) - 1)), none, none] [] J1 K1 Q) ∧ ((0 : Int) < x1_ → 0 ≤ (J1 92 0 9) ∧ (J1 92 0 9) < 12 ∧ zGo L xs (D + 1) 128 31 [some (zr 92), some (zi (J1 22 0 (J1 92 0 9))), some (zi ((J1 92 0 14) - 1)), none, none] [] J1 K1 Q)) (fun E => Q (.inr E) e1 J1 K1)) :
  zCall L xs (D + 1) 128 [zr 92] J K Q :=
  zrun_ok (T := mct128) (o := 10) (ret := none) (hs := [(31, [3, 4])]) hL rfl 16 _ _ _ _ _ _ _ h
set_option maxRecDepth 30000 in
theorem z128_31 {L : Nat} {xs : Nat → Int32} (hL : L ≤ 3072) {D : Nat} {x1 x2 : Int} {J : zJ} {K : zK} {Q : zR → Nat → zJ → zK → Prop}
  (h : zin x2 ∧ (x2 < (0 : Int) → Q (.inl none) 0 J K) ∧ ((0 : Int) ≤ x2 → 0 ≤ x2 ∧ x2 < 8 ∧ 0 ≤ (J 99 0 x2) ∧ (J 99 0 x2) < 7 ∧ 0 ≤ (J 93 0 (J 99 0 x2)) ∧ (J 93 0 (J 99 0 x2)) < 7 ∧ zCall L xs D 122 [zr 33, zi (J 92 0 9), zi (J 24 0 (J 93 0 (J 99 0 x2)))] J K fun r1 e1 J1 K1 => zaI r1 e1 (fun x1_ => 0 ≤ x1_ ∧ x1_ < 12 ∧ 0 ≤ x2 ∧ x2 < 8 ∧ 0 ≤ (x2 + 1) ∧ (x2 + 1) < 8 ∧ 0 ≤ x2 ∧ x2 < 7 ∧ zCall L xs D 134 [zr 92, zi x1_, zi (J1 99 0 x2), zi (J1 99 0 (x2 + 1)), zi (((J1 92 0 12) + (x1 * (x2 + 1))) + (J1 20 0 x1_)), zi (J1 100 0 x2)] J1 K1 fun r2 e2 J2 K2 => zaV r2 e2 (zGo L xs (D + 1) 128 31 [some (zr 92), some (zi x1), some (zi (x2 + (-1))), none, none] [] J2 K2 Q) (fun E => Q (.inr E) e2 J2 K2)) (fun E => Q (.inr E) e1 J1 K1))) :
  zGo L xs (D + 1) 128 31 [some (zr 92), some (zi x1), some (zi x2), none, none] [] J K Q :=
  zrun_ok (T := mct128) (o := 10) (ret := none) (hs := [(31, [3, 4])]) hL rfl 54 _ _ _ _ _ _ _ h
/-! PartingTrains$Walk.load -/
set_option maxRecDepth 30000 in
theorem z129 {L : Nat} {xs : Nat → Int32} (hL : L ≤ 3072) {D : Nat} {x2 x3 x4 : Int} {J : zJ} {K : zK} {Q : zR → Nat → zJ → zK → Prop}
  (h : 1 ≤ D + 1 ∧ 0 ≤ x2 ∧ 0 ≤ (0 : Int) ∧ 0 ≤ x3 ∧ x2 + x3 ≤ 28 ∧ (0 : Int) + x3 ≤ 7 ∧ zin x3 ∧ (x3 ≤ (0 : Int) → Q (.inl none) 0 (zup (zcp J 43 93 x2 0 x3) 92 0 3 0) K) ∧ ((0 : Int) < x3 → zCall L xs D 134 [zr 92, zi 0, zi 0, zi x3, zi x4, zi (-1)] (zup (zcp J 43 93 x2 0 x3) 92 0 3 0) K fun r1 e1 J1 K1 => zaV r1 e1 (Q (.inl none) 0 J1 K1) (fun E => Q (.inr E) e1 J1 K1))) :
  zCall L xs (D + 1) 129 [zr 92, zr 43, zi x2, zi x3, zi x4] J K Q :=
  zrun_ok (T := mct129) (o := 10) (ret := none) (hs := []) hL rfl 20 _ _ _ _ _ _ _ h
/-! PartingTrains$Walk.load -/
set_option maxRecDepth 30000 in
theorem z129a {L : Nat} {xs : Nat → Int32} (hL : L ≤ 3072) {D : Nat} {x2 x3 x4 : Int} {J : zJ} {K : zK} {Q : zR → Nat → zJ → zK → Prop}
  (h : 1 ≤ D + 1 ∧ 0 ≤ x2 ∧ 0 ≤ (0 : Int) ∧ 0 ≤ x3 ∧ x2 + x3 ≤ 7 ∧ (0 : Int) + x3 ≤ 7 ∧ zin x3 ∧ (x3 ≤ (0 : Int) → Q (.inl none) 0 (zup (zcp J 141 93 x2 0 x3) 92 0 3 0) K) ∧ ((0 : Int) < x3 → zCall L xs D 134 [zr 92, zi 0, zi 0, zi x3, zi x4, zi (-1)] (zup (zcp J 141 93 x2 0 x3) 92 0 3 0) K fun r1 e1 J1 K1 => zaV r1 e1 (Q (.inl none) 0 J1 K1) (fun E => Q (.inr E) e1 J1 K1))) :
  zCall L xs (D + 1) 129 [zr 92, zr 141, zi x2, zi x3, zi x4] J K Q :=
  zrun_ok (T := mct129) (o := 10) (ret := none) (hs := []) hL rfl 20 _ _ _ _ _ _ _ h
/-! PartingTrains$Walk.load -/
set_option maxRecDepth 30000 in
theorem z129b {L : Nat} {xs : Nat → Int32} (hL : L ≤ 3072) {D : Nat} {x2 x3 x4 : Int} {J : zJ} {K : zK} {Q : zR → Nat → zJ → zK → Prop}
  (h : 1 ≤ D + 1 ∧ 0 ≤ x2 ∧ 0 ≤ (0 : Int) ∧ 0 ≤ x3 ∧ x2 + x3 ≤ 7 ∧ (0 : Int) + x3 ≤ 7 ∧ zin x3 ∧ (x3 ≤ (0 : Int) → Q (.inl none) 0 (zup (zcp J 115 93 x2 0 x3) 92 0 3 0) K) ∧ ((0 : Int) < x3 → zCall L xs D 134 [zr 92, zi 0, zi 0, zi x3, zi x4, zi (-1)] (zup (zcp J 115 93 x2 0 x3) 92 0 3 0) K fun r1 e1 J1 K1 => zaV r1 e1 (Q (.inl none) 0 J1 K1) (fun E => Q (.inr E) e1 J1 K1))) :
  zCall L xs (D + 1) 129 [zr 92, zr 115, zi x2, zi x3, zi x4] J K Q :=
  zrun_ok (T := mct129) (o := 10) (ret := none) (hs := []) hL rfl 20 _ _ _ _ _ _ _ h
/-! PartingTrains$Walk.loadHere -/
set_option maxRecDepth 30000 in
theorem z130 {L : Nat} {xs : Nat → Int32} (hL : L ≤ 3072) {D : Nat} {J : zJ} {K : zK} {Q : zR → Nat → zJ → zK → Prop}
  (h : zCall L xs D 124 [zr 92, zi (J 92 0 10), zi (J 92 0 11)] J K fun r1 e1 J1 K1 => zaI r1 e1 (fun x1_ => 0 ≤ x1_ ∧ x1_ < 128 ∧ Q (.inl (some (zi (J1 39 0 x1_)))) 0 J1 K1) (fun E => Q (.inr E) e1 J1 K1)) :
  zCall L xs (D + 1) 130 [zr 92] J K Q :=
  zrun_ok (T := mct130) (o := 10) (ret := (some FieldType.int)) (hs := []) hL rfl 11 _ _ _ _ _ _ _ h
/-! PartingTrains$Walk.loadOfGroup -/
set_option maxRecDepth 30000 in
theorem z131 {L : Nat} {xs : Nat → Int32} (hL : L ≤ 3072) {D : Nat} {x1 : Int} {J : zJ} {K : zK} {Q : zR → Nat → zJ → zK → Prop}
  (h : 0 ≤ x1 ∧ x1 < 8 ∧ 0 ≤ (x1 + 1) ∧ (x1 + 1) < 8 ∧ zCall L xs D 124 [zr 92, zi (J 99 0 x1), zi (J 99 0 (x1 + 1))] J K fun r1 e1 J1 K1 => zaI r1 e1 (fun x1_ => 0 ≤ x1_ ∧ x1_ < 128 ∧ Q (.inl (some (zi (J1 39 0 x1_)))) 0 J1 K1) (fun E => Q (.inr E) e1 J1 K1)) :
  zCall L xs (D + 1) 131 [zr 92, zi x1] J K Q :=
  zrun_ok (T := mct131) (o := 10) (ret := (some FieldType.int)) (hs := []) hL rfl 17 _ _ _ _ _ _ _ h
/-! PartingTrains$Walk.parted -/
set_option maxRecDepth 30000 in
theorem z132 {L : Nat} {xs : Nat → Int32} (hL : L ≤ 3072) {D : Nat} {x1 : Int} {J : zJ} {K : zK} {Q : zR → Nat → zJ → zK → Prop}
  (h : zGo L xs (D + 1) 132 4 [some (zr 92), some (zi x1), some (zi 0), some (zi 0)] [] J K Q) :
  zCall L xs (D + 1) 132 [zr 92, zi x1] J K Q :=
  zrun_ok (T := mct132) (o := 10) (ret := (some FieldType.int)) (hs := [(4, [])]) hL rfl 4 _ _ _ _ _ _ _ h
set_option maxRecDepth 30000 in
theorem z132_4 {L : Nat} {xs : Nat → Int32} (hL : L ≤ 3072) {D : Nat} {x1 x2 x3 : Int} {J : zJ} {K : zK} {Q : zR → Nat → zJ → zK → Prop}
  (h : zin x3 ∧ zin 84 ∧ ((84 : Int) ≤ x3 → Q (.inl (some (zi x2))) 0 J K) ∧ (x3 < (84 : Int) → zCall L xs D 125 [zr 92] J K fun r1 e1 J1 K1 => zaI r1 e1 (fun x1_ => zin x1_ ∧ (x1_ = (0 : Int) → Q (.inl (some (zi x2))) 0 J1 K1) ∧ (x1_ ≠ (0 : Int) → zCall L xs D 135 [zr 92] J1 K1 fun r2 e2 J2 K2 => zaI r2 e2 (fun x2_ => zin x2_ ∧ (x2_ ≠ (0 : Int) → zin (J2 92 0 9) ∧ zin x1 ∧ ((J2 92 0 9) ≠ x1 → zCall L xs D 128 [zr 92] J2 K2 fun r3 e3 J3 K3 => zaV r3 e3 (zGo L xs (D + 1) 132 4 [some (zr 92), some (zi x1), some (zi x2), some (zi (x3 + 1))] [] J3 K3 Q) (fun E => Q (.inr E) e3 J3 K3)) ∧ ((J2 92 0 9) = x1 → zin (J2 92 0 14) ∧ ((J2 92 0 14) ≤ (0 : Int) → zCall L xs D 128 [zr 92] J2 K2 fun r4 e4 J4 K4 => zaV r4 e4 (zGo L xs (D + 1) 132 4 [some (zr 92), some (zi x1), some (zi x2), some (zi (x3 + 1))] [] J4 K4 Q) (fun E => Q (.inr E) e4 J4 K4)) ∧ ((0 : Int) < (J2 92 0 14) → 0 ≤ (1 : Int) ∧ (1 : Int) < 8 ∧ 0 ≤ (J2 92 0 14) ∧ (J2 92 0 14) < 8 ∧ zCall L xs D 133 [zr 92, zi (J2 99 0 1), zi (J2 99 0 (J2 92 0 14))] J2 K2 fun r5 e5 J5 K5 => zaI r5 e5 (fun x5_ => zCall L xs D 128 [zr 92] J5 K5 fun r6 e6 J6 K6 => zaV r6 e6 (zGo L xs (D + 1) 132 4 [some (zr 92), some (zi x1), some (zi x5_), some (zi (x3 + 1))] [] J6 K6 Q) (fun E => Q (.inr E) e6 J6 K6)) (fun E => Q (.inr E) e5 J5 K5)))) ∧ (x2_ = (0 : Int) → Q (.inl (some (zi 0))) 0 J2 K2)) (fun E => Q (.inr E) e2 J2 K2))) (fun E => Q (.inr E) e1 J1 K1))) :
  zGo L xs (D + 1) 132 4 [some (zr 92), some (zi x1), some (zi x2), some (zi x3)] [] J K Q :=
  zrun_ok (T := mct132) (o := 10) (ret := (some FieldType.int)) (hs := [(4, [])]) hL rfl 32 _ _ _ _ _ _ _ h
/-! PartingTrains$Walk.placesBehind -/
set_option maxRecDepth 30000 in
theorem z133 {L : Nat} {xs : Nat → Int32} (hL : L ≤ 3072) {D : Nat} {x1 x2 : Int} {J : zJ} {K : zK} {Q : zR → Nat → zJ → zK → Prop}
  (h : zGo L xs (D + 1) 133 5 [some (zr 92), none, some (zi x2), some (zi 0), some (zi x1)] [] J K Q) :
  zCall L xs (D + 1) 133 [zr 92, zi x1, zi x2] J K Q :=
  zrun_ok (T := mct133) (o := 10) (ret := (some FieldType.int)) (hs := [(5, [1])]) hL rfl 4 _ _ _ _ _ _ _ h
set_option maxRecDepth 30000 in
theorem z133_5 {L : Nat} {xs : Nat → Int32} (hL : L ≤ 3072) {D : Nat} {x2 x3 x4 : Int} {J : zJ} {K : zK} {Q : zR → Nat → zJ → zK → Prop}
  (h : zin x4 ∧ zin x2 ∧ (x2 ≤ x4 → 0 ≤ (J 92 0 9) ∧ (J 92 0 9) < 12 ∧ Q (.inl (some (zi (zand x3 (zxor (J 36 0 (J 92 0 9)) (-1)))))) 0 J K) ∧ (x4 < x2 → 0 ≤ x4 ∧ x4 < 7 ∧ 0 ≤ (J 93 0 x4) ∧ (J 93 0 x4) < 7 ∧ 0 ≤ (J 24 0 (J 93 0 x4)) ∧ (J 24 0 (J 93 0 x4)) < 12 ∧ zGo L xs (D + 1) 133 5 [some (zr 92), none, some (zi x2), some (zi (zor x3 (J 36 0 (J 24 0 (J 93 0 x4))))), some (zi (x4 + 1))] [] J K Q)) :
  zGo L xs (D + 1) 133 5 [some (zr 92), none, some (zi x2), some (zi x3), some (zi x4)] [] J K Q :=
  zrun_ok (T := mct133) (o := 10) (ret := (some FieldType.int)) (hs := [(5, [1])]) hL rfl 20 _ _ _ _ _ _ _ h
/-! PartingTrains$Walk.sendTo -/
set_option maxRecDepth 30000 in
theorem z134 {L : Nat} {xs : Nat → Int32} (hL : L ≤ 3072) {D : Nat} {x1 x2 x3 x4 x5 : Int} {J : zJ} {K : zK} {Q : zR → Nat → zJ → zK → Prop}
  (h : 0 ≤ (J 92 0 3) ∧ (J 92 0 3) < 7 ∧ 0 ≤ (J 92 0 3) ∧ (J 92 0 3) < 7 ∧ 0 ≤ (J 92 0 3) ∧ (J 92 0 3) < 7 ∧ 0 ≤ (J 92 0 3) ∧ (J 92 0 3) < 7 ∧ 0 ≤ (J 92 0 3) ∧ (J 92 0 3) < 7 ∧ Q (.inl none) 0 (zup (zup (zup (zup (zup (zup J 94 0 (J 92 0 3) x1) 95 0 (J 92 0 3) x2) 96 0 (J 92 0 3) x3) 97 0 (J 92 0 3) x4) 98 0 (J 92 0 3) x5) 92 0 3 ((J 92 0 3) + 1)) K) :
  zCall L xs (D + 1) 134 [zr 92, zi x1, zi x2, zi x3, zi x4, zi x5] J K Q :=
  zrun_ok (T := mct134) (o := 10) (ret := none) (hs := []) hL rfl 37 _ _ _ _ _ _ _ h
/-! PartingTrains$Walk.splits -/
set_option maxRecDepth 30000 in
theorem z135 {L : Nat} {xs : Nat → Int32} (hL : L ≤ 3072) {D : Nat} {J : zJ} {K : zK} {Q : zR → Nat → zJ → zK → Prop}
  (h : zGo L xs (D + 1) 135 20 [some (zr 92), some (zi (J 92 0 11)), some (zi 0), some (zi (-1)), some (zi (J 92 0 10)), none] [] (zup J 92 0 14 0) K Q) :
  zCall L xs (D + 1) 135 [zr 92] J K Q :=
  zrun_ok (T := mct135) (o := 10) (ret := (some FieldType.boolean)) (hs := [(20, [5])]) hL rfl 13 _ _ _ _ _ _ _ h
set_option maxRecDepth 30000 in
theorem z135_20 {L : Nat} {xs : Nat → Int32} (hL : L ≤ 3072) {D : Nat} {x1 x2 x3 x4 : Int} {J : zJ} {K : zK} {Q : zR → Nat → zJ → zK → Prop}
  (h : zin x4 ∧ zin (J 92 0 11) ∧ ((J 92 0 11) ≤ x4 → 0 ≤ (J 92 0 14) ∧ (J 92 0 14) < 8 ∧ ((1 : Int) = 0 ∨ (1 : Int) = 1) ∧ Q (.inl (some (zi 1))) 0 (zup J 99 0 (J 92 0 14) x1) K) ∧ (x4 < (J 92 0 11) → 0 ≤ x4 ∧ x4 < 7 ∧ 0 ≤ (J 93 0 x4) ∧ (J 93 0 x4) < 7 ∧ zCall L xs D 122 [zr 33, zi (J 92 0 9), zi (J 24 0 (J 93 0 x4))] J K fun r1 e1 J1 K1 => zaI r1 e1 (fun x1_ => zin x1_ ∧ zin x3 ∧ (x1_ = x3 → zGo L xs (D + 1) 135 20 [some (zr 92), some (zi x1), some (zi x2), some (zi x3), some (zi (x4 + 1)), none] [] J1 K1 Q) ∧ (x1_ ≠ x3 → zin x3 ∧ zin (J1 92 0 9) ∧ (x3 = (J1 92 0 9) → ((0 : Int) = 0 ∨ (0 : Int) = 1) ∧ Q (.inl (some (zi 0))) 0 J1 K1) ∧ (x3 ≠ (J1 92 0 9) → zin x2 ∧ 0 ≤ x1_ ∧ x1_ < 32 ∧ zin (zand (x2 / 2 ^ (x1_.toNat)) 1) ∧ ((zand (x2 / 2 ^ (x1_.toNat)) 1) = (0 : Int) → 0 ≤ x1_ ∧ x1_ < 32 ∧ zin x1_ ∧ zin (J1 92 0 9) ∧ (x1_ ≠ (J1 92 0 9) → 0 ≤ (J1 92 0 14) ∧ (J1 92 0 14) < 8 ∧ zGo L xs (D + 1) 135 20 [some (zr 92), some (zi x1), some (zi (zor x2 (1 * 2 ^ (x1_.toNat)))), some (zi x1_), some (zi (x4 + 1)), none] [] (zup (zup J1 99 0 (J1 92 0 14) x4) 92 0 14 ((J1 92 0 14) + 1)) K1 Q) ∧ (x1_ = (J1 92 0 9) → zGo L xs (D + 1) 135 20 [some (zr 92), some (zi x4), some (zi (zor x2 (1 * 2 ^ (x1_.toNat)))), some (zi x1_), some (zi (x4 + 1)), none] [] J1 K1 Q)) ∧ ((zand (x2 / 2 ^ (x1_.toNat)) 1) ≠ (0 : Int) → ((0 : Int) = 0 ∨ (0 : Int) = 1) ∧ Q (.inl (some (zi 0))) 0 J1 K1)))) (fun E => Q (.inr E) e1 J1 K1))) :
  zGo L xs (D + 1) 135 20 [some (zr 92), some (zi x1), some (zi x2), some (zi x3), some (zi x4), none] [] J K Q :=
  zrun_ok (T := mct135) (o := 10) (ret := (some FieldType.boolean)) (hs := [(20, [5])]) hL rfl 57 _ _ _ _ _ _ _ h
