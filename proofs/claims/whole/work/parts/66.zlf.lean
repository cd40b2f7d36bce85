/-! REGION LEMMAS of the integer machine (printed by wip/whole/tools/zemit.py) -/
/-! PartingTrainsModel.first -/
set_option maxRecDepth 30000 in
theorem z226 {L : Nat} {xs : Nat → Int32} (hL : L ≤ 3072) {D : Nat} {x1 x2 : Int} {J : zJ} {K : zK} {Q : zR → Nat → zJ → zK → Prop}
  (h : zCall L xs D 193 [zr 142, zi x1] (zup J 142 0 0 0) K fun r1 e1 J1 K1 => zaI r1 e1 (fun x1_ => zin x1_ ∧ (x1_ ≠ (0 : Int) → zCall L xs D 195 [zr 142, zi 0, zi 1] J1 K1 fun r2 e2 J2 K2 => zaI r2 e2 (fun x2_ => zin x2_ ∧ (x2_ = (0 : Int) → zCall L xs D 265 [zr 142, zi x1] J2 K2 fun r3 e3 J3 K3 => zaV r3 e3 (zCall L xs D 240 [zi x2, zi 0, zi ((J3 142 0 37) - 1)] J3 K3 fun r4 e4 J4 K4 => zaI r4 e4 (fun x4_ => zin x4_ ∧ (x4_ = (0 : Int) → Q (.inl (some (zi (-1)))) 0 J4 K4) ∧ (x4_ ≠ (0 : Int) → 0 ≤ x2 ∧ x2 < 8 ∧ Q (.inl (some (zi (J4 533 0 x2)))) 0 J4 K4)) (fun E => Q (.inr E) e4 J4 K4)) (fun E => Q (.inr E) e3 J3 K3)) ∧ (x2_ ≠ (0 : Int) → Q (.inl (some (zi 0))) 0 J2 K2)) (fun E => Q (.inr E) e2 J2 K2)) ∧ (x1_ = (0 : Int) → zCall L xs D 195 [zr 142, zi 1, zi 1] J1 K1 fun r5 e5 J5 K5 => zaI r5 e5 (fun x5_ => zin x5_ ∧ (x5_ = (0 : Int) → zCall L xs D 265 [zr 142, zi x1] J5 K5 fun r6 e6 J6 K6 => zaV r6 e6 (zCall L xs D 240 [zi x2, zi 0, zi ((J6 142 0 37) - 1)] J6 K6 fun r7 e7 J7 K7 => zaI r7 e7 (fun x7_ => zin x7_ ∧ (x7_ = (0 : Int) → Q (.inl (some (zi (-1)))) 0 J7 K7) ∧ (x7_ ≠ (0 : Int) → 0 ≤ x2 ∧ x2 < 8 ∧ Q (.inl (some (zi (J7 533 0 x2)))) 0 J7 K7)) (fun E => Q (.inr E) e7 J7 K7)) (fun E => Q (.inr E) e6 J6 K6)) ∧ (x5_ ≠ (0 : Int) → Q (.inl (some (zi 0))) 0 J5 K5)) (fun E => Q (.inr E) e5 J5 K5))) (fun E => Q (.inr E) e1 J1 K1)) :
  zCall L xs (D + 1) 226 [zr 142, zi x1, zi x2] J K Q :=
  zrun_ok (T := mct226) (o := 12) (ret := (some FieldType.int)) (hs := []) hL rfl 30 _ _ _ _ _ _ _ h
/-! PartingTrainsModel.gets -/
set_option maxRecDepth 30000 in
theorem z227 {L : Nat} {xs : Nat → Int32} (hL : L ≤ 3072) {D : Nat} {x1 : Int} {J : zJ} {K : zK} {Q : zR → Nat → zJ → zK → Prop}
  (h : zGo L xs (D + 1) 227 2 [some (zr 142), some (zi x1), some (zi 0)] [] J K Q) :
  zCall L xs (D + 1) 227 [zr 142, zi x1] J K Q :=
  zrun_ok (T := mct227) (o := 12) (ret := none) (hs := [(2, [])]) hL rfl 2 _ _ _ _ _ _ _ h
set_option maxRecDepth 30000 in
theorem z227_2 {L : Nat} {xs : Nat → Int32} (hL : L ≤ 3072) {D : Nat} {x1 x2 : Int} {J : zJ} {K : zK} {Q : zR → Nat → zJ → zK → Prop}
  (h : zin x2 ∧ zin (J 142 0 37) ∧ ((J 142 0 37) ≤ x2 → 0 ≤ x1 ∧ x1 < 4 ∧ Q (.inl none) 0 (zup J 234 0 x1 (J 142 0 37)) K) ∧ (x2 < (J 142 0 37) → 0 ≤ x1 ∧ x1 < 4 ∧ 0 ≤ x2 ∧ x2 < 8 ∧ 0 ≤ x1 ∧ x1 < 4 ∧ 0 ≤ x2 ∧ x2 < 8 ∧ zGo L xs (D + 1) 227 2 [some (zr 142), some (zi x1), some (zi (x2 + 1))] [] (zup J 229 x1 x2 (J 533 0 x2)) K Q)) :
  zGo L xs (D + 1) 227 2 [some (zr 142), some (zi x1), some (zi x2)] [] J K Q :=
  zrun_ok (T := mct227) (o := 12) (ret := none) (hs := [(2, [])]) hL rfl 16 _ _ _ _ _ _ _ h
/-! PartingTrainsModel.goes -/
set_option maxRecDepth 30000 in
theorem z228 {L : Nat} {xs : Nat → Int32} (hL : L ≤ 3072) {D : Nat} {J : zJ} {K : zK} {Q : zR → Nat → zJ → zK → Prop}
  (h : 0 ≤ (1 : Int) ∧ (1 : Int) < 8 ∧ zGo L xs (D + 1) 228 12 [some (zr 142), some (zi 0), none] [] (zup J 142 0 49 (J 144 0 1)) K Q) :
  zCall L xs (D + 1) 228 [zr 142] J K Q :=
  zrun_ok (T := mct228) (o := 12) (ret := none) (hs := [(12, [2]), (77, [2]), (94, [2]), (104, [])]) hL rfl 8 _ _ _ _ _ _ _ h
set_option maxRecDepth 30000 in
theorem z228_12 {L : Nat} {xs : Nat → Int32} (hL : L ≤ 3072) {D : Nat} {x1 : Int} {J : zJ} {K : zK} {Q : zR → Nat → zJ → zK → Prop}
  (h : zin x1 ∧ zin (J 142 0 49) ∧ ((J 142 0 49) ≤ x1 → 0 ≤ (0 : Int) ∧ (0 : Int) < 8 ∧ zGo L xs (D + 1) 228 77 [some (zr 142), some (zi ((J 144 0 0) - 1)), none] [] J K Q) ∧ (x1 < (J 142 0 49) → 0 ≤ x1 ∧ x1 < 8 ∧ 0 ≤ x1 ∧ x1 < 8 ∧ 0 ≤ (0 : Int) ∧ (0 : Int) < 8 ∧ 0 ≤ x1 ∧ x1 < 8 ∧ 0 ≤ x1 ∧ x1 < 8 ∧ 0 ≤ x1 ∧ x1 < 8 ∧ 0 ≤ x1 ∧ x1 < 16 ∧ 0 ≤ x1 ∧ x1 < 16 ∧ 0 ≤ (0 : Int) ∧ (0 : Int) < 4 ∧ 0 ≤ x1 ∧ x1 < 8 ∧ zGo L xs (D + 1) 228 12 [some (zr 142), some (zi (x1 + 1)), none] [] (zup (zup (zup (zup J 541 x1 0 x1) 550 0 x1 1) 551 0 x1 (J 553 0 x1)) 552 0 x1 (J 170 x1 0)) K Q)) :
  zGo L xs (D + 1) 228 12 [some (zr 142), some (zi x1), none] [] J K Q :=
  zrun_ok (T := mct228) (o := 12) (ret := none) (hs := [(12, [2]), (77, [2]), (94, [2]), (104, [])]) hL rfl 36 _ _ _ _ _ _ _ h
set_option maxRecDepth 30000 in
theorem z228_77 {L : Nat} {xs : Nat → Int32} (hL : L ≤ 3072) {D : Nat} {x1 : Int} {J : zJ} {K : zK} {Q : zR → Nat → zJ → zK → Prop}
  (h : zin x1 ∧ (x1 ≤ (0 : Int) → zGo L xs (D + 1) 228 94 [some (zr 142), some (zi 0), none] [] J K Q) ∧ ((0 : Int) < x1 → zCall L xs D 230 [zr 142, zi x1] J K fun r1 e1 J1 K1 => zaV r1 e1 (zGo L xs (D + 1) 228 77 [some (zr 142), some (zi (x1 + (-1))), none] [] J1 K1 Q) (fun E => Q (.inr E) e1 J1 K1))) :
  zGo L xs (D + 1) 228 77 [some (zr 142), some (zi x1), none] [] J K Q :=
  zrun_ok (T := mct228) (o := 12) (ret := none) (hs := [(12, [2]), (77, [2]), (94, [2]), (104, [])]) hL rfl 7 _ _ _ _ _ _ _ h
set_option maxRecDepth 30000 in
theorem z228_94 {L : Nat} {xs : Nat → Int32} (hL : L ≤ 3072) {D : Nat} {x1 : Int} {J : zJ} {K : zK} {Q : zR → Nat → zJ → zK → Prop}
  (h : zin x1 ∧ zin (J 142 0 49) ∧ ((J 142 0 49) ≤ x1 → Q (.inl none) 0 J K) ∧ (x1 < (J 142 0 49) → zGo L xs (D + 1) 228 104 [some (zr 142), some (zi x1), some (zi 0)] [] J K Q)) :
  zGo L xs (D + 1) 228 94 [some (zr 142), some (zi x1), none] [] J K Q :=
  zrun_ok (T := mct228) (o := 12) (ret := none) (hs := [(12, [2]), (77, [2]), (94, [2]), (104, [])]) hL rfl 6 _ _ _ _ _ _ _ h
set_option maxRecDepth 30000 in
theorem z228_104 {L : Nat} {xs : Nat → Int32} (hL : L ≤ 3072) {D : Nat} {x1 x2 : Int} {J : zJ} {K : zK} {Q : zR → Nat → zJ → zK → Prop}
  (h : 0 ≤ x1 ∧ x1 < 8 ∧ zin x2 ∧ zin (J 550 0 x1) ∧ ((J 550 0 x1) ≤ x2 → zGo L xs (D + 1) 228 94 [some (zr 142), some (zi (x1 + 1)), none] [] J K Q) ∧ (x2 < (J 550 0 x1) → 0 ≤ x1 ∧ x1 < 8 ∧ zin (J 552 0 x1) ∧ ((J 552 0 x1) ≠ (0 : Int) → zGo L xs (D + 1) 228 94 [some (zr 142), some (zi (x1 + 1)), none] [] J K Q) ∧ ((J 552 0 x1) = (0 : Int) → 0 ≤ x1 ∧ x1 < 8 ∧ 0 ≤ x1 ∧ x1 < 8 ∧ 0 ≤ x2 ∧ x2 < 8 ∧ 0 ≤ x1 ∧ x1 < 8 ∧ 0 ≤ (J 541 x1 x2) ∧ (J 541 x1 x2) < 8 ∧ zGo L xs (D + 1) 228 104 [some (zr 142), some (zi x1), some (zi (x2 + 1))] [] (zup J 554 0 (J 541 x1 x2) (J 551 0 x1)) K Q))) :
  zGo L xs (D + 1) 228 104 [some (zr 142), some (zi x1), some (zi x2)] [] J K Q :=
  zrun_ok (T := mct228) (o := 12) (ret := none) (hs := [(12, [2]), (77, [2]), (94, [2]), (104, [])]) hL rfl 26 _ _ _ _ _ _ _ h
/-! PartingTrainsModel.goesLate -/
set_option maxRecDepth 30000 in
theorem z229 {L : Nat} {xs : Nat → Int32} (hL : L ≤ 3072) {D : Nat} {x1 : Int} {J : zJ} {K : zK} {Q : zR → Nat → zJ → zK → Prop}
  (h : zGo L xs (D + 1) 229 2 [some (zr 142), some (zi x1), some (zi 0)] [] J K Q) :
  zCall L xs (D + 1) 229 [zr 142, zi x1] J K Q :=
  zrun_ok (T := mct229) (o := 12) (ret := none) (hs := [(2, [])]) hL rfl 2 _ _ _ _ _ _ _ h
set_option maxRecDepth 30000 in
theorem z229_2 {L : Nat} {xs : Nat → Int32} (hL : L ≤ 3072) {D : Nat} {x1 x2 : Int} {J : zJ} {K : zK} {Q : zR → Nat → zJ → zK → Prop}
  (h : 0 ≤ (1 : Int) ∧ (1 : Int) < 8 ∧ zin x2 ∧ zin (J 144 0 1) ∧ ((J 144 0 1) ≤ x2 → zCall L xs D 228 [zr 142] J K fun r1 e1 J1 K1 => zaV r1 e1 (Q (.inl none) 0 J1 K1) (fun E => Q (.inr E) e1 J1 K1)) ∧ (x2 < (J 144 0 1) → 0 ≤ x2 ∧ x2 < 8 ∧ zin x1 ∧ 0 ≤ x2 ∧ x2 < 32 ∧ zin (zand (x1 / 2 ^ (x2.toNat)) 1) ∧ zin 1 ∧ ((zand (x1 / 2 ^ (x2.toNat)) 1) ≠ (1 : Int) → 0 ≤ x2 ∧ x2 < 8 ∧ zGo L xs (D + 1) 229 2 [some (zr 142), some (zi x1), some (zi (x2 + 1))] [] (zup J 553 0 x2 ((J 238 0 x2) + 0)) K Q) ∧ ((zand (x1 / 2 ^ (x2.toNat)) 1) = (1 : Int) → 0 ≤ x2 ∧ x2 < 16 ∧ 0 ≤ x2 ∧ x2 < 16 ∧ 0 ≤ (3 : Int) ∧ (3 : Int) < 4 ∧ 0 ≤ x2 ∧ x2 < 8 ∧ zGo L xs (D + 1) 229 2 [some (zr 142), some (zi x1), some (zi (x2 + 1))] [] (zup J 553 0 x2 ((J 238 0 x2) + (J 170 x2 3))) K Q))) :
  zGo L xs (D + 1) 229 2 [some (zr 142), some (zi x1), some (zi x2)] [] J K Q :=
  zrun_ok (T := mct229) (o := 12) (ret := none) (hs := [(2, [])]) hL rfl 31 _ _ _ _ _ _ _ h
/-! PartingTrainsModel.goesOn -/
set_option maxRecDepth 30000 in
theorem z230 {L : Nat} {xs : Nat → Int32} (hL : L ≤ 3072) {D : Nat} {x1 : Int} {J : zJ} {K : zK} {Q : zR → Nat → zJ → zK → Prop}
  (h : zCall L xs D 224 [zr 142, zi x1] J K fun r1 e1 J1 K1 => zaV r1 e1 (zCall L xs D 245 [zr 142, zi x1] J1 K1 fun r2 e2 J2 K2 => zaI r2 e2 (fun x2_ => zin x2_ ∧ (x2_ = (0 : Int) → zGo L xs (D + 1) 230 30 [some (zr 142), some (zi x1), some (zi 0), some (zi 0), none, none, none, none, none, none] [] J2 K2 Q) ∧ (x2_ ≠ (0 : Int) → 0 ≤ x1 ∧ x1 < 12 ∧ zin (J2 236 0 x1) ∧ ((J2 236 0 x1) ≠ (0 : Int) → zGo L xs (D + 1) 230 30 [some (zr 142), some (zi x1), some (zi 0), some (zi 0), none, none, none, none, none, none] [] J2 K2 Q) ∧ ((J2 236 0 x1) = (0 : Int) → zGo L xs (D + 1) 230 30 [some (zr 142), some (zi x1), some (zi 1), some (zi 0), none, none, none, none, none, none] [] J2 K2 Q))) (fun E => Q (.inr E) e2 J2 K2)) (fun E => Q (.inr E) e1 J1 K1)) :
  zCall L xs (D + 1) 230 [zr 142, zi x1] J K Q :=
  zrun_ok (T := mct230) (o := 12) (ret := none) (hs := [(30, [4, 5, 6, 7, 8, 9]), (77, [8, 9]), (164, [5])]) hL rfl 17 _ _ _ _ _ _ _ h
set_option maxRecDepth 30000 in
theorem z230_30 {L : Nat} {xs : Nat → Int32} (hL : L ≤ 3072) {D : Nat} {x1 x2 x3 : Int} {J : zJ} {K : zK} {Q : zR → Nat → zJ → zK → Prop}
  (h : zin x3 ∧ zin (J 142 0 50) ∧ ((J 142 0 50) ≤ x3 → Q (.inl none) 0 J K) ∧ (x3 < (J 142 0 50) → 0 ≤ x3 ∧ x3 < 8 ∧ 0 ≤ (J 555 0 x3) ∧ (J 555 0 x3) < 8 ∧ 0 ≤ (J 555 0 x3) ∧ (J 555 0 x3) < 8 ∧ zin (J 552 0 (J 555 0 x3)) ∧ zin x1 ∧ ((J 552 0 (J 555 0 x3)) = x1 → zGo L xs (D + 1) 230 77 [some (zr 142), some (zi x1), some (zi x2), some (zi x3), some (zi (J 555 0 x3)), some (zi (J 551 0 (J 555 0 x3))), some (zi 0), some (zi (x3 + 1)), none, none] [] J K Q) ∧ ((J 552 0 (J 555 0 x3)) ≠ x1 → zGo L xs (D + 1) 230 30 [some (zr 142), some (zi x1), some (zi x2), some (zi (x3 + 1)), none, none, none, none, none, none] [] J K Q))) :
  zGo L xs (D + 1) 230 30 [some (zr 142), some (zi x1), some (zi x2), some (zi x3), none, none, none, none, none, none] [] J K Q :=
  zrun_ok (T := mct230) (o := 12) (ret := none) (hs := [(30, [4, 5, 6, 7, 8, 9]), (77, [8, 9]), (164, [5])]) hL rfl 26 _ _ _ _ _ _ _ h
set_option maxRecDepth 30000 in
theorem z230_77 {L : Nat} {xs : Nat → Int32} (hL : L ≤ 3072) {D : Nat} {x1 x2 x3 x4 x5 x6 x7 : Int} {J : zJ} {K : zK} {Q : zR → Nat → zJ → zK → Prop}
  (h : zin x7 ∧ zin (J 142 0 50) ∧ ((J 142 0 50) ≤ x7 → 0 ≤ x1 ∧ x1 < 24 ∧ 0 ≤ x1 ∧ x1 < 24 ∧ 0 ≤ (4 : Int) ∧ (4 : Int) < 5 ∧ 0 ≤ x1 ∧ x1 < 24 ∧ 0 ≤ x1 ∧ x1 < 24 ∧ 0 ≤ (1 : Int) ∧ (1 : Int) < 5 ∧ 0 ≤ x4 ∧ x4 < 8 ∧ 0 ≤ x1 ∧ x1 < 24 ∧ 0 ≤ x1 ∧ x1 < 24 ∧ 0 ≤ (0 : Int) ∧ (0 : Int) < 5 ∧ 0 ≤ x4 ∧ x4 < 8 ∧ zGo L xs (D + 1) 230 30 [some (zr 142), some (zi x1), some (zi x2), some (zi (x3 + 1)), none, none, none, none, none, none] [] (zup (zup J 551 0 x4 ((x5 + ((J 145 x1 4) * x6)) + (J 145 x1 1))) 552 0 x4 (J 145 x1 0)) K Q) ∧ (x7 < (J 142 0 50) → zin x2 ∧ (x2 = (0 : Int) → 0 ≤ x1 ∧ x1 < 24 ∧ 0 ≤ x1 ∧ x1 < 24 ∧ 0 ≤ (4 : Int) ∧ (4 : Int) < 5 ∧ 0 ≤ x1 ∧ x1 < 24 ∧ 0 ≤ x1 ∧ x1 < 24 ∧ 0 ≤ (1 : Int) ∧ (1 : Int) < 5 ∧ 0 ≤ x4 ∧ x4 < 8 ∧ 0 ≤ x1 ∧ x1 < 24 ∧ 0 ≤ x1 ∧ x1 < 24 ∧ 0 ≤ (0 : Int) ∧ (0 : Int) < 5 ∧ 0 ≤ x4 ∧ x4 < 8 ∧ zGo L xs (D + 1) 230 30 [some (zr 142), some (zi x1), some (zi x2), some (zi (x3 + 1)), none, none, none, none, none, none] [] (zup (zup J 551 0 x4 ((x5 + ((J 145 x1 4) * x6)) + (J 145 x1 1))) 552 0 x4 (J 145 x1 0)) K Q) ∧ (x2 ≠ (0 : Int) → 0 ≤ x7 ∧ x7 < 8 ∧ 0 ≤ (J 555 0 x7) ∧ (J 555 0 x7) < 8 ∧ zin (J 552 0 (J 555 0 x7)) ∧ zin x1 ∧ ((J 552 0 (J 555 0 x7)) ≠ x1 → zGo L xs (D + 1) 230 77 [some (zr 142), some (zi x1), some (zi x2), some (zi x3), some (zi x4), some (zi x5), some (zi x6), some (zi (x7 + 1)), none, none] [] J K Q) ∧ ((J 552 0 (J 555 0 x7)) = x1 → 0 ≤ (J 555 0 x7) ∧ (J 555 0 x7) < 8 ∧ 0 ≤ x4 ∧ x4 < 8 ∧ 0 ≤ x1 ∧ x1 < 12 ∧ zin (J 551 0 (J 555 0 x7)) ∧ zin ((J 551 0 x4) + (J 237 0 x1)) ∧ (((J 551 0 x4) + (J 237 0 x1)) < (J 551 0 (J 555 0 x7)) → zGo L xs (D + 1) 230 77 [some (zr 142), some (zi x1), some (zi x2), some (zi x3), some (zi x4), some (zi x5), some (zi x6), some (zi (x7 + 1)), none, none] [] J K Q) ∧ ((J 551 0 (J 555 0 x7)) ≤ ((J 551 0 x4) + (J 237 0 x1)) → zCall L xs D 233 [zr 142, zi x4] J K fun r1 e1 J1 K1 => zaI r1 e1 (fun x1_ => zCall L xs D 233 [zr 142, zi (J 555 0 x7)] J1 K1 fun r2 e2 J2 K2 => zaI r2 e2 (fun x2_ => 0 ≤ x1 ∧ x1 < 24 ∧ 0 ≤ x1 ∧ x1 < 24 ∧ 0 ≤ (2 : Int) ∧ (2 : Int) < 5 ∧ zin (x1_ + x2_) ∧ zin (J2 145 x1 2) ∧ ((x1_ + x2_) ≤ (J2 145 x1 2) → zGo L xs (D + 1) 230 164 [some (zr 142), some (zi x1), some (zi x2), some (zi x3), some (zi x4), none, some (zi x6), some (zi x7), some (zi (J 555 0 x7)), some (zi 0)] [] J2 K2 Q) ∧ ((J2 145 x1 2) < (x1_ + x2_) → zGo L xs (D + 1) 230 77 [some (zr 142), some (zi x1), some (zi x2), some (zi x3), some (zi x4), some (zi x5), some (zi x6), some (zi (x7 + 1)), none, none] [] J2 K2 Q)) (fun E => Q (.inr E) e2 J2 K2)) (fun E => Q (.inr E) e1 J1 K1)))))) :
  zGo L xs (D + 1) 230 77 [some (zr 142), some (zi x1), some (zi x2), some (zi x3), some (zi x4), some (zi x5), some (zi x6), some (zi x7), none, none] [] J K Q :=
  zrun_ok (T := mct230) (o := 12) (ret := none) (hs := [(30, [4, 5, 6, 7, 8, 9]), (77, [8, 9]), (164, [5])]) hL rfl 48 _ _ _ _ _ _ _ h
set_option maxRecDepth 30000 in
theorem z230_164 {L : Nat} {xs : Nat → Int32} (hL : L ≤ 3072) {D : Nat} {x1 x2 x3 x4 x6 x7 x8 x9 : Int} {J : zJ} {K : zK} {Q : zR → Nat → zJ → zK → Prop}
  (h : 0 ≤ x8 ∧ x8 < 8 ∧ zin x9 ∧ zin (J 550 0 x8) ∧ ((J 550 0 x8) ≤ x9 → 0 ≤ x8 ∧ x8 < 8 ∧ 0 ≤ x8 ∧ x8 < 8 ∧ zGo L xs (D + 1) 230 77 [some (zr 142), some (zi x1), some (zi x2), some (zi x3), some (zi x4), some (zi (J 551 0 x8)), some (zi (x6 + 1)), some (zi (x7 + 1)), none, none] [] (zup J 552 0 x8 (-1)) K Q) ∧ (x9 < (J 550 0 x8) → 0 ≤ x4 ∧ x4 < 8 ∧ 0 ≤ x4 ∧ x4 < 8 ∧ 0 ≤ x8 ∧ x8 < 8 ∧ 0 ≤ x8 ∧ x8 < 8 ∧ 0 ≤ x9 ∧ x9 < 8 ∧ 0 ≤ x4 ∧ x4 < 8 ∧ 0 ≤ (J 550 0 x4) ∧ (J 550 0 x4) < 8 ∧ 0 ≤ x4 ∧ x4 < 8 ∧ 0 ≤ x4 ∧ x4 < 8 ∧ zGo L xs (D + 1) 230 164 [some (zr 142), some (zi x1), some (zi x2), some (zi x3), some (zi x4), none, some (zi x6), some (zi x7), some (zi x8), some (zi (x9 + 1))] [] (zup (zup J 541 x4 (J 550 0 x4) (J 541 x8 x9)) 550 0 x4 ((J 550 0 x4) + 1)) K Q)) :
  zGo L xs (D + 1) 230 164 [some (zr 142), some (zi x1), some (zi x2), some (zi x3), some (zi x4), none, some (zi x6), some (zi x7), some (zi x8), some (zi x9)] [] J K Q :=
  zrun_ok (T := mct230) (o := 12) (ret := none) (hs := [(30, [4, 5, 6, 7, 8, 9]), (77, [8, 9]), (164, [5])]) hL rfl 31 _ _ _ _ _ _ _ h
/-! PartingTrainsModel.group -/
set_option maxRecDepth 30000 in
theorem z231 {L : Nat} {xs : Nat → Int32} (hL : L ≤ 3072) {D : Nat} {J : zJ} {K : zK} {Q : zR → Nat → zJ → zK → Prop}
  (h : zCall L xs D 223 [zr 142] (zup J 142 0 0 0) K fun r1 e1 J1 K1 => zaI r1 e1 (fun x1_ => zin x1_ ∧ zin (-2) ∧ (x1_ ≠ (-2 : Int) → zGo L xs (D + 1) 231 21 [some (zr 142), some (zi 0), some (zi 0)] [] J1 K1 Q) ∧ (x1_ = (-2 : Int) → Q (.inl (some (zi (-2)))) 0 J1 K1)) (fun E => Q (.inr E) e1 J1 K1)) :
  zCall L xs (D + 1) 231 [zr 142] J K Q :=
  zrun_ok (T := mct231) (o := 12) (ret := (some FieldType.int)) (hs := [(21, [])]) hL rfl 11 _ _ _ _ _ _ _ h
set_option maxRecDepth 30000 in
theorem z231_21 {L : Nat} {xs : Nat → Int32} (hL : L ≤ 3072) {D : Nat} {x1 x2 : Int} {J : zJ} {K : zK} {Q : zR → Nat → zJ → zK → Prop}
  (h : 0 ≤ (1 : Int) ∧ (1 : Int) < 8 ∧ zin x2 ∧ zin (J 144 0 1) ∧ ((J 144 0 1) ≤ x2 → zCall L xs D 234 [zr 142] J K fun r1 e1 J1 K1 => zaI r1 e1 (fun x1_ => Q (.inl (some (zi x1))) 0 J1 K1) (fun E => Q (.inr E) e1 J1 K1)) ∧ (x2 < (J 144 0 1) → zCall L xs D 302 [zr 142, zi x2] J K fun r2 e2 J2 K2 => zaI r2 e2 (fun x2_ => 0 ≤ x2 ∧ x2 < 8 ∧ zin x2_ ∧ zin (J2 534 0 x2) ∧ (x2_ = (J2 534 0 x2) → 0 ≤ x2 ∧ x2 < 8 ∧ 0 ≤ x2 ∧ x2 < 8 ∧ zGo L xs (D + 1) 231 21 [some (zr 142), some (zi (x1 + 0)), some (zi (x2 + 1))] [] (zup J2 259 0 x2 (J2 534 0 x2)) K2 Q) ∧ (x2_ ≠ (J2 534 0 x2) → 0 ≤ x2 ∧ x2 < 8 ∧ 0 ≤ x2 ∧ x2 < 8 ∧ zGo L xs (D + 1) 231 21 [some (zr 142), some (zi (x1 + 1)), some (zi (x2 + 1))] [] (zup J2 259 0 x2 (J2 534 0 x2)) K2 Q)) (fun E => Q (.inr E) e2 J2 K2))) :
  zGo L xs (D + 1) 231 21 [some (zr 142), some (zi x1), some (zi x2)] [] J K Q :=
  zrun_ok (T := mct231) (o := 12) (ret := (some FieldType.int)) (hs := [(21, [])]) hL rfl 29 _ _ _ _ _ _ _ h
/-! PartingTrainsModel.groupBits -/
set_option maxRecDepth 30000 in
theorem z232 {L : Nat} {xs : Nat → Int32} (hL : L ≤ 3072) {D : Nat} {x1 x2 : Int} {J : zJ} {K : zK} {Q : zR → Nat → zJ → zK → Prop}
  (h : zGo L xs (D + 1) 232 5 [some (zr 142), some (zi x1), some (zi x2), some (zi 0), some (zi 0)] [] J K Q) :
  zCall L xs (D + 1) 232 [zr 142, zi x1, zi x2] J K Q :=
  zrun_ok (T := mct232) (o := 12) (ret := (some FieldType.int)) (hs := [(5, [])]) hL rfl 4 _ _ _ _ _ _ _ h
set_option maxRecDepth 30000 in
theorem z232_5 {L : Nat} {xs : Nat → Int32} (hL : L ≤ 3072) {D : Nat} {x1 x2 x3 x4 : Int} {J : zJ} {K : zK} {Q : zR → Nat → zJ → zK → Prop}
  (h : 0 ≤ (1 : Int) ∧ (1 : Int) < 8 ∧ zin x4 ∧ zin (J 144 0 1) ∧ ((J 144 0 1) ≤ x4 → Q (.inl (some (zi x3))) 0 J K) ∧ (x4 < (J 144 0 1) → zin x1 ∧ 0 ≤ x4 ∧ x4 < 32 ∧ zin (zand (x1 / 2 ^ (x4.toNat)) 1) ∧ zin 1 ∧ ((zand (x1 / 2 ^ (x4.toNat)) 1) ≠ (1 : Int) → zGo L xs (D + 1) 232 5 [some (zr 142), some (zi x1), some (zi x2), some (zi (zor x3 0)), some (zi (x4 + 1))] [] J K Q) ∧ ((zand (x1 / 2 ^ (x4.toNat)) 1) = (1 : Int) → 0 ≤ x4 ∧ x4 < 16 ∧ 0 ≤ x4 ∧ x4 < 16 ∧ 0 ≤ (0 : Int) ∧ (0 : Int) < 4 ∧ zCall L xs D 247 [zr 142, zi x2, zi (J 170 x4 0)] J K fun r1 e1 J1 K1 => zaI r1 e1 (fun x1_ => zin x1_ ∧ (x1_ = (0 : Int) → zGo L xs (D + 1) 232 5 [some (zr 142), some (zi x1), some (zi x2), some (zi (zor x3 0)), some (zi (x4 + 1))] [] J1 K1 Q) ∧ (x1_ ≠ (0 : Int) → 0 ≤ x4 ∧ x4 < 32 ∧ zGo L xs (D + 1) 232 5 [some (zr 142), some (zi x1), some (zi x2), some (zi (zor x3 (1 * 2 ^ (x4.toNat)))), some (zi (x4 + 1))] [] J1 K1 Q)) (fun E => Q (.inr E) e1 J1 K1)))) :
  zGo L xs (D + 1) 232 5 [some (zr 142), some (zi x1), some (zi x2), some (zi x3), some (zi x4)] [] J K Q :=
  zrun_ok (T := mct232) (o := 12) (ret := (some FieldType.int)) (hs := [(5, [])]) hL rfl 32 _ _ _ _ _ _ _ h
/-! PartingTrainsModel.groupLength -/
set_option maxRecDepth 30000 in
theorem z233 {L : Nat} {xs : Nat → Int32} (hL : L ≤ 3072) {D : Nat} {x1 : Int} {J : zJ} {K : zK} {Q : zR → Nat → zJ → zK → Prop}
  (h : 0 ≤ x1 ∧ x1 < 8 ∧ 0 ≤ x1 ∧ x1 < 8 ∧ zCall L xs D 260 [zr 142, zw 541 x1, zi 0, zi (J 550 0 x1)] J K fun r1 e1 J1 K1 => zaI r1 e1 (fun x1_ => Q (.inl (some (zi x1_))) 0 J1 K1) (fun E => Q (.inr E) e1 J1 K1)) :
  zCall L xs (D + 1) 233 [zr 142, zi x1] J K Q :=
  zrun_ok (T := mct233) (o := 12) (ret := (some FieldType.int)) (hs := []) hL rfl 12 _ _ _ _ _ _ _ h
/-! PartingTrainsModel.groupWorth -/
set_option maxRecDepth 30000 in
theorem z234 {L : Nat} {xs : Nat → Int32} (hL : L ≤ 3072) {D : Nat} {J : zJ} {K : zK} {Q : zR → Nat → zJ → zK → Prop}
  (h : zGo L xs (D + 1) 234 2 [some (zr 142), some (zi 0), none, none, none] [] J K Q) :
  zCall L xs (D + 1) 234 [zr 142] J K Q :=
  zrun_ok (T := mct234) (o := 12) (ret := (some FieldType.int)) (hs := [(2, [2, 3, 4]), (14, [4]), (52, [4]), (120, [2, 3, 4]), (150, [3, 4]), (165, [])]) hL rfl 2 _ _ _ _ _ _ _ h
set_option maxRecDepth 30000 in
theorem z234_2 {L : Nat} {xs : Nat → Int32} (hL : L ≤ 3072) {D : Nat} {x1 : Int} {J : zJ} {K : zK} {Q : zR → Nat → zJ → zK → Prop}
  (h : zin x1 ∧ zin (J 142 0 15) ∧ ((J 142 0 15) ≤ x1 → zCall L xs D 255 [zr 142] J K fun r1 e1 J1 K1 => zaV r1 e1 (zGo L xs (D + 1) 234 120 [some (zr 142), some (zi 0), none, none, none] [] J1 K1 Q) (fun E => Q (.inr E) e1 J1 K1)) ∧ (x1 < (J 142 0 15) → zGo L xs (D + 1) 234 14 [some (zr 142), some (zi x1), some (zi 0), some (zi 0), none] [] J K Q)) :
  zGo L xs (D + 1) 234 2 [some (zr 142), some (zi x1), none, none, none] [] J K Q :=
  zrun_ok (T := mct234) (o := 12) (ret := (some FieldType.int)) (hs := [(2, [2, 3, 4]), (14, [4]), (52, [4]), (120, [2, 3, 4]), (150, [3, 4]), (165, [])]) hL rfl 8 _ _ _ _ _ _ _ h
set_option maxRecDepth 30000 in
theorem z234_14 {L : Nat} {xs : Nat → Int32} (hL : L ≤ 3072) {D : Nat} {x1 x2 x3 : Int} {J : zJ} {K : zK} {Q : zR → Nat → zJ → zK → Prop}
  (h : 0 ≤ (1 : Int) ∧ (1 : Int) < 8 ∧ zin x3 ∧ zin (J 144 0 1) ∧ ((J 144 0 1) ≤ x3 → zGo L xs (D + 1) 234 52 [some (zr 142), some (zi x1), some (zi x2), some (zi 0), none] [] J K Q) ∧ (x3 < (J 144 0 1) → 0 ≤ x3 ∧ x3 < 8 ∧ zin (J 259 0 x3) ∧ zin x1 ∧ ((J 259 0 x3) ≠ x1 → zGo L xs (D + 1) 234 14 [some (zr 142), some (zi x1), some (zi (zor x2 0)), some (zi (x3 + 1)), none] [] J K Q) ∧ ((J 259 0 x3) = x1 → 0 ≤ x3 ∧ x3 < 32 ∧ zGo L xs (D + 1) 234 14 [some (zr 142), some (zi x1), some (zi (zor x2 (1 * 2 ^ (x3.toNat)))), some (zi (x3 + 1)), none] [] J K Q))) :
  zGo L xs (D + 1) 234 14 [some (zr 142), some (zi x1), some (zi x2), some (zi x3), none] [] J K Q :=
  zrun_ok (T := mct234) (o := 12) (ret := (some FieldType.int)) (hs := [(2, [2, 3, 4]), (14, [4]), (52, [4]), (120, [2, 3, 4]), (150, [3, 4]), (165, [])]) hL rfl 21 _ _ _ _ _ _ _ h
set_option maxRecDepth 30000 in
theorem z234_52 {L : Nat} {xs : Nat → Int32} (hL : L ≤ 3072) {D : Nat} {x1 x2 x3 : Int} {J : zJ} {K : zK} {Q : zR → Nat → zJ → zK → Prop}
  (h : 0 ≤ x2 ∧ x2 < 256 ∧ zin x3 ∧ zin (J 531 0 x2) ∧ ((J 531 0 x2) ≤ x3 → 0 ≤ x2 ∧ x2 < 256 ∧ 0 ≤ x1 ∧ x1 < 4 ∧ 0 ≤ x2 ∧ x2 < 256 ∧ 0 ≤ x1 ∧ x1 < 4 ∧ zGo L xs (D + 1) 234 2 [some (zr 142), some (zi (x1 + 1)), none, none, none] [] (zup (zup J 234 0 x1 (J 531 0 x2)) 260 0 x1 (J 532 0 x2)) K Q) ∧ (x3 < (J 531 0 x2) → 0 ≤ x1 ∧ x1 < 4 ∧ 0 ≤ x2 ∧ x2 < 256 ∧ 0 ≤ x2 ∧ x2 < 256 ∧ 0 ≤ x3 ∧ x3 < 8 ∧ 0 ≤ x1 ∧ x1 < 4 ∧ 0 ≤ x3 ∧ x3 < 8 ∧ zGo L xs (D + 1) 234 52 [some (zr 142), some (zi x1), some (zi x2), some (zi (x3 + 1)), none] [] (zup J 229 x1 x3 (J 274 x2 x3)) K Q)) :
  zGo L xs (D + 1) 234 52 [some (zr 142), some (zi x1), some (zi x2), some (zi x3), none] [] J K Q :=
  zrun_ok (T := mct234) (o := 12) (ret := (some FieldType.int)) (hs := [(2, [2, 3, 4]), (14, [4]), (52, [4]), (120, [2, 3, 4]), (150, [3, 4]), (165, [])]) hL rfl 24 _ _ _ _ _ _ _ h
set_option maxRecDepth 30000 in
theorem z234_120 {L : Nat} {xs : Nat → Int32} (hL : L ≤ 3072) {D : Nat} {x1 : Int} {J : zJ} {K : zK} {Q : zR → Nat → zJ → zK → Prop}
  (h : zin x1 ∧ zin (J 142 0 15) ∧ ((J 142 0 15) ≤ x1 → zGo L xs (D + 1) 234 150 [some (zr 142), some (zi 0), some (zi 0), none, none] [] J K Q) ∧ (x1 < (J 142 0 15) → 0 ≤ x1 ∧ x1 < 4 ∧ zin (J 255 0 x1) ∧ ((J 255 0 x1) = (0 : Int) → zGo L xs (D + 1) 234 120 [some (zr 142), some (zi (x1 + 1)), none, none, none] [] J K Q) ∧ ((J 255 0 x1) ≠ (0 : Int) → Q (.inl (some (zi (-2)))) 0 J K))) :
  zGo L xs (D + 1) 234 120 [some (zr 142), some (zi x1), none, none, none] [] J K Q :=
  zrun_ok (T := mct234) (o := 12) (ret := (some FieldType.int)) (hs := [(2, [2, 3, 4]), (14, [4]), (52, [4]), (120, [2, 3, 4]), (150, [3, 4]), (165, [])]) hL rfl 11 _ _ _ _ _ _ _ h
set_option maxRecDepth 30000 in
theorem z234_150 {L : Nat} {xs : Nat → Int32} (hL : L ≤ 3072) {D : Nat} {x1 x2 : Int} {J : zJ} {K : zK} {Q : zR → Nat → zJ → zK → Prop}
  (h : 0 ≤ (3 : Int) ∧ (3 : Int) < 8 ∧ zin x2 ∧ zin (J 144 0 3) ∧ ((J 144 0 3) ≤ x2 → Q (.inl (some (zi x1))) 0 J K) ∧ (x2 < (J 144 0 3) → zGo L xs (D + 1) 234 165 [some (zr 142), some (zi x1), some (zi x2), some (zi 0), some (zi 0)] [] J K Q)) :
  zGo L xs (D + 1) 234 150 [some (zr 142), some (zi x1), some (zi x2), none, none] [] J K Q :=
  zrun_ok (T := mct234) (o := 12) (ret := (some FieldType.int)) (hs := [(2, [2, 3, 4]), (14, [4]), (52, [4]), (120, [2, 3, 4]), (150, [3, 4]), (165, [])]) hL rfl 10 _ _ _ _ _ _ _ h
set_option maxRecDepth 30000 in
theorem z234_165 {L : Nat} {xs : Nat → Int32} (hL : L ≤ 3072) {D : Nat} {x1 x2 x3 x4 : Int} {J : zJ} {K : zK} {Q : zR → Nat → zJ → zK → Prop}
  (h : zin x4 ∧ zin (J 142 0 15) ∧ ((J 142 0 15) ≤ x4 → zGo L xs (D + 1) 234 150 [some (zr 142), some (zi (x1 + x3)), some (zi (x2 + 1)), none, none] [] J K Q) ∧ (x4 < (J 142 0 15) → 0 ≤ x4 ∧ x4 < 4 ∧ zCall L xs D 310 [zr 142, zi x2, zi x4, zi (J 260 0 x4)] J K fun r1 e1 J1 K1 => zaI r1 e1 (fun x1_ => zCall L xs D 268 [zi x3, zi x1_] J1 K1 fun r2 e2 J2 K2 => zaI r2 e2 (fun x2_ => zGo L xs (D + 1) 234 165 [some (zr 142), some (zi x1), some (zi x2), some (zi x2_), some (zi (x4 + 1))] [] J2 K2 Q) (fun E => Q (.inr E) e2 J2 K2)) (fun E => Q (.inr E) e1 J1 K1))) :
  zGo L xs (D + 1) 234 165 [some (zr 142), some (zi x1), some (zi x2), some (zi x3), some (zi x4)] [] J K Q :=
  zrun_ok (T := mct234) (o := 12) (ret := (some FieldType.int)) (hs := [(2, [2, 3, 4]), (14, [4]), (52, [4]), (120, [2, 3, 4]), (150, [3, 4]), (165, [])]) hL rfl 17 _ _ _ _ _ _ _ h
/-! PartingTrainsModel.harm -/
set_option maxRecDepth 30000 in
theorem z235 {L : Nat} {xs : Nat → Int32} (hL : L ≤ 3072) {D : Nat} {x1 : Int} {J : zJ} {K : zK} {Q : zR → Nat → zJ → zK → Prop}
  (h : zCall L xs D 193 [zr 142, zi x1] (zup J 142 0 0 0) K fun r1 e1 J1 K1 => zaI r1 e1 (fun x1_ => zin x1_ ∧ (x1_ ≠ (0 : Int) → zCall L xs D 195 [zr 142, zi 0, zi 1] J1 K1 fun r2 e2 J2 K2 => zaI r2 e2 (fun x2_ => zin x2_ ∧ (x2_ = (0 : Int) → zCall L xs D 236 [zr 142, zi x1] J2 K2 fun r3 e3 J3 K3 => zaI r3 e3 (fun x3_ => Q (.inl (some (zi x3_))) 0 J3 K3) (fun E => Q (.inr E) e3 J3 K3)) ∧ (x2_ ≠ (0 : Int) → Q (.inl (some (zi 0))) 0 J2 K2)) (fun E => Q (.inr E) e2 J2 K2)) ∧ (x1_ = (0 : Int) → zCall L xs D 195 [zr 142, zi 1, zi 1] J1 K1 fun r4 e4 J4 K4 => zaI r4 e4 (fun x4_ => zin x4_ ∧ (x4_ = (0 : Int) → zCall L xs D 236 [zr 142, zi x1] J4 K4 fun r5 e5 J5 K5 => zaI r5 e5 (fun x5_ => Q (.inl (some (zi x5_))) 0 J5 K5) (fun E => Q (.inr E) e5 J5 K5)) ∧ (x4_ ≠ (0 : Int) → Q (.inl (some (zi 0))) 0 J4 K4)) (fun E => Q (.inr E) e4 J4 K4))) (fun E => Q (.inr E) e1 J1 K1)) :
  zCall L xs (D + 1) 235 [zr 142, zi x1] J K Q :=
  zrun_ok (T := mct235) (o := 12) (ret := (some FieldType.int)) (hs := []) hL rfl 17 _ _ _ _ _ _ _ h
/-! PartingTrainsModel.harmOf -/
set_option maxRecDepth 30000 in
theorem z236 {L : Nat} {xs : Nat → Int32} (hL : L ≤ 3072) {D : Nat} {x1 : Int} {J : zJ} {K : zK} {Q : zR → Nat → zJ → zK → Prop}
  (h : zCall L xs D 229 [zr 142, zi x1] J K fun r1 e1 J1 K1 => zaV r1 e1 (zCall L xs D 286 [zr 142] J1 K1 fun r2 e2 J2 K2 => zaI r2 e2 (fun x2_ => zCall L xs D 268 [zi 0, zi (x2_ - 1)] J2 K2 fun r3 e3 J3 K3 => zaI r3 e3 (fun x3_ => zGo L xs (D + 1) 236 21 [some (zr 142), none, some (zi (60 * x3_)), some (zi 0)] [] J3 K3 Q) (fun E => Q (.inr E) e3 J3 K3)) (fun E => Q (.inr E) e2 J2 K2)) (fun E => Q (.inr E) e1 J1 K1)) :
  zCall L xs (D + 1) 236 [zr 142, zi x1] J K Q :=
  zrun_ok (T := mct236) (o := 12) (ret := (some FieldType.int)) (hs := [(21, [1])]) hL rfl 14 _ _ _ _ _ _ _ h
set_option maxRecDepth 30000 in
theorem z236_21 {L : Nat} {xs : Nat → Int32} (hL : L ≤ 3072) {D : Nat} {x2 x3 : Int} {J : zJ} {K : zK} {Q : zR → Nat → zJ → zK → Prop}
  (h : 0 ≤ (1 : Int) ∧ (1 : Int) < 8 ∧ zin x3 ∧ zin (J 144 0 1) ∧ ((J 144 0 1) ≤ x3 → Q (.inl (some (zi x2))) 0 J K) ∧ (x3 < (J 144 0 1) → 0 ≤ x3 ∧ x3 < 16 ∧ 0 ≤ x3 ∧ x3 < 16 ∧ 0 ≤ (1 : Int) ∧ (1 : Int) < 4 ∧ 0 ≤ x3 ∧ x3 < 8 ∧ 0 ≤ x3 ∧ x3 < 8 ∧ 0 ≤ x3 ∧ x3 < 16 ∧ 0 ≤ x3 ∧ x3 < 16 ∧ 0 ≤ (0 : Int) ∧ (0 : Int) < 4 ∧ zCall L xs D 215 [zr 142, zi (J 170 x3 0)] J K fun r1 e1 J1 K1 => zaI r1 e1 (fun x1_ => zGo L xs (D + 1) 236 21 [some (zr 142), none, some (zi (x2 + ((J 170 x3 1) * (((J 554 0 x3) - (J 238 0 x3)) - x1_)))), some (zi (x3 + 1))] [] J1 K1 Q) (fun E => Q (.inr E) e1 J1 K1))) :
  zGo L xs (D + 1) 236 21 [some (zr 142), none, some (zi x2), some (zi x3)] [] J K Q :=
  zrun_ok (T := mct236) (o := 12) (ret := (some FieldType.int)) (hs := [(21, [1])]) hL rfl 36 _ _ _ _ _ _ _ h
/-! PartingTrainsModel.head -/
set_option maxRecDepth 30000 in
theorem z237 {L : Nat} {xs : Nat → Int32} (hL : L ≤ 3072) {D : Nat} {x1 x2 : Int} {J : zJ} {K : zK} {Q : zR → Nat → zJ → zK → Prop}
  (h : zGo L xs (D + 1) 237 7 [some (zr 142), some (zi x1), some (zi x2), some (zi (-1)), some (zi (x2 + 1)), none, none] [] J K Q) :
  zCall L xs (D + 1) 237 [zr 142, zi x1, zi x2] J K Q :=
  zrun_ok (T := mct237) (o := 12) (ret := (some FieldType.int)) (hs := [(7, [5, 6]), (88, [2, 5, 6])]) hL rfl 6 _ _ _ _ _ _ _ h
set_option maxRecDepth 30000 in
theorem z237_7 {L : Nat} {xs : Nat → Int32} (hL : L ≤ 3072) {D : Nat} {x1 x2 x3 x4 : Int} {J : zJ} {K : zK} {Q : zR → Nat → zJ → zK → Prop}
  (h : 0 ≤ (0 : Int) ∧ (0 : Int) < 8 ∧ zin x4 ∧ zin (J 144 0 0) ∧ ((J 144 0 0) ≤ x4 → zGo L xs (D + 1) 237 88 [some (zr 142), some (zi x1), none, some (zi x3), some (zi 0), none, none] [] J K Q) ∧ (x4 < (J 144 0 0) → 0 ≤ x4 ∧ x4 < 24 ∧ 0 ≤ x4 ∧ x4 < 24 ∧ 0 ≤ (0 : Int) ∧ (0 : Int) < 5 ∧ zin (J 145 x4 0) ∧ zin x2 ∧ ((J 145 x4 0) ≠ x2 → zin 0 ∧ ((0 : Int) ≠ (0 : Int) → zCall L xs D 237 [zr 142, zi 0, zi x4] J K fun r1 e1 J1 K1 => zaI r1 e1 (fun x1_ => zin x3 ∧ zin (-1) ∧ (x3 ≠ (-1 : Int) → zCall L xs D 261 [zi x3, zi x1_] J1 K1 fun r2 e2 J2 K2 => zaI r2 e2 (fun x2_ => zGo L xs (D + 1) 237 7 [some (zr 142), some (zi x1), some (zi x2), some (zi x2_), some (zi (x4 + 1)), none, none] [] J2 K2 Q) (fun E => Q (.inr E) e2 J2 K2)) ∧ (x3 = (-1 : Int) → zGo L xs (D + 1) 237 7 [some (zr 142), some (zi x1), some (zi x2), some (zi x1_), some (zi (x4 + 1)), none, none] [] J1 K1 Q)) (fun E => Q (.inr E) e1 J1 K1)) ∧ ((0 : Int) = (0 : Int) → zGo L xs (D + 1) 237 7 [some (zr 142), some (zi x1), some (zi x2), some (zi x3), some (zi (x4 + 1)), none, none] [] J K Q)) ∧ ((J 145 x4 0) = x2 → zCall L xs D 232 [zr 142, zi x1, zi x4] J K fun r3 e3 J3 K3 => zaI r3 e3 (fun x3_ => zin x3_ ∧ (x3_ ≠ (0 : Int) → zCall L xs D 237 [zr 142, zi x3_, zi x4] J3 K3 fun r4 e4 J4 K4 => zaI r4 e4 (fun x4_ => zin x3 ∧ zin (-1) ∧ (x3 ≠ (-1 : Int) → zCall L xs D 261 [zi x3, zi x4_] J4 K4 fun r5 e5 J5 K5 => zaI r5 e5 (fun x5_ => zGo L xs (D + 1) 237 7 [some (zr 142), some (zi x1), some (zi x2), some (zi x5_), some (zi (x4 + 1)), none, none] [] J5 K5 Q) (fun E => Q (.inr E) e5 J5 K5)) ∧ (x3 = (-1 : Int) → zGo L xs (D + 1) 237 7 [some (zr 142), some (zi x1), some (zi x2), some (zi x4_), some (zi (x4 + 1)), none, none] [] J4 K4 Q)) (fun E => Q (.inr E) e4 J4 K4)) ∧ (x3_ = (0 : Int) → zGo L xs (D + 1) 237 7 [some (zr 142), some (zi x1), some (zi x2), some (zi x3), some (zi (x4 + 1)), none, none] [] J3 K3 Q)) (fun E => Q (.inr E) e3 J3 K3)))) :
  zGo L xs (D + 1) 237 7 [some (zr 142), some (zi x1), some (zi x2), some (zi x3), some (zi x4), none, none] [] J K Q :=
  zrun_ok (T := mct237) (o := 12) (ret := (some FieldType.int)) (hs := [(7, [5, 6]), (88, [2, 5, 6])]) hL rfl 36 _ _ _ _ _ _ _ h
set_option maxRecDepth 30000 in
theorem z237_88 {L : Nat} {xs : Nat → Int32} (hL : L ≤ 3072) {D : Nat} {x1 x3 x4 : Int} {J : zJ} {K : zK} {Q : zR → Nat → zJ → zK → Prop}
  (h : 0 ≤ (1 : Int) ∧ (1 : Int) < 8 ∧ zin x4 ∧ zin (J 144 0 1) ∧ ((J 144 0 1) ≤ x4 → Q (.inl (some (zi x3))) 0 J K) ∧ (x4 < (J 144 0 1) → zin x3 ∧ zin (-1) ∧ (x3 ≠ (-1 : Int) → Q (.inl (some (zi x3))) 0 J K) ∧ (x3 = (-1 : Int) → zin x1 ∧ 0 ≤ x4 ∧ x4 < 32 ∧ zin (zand (x1 / 2 ^ (x4.toNat)) 1) ∧ zin 1 ∧ ((zand (x1 / 2 ^ (x4.toNat)) 1) ≠ (1 : Int) → zGo L xs (D + 1) 237 88 [some (zr 142), some (zi x1), none, some (zi x3), some (zi (x4 + 1)), none, none] [] J K Q) ∧ ((zand (x1 / 2 ^ (x4.toNat)) 1) = (1 : Int) → zGo L xs (D + 1) 237 88 [some (zr 142), some (zi x1), none, some (zi x4), some (zi (x4 + 1)), none, none] [] J K Q)))) :
  zGo L xs (D + 1) 237 88 [some (zr 142), some (zi x1), none, some (zi x3), some (zi x4), none, none] [] J K Q :=
  zrun_ok (T := mct237) (o := 12) (ret := (some FieldType.int)) (hs := [(7, [5, 6]), (88, [2, 5, 6])]) hL rfl 20 _ _ _ _ _ _ _ h
/-! PartingTrainsModel.hold -/
set_option maxRecDepth 30000 in
theorem z238 {L : Nat} {xs : Nat → Int32} (hL : L ≤ 3072) {D : Nat} {x1 x2 : Int} {J : zJ} {K : zK} {Q : zR → Nat → zJ → zK → Prop}
  (h : zCall L xs D 196 [zr 142, zi x1] (zup J 142 0 0 0) K fun r1 e1 J1 K1 => zaI r1 e1 (fun x1_ => zin x1_ ∧ (x1_ ≠ (0 : Int) → Q (.inl (some (zi 0))) 0 J1 K1) ∧ (x1_ = (0 : Int) → zCall L xs D 240 [zi x2, zi 0, zi 60] J1 K1 fun r2 e2 J2 K2 => zaI r2 e2 (fun x2_ => zin x2_ ∧ (x2_ ≠ (0 : Int) → zCall L xs D 195 [zr 142, zi 0, zi 2] J2 K2 fun r3 e3 J3 K3 => zaI r3 e3 (fun x3_ => zin x3_ ∧ (x3_ = (0 : Int) → 0 ≤ x1 ∧ x1 < 12 ∧ 0 ≤ x1 ∧ x1 < 12 ∧ Q (.inl (some (zi (J3 237 0 x1)))) 0 (zup J3 237 0 x1 x2) K3) ∧ (x3_ ≠ (0 : Int) → Q (.inl (some (zi 0))) 0 J3 K3)) (fun E => Q (.inr E) e3 J3 K3)) ∧ (x2_ = (0 : Int) → zCall L xs D 195 [zr 142, zi 1, zi 2] J2 K2 fun r4 e4 J4 K4 => zaI r4 e4 (fun x4_ => zin x4_ ∧ (x4_ = (0 : Int) → 0 ≤ x1 ∧ x1 < 12 ∧ 0 ≤ x1 ∧ x1 < 12 ∧ Q (.inl (some (zi (J4 237 0 x1)))) 0 (zup J4 237 0 x1 x2) K4) ∧ (x4_ ≠ (0 : Int) → Q (.inl (some (zi 0))) 0 J4 K4)) (fun E => Q (.inr E) e4 J4 K4))) (fun E => Q (.inr E) e2 J2 K2))) (fun E => Q (.inr E) e1 J1 K1)) :
  zCall L xs (D + 1) 238 [zr 142, zi x1, zi x2] J K Q :=
  zrun_ok (T := mct238) (o := 12) (ret := (some FieldType.int)) (hs := []) hL rfl 30 _ _ _ _ _ _ _ h
/-! PartingTrainsModel.image -/
set_option maxRecDepth 30000 in
theorem z239 {L : Nat} {xs : Nat → Int32} (hL : L ≤ 3072) {D : Nat} {J : zJ} {K : zK} {Q : zR → Nat → zJ → zK → Prop}
  (h : zin (J 142 0 17) ∧ zin 3 ∧ ((J 142 0 17) ≠ (3 : Int) → zCall L xs D 270 [zr 142, zi (J 142 0 17), zi 0] (zup J 142 0 0 0) K fun r1 e1 J1 K1 => zaV r1 e1 (Q (.inl (some (zi ((J1 142 0 17) + 1)))) 0 (zup J1 142 0 17 ((J1 142 0 17) + 1)) K1) (fun E => Q (.inr E) e1 J1 K1)) ∧ ((J 142 0 17) = (3 : Int) → Q (.inl (some (zi (-1)))) 0 (zup J 142 0 0 0) K)) :
  zCall L xs (D + 1) 239 [zr 142] J K Q :=
  zrun_ok (T := mct239) (o := 12) (ret := (some FieldType.int)) (hs := []) hL rfl 21 _ _ _ _ _ _ _ h
/-! PartingTrainsModel.in -/
set_option maxRecDepth 30000 in
theorem z240 {L : Nat} {xs : Nat → Int32} (hL : L ≤ 3072) {D : Nat} {x0 x1 x2 : Int} {J : zJ} {K : zK} {Q : zR → Nat → zJ → zK → Prop}
  (h : zin x0 ∧ zin x1 ∧ (x0 < x1 → ((0 : Int) = 0 ∨ (0 : Int) = 1) ∧ Q (.inl (some (zi 0))) 0 J K) ∧ (x1 ≤ x0 → zin x0 ∧ zin x2 ∧ (x2 < x0 → ((0 : Int) = 0 ∨ (0 : Int) = 1) ∧ Q (.inl (some (zi 0))) 0 J K) ∧ (x0 ≤ x2 → ((1 : Int) = 0 ∨ (1 : Int) = 1) ∧ Q (.inl (some (zi 1))) 0 J K))) :
  zCall L xs (D + 1) 240 [zi x0, zi x1, zi x2] J K Q :=
  zrun_ok (T := mct240) (o := 12) (ret := (some FieldType.boolean)) (hs := []) hL rfl 9 _ _ _ _ _ _ _ h
/-! PartingTrainsModel.isAhead -/
set_option maxRecDepth 30000 in
theorem z241 {L : Nat} {xs : Nat → Int32} (hL : L ≤ 3072) {D : Nat} {x1 x2 : Int} {J : zJ} {K : zK} {Q : zR → Nat → zJ → zK → Prop}
  (h : 0 ≤ x1 ∧ x1 < 8 ∧ 0 ≤ x2 ∧ x2 < 8 ∧ zin (J 551 0 x1) ∧ zin (J 551 0 x2) ∧ ((J 551 0 x1) < (J 551 0 x2) → ((1 : Int) = 0 ∨ (1 : Int) = 1) ∧ Q (.inl (some (zi 1))) 0 J K) ∧ ((J 551 0 x2) ≤ (J 551 0 x1) → 0 ≤ x1 ∧ x1 < 8 ∧ 0 ≤ x2 ∧ x2 < 8 ∧ zin (J 551 0 x1) ∧ zin (J 551 0 x2) ∧ ((J 551 0 x1) ≠ (J 551 0 x2) → ((0 : Int) = 0 ∨ (0 : Int) = 1) ∧ Q (.inl (some (zi 0))) 0 J K) ∧ ((J 551 0 x1) = (J 551 0 x2) → zCall L xs D 259 [zr 142, zi x1] J K fun r1 e1 J1 K1 => zaI r1 e1 (fun x1_ => zCall L xs D 259 [zr 142, zi x2] J1 K1 fun r2 e2 J2 K2 => zaI r2 e2 (fun x2_ => zin x1_ ∧ zin x2_ ∧ (x2_ ≤ x1_ → ((0 : Int) = 0 ∨ (0 : Int) = 1) ∧ Q (.inl (some (zi 0))) 0 J2 K2) ∧ (x1_ < x2_ → ((1 : Int) = 0 ∨ (1 : Int) = 1) ∧ Q (.inl (some (zi 1))) 0 J2 K2)) (fun E => Q (.inr E) e2 J2 K2)) (fun E => Q (.inr E) e1 J1 K1)))) :
  zCall L xs (D + 1) 241 [zr 142, zi x1, zi x2] J K Q :=
  zrun_ok (T := mct241) (o := 12) (ret := (some FieldType.boolean)) (hs := []) hL rfl 28 _ _ _ _ _ _ _ h
/-! PartingTrainsModel.isApart -/
set_option maxRecDepth 30000 in
theorem z242 {L : Nat} {xs : Nat → Int32} (hL : L ≤ 3072) {D : Nat} {x1 : Int} {J : zJ} {K : zK} {Q : zR → Nat → zJ → zK → Prop}
  (h : zGo L xs (D + 1) 242 2 [some (zr 142), some (zi x1), some (zi 0), none] [] J K Q) :
  zCall L xs (D + 1) 242 [zr 142, zi x1] J K Q :=
  zrun_ok (T := mct242) (o := 12) (ret := (some FieldType.boolean)) (hs := [(2, [3]), (12, [])]) hL rfl 2 _ _ _ _ _ _ _ h
set_option maxRecDepth 30000 in
theorem z242_2 {L : Nat} {xs : Nat → Int32} (hL : L ≤ 3072) {D : Nat} {x1 x2 : Int} {J : zJ} {K : zK} {Q : zR → Nat → zJ → zK → Prop}
  (h : zin x2 ∧ zin (J 142 0 16) ∧ ((J 142 0 16) ≤ x2 → ((1 : Int) = 0 ∨ (1 : Int) = 1) ∧ Q (.inl (some (zi 1))) 0 J K) ∧ (x2 < (J 142 0 16) → zGo L xs (D + 1) 242 12 [some (zr 142), some (zi x1), some (zi x2), some (zi 0)] [] J K Q)) :
  zGo L xs (D + 1) 242 2 [some (zr 142), some (zi x1), some (zi x2), none] [] J K Q :=
  zrun_ok (T := mct242) (o := 12) (ret := (some FieldType.boolean)) (hs := [(2, [3]), (12, [])]) hL rfl 6 _ _ _ _ _ _ _ h
set_option maxRecDepth 30000 in
theorem z242_12 {L : Nat} {xs : Nat → Int32} (hL : L ≤ 3072) {D : Nat} {x1 x2 x3 : Int} {J : zJ} {K : zK} {Q : zR → Nat → zJ → zK → Prop}
  (h : zin x3 ∧ zin x2 ∧ (x2 ≤ x3 → zGo L xs (D + 1) 242 2 [some (zr 142), some (zi x1), some (zi (x2 + 1)), none] [] J K Q) ∧ (x3 < x2 → zin x1 ∧ 0 ≤ x2 ∧ x2 < 32 ∧ zin x1 ∧ 0 ≤ x3 ∧ x3 < 32 ∧ zin (zand (zand (x1 / 2 ^ (x2.toNat)) (x1 / 2 ^ (x3.toNat))) 1) ∧ zin 1 ∧ ((zand (zand (x1 / 2 ^ (x2.toNat)) (x1 / 2 ^ (x3.toNat))) 1) ≠ (1 : Int) → zGo L xs (D + 1) 242 12 [some (zr 142), some (zi x1), some (zi x2), some (zi (x3 + 1))] [] J K Q) ∧ ((zand (zand (x1 / 2 ^ (x2.toNat)) (x1 / 2 ^ (x3.toNat))) 1) = (1 : Int) → zCall L xs D 243 [zr 142, zi x2, zi x3] J K fun r1 e1 J1 K1 => zaI r1 e1 (fun x1_ => zin x1_ ∧ (x1_ ≠ (0 : Int) → ((0 : Int) = 0 ∨ (0 : Int) = 1) ∧ Q (.inl (some (zi 0))) 0 J1 K1) ∧ (x1_ = (0 : Int) → zCall L xs D 243 [zr 142, zi x3, zi x2] J1 K1 fun r2 e2 J2 K2 => zaI r2 e2 (fun x2_ => zin x2_ ∧ (x2_ = (0 : Int) → zGo L xs (D + 1) 242 12 [some (zr 142), some (zi x1), some (zi x2), some (zi (x3 + 1))] [] J2 K2 Q) ∧ (x2_ ≠ (0 : Int) → ((0 : Int) = 0 ∨ (0 : Int) = 1) ∧ Q (.inl (some (zi 0))) 0 J2 K2)) (fun E => Q (.inr E) e2 J2 K2))) (fun E => Q (.inr E) e1 J1 K1)))) :
  zGo L xs (D + 1) 242 12 [some (zr 142), some (zi x1), some (zi x2), some (zi x3)] [] J K Q :=
  zrun_ok (T := mct242) (o := 12) (ret := (some FieldType.boolean)) (hs := [(2, [3]), (12, [])]) hL rfl 26 _ _ _ _ _ _ _ h
/-! PartingTrainsModel.isBehind -/
set_option maxRecDepth 30000 in
theorem z243 {L : Nat} {xs : Nat → Int32} (hL : L ≤ 3072) {D : Nat} {x1 x2 : Int} {J : zJ} {K : zK} {Q : zR → Nat → zJ → zK → Prop}
  (h : 0 ≤ x2 ∧ x2 < 14 ∧ 0 ≤ x2 ∧ x2 < 14 ∧ 0 ≤ (3 : Int) ∧ (3 : Int) < 4 ∧ 0 ≤ x2 ∧ x2 < 14 ∧ 0 ≤ x2 ∧ x2 < 14 ∧ 0 ≤ (2 : Int) ∧ (2 : Int) < 4 ∧ 0 ≤ x1 ∧ x1 < 14 ∧ 0 ≤ x1 ∧ x1 < 14 ∧ 0 ≤ (0 : Int) ∧ (0 : Int) < 4 ∧ zCall L xs D 304 [zr 142, zi (J 240 x2 2), zi (J 240 x1 0)] J K fun r1 e1 J1 K1 => zaI r1 e1 (fun x1_ => 0 ≤ x1 ∧ x1 < 14 ∧ 0 ≤ x1 ∧ x1 < 14 ∧ 0 ≤ (1 : Int) ∧ (1 : Int) < 4 ∧ zin ((J 240 x2 3) + x1_) ∧ zin (J1 240 x1 1) ∧ ((J1 240 x1 1) < ((J 240 x2 3) + x1_) → ((0 : Int) = 0 ∨ (0 : Int) = 1) ∧ Q (.inl (some (zi 0))) 0 J1 K1) ∧ (((J 240 x2 3) + x1_) ≤ (J1 240 x1 1) → ((1 : Int) = 0 ∨ (1 : Int) = 1) ∧ Q (.inl (some (zi 1))) 0 J1 K1)) (fun E => Q (.inr E) e1 J1 K1)) :
  zCall L xs (D + 1) 243 [zr 142, zi x1, zi x2] J K Q :=
  zrun_ok (T := mct243) (o := 12) (ret := (some FieldType.boolean)) (hs := []) hL rfl 31 _ _ _ _ _ _ _ h
/-! PartingTrainsModel.isDigit -/
set_option maxRecDepth 30000 in
theorem z244 {L : Nat} {xs : Nat → Int32} (hL : L ≤ 3072) {D : Nat} {x0 : Int} {J : zJ} {K : zK} {Q : zR → Nat → zJ → zK → Prop}
  (h : zin x0 ∧ zin 48 ∧ (x0 < (48 : Int) → ((0 : Int) = 0 ∨ (0 : Int) = 1) ∧ Q (.inl (some (zi 0))) 0 J K) ∧ ((48 : Int) ≤ x0 → zin x0 ∧ zin 57 ∧ ((57 : Int) < x0 → ((0 : Int) = 0 ∨ (0 : Int) = 1) ∧ Q (.inl (some (zi 0))) 0 J K) ∧ (x0 ≤ (57 : Int) → ((1 : Int) = 0 ∨ (1 : Int) = 1) ∧ Q (.inl (some (zi 1))) 0 J K))) :
  zCall L xs (D + 1) 244 [zi x0] J K Q :=
  zrun_ok (T := mct244) (o := 12) (ret := (some FieldType.boolean)) (hs := []) hL rfl 9 _ _ _ _ _ _ _ h
/-! PartingTrainsModel.isFork -/
set_option maxRecDepth 30000 in
theorem z245 {L : Nat} {xs : Nat → Int32} (hL : L ≤ 3072) {D : Nat} {x1 : Int} {J : zJ} {K : zK} {Q : zR → Nat → zJ → zK → Prop}
  (h : 0 ≤ x1 ∧ x1 < 24 ∧ 0 ≤ x1 ∧ x1 < 24 ∧ 0 ≤ (3 : Int) ∧ (3 : Int) < 5 ∧ zin (J 145 x1 3) ∧ ((J 145 x1 3) ≤ (0 : Int) → ((0 : Int) = 0 ∨ (0 : Int) = 1) ∧ Q (.inl (some (zi 0))) 0 J K) ∧ ((0 : Int) < (J 145 x1 3) → ((1 : Int) = 0 ∨ (1 : Int) = 1) ∧ Q (.inl (some (zi 1))) 0 J K)) :
  zCall L xs (D + 1) 245 [zr 142, zi x1] J K Q :=
  zrun_ok (T := mct245) (o := 12) (ret := (some FieldType.boolean)) (hs := []) hL rfl 10 _ _ _ _ _ _ _ h
/-! PartingTrainsModel.isJob -/
set_option maxRecDepth 30000 in
theorem z246 {L : Nat} {xs : Nat → Int32} (hL : L ≤ 3072) {D : Nat} {x1 : Int} {J : zJ} {K : zK} {Q : zR → Nat → zJ → zK → Prop}
  (h : zCall L xs D 240 [zi x1, zi 0, zi ((J 142 0 16) - 1)] J K fun r1 e1 J1 K1 => zaI r1 e1 (fun x1_ => (x1_ = 0 ∨ x1_ = 1) ∧ Q (.inl (some (zi x1_))) 0 J1 K1) (fun E => Q (.inr E) e1 J1 K1)) :
  zCall L xs (D + 1) 246 [zr 142, zi x1] J K Q :=
  zrun_ok (T := mct246) (o := 12) (ret := (some FieldType.boolean)) (hs := []) hL rfl 8 _ _ _ _ _ _ _ h
/-! PartingTrainsModel.isOn -/
set_option maxRecDepth 30000 in
theorem z247 {L : Nat} {xs : Nat → Int32} (hL : L ≤ 3072) {D : Nat} {x1 x2 : Int} {J : zJ} {K : zK} {Q : zR → Nat → zJ → zK → Prop}
  (h : zGo L xs (D + 1) 247 2 [some (zr 142), some (zi x1), none, some (zi x2)] [] J K Q) :
  zCall L xs (D + 1) 247 [zr 142, zi x1, zi x2] J K Q :=
  zrun_ok (T := mct247) (o := 12) (ret := (some FieldType.boolean)) (hs := [(2, [2])]) hL rfl 2 _ _ _ _ _ _ _ h
set_option maxRecDepth 30000 in
theorem z247_2 {L : Nat} {xs : Nat → Int32} (hL : L ≤ 3072) {D : Nat} {x1 x3 : Int} {J : zJ} {K : zK} {Q : zR → Nat → zJ → zK → Prop}
  (h : zin x3 ∧ zin x1 ∧ (x3 ≤ x1 → zin x3 ∧ zin x1 ∧ (x3 ≠ x1 → ((0 : Int) = 0 ∨ (0 : Int) = 1) ∧ Q (.inl (some (zi 0))) 0 J K) ∧ (x3 = x1 → ((1 : Int) = 0 ∨ (1 : Int) = 1) ∧ Q (.inl (some (zi 1))) 0 J K)) ∧ (x1 < x3 → 0 ≤ x3 ∧ x3 < 24 ∧ 0 ≤ x3 ∧ x3 < 24 ∧ 0 ≤ (0 : Int) ∧ (0 : Int) < 5 ∧ zGo L xs (D + 1) 247 2 [some (zr 142), some (zi x1), none, some (zi (J 145 x3 0))] [] J K Q)) :
  zGo L xs (D + 1) 247 2 [some (zr 142), some (zi x1), none, some (zi x3)] [] J K Q :=
  zrun_ok (T := mct247) (o := 12) (ret := (some FieldType.boolean)) (hs := [(2, [2])]) hL rfl 11 _ _ _ _ _ _ _ h
/-! PartingTrainsModel.isPlace -/
set_option maxRecDepth 30000 in
theorem z248 {L : Nat} {xs : Nat → Int32} (hL : L ≤ 3072) {D : Nat} {x1 : Int} {J : zJ} {K : zK} {Q : zR → Nat → zJ → zK → Prop}
  (h : 0 ≤ (0 : Int) ∧ (0 : Int) < 8 ∧ zCall L xs D 240 [zi x1, zi 0, zi ((J 144 0 0) - 1)] J K fun r1 e1 J1 K1 => zaI r1 e1 (fun x1_ => (x1_ = 0 ∨ x1_ = 1) ∧ Q (.inl (some (zi x1_))) 0 J1 K1) (fun E => Q (.inr E) e1 J1 K1)) :
  zCall L xs (D + 1) 248 [zr 142, zi x1] J K Q :=
  zrun_ok (T := mct248) (o := 12) (ret := (some FieldType.boolean)) (hs := []) hL rfl 10 _ _ _ _ _ _ _ h
/-! PartingTrainsModel.isPortion -/
set_option maxRecDepth 30000 in
theorem z249 {L : Nat} {xs : Nat → Int32} (hL : L ≤ 3072) {D : Nat} {x1 : Int} {J : zJ} {K : zK} {Q : zR → Nat → zJ → zK → Prop}
  (h : 0 ≤ (1 : Int) ∧ (1 : Int) < 8 ∧ zCall L xs D 240 [zi x1, zi 0, zi ((J 144 0 1) - 1)] J K fun r1 e1 J1 K1 => zaI r1 e1 (fun x1_ => (x1_ = 0 ∨ x1_ = 1) ∧ Q (.inl (some (zi x1_))) 0 J1 K1) (fun E => Q (.inr E) e1 J1 K1)) :
  zCall L xs (D + 1) 249 [zr 142, zi x1] J K Q :=
  zrun_ok (T := mct249) (o := 12) (ret := (some FieldType.boolean)) (hs := []) hL rfl 10 _ _ _ _ _ _ _ h
/-! PartingTrainsModel.isRowAhead -/
set_option maxRecDepth 30000 in
theorem z250 {L : Nat} {xs : Nat → Int32} (hL : L ≤ 3072) {D : Nat} {x0 x1 : Int} {J : zJ} {K : zK} {Q : zR → Nat → zJ → zK → Prop}
  (h : zin (zand x0 (zand (zxor x0 x1) (-(zxor x0 x1)))) ∧ ((zand x0 (zand (zxor x0 x1) (-(zxor x0 x1)))) = (0 : Int) → ((0 : Int) = 0 ∨ (0 : Int) = 1) ∧ Q (.inl (some (zi 0))) 0 J K) ∧ ((zand x0 (zand (zxor x0 x1) (-(zxor x0 x1)))) ≠ (0 : Int) → ((1 : Int) = 0 ∨ (1 : Int) = 1) ∧ Q (.inl (some (zi 1))) 0 J K)) :
  zCall L xs (D + 1) 250 [zi x0, zi x1] J K Q :=
  zrun_ok (T := mct250) (o := 12) (ret := (some FieldType.boolean)) (hs := []) hL rfl 16 _ _ _ _ _ _ _ h
/-! PartingTrainsModel.isShutIn -/
set_option maxRecDepth 30000 in
theorem z251 {L : Nat} {xs : Nat → Int32} (hL : L ≤ 3072) {D : Nat} {x2 x3 x4 : Int} {J : zJ} {K : zK} {Q : zR → Nat → zJ → zK → Prop}
  (h : zGo L xs (D + 1) 251 3 [some (zr 142), some (zr 533), none, some (zi x3), some (zi x4), some (zi x2), none, none] [] J K Q) :
  zCall L xs (D + 1) 251 [zr 142, zr 533, zi x2, zi x3, zi x4] J K Q :=
  zrun_ok (T := mct251) (o := 12) (ret := (some FieldType.boolean)) (hs := [(3, [2, 6, 7]), (32, [2, 5, 6]), (69, [2])]) hL rfl 2 _ _ _ _ _ _ _ h
set_option maxRecDepth 30000 in
theorem z251_3 {L : Nat} {xs : Nat → Int32} (hL : L ≤ 3072) {D : Nat} {x3 x4 x5 : Int} {J : zJ} {K : zK} {Q : zR → Nat → zJ → zK → Prop}
  (h : zin x5 ∧ zin x3 ∧ (x3 ≤ x5 → ((0 : Int) = 0 ∨ (0 : Int) = 1) ∧ Q (.inl (some (zi 0))) 0 J K) ∧ (x5 < x3 → 0 ≤ x5 ∧ x5 < 8 ∧ zCall L xs D 272 [zr 142, zi (J 533 0 x5), zi x4] J K fun r1 e1 J1 K1 => zaI r1 e1 (fun x1_ => zin x1_ ∧ zin x4 ∧ (x1_ ≠ x4 → zGo L xs (D + 1) 251 69 [some (zr 142), some (zr 533), none, some (zi x3), some (zi x4), some (zi x5), some (zi x1_), some (zi (x5 + 2))] [] J1 K1 Q) ∧ (x1_ = x4 → zGo L xs (D + 1) 251 32 [some (zr 142), some (zr 533), none, some (zi x3), some (zi x4), none, none, some (zi x5)] [] J1 K1 Q)) (fun E => Q (.inr E) e1 J1 K1))) :
  zGo L xs (D + 1) 251 3 [some (zr 142), some (zr 533), none, some (zi x3), some (zi x4), some (zi x5), none, none] [] J K Q :=
  zrun_ok (T := mct251) (o := 12) (ret := (some FieldType.boolean)) (hs := [(3, [2, 6, 7]), (32, [2, 5, 6]), (69, [2])]) hL rfl 17 _ _ _ _ _ _ _ h
set_option maxRecDepth 30000 in
theorem z251_32 {L : Nat} {xs : Nat → Int32} (hL : L ≤ 3072) {D : Nat} {x3 x4 x7 : Int} {J : zJ} {K : zK} {Q : zR → Nat → zJ → zK → Prop}
  (h : zin x7 ∧ zin x3 ∧ (x3 ≤ x7 → ((0 : Int) = 0 ∨ (0 : Int) = 1) ∧ Q (.inl (some (zi 0))) 0 J K) ∧ (x7 < x3 → 0 ≤ x7 ∧ x7 < 8 ∧ zCall L xs D 272 [zr 142, zi (J 533 0 x7), zi x4] J K fun r1 e1 J1 K1 => zaI r1 e1 (fun x1_ => zin x1_ ∧ zin x4 ∧ (x1_ = x4 → zGo L xs (D + 1) 251 32 [some (zr 142), some (zr 533), none, some (zi x3), some (zi x4), none, none, some (zi (x7 + 1))] [] J1 K1 Q) ∧ (x1_ ≠ x4 → ((1 : Int) = 0 ∨ (1 : Int) = 1) ∧ Q (.inl (some (zi 1))) 0 J1 K1)) (fun E => Q (.inr E) e1 J1 K1))) :
  zGo L xs (D + 1) 251 32 [some (zr 142), some (zr 533), none, some (zi x3), some (zi x4), none, none, some (zi x7)] [] J K Q :=
  zrun_ok (T := mct251) (o := 12) (ret := (some FieldType.boolean)) (hs := [(3, [2, 6, 7]), (32, [2, 5, 6]), (69, [2])]) hL rfl 13 _ _ _ _ _ _ _ h
set_option maxRecDepth 30000 in
theorem z251_69 {L : Nat} {xs : Nat → Int32} (hL : L ≤ 3072) {D : Nat} {x3 x4 x5 x6 x7 : Int} {J : zJ} {K : zK} {Q : zR → Nat → zJ → zK → Prop}
  (h : zin x7 ∧ zin x3 ∧ (x3 ≤ x7 → zGo L xs (D + 1) 251 3 [some (zr 142), some (zr 533), none, some (zi x3), some (zi x4), some (zi (x5 + 1)), none, none] [] J K Q) ∧ (x7 < x3 → 0 ≤ x7 ∧ x7 < 8 ∧ zCall L xs D 272 [zr 142, zi (J 533 0 x7), zi x4] J K fun r1 e1 J1 K1 => zaI r1 e1 (fun x1_ => zin x1_ ∧ zin x6 ∧ (x1_ ≠ x6 → zGo L xs (D + 1) 251 69 [some (zr 142), some (zr 533), none, some (zi x3), some (zi x4), some (zi x5), some (zi x6), some (zi (x7 + 1))] [] J1 K1 Q) ∧ (x1_ = x6 → 0 ≤ (x7 - 1) ∧ (x7 - 1) < 8 ∧ zCall L xs D 272 [zr 142, zi (J1 533 0 (x7 - 1)), zi x4] J1 K1 fun r2 e2 J2 K2 => zaI r2 e2 (fun x2_ => zin x2_ ∧ zin x6 ∧ (x2_ = x6 → zGo L xs (D + 1) 251 69 [some (zr 142), some (zr 533), none, some (zi x3), some (zi x4), some (zi x5), some (zi x6), some (zi (x7 + 1))] [] J2 K2 Q) ∧ (x2_ ≠ x6 → ((1 : Int) = 0 ∨ (1 : Int) = 1) ∧ Q (.inl (some (zi 1))) 0 J2 K2)) (fun E => Q (.inr E) e2 J2 K2))) (fun E => Q (.inr E) e1 J1 K1))) :
  zGo L xs (D + 1) 251 69 [some (zr 142), some (zr 533), none, some (zi x3), some (zi x4), some (zi x5), some (zi x6), some (zi x7)] [] J K Q :=
  zrun_ok (T := mct251) (o := 12) (ret := (some FieldType.boolean)) (hs := [(3, [2, 6, 7]), (32, [2, 5, 6]), (69, [2])]) hL rfl 23 _ _ _ _ _ _ _ h
/-! PartingTrainsModel.isShutIn -/
set_option maxRecDepth 30000 in
theorem z251a {L : Nat} {xs : Nat → Int32} (hL : L ≤ 3072) {D : Nat} {x2 x3 x4 x1 : Int} {J : zJ} {K : zK} {Q : zR → Nat → zJ → zK → Prop}
  (h : zGo L xs (D + 1) 251 3 [some (zr 142), some (zw 229 x1), none, some (zi x3), some (zi x4), some (zi x2), none, none] [] J K Q) :
  zCall L xs (D + 1) 251 [zr 142, zw 229 x1, zi x2, zi x3, zi x4] J K Q :=
  zrun_ok (T := mct251) (o := 12) (ret := (some FieldType.boolean)) (hs := [(3, [2, 6, 7]), (32, [2, 5, 6]), (69, [2])]) hL rfl 2 _ _ _ _ _ _ _ h
set_option maxRecDepth 30000 in
theorem z251a_3 {L : Nat} {xs : Nat → Int32} (hL : L ≤ 3072) {D : Nat} {x3 x4 x5 x1 : Int} {J : zJ} {K : zK} {Q : zR → Nat → zJ → zK → Prop}
  (h : zin x5 ∧ zin x3 ∧ (x3 ≤ x5 → ((0 : Int) = 0 ∨ (0 : Int) = 1) ∧ Q (.inl (some (zi 0))) 0 J K) ∧ (x5 < x3 → 0 ≤ x1 ∧ x1 < 4 ∧ 0 ≤ x5 ∧ x5 < 8 ∧ zCall L xs D 272 [zr 142, zi (J 229 x1 x5), zi x4] J K fun r1 e1 J1 K1 => zaI r1 e1 (fun x1_ => zin x1_ ∧ zin x4 ∧ (x1_ ≠ x4 → zGo L xs (D + 1) 251 69 [some (zr 142), some (zw 229 x1), none, some (zi x3), some (zi x4), some (zi x5), some (zi x1_), some (zi (x5 + 2))] [] J1 K1 Q) ∧ (x1_ = x4 → zGo L xs (D + 1) 251 32 [some (zr 142), some (zw 229 x1), none, some (zi x3), some (zi x4), none, none, some (zi x5)] [] J1 K1 Q)) (fun E => Q (.inr E) e1 J1 K1))) :
  zGo L xs (D + 1) 251 3 [some (zr 142), some (zw 229 x1), none, some (zi x3), some (zi x4), some (zi x5), none, none] [] J K Q :=
  zrun_ok (T := mct251) (o := 12) (ret := (some FieldType.boolean)) (hs := [(3, [2, 6, 7]), (32, [2, 5, 6]), (69, [2])]) hL rfl 17 _ _ _ _ _ _ _ h
set_option maxRecDepth 30000 in
theorem z251a_32 {L : Nat} {xs : Nat → Int32} (hL : L ≤ 3072) {D : Nat} {x3 x4 x7 x1 : Int} {J : zJ} {K : zK} {Q : zR → Nat → zJ → zK → Prop}
  (h : zin x7 ∧ zin x3 ∧ (x3 ≤ x7 → ((0 : Int) = 0 ∨ (0 : Int) = 1) ∧ Q (.inl (some (zi 0))) 0 J K) ∧ (x7 < x3 → 0 ≤ x1 ∧ x1 < 4 ∧ 0 ≤ x7 ∧ x7 < 8 ∧ zCall L xs D 272 [zr 142, zi (J 229 x1 x7), zi x4] J K fun r1 e1 J1 K1 => zaI r1 e1 (fun x1_ => zin x1_ ∧ zin x4 ∧ (x1_ = x4 → zGo L xs (D + 1) 251 32 [some (zr 142), some (zw 229 x1), none, some (zi x3), some (zi x4), none, none, some (zi (x7 + 1))] [] J1 K1 Q) ∧ (x1_ ≠ x4 → ((1 : Int) = 0 ∨ (1 : Int) = 1) ∧ Q (.inl (some (zi 1))) 0 J1 K1)) (fun E => Q (.inr E) e1 J1 K1))) :
  zGo L xs (D + 1) 251 32 [some (zr 142), some (zw 229 x1), none, some (zi x3), some (zi x4), none, none, some (zi x7)] [] J K Q :=
  zrun_ok (T := mct251) (o := 12) (ret := (some FieldType.boolean)) (hs := [(3, [2, 6, 7]), (32, [2, 5, 6]), (69, [2])]) hL rfl 13 _ _ _ _ _ _ _ h
set_option maxRecDepth 30000 in
theorem z251a_69 {L : Nat} {xs : Nat → Int32} (hL : L ≤ 3072) {D : Nat} {x3 x4 x5 x6 x7 x1 : Int} {J : zJ} {K : zK} {Q : zR → Nat → zJ → zK → Prop}
  (h : zin x7 ∧ zin x3 ∧ (x3 ≤ x7 → zGo L xs (D + 1) 251 3 [some (zr 142), some (zw 229 x1), none, some (zi x3), some (zi x4), some (zi (x5 + 1)), none, none] [] J K Q) ∧ (x7 < x3 → 0 ≤ x1 ∧ x1 < 4 ∧ 0 ≤ x7 ∧ x7 < 8 ∧ zCall L xs D 272 [zr 142, zi (J 229 x1 x7), zi x4] J K fun r1 e1 J1 K1 => zaI r1 e1 (fun x1_ => zin x1_ ∧ zin x6 ∧ (x1_ ≠ x6 → zGo L xs (D + 1) 251 69 [some (zr 142), some (zw 229 x1), none, some (zi x3), some (zi x4), some (zi x5), some (zi x6), some (zi (x7 + 1))] [] J1 K1 Q) ∧ (x1_ = x6 → 0 ≤ x1 ∧ x1 < 4 ∧ 0 ≤ (x7 - 1) ∧ (x7 - 1) < 8 ∧ zCall L xs D 272 [zr 142, zi (J1 229 x1 (x7 - 1)), zi x4] J1 K1 fun r2 e2 J2 K2 => zaI r2 e2 (fun x2_ => zin x2_ ∧ zin x6 ∧ (x2_ = x6 → zGo L xs (D + 1) 251 69 [some (zr 142), some (zw 229 x1), none, some (zi x3), some (zi x4), some (zi x5), some (zi x6), some (zi (x7 + 1))] [] J2 K2 Q) ∧ (x2_ ≠ x6 → ((1 : Int) = 0 ∨ (1 : Int) = 1) ∧ Q (.inl (some (zi 1))) 0 J2 K2)) (fun E => Q (.inr E) e2 J2 K2))) (fun E => Q (.inr E) e1 J1 K1))) :
  zGo L xs (D + 1) 251 69 [some (zr 142), some (zw 229 x1), none, some (zi x3), some (zi x4), some (zi x5), some (zi x6), some (zi x7)] [] J K Q :=
  zrun_ok (T := mct251) (o := 12) (ret := (some FieldType.boolean)) (hs := [(3, [2, 6, 7]), (32, [2, 5, 6]), (69, [2])]) hL rfl 23 _ _ _ _ _ _ _ h
/-! PartingTrainsModel.isTrain -/
set_option maxRecDepth 30000 in
theorem z252 {L : Nat} {xs : Nat → Int32} (hL : L ≤ 3072) {D : Nat} {x1 : Int} {J : zJ} {K : zK} {Q : zR → Nat → zJ → zK → Prop}
  (h : zCall L xs D 240 [zi x1, zi 0, zi ((J 142 0 15) - 1)] J K fun r1 e1 J1 K1 => zaI r1 e1 (fun x1_ => (x1_ = 0 ∨ x1_ = 1) ∧ Q (.inl (some (zi x1_))) 0 J1 K1) (fun E => Q (.inr E) e1 J1 K1)) :
  zCall L xs (D + 1) 252 [zr 142, zi x1] J K Q :=
  zrun_ok (T := mct252) (o := 12) (ret := (some FieldType.boolean)) (hs := []) hL rfl 8 _ _ _ _ _ _ _ h
/-! PartingTrainsModel.isWord -/
set_option maxRecDepth 30000 in
theorem z253 {L : Nat} {xs : Nat → Int32} (hL : L ≤ 3072) {D : Nat} {x1 x2 x3 x4 x5 x6 x7 : Int} {J : zJ} {K : zK} {Q : zR → Nat → zJ → zK → Prop}
  (h : zin (J 142 0 5) ∧ ((J 142 0 5) ≠ (0 : Int) → ((0 : Int) = 0 ∨ (0 : Int) = 1) ∧ Q (.inl (some (zi 0))) 0 J K) ∧ ((J 142 0 5) = (0 : Int) → zCall L xs D 307 [zr 142] J K fun r1 e1 J1 K1 => zaL r1 e1 (fun x1_ => zCall L xs D 306 [zi x1, zi x2, zi x3, zi x4, zi x5, zi x6, zi x7] J1 K1 fun r2 e2 J2 K2 => zaL r2 e2 (fun x2_ => zin (zcmp x1_ x2_) ∧ ((zcmp x1_ x2_) ≠ (0 : Int) → ((0 : Int) = 0 ∨ (0 : Int) = 1) ∧ Q (.inl (some (zi 0))) 0 J2 K2) ∧ ((zcmp x1_ x2_) = (0 : Int) → ((1 : Int) = 0 ∨ (1 : Int) = 1) ∧ Q (.inl (some (zi 1))) 0 J2 K2)) (fun E => Q (.inr E) e2 J2 K2)) (fun E => Q (.inr E) e1 J1 K1))) :
  zCall L xs (D + 1) 253 [zr 142, zi x1, zi x2, zi x3, zi x4, zi x5, zi x6, zi x7] J K Q :=
  zrun_ok (T := mct253) (o := 12) (ret := (some FieldType.boolean)) (hs := []) hL rfl 18 _ _ _ _ _ _ _ h
/-! PartingTrainsModel.job -/
set_option maxRecDepth 30000 in
theorem z254 {L : Nat} {xs : Nat → Int32} (hL : L ≤ 3072) {D : Nat} {x1 x2 x3 x4 : Int} {J : zJ} {K : zK} {Q : zR → Nat → zJ → zK → Prop}
  (h : zCall L xs D 248 [zr 142, zi x1] (zup J 142 0 0 0) K fun r1 e1 J1 K1 => zaI r1 e1 (fun x1_ => zin x1_ ∧ (x1_ = (0 : Int) → zGo L xs (D + 1) 254 22 [some (zr 142), some (zi x1), some (zi x2), some (zi x3), some (zi x4)] [zr 142] J1 K1 Q) ∧ (x1_ ≠ (0 : Int) → zCall L xs D 248 [zr 142, zi x3] J1 K1 fun r2 e2 J2 K2 => zaI r2 e2 (fun x2_ => zin x2_ ∧ (x2_ ≠ (0 : Int) → zGo L xs (D + 1) 254 27 [some (zr 142), some (zi x1), some (zi x2), some (zi x3), some (zi x4)] [zi 0, zr 142] J2 K2 Q) ∧ (x2_ = (0 : Int) → zGo L xs (D + 1) 254 22 [some (zr 142), some (zi x1), some (zi x2), some (zi x3), some (zi x4)] [zr 142] J2 K2 Q)) (fun E => Q (.inr E) e2 J2 K2))) (fun E => Q (.inr E) e1 J1 K1)) :
  zCall L xs (D + 1) 254 [zr 142, zi x1, zi x2, zi x3, zi x4] J K Q :=
  zrun_ok (T := mct254) (o := 12) (ret := (some FieldType.int)) (hs := [(22, []), (27, []), (77, []), (82, []), (89, [0, 1, 2, 3, 4])]) hL rfl 13 _ _ _ _ _ _ _ h
set_option maxRecDepth 30000 in
theorem z254_22 {L : Nat} {xs : Nat → Int32} (hL : L ≤ 3072) {D : Nat} {x1 x2 x3 x4 : Int} {J : zJ} {K : zK} {Q : zR → Nat → zJ → zK → Prop}
  (h : zGo L xs (D + 1) 254 27 [some (zr 142), some (zi x1), some (zi x2), some (zi x3), some (zi x4)] [zi 1, zr 142] J K Q) :
  zGo L xs (D + 1) 254 22 [some (zr 142), some (zi x1), some (zi x2), some (zi x3), some (zi x4)] [zr 142] J K Q :=
  zrun_ok (T := mct254) (o := 12) (ret := (some FieldType.int)) (hs := [(22, []), (27, []), (77, []), (82, []), (89, [0, 1, 2, 3, 4])]) hL rfl 2 _ _ _ _ _ _ _ h
set_option maxRecDepth 30000 in
theorem z254_27 {L : Nat} {xs : Nat → Int32} (hL : L ≤ 3072) {D : Nat} {x1 x2 x3 x4 s1 : Int} {J : zJ} {K : zK} {Q : zR → Nat → zJ → zK → Prop}
  (h : zCall L xs D 195 [zr 142, zi s1, zi 1] J K fun r1 e1 J1 K1 => zaI r1 e1 (fun x1_ => zin x1_ ∧ (x1_ ≠ (0 : Int) → zGo L xs (D + 1) 254 89 [none, none, none, none, none] [] J1 K1 Q) ∧ (x1_ = (0 : Int) → zCall L xs D 240 [zi x2, zi 0, zi 2879] J1 K1 fun r2 e2 J2 K2 => zaI r2 e2 (fun x2_ => zin x2_ ∧ (x2_ = (0 : Int) → zGo L xs (D + 1) 254 77 [some (zr 142), some (zi x1), some (zi x2), some (zi x3), some (zi x4)] [zr 142] J2 K2 Q) ∧ (x2_ ≠ (0 : Int) → zCall L xs D 240 [zi x4, zi 0, zi 2879] J2 K2 fun r3 e3 J3 K3 => zaI r3 e3 (fun x3_ => zin x3_ ∧ (x3_ = (0 : Int) → zGo L xs (D + 1) 254 77 [some (zr 142), some (zi x1), some (zi x2), some (zi x3), some (zi x4)] [zr 142] J3 K3 Q) ∧ (x3_ ≠ (0 : Int) → zin x4 ∧ zin x2 ∧ (x4 ≤ x2 → zGo L xs (D + 1) 254 77 [some (zr 142), some (zi x1), some (zi x2), some (zi x3), some (zi x4)] [zr 142] J3 K3 Q) ∧ (x2 < x4 → zCall L xs D 304 [zr 142, zi x1, zi x3] J3 K3 fun r4 e4 J4 K4 => zaI r4 e4 (fun x4_ => zin (x4 - x2) ∧ zin x4_ ∧ (x4_ ≤ (x4 - x2) → zGo L xs (D + 1) 254 82 [some (zr 142), some (zi x1), some (zi x2), some (zi x3), some (zi x4)] [zi 0, zr 142] J4 K4 Q) ∧ ((x4 - x2) < x4_ → zGo L xs (D + 1) 254 77 [some (zr 142), some (zi x1), some (zi x2), some (zi x3), some (zi x4)] [zr 142] J4 K4 Q)) (fun E => Q (.inr E) e4 J4 K4)))) (fun E => Q (.inr E) e3 J3 K3))) (fun E => Q (.inr E) e2 J2 K2))) (fun E => Q (.inr E) e1 J1 K1)) :
  zGo L xs (D + 1) 254 27 [some (zr 142), some (zi x1), some (zi x2), some (zi x3), some (zi x4)] [zi s1, zr 142] J K Q :=
  zrun_ok (T := mct254) (o := 12) (ret := (some FieldType.int)) (hs := [(22, []), (27, []), (77, []), (82, []), (89, [0, 1, 2, 3, 4])]) hL rfl 26 _ _ _ _ _ _ _ h
set_option maxRecDepth 30000 in
theorem z254_77 {L : Nat} {xs : Nat → Int32} (hL : L ≤ 3072) {D : Nat} {x1 x2 x3 x4 : Int} {J : zJ} {K : zK} {Q : zR → Nat → zJ → zK → Prop}
  (h : zGo L xs (D + 1) 254 82 [some (zr 142), some (zi x1), some (zi x2), some (zi x3), some (zi x4)] [zi 1, zr 142] J K Q) :
  zGo L xs (D + 1) 254 77 [some (zr 142), some (zi x1), some (zi x2), some (zi x3), some (zi x4)] [zr 142] J K Q :=
  zrun_ok (T := mct254) (o := 12) (ret := (some FieldType.int)) (hs := [(22, []), (27, []), (77, []), (82, []), (89, [0, 1, 2, 3, 4])]) hL rfl 2 _ _ _ _ _ _ _ h
set_option maxRecDepth 30000 in
theorem z254_82 {L : Nat} {xs : Nat → Int32} (hL : L ≤ 3072) {D : Nat} {x1 x2 x3 x4 s1 : Int} {J : zJ} {K : zK} {Q : zR → Nat → zJ → zK → Prop}
  (h : zCall L xs D 195 [zr 142, zi s1, zi 2] J K fun r1 e1 J1 K1 => zaI r1 e1 (fun x1_ => zin x1_ ∧ (x1_ = (0 : Int) → zin (J1 142 0 16) ∧ zin 14 ∧ ((J1 142 0 16) ≠ (14 : Int) → 0 ≤ (J1 142 0 16) ∧ (J1 142 0 16) < 14 ∧ 0 ≤ (J1 142 0 16) ∧ (J1 142 0 16) < 14 ∧ 0 ≤ (0 : Int) ∧ (0 : Int) < 4 ∧ 0 ≤ (J1 142 0 16) ∧ (J1 142 0 16) < 14 ∧ 0 ≤ (J1 142 0 16) ∧ (J1 142 0 16) < 14 ∧ 0 ≤ (1 : Int) ∧ (1 : Int) < 4 ∧ 0 ≤ (J1 142 0 16) ∧ (J1 142 0 16) < 14 ∧ 0 ≤ (J1 142 0 16) ∧ (J1 142 0 16) < 14 ∧ 0 ≤ (2 : Int) ∧ (2 : Int) < 4 ∧ 0 ≤ (J1 142 0 16) ∧ (J1 142 0 16) < 14 ∧ 0 ≤ (J1 142 0 16) ∧ (J1 142 0 16) < 14 ∧ 0 ≤ (3 : Int) ∧ (3 : Int) < 4 ∧ Q (.inl (some (zi (((J1 142 0 16) + 1) - 1)))) 0 (zup (zup (zup (zup (zup J1 240 (J1 142 0 16) 0 x1) 240 (J1 142 0 16) 1 x2) 240 (J1 142 0 16) 2 x3) 240 (J1 142 0 16) 3 x4) 142 0 16 ((J1 142 0 16) + 1)) K1) ∧ ((J1 142 0 16) = (14 : Int) → Q (.inl (some (zi (-1)))) 0 J1 K1)) ∧ (x1_ ≠ (0 : Int) → zGo L xs (D + 1) 254 89 [none, none, none, none, none] [] J1 K1 Q)) (fun E => Q (.inr E) e1 J1 K1)) :
  zGo L xs (D + 1) 254 82 [some (zr 142), some (zi x1), some (zi x2), some (zi x3), some (zi x4)] [zi s1, zr 142] J K Q :=
  zrun_ok (T := mct254) (o := 12) (ret := (some FieldType.int)) (hs := [(22, []), (27, []), (77, []), (82, []), (89, [0, 1, 2, 3, 4])]) hL rfl 50 _ _ _ _ _ _ _ h
set_option maxRecDepth 30000 in
theorem z254_89 {L : Nat} {xs : Nat → Int32} (hL : L ≤ 3072) {D : Nat} {J : zJ} {K : zK} {Q : zR → Nat → zJ → zK → Prop}
  (h : Q (.inl (some (zi 0))) 0 J K) :
  zGo L xs (D + 1) 254 89 [none, none, none, none, none] [] J K Q :=
  zrun_ok (T := mct254) (o := 12) (ret := (some FieldType.int)) (hs := [(22, []), (27, []), (77, []), (82, []), (89, [0, 1, 2, 3, 4])]) hL rfl 2 _ _ _ _ _ _ _ h
/-! PartingTrainsModel.judge -/
set_option maxRecDepth 30000 in
theorem z255 {L : Nat} {xs : Nat → Int32} (hL : L ≤ 3072) {D : Nat} {J : zJ} {K : zK} {Q : zR → Nat → zJ → zK → Prop}
  (h : zGo L xs (D + 1) 255 2 [some (zr 142), some (zi 0), none] [] J K Q) :
  zCall L xs (D + 1) 255 [zr 142] J K Q :=
  zrun_ok (T := mct255) (o := 12) (ret := none) (hs := [(2, [2]), (23, [2]), (51, [2]), (105, [])]) hL rfl 2 _ _ _ _ _ _ _ h
set_option maxRecDepth 30000 in
theorem z255_2 {L : Nat} {xs : Nat → Int32} (hL : L ≤ 3072) {D : Nat} {x1 : Int} {J : zJ} {K : zK} {Q : zR → Nat → zJ → zK → Prop}
  (h : zin x1 ∧ zin 8 ∧ ((8 : Int) ≤ x1 → zGo L xs (D + 1) 255 23 [some (zr 142), some (zi 0), none] [] J K Q) ∧ (x1 < (8 : Int) → 0 ≤ x1 ∧ x1 < 8 ∧ zGo L xs (D + 1) 255 2 [some (zr 142), some (zi (x1 + 1)), none] [] (zup J 258 0 x1 (zbol 0)) K Q)) :
  zGo L xs (D + 1) 255 2 [some (zr 142), some (zi x1), none] [] J K Q :=
  zrun_ok (T := mct255) (o := 12) (ret := none) (hs := [(2, [2]), (23, [2]), (51, [2]), (105, [])]) hL rfl 10 _ _ _ _ _ _ _ h
set_option maxRecDepth 30000 in
theorem z255_23 {L : Nat} {xs : Nat → Int32} (hL : L ≤ 3072) {D : Nat} {x1 : Int} {J : zJ} {K : zK} {Q : zR → Nat → zJ → zK → Prop}
  (h : zin x1 ∧ zin 8 ∧ ((8 : Int) ≤ x1 → zGo L xs (D + 1) 255 51 [some (zr 142), some (zi 0), none] [] J K Q) ∧ (x1 < (8 : Int) → 0 ≤ x1 ∧ x1 < 8 ∧ 0 ≤ x1 ∧ x1 < 8 ∧ zGo L xs (D + 1) 255 23 [some (zr 142), some (zi (x1 + 1)), none] [] (zup (zup J 256 0 x1 (-1)) 257 0 x1 (-1)) K Q)) :
  zGo L xs (D + 1) 255 23 [some (zr 142), some (zi x1), none] [] J K Q :=
  zrun_ok (T := mct255) (o := 12) (ret := none) (hs := [(2, [2]), (23, [2]), (51, [2]), (105, [])]) hL rfl 15 _ _ _ _ _ _ _ h
set_option maxRecDepth 30000 in
theorem z255_51 {L : Nat} {xs : Nat → Int32} (hL : L ≤ 3072) {D : Nat} {x1 : Int} {J : zJ} {K : zK} {Q : zR → Nat → zJ → zK → Prop}
  (h : zin x1 ∧ zin (J 142 0 15) ∧ ((J 142 0 15) ≤ x1 → Q (.inl none) 0 J K) ∧ (x1 < (J 142 0 15) → 0 ≤ x1 ∧ x1 < 4 ∧ zin (J 234 0 x1) ∧ ((J 234 0 x1) ≠ (0 : Int) → 0 ≤ x1 ∧ x1 < 4 ∧ 0 ≤ x1 ∧ x1 < 4 ∧ 0 ≤ x1 ∧ x1 < 4 ∧ zCall L xs D 256 [zr 142, zw 229 x1, zi 0, zi (J 234 0 x1), zi 0, zi (J 235 0 x1), zi (-1)] J K fun r1 e1 J1 K1 => zaI r1 e1 (fun x1_ => 0 ≤ x1 ∧ x1 < 4 ∧ zGo L xs (D + 1) 255 105 [some (zr 142), some (zi x1), some (zi 0)] [] (zup J1 255 0 x1 x1_) K1 Q) (fun E => Q (.inr E) e1 J1 K1)) ∧ ((J 234 0 x1) = (0 : Int) → 0 ≤ x1 ∧ x1 < 4 ∧ zGo L xs (D + 1) 255 105 [some (zr 142), some (zi x1), some (zi 0)] [] (zup J 255 0 x1 0) K Q))) :
  zGo L xs (D + 1) 255 51 [some (zr 142), some (zi x1), none] [] J K Q :=
  zrun_ok (T := mct255) (o := 12) (ret := none) (hs := [(2, [2]), (23, [2]), (51, [2]), (105, [])]) hL rfl 32 _ _ _ _ _ _ _ h
set_option maxRecDepth 30000 in
theorem z255_105 {L : Nat} {xs : Nat → Int32} (hL : L ≤ 3072) {D : Nat} {x1 x2 : Int} {J : zJ} {K : zK} {Q : zR → Nat → zJ → zK → Prop}
  (h : 0 ≤ x1 ∧ x1 < 4 ∧ zin x2 ∧ zin (J 234 0 x1) ∧ ((J 234 0 x1) ≤ x2 → zGo L xs (D + 1) 255 51 [some (zr 142), some (zi (x1 + 1)), none] [] J K Q) ∧ (x2 < (J 234 0 x1) → 0 ≤ x1 ∧ x1 < 4 ∧ zin (J 255 0 x1) ∧ ((J 255 0 x1) = (0 : Int) → zGo L xs (D + 1) 255 51 [some (zr 142), some (zi (x1 + 1)), none] [] J K Q) ∧ ((J 255 0 x1) ≠ (0 : Int) → 0 ≤ x1 ∧ x1 < 4 ∧ 0 ≤ x1 ∧ x1 < 4 ∧ 0 ≤ x2 ∧ x2 < 8 ∧ 0 ≤ (J 229 x1 x2) ∧ (J 229 x1 x2) < 8 ∧ 0 ≤ x1 ∧ x1 < 4 ∧ 0 ≤ x1 ∧ x1 < 4 ∧ 0 ≤ x2 ∧ x2 < 8 ∧ 0 ≤ (J 229 x1 x2) ∧ (J 229 x1 x2) < 8 ∧ zGo L xs (D + 1) 255 105 [some (zr 142), some (zi x1), some (zi (x2 + 1))] [] (zup (zup J 256 0 (J 229 x1 x2) (-1)) 257 0 (J 229 x1 x2) (-1)) K Q))) :
  zGo L xs (D + 1) 255 105 [some (zr 142), some (zi x1), some (zi x2)] [] J K Q :=
  zrun_ok (T := mct255) (o := 12) (ret := none) (hs := [(2, [2]), (23, [2]), (51, [2]), (105, [])]) hL rfl 33 _ _ _ _ _ _ _ h
/-! PartingTrainsModel.judges -/
set_option maxRecDepth 30000 in
theorem z256 {L : Nat} {xs : Nat → Int32} (hL : L ≤ 3072) {D : Nat} {x2 x3 x4 x5 x6 x1 : Int} {J : zJ} {K : zK} {Q : zR → Nat → zJ → zK → Prop}
  (h : zCall L xs D 260 [zr 142, zw 229 x1, zi x2, zi x3] J K fun r1 e1 J1 K1 => zaI r1 e1 (fun x1_ => 0 ≤ x4 ∧ x4 < 24 ∧ 0 ≤ x4 ∧ x4 < 24 ∧ 0 ≤ (2 : Int) ∧ (2 : Int) < 5 ∧ zin x1_ ∧ zin (J1 145 x4 2) ∧ (x1_ ≤ (J1 145 x4 2) → zCall L xs D 251 [zr 142, zw 229 x1, zi x2, zi x3, zi x4] J1 K1 fun r2 e2 J2 K2 => zaI r2 e2 (fun x2_ => zin x2_ ∧ (x2_ = (0 : Int) → zCall L xs D 210 [zr 142, zw 229 x1, zi x2, zi x3, zi x4] J2 K2 fun r3 e3 J3 K3 => zaI r3 e3 (fun x3_ => zCall L xs D 245 [zr 142, zi x4] J3 K3 fun r4 e4 J4 K4 => zaI r4 e4 (fun x4_ => zin x4_ ∧ (x4_ = (0 : Int) → zGo L xs (D + 1) 256 82 [some (zr 142), some (zw 229 x1), some (zi x2), some (zi x3), some (zi x4), some (zi x5), none, some (zi x6), some (zi x3_), none, none, none, none, none, none, none] [zi 0] J4 K4 Q) ∧ (x4_ ≠ (0 : Int) → 0 ≤ x4 ∧ x4 < 24 ∧ 0 ≤ x4 ∧ x4 < 24 ∧ 0 ≤ (3 : Int) ∧ (3 : Int) < 5 ∧ zGo L xs (D + 1) 256 82 [some (zr 142), some (zw 229 x1), some (zi x2), some (zi x3), some (zi x4), some (zi x5), none, some (zi x6), some (zi x3_), none, none, none, none, none, none, none] [zi (J4 145 x4 3)] J4 K4 Q)) (fun E => Q (.inr E) e4 J4 K4)) (fun E => Q (.inr E) e3 J3 K3)) ∧ (x2_ ≠ (0 : Int) → Q (.inl (some (zi (200 + x4)))) 0 J2 K2)) (fun E => Q (.inr E) e2 J2 K2)) ∧ ((J1 145 x4 2) < x1_ → Q (.inl (some (zi (300 + x4)))) 0 J1 K1)) (fun E => Q (.inr E) e1 J1 K1)) :
  zCall L xs (D + 1) 256 [zr 142, zw 229 x1, zi x2, zi x3, zi x4, zi x5, zi x6] J K Q :=
  zrun_ok (T := mct256) (o := 12) (ret := (some FieldType.int)) (hs := [(82, [6, 9, 10, 11, 12, 13, 14, 15]), (106, [6, 11, 12, 13, 14, 15]), (138, [0, 1, 2, 3, 5, 6, 7, 8, 9, 10, 11, 12, 13, 14, 15]), (145, [6, 11, 12, 13, 14, 15]), (173, [6, 11, 12, 13, 14, 15]), (176, [6, 11, 13, 14, 15]), (242, [6, 11, 13, 14, 15]), (266, [6, 11, 13, 14, 15]), (287, [2, 6, 11, 13, 14, 15]), (328, [2, 6, 11, 14]), (392, [2, 6, 11, 13, 15]), (429, [2, 6, 11, 13, 14, 15])]) hL rfl 39 _ _ _ _ _ _ _ h
set_option maxRecDepth 30000 in
theorem z256_82 {L : Nat} {xs : Nat → Int32} (hL : L ≤ 3072) {D : Nat} {x2 x3 x4 x5 x7 x8 s0 x1 : Int} {J : zJ} {K : zK} {Q : zR → Nat → zJ → zK → Prop}
  (h : 0 ≤ x1 ∧ x1 < 4 ∧ 0 ≤ x2 ∧ x2 < 8 ∧ zCall L xs D 272 [zr 142, zi (J 229 x1 x2), zi x4] J K fun r1 e1 J1 K1 => zaI r1 e1 (fun x1_ => zin x1_ ∧ zin x4 ∧ (x1_ = x4 → zGo L xs (D + 1) 256 106 [some (zr 142), some (zw 229 x1), some (zi x2), some (zi x3), some (zi x4), some (zi x5), none, some (zi x7), some (zi x8), some (zi s0), some (zi 0), none, none, none, none, none] [zi 0] J1 K1 Q) ∧ (x1_ ≠ x4 → zGo L xs (D + 1) 256 106 [some (zr 142), some (zw 229 x1), some (zi x2), some (zi x3), some (zi x4), some (zi x5), none, some (zi x7), some (zi x8), some (zi s0), some (zi 0), none, none, none, none, none] [zi 1] J1 K1 Q)) (fun E => Q (.inr E) e1 J1 K1)) :
  zGo L xs (D + 1) 256 82 [some (zr 142), some (zw 229 x1), some (zi x2), some (zi x3), some (zi x4), some (zi x5), none, some (zi x7), some (zi x8), none, none, none, none, none, none, none] [zi s0] J K Q :=
  zrun_ok (T := mct256) (o := 12) (ret := (some FieldType.int)) (hs := [(82, [6, 9, 10, 11, 12, 13, 14, 15]), (106, [6, 11, 12, 13, 14, 15]), (138, [0, 1, 2, 3, 5, 6, 7, 8, 9, 10, 11, 12, 13, 14, 15]), (145, [6, 11, 12, 13, 14, 15]), (173, [6, 11, 12, 13, 14, 15]), (176, [6, 11, 13, 14, 15]), (242, [6, 11, 13, 14, 15]), (266, [6, 11, 13, 14, 15]), (287, [2, 6, 11, 13, 14, 15]), (328, [2, 6, 11, 14]), (392, [2, 6, 11, 13, 15]), (429, [2, 6, 11, 13, 14, 15])]) hL rfl 13 _ _ _ _ _ _ _ h
set_option maxRecDepth 30000 in
theorem z256_106 {L : Nat} {xs : Nat → Int32} (hL : L ≤ 3072) {D : Nat} {x2 x3 x4 x5 x7 x8 x9 x10 s0 x1 : Int} {J : zJ} {K : zK} {Q : zR → Nat → zJ → zK → Prop}
  (h : zin x8 ∧ (x8 ≤ (0 : Int) → zGo L xs (D + 1) 256 145 [some (zr 142), some (zw 229 x1), some (zi x2), some (zi x3), some (zi x4), some (zi x5), none, some (zi x7), some (zi x8), some (zi x9), some (zi x10), none, none, none, none, none] [] J K Q) ∧ ((0 : Int) < x8 → zin s0 ∧ (s0 = (0 : Int) → zGo L xs (D + 1) 256 145 [some (zr 142), some (zw 229 x1), some (zi x2), some (zi x3), some (zi x4), some (zi x5), none, some (zi x7), some (zi x8), some (zi x9), some (zi x10), none, none, none, none, none] [] J K Q) ∧ (s0 ≠ (0 : Int) → zCall L xs D 245 [zr 142, zi x4] J K fun r1 e1 J1 K1 => zaI r1 e1 (fun x1_ => zin x1_ ∧ (x1_ = (0 : Int) → zGo L xs (D + 1) 256 138 [none, none, none, none, some (zi x4), none, none, none, none, none, none, none, none, none, none, none] [] J1 K1 Q) ∧ (x1_ ≠ (0 : Int) → 0 ≤ x4 ∧ x4 < 12 ∧ zin (J1 236 0 x4) ∧ zin 1 ∧ ((J1 236 0 x4) ≠ (1 : Int) → zGo L xs (D + 1) 256 145 [some (zr 142), some (zw 229 x1), some (zi x2), some (zi x3), some (zi x4), some (zi x5), none, some (zi x7), some (zi x8), some (zi x9), some (zi x10), none, none, none, none, none] [] J1 K1 Q) ∧ ((J1 236 0 x4) = (1 : Int) → zGo L xs (D + 1) 256 138 [none, none, none, none, some (zi x4), none, none, none, none, none, none, none, none, none, none, none] [] J1 K1 Q))) (fun E => Q (.inr E) e1 J1 K1)))) :
  zGo L xs (D + 1) 256 106 [some (zr 142), some (zw 229 x1), some (zi x2), some (zi x3), some (zi x4), some (zi x5), none, some (zi x7), some (zi x8), some (zi x9), some (zi x10), none, none, none, none, none] [zi s0] J K Q :=
  zrun_ok (T := mct256) (o := 12) (ret := (some FieldType.int)) (hs := [(82, [6, 9, 10, 11, 12, 13, 14, 15]), (106, [6, 11, 12, 13, 14, 15]), (138, [0, 1, 2, 3, 5, 6, 7, 8, 9, 10, 11, 12, 13, 14, 15]), (145, [6, 11, 12, 13, 14, 15]), (173, [6, 11, 12, 13, 14, 15]), (176, [6, 11, 13, 14, 15]), (242, [6, 11, 13, 14, 15]), (266, [6, 11, 13, 14, 15]), (287, [2, 6, 11, 13, 14, 15]), (328, [2, 6, 11, 14]), (392, [2, 6, 11, 13, 15]), (429, [2, 6, 11, 13, 14, 15])]) hL rfl 15 _ _ _ _ _ _ _ h
set_option maxRecDepth 30000 in
theorem z256_138 {L : Nat} {xs : Nat → Int32} (hL : L ≤ 3072) {D : Nat} {x4 : Int} {J : zJ} {K : zK} {Q : zR → Nat → zJ → zK → Prop}
  (h : Q (.inl (some (zi (400 + x4)))) 0 J K) :
  zGo L xs (D + 1) 256 138 [none, none, none, none, some (zi x4), none, none, none, none, none, none, none, none, none, none, none] [] J K Q :=
  zrun_ok (T := mct256) (o := 12) (ret := (some FieldType.int)) (hs := [(82, [6, 9, 10, 11, 12, 13, 14, 15]), (106, [6, 11, 12, 13, 14, 15]), (138, [0, 1, 2, 3, 5, 6, 7, 8, 9, 10, 11, 12, 13, 14, 15]), (145, [6, 11, 12, 13, 14, 15]), (173, [6, 11, 12, 13, 14, 15]), (176, [6, 11, 13, 14, 15]), (242, [6, 11, 13, 14, 15]), (266, [6, 11, 13, 14, 15]), (287, [2, 6, 11, 13, 14, 15]), (328, [2, 6, 11, 14]), (392, [2, 6, 11, 13, 15]), (429, [2, 6, 11, 13, 14, 15])]) hL rfl 4 _ _ _ _ _ _ _ h
set_option maxRecDepth 30000 in
theorem z256_145 {L : Nat} {xs : Nat → Int32} (hL : L ≤ 3072) {D : Nat} {x2 x3 x4 x5 x7 x8 x9 x10 x1 : Int} {J : zJ} {K : zK} {Q : zR → Nat → zJ → zK → Prop}
  (h : zin x4 ∧ (x4 ≠ (0 : Int) → zGo L xs (D + 1) 256 173 [some (zr 142), some (zw 229 x1), some (zi x2), some (zi x3), some (zi x4), some (zi x5), none, some (zi x7), some (zi x8), some (zi x9), some (zi x10), none, none, none, none, none] [] J K Q) ∧ (x4 = (0 : Int) → zCall L xs D 260 [zr 142, zw 229 x1, zi x2, zi x3] J K fun r1 e1 J1 K1 => zaI r1 e1 (fun x1_ => zCall L xs D 296 [zr 142, zi 0, zi x1_] J1 K1 fun r2 e2 J2 K2 => zaI r2 e2 (fun x2_ => zin x2_ ∧ zin (-1) ∧ (x2_ ≠ (-1 : Int) → zGo L xs (D + 1) 256 173 [some (zr 142), some (zw 229 x1), some (zi x2), some (zi x3), some (zi x4), some (zi x5), none, some (zi x2_), some (zi x8), some (zi x9), some (zi x10), none, none, none, none, none] [] J2 K2 Q) ∧ (x2_ = (-1 : Int) → Q (.inl (some (zi 100))) 0 J2 K2)) (fun E => Q (.inr E) e2 J2 K2)) (fun E => Q (.inr E) e1 J1 K1))) :
  zGo L xs (D + 1) 256 145 [some (zr 142), some (zw 229 x1), some (zi x2), some (zi x3), some (zi x4), some (zi x5), none, some (zi x7), some (zi x8), some (zi x9), some (zi x10), none, none, none, none, none] [] J K Q :=
  zrun_ok (T := mct256) (o := 12) (ret := (some FieldType.int)) (hs := [(82, [6, 9, 10, 11, 12, 13, 14, 15]), (106, [6, 11, 12, 13, 14, 15]), (138, [0, 1, 2, 3, 5, 6, 7, 8, 9, 10, 11, 12, 13, 14, 15]), (145, [6, 11, 12, 13, 14, 15]), (173, [6, 11, 12, 13, 14, 15]), (176, [6, 11, 13, 14, 15]), (242, [6, 11, 13, 14, 15]), (266, [6, 11, 13, 14, 15]), (287, [2, 6, 11, 13, 14, 15]), (328, [2, 6, 11, 14]), (392, [2, 6, 11, 13, 15]), (429, [2, 6, 11, 13, 14, 15])]) hL rfl 16 _ _ _ _ _ _ _ h
set_option maxRecDepth 30000 in
theorem z256_173 {L : Nat} {xs : Nat → Int32} (hL : L ≤ 3072) {D : Nat} {x2 x3 x4 x5 x7 x8 x9 x10 x1 : Int} {J : zJ} {K : zK} {Q : zR → Nat → zJ → zK → Prop}
  (h : zGo L xs (D + 1) 256 176 [some (zr 142), some (zw 229 x1), some (zi x2), some (zi x3), some (zi x4), some (zi x5), none, some (zi x7), some (zi x8), some (zi x9), some (zi x10), none, some (zi x2), none, none, none] [] J K Q) :
  zGo L xs (D + 1) 256 173 [some (zr 142), some (zw 229 x1), some (zi x2), some (zi x3), some (zi x4), some (zi x5), none, some (zi x7), some (zi x8), some (zi x9), some (zi x10), none, none, none, none, none] [] J K Q :=
  zrun_ok (T := mct256) (o := 12) (ret := (some FieldType.int)) (hs := [(82, [6, 9, 10, 11, 12, 13, 14, 15]), (106, [6, 11, 12, 13, 14, 15]), (138, [0, 1, 2, 3, 5, 6, 7, 8, 9, 10, 11, 12, 13, 14, 15]), (145, [6, 11, 12, 13, 14, 15]), (173, [6, 11, 12, 13, 14, 15]), (176, [6, 11, 13, 14, 15]), (242, [6, 11, 13, 14, 15]), (266, [6, 11, 13, 14, 15]), (287, [2, 6, 11, 13, 14, 15]), (328, [2, 6, 11, 14]), (392, [2, 6, 11, 13, 15]), (429, [2, 6, 11, 13, 14, 15])]) hL rfl 2 _ _ _ _ _ _ _ h
set_option maxRecDepth 30000 in
theorem z256_176 {L : Nat} {xs : Nat → Int32} (hL : L ≤ 3072) {D : Nat} {x2 x3 x4 x5 x7 x8 x9 x10 x12 x1 : Int} {J : zJ} {K : zK} {Q : zR → Nat → zJ → zK → Prop}
  (h : zin x12 ∧ zin x3 ∧ (x3 ≤ x12 → zGo L xs (D + 1) 256 287 [some (zr 142), some (zw 229 x1), none, some (zi x3), some (zi x4), some (zi x5), none, some (zi x7), some (zi x8), some (zi x9), some (zi 0), none, some (zi x2), none, none, none] [] J K Q) ∧ (x12 < x3 → 0 ≤ x1 ∧ x1 < 4 ∧ 0 ≤ x12 ∧ x12 < 8 ∧ zCall L xs D 272 [zr 142, zi (J 229 x1 x12), zi x4] J K fun r1 e1 J1 K1 => zaI r1 e1 (fun x1_ => zin x1_ ∧ zin x4 ∧ (x1_ ≠ x4 → 0 ≤ x4 ∧ x4 < 12 ∧ zin x10 ∧ (x10 ≠ (0 : Int) → zCall L xs D 216 [zr 142, zw 229 x1, zi x12, zi x3, zi x4] J1 K1 fun r2 e2 J2 K2 => zaI r2 e2 (fun x2_ => zCall L xs D 260 [zr 142, zw 229 x1, zi x12, zi x2_] J2 K2 fun r3 e3 J3 K3 => zaI r3 e3 (fun x3_ => zCall L xs D 296 [zr 142, zi x4, zi x3_] J3 K3 fun r4 e4 J4 K4 => zaI r4 e4 (fun x4_ => zGo L xs (D + 1) 256 242 [some (zr 142), some (zw 229 x1), some (zi x2), some (zi x3), some (zi x4), some (zi x5), none, some (zi x7), some (zi x8), some (zi x9), some (zi x10), none, some (zi x12), none, none, none] [zi x4_, zi x10, zw 261 x4] J4 K4 Q) (fun E => Q (.inr E) e4 J4 K4)) (fun E => Q (.inr E) e3 J3 K3)) (fun E => Q (.inr E) e2 J2 K2)) ∧ (x10 = (0 : Int) → zGo L xs (D + 1) 256 242 [some (zr 142), some (zw 229 x1), some (zi x2), some (zi x3), some (zi x4), some (zi x5), none, some (zi x7), some (zi x8), some (zi x9), some (zi x10), none, some (zi x12), none, none, none] [zi x7, zi x10, zw 261 x4] J1 K1 Q)) ∧ (x1_ = x4 → zGo L xs (D + 1) 256 266 [some (zr 142), some (zw 229 x1), some (zi x2), some (zi x3), some (zi x4), some (zi x5), none, some (zi x7), some (zi x8), some (zi x9), some (zi x10), none, some (zi x12), none, none, none] [] J1 K1 Q)) (fun E => Q (.inr E) e1 J1 K1))) :
  zGo L xs (D + 1) 256 176 [some (zr 142), some (zw 229 x1), some (zi x2), some (zi x3), some (zi x4), some (zi x5), none, some (zi x7), some (zi x8), some (zi x9), some (zi x10), none, some (zi x12), none, none, none] [] J K Q :=
  zrun_ok (T := mct256) (o := 12) (ret := (some FieldType.int)) (hs := [(82, [6, 9, 10, 11, 12, 13, 14, 15]), (106, [6, 11, 12, 13, 14, 15]), (138, [0, 1, 2, 3, 5, 6, 7, 8, 9, 10, 11, 12, 13, 14, 15]), (145, [6, 11, 12, 13, 14, 15]), (173, [6, 11, 12, 13, 14, 15]), (176, [6, 11, 13, 14, 15]), (242, [6, 11, 13, 14, 15]), (266, [6, 11, 13, 14, 15]), (287, [2, 6, 11, 13, 14, 15]), (328, [2, 6, 11, 14]), (392, [2, 6, 11, 13, 15]), (429, [2, 6, 11, 13, 14, 15])]) hL rfl 31 _ _ _ _ _ _ _ h
set_option maxRecDepth 30000 in
theorem z256_242 {L : Nat} {xs : Nat → Int32} (hL : L ≤ 3072) {D : Nat} {x2 x3 x4 x5 x7 x8 x9 x10 x12 s1 s2 x1 s0 : Int} {J : zJ} {K : zK} {Q : zR → Nat → zJ → zK → Prop}
  (h : 0 ≤ s0 ∧ s0 < 12 ∧ 0 ≤ s1 ∧ s1 < 8 ∧ 0 ≤ x4 ∧ x4 < 12 ∧ 0 ≤ x4 ∧ x4 < 12 ∧ 0 ≤ x10 ∧ x10 < 8 ∧ zin ((zup J 261 s0 s1 s2) 261 x4 x10) ∧ zin (-1) ∧ (((zup J 261 s0 s1 s2) 261 x4 x10) ≠ (-1 : Int) → zGo L xs (D + 1) 256 266 [some (zr 142), some (zw 229 x1), some (zi x2), some (zi x3), some (zi x4), some (zi x5), none, some (zi x7), some (zi x8), some (zi x9), some (zi (x10 + 1)), none, some (zi x12), none, none, none] [] (zup J 261 s0 s1 s2) K Q) ∧ (((zup J 261 s0 s1 s2) 261 x4 x10) = (-1 : Int) → Q (.inl (some (zi (100 + x4)))) 0 (zup J 261 s0 s1 s2) K)) :
  zGo L xs (D + 1) 256 242 [some (zr 142), some (zw 229 x1), some (zi x2), some (zi x3), some (zi x4), some (zi x5), none, some (zi x7), some (zi x8), some (zi x9), some (zi x10), none, some (zi x12), none, none, none] [zi s2, zi s1, zw 261 s0] J K Q :=
  zrun_ok (T := mct256) (o := 12) (ret := (some FieldType.int)) (hs := [(82, [6, 9, 10, 11, 12, 13, 14, 15]), (106, [6, 11, 12, 13, 14, 15]), (138, [0, 1, 2, 3, 5, 6, 7, 8, 9, 10, 11, 12, 13, 14, 15]), (145, [6, 11, 12, 13, 14, 15]), (173, [6, 11, 12, 13, 14, 15]), (176, [6, 11, 13, 14, 15]), (242, [6, 11, 13, 14, 15]), (266, [6, 11, 13, 14, 15]), (287, [2, 6, 11, 13, 14, 15]), (328, [2, 6, 11, 14]), (392, [2, 6, 11, 13, 15]), (429, [2, 6, 11, 13, 14, 15])]) hL rfl 13 _ _ _ _ _ _ _ h
set_option maxRecDepth 30000 in
theorem z256_266 {L : Nat} {xs : Nat → Int32} (hL : L ≤ 3072) {D : Nat} {x2 x3 x4 x5 x7 x8 x9 x10 x12 x1 : Int} {J : zJ} {K : zK} {Q : zR → Nat → zJ → zK → Prop}
  (h : zCall L xs D 216 [zr 142, zw 229 x1, zi x12, zi x3, zi x4] J K fun r1 e1 J1 K1 => zaI r1 e1 (fun x1_ => zGo L xs (D + 1) 256 176 [some (zr 142), some (zw 229 x1), some (zi x2), some (zi x3), some (zi x4), some (zi x5), none, some (zi x7), some (zi x8), some (zi x9), some (zi x10), none, some (zi x1_), none, none, none] [] J1 K1 Q) (fun E => Q (.inr E) e1 J1 K1)) :
  zGo L xs (D + 1) 256 266 [some (zr 142), some (zw 229 x1), some (zi x2), some (zi x3), some (zi x4), some (zi x5), none, some (zi x7), some (zi x8), some (zi x9), some (zi x10), none, some (zi x12), none, none, none] [] J K Q :=
  zrun_ok (T := mct256) (o := 12) (ret := (some FieldType.int)) (hs := [(82, [6, 9, 10, 11, 12, 13, 14, 15]), (106, [6, 11, 12, 13, 14, 15]), (138, [0, 1, 2, 3, 5, 6, 7, 8, 9, 10, 11, 12, 13, 14, 15]), (145, [6, 11, 12, 13, 14, 15]), (173, [6, 11, 12, 13, 14, 15]), (176, [6, 11, 13, 14, 15]), (242, [6, 11, 13, 14, 15]), (266, [6, 11, 13, 14, 15]), (287, [2, 6, 11, 13, 14, 15]), (328, [2, 6, 11, 14]), (392, [2, 6, 11, 13, 15]), (429, [2, 6, 11, 13, 14, 15])]) hL rfl 8 _ _ _ _ _ _ _ h
set_option maxRecDepth 30000 in
theorem z256_287 {L : Nat} {xs : Nat → Int32} (hL : L ≤ 3072) {D : Nat} {x3 x4 x5 x7 x8 x9 x10 x12 x1 : Int} {J : zJ} {K : zK} {Q : zR → Nat → zJ → zK → Prop}
  (h : zin x12 ∧ zin x3 ∧ (x3 ≤ x12 → Q (.inl (some (zi 0))) 0 J K) ∧ (x12 < x3 → zCall L xs D 216 [zr 142, zw 229 x1, zi x12, zi x3, zi x4] J K fun r1 e1 J1 K1 => zaI r1 e1 (fun x1_ => 0 ≤ x1 ∧ x1 < 4 ∧ 0 ≤ x12 ∧ x12 < 8 ∧ zCall L xs D 272 [zr 142, zi (J1 229 x1 x12), zi x4] J1 K1 fun r2 e2 J2 K2 => zaI r2 e2 (fun x2_ => zin x2_ ∧ zin x4 ∧ (x2_ ≠ x4 → zin x8 ∧ (x8 ≤ (0 : Int) → zGo L xs (D + 1) 256 392 [some (zr 142), some (zw 229 x1), none, some (zi x3), some (zi x4), some (zi x5), none, some (zi x7), some (zi x8), some (zi x9), some (zi x10), none, some (zi x12), none, some (zi x2_), none] [zi 0, zi x5, zi x2_, zi x1_, zi x12, zw 229 x1, zr 142] J2 K2 Q) ∧ ((0 : Int) < x8 → zGo L xs (D + 1) 256 392 [some (zr 142), some (zw 229 x1), none, some (zi x3), some (zi x4), some (zi x5), none, some (zi x7), some (zi x8), some (zi x9), some (zi x10), none, some (zi x12), none, some (zi x2_), none] [zi (x9 * (x10 + 1)), zi x5, zi x2_, zi x1_, zi x12, zw 229 x1, zr 142] J2 K2 Q)) ∧ (x2_ = x4 → zGo L xs (D + 1) 256 328 [some (zr 142), some (zw 229 x1), none, some (zi x3), some (zi x4), some (zi x5), none, some (zi x7), some (zi x8), some (zi x9), some (zi x10), none, some (zi x12), some (zi x1_), none, some (zi x12)] [] J2 K2 Q)) (fun E => Q (.inr E) e2 J2 K2)) (fun E => Q (.inr E) e1 J1 K1))) :
  zGo L xs (D + 1) 256 287 [some (zr 142), some (zw 229 x1), none, some (zi x3), some (zi x4), some (zi x5), none, some (zi x7), some (zi x8), some (zi x9), some (zi x10), none, some (zi x12), none, none, none] [] J K Q :=
  zrun_ok (T := mct256) (o := 12) (ret := (some FieldType.int)) (hs := [(82, [6, 9, 10, 11, 12, 13, 14, 15]), (106, [6, 11, 12, 13, 14, 15]), (138, [0, 1, 2, 3, 5, 6, 7, 8, 9, 10, 11, 12, 13, 14, 15]), (145, [6, 11, 12, 13, 14, 15]), (173, [6, 11, 12, 13, 14, 15]), (176, [6, 11, 13, 14, 15]), (242, [6, 11, 13, 14, 15]), (266, [6, 11, 13, 14, 15]), (287, [2, 6, 11, 13, 14, 15]), (328, [2, 6, 11, 14]), (392, [2, 6, 11, 13, 15]), (429, [2, 6, 11, 13, 14, 15])]) hL rfl 34 _ _ _ _ _ _ _ h
set_option maxRecDepth 30000 in
theorem z256_328 {L : Nat} {xs : Nat → Int32} (hL : L ≤ 3072) {D : Nat} {x3 x4 x5 x7 x8 x9 x10 x12 x13 x15 x1 : Int} {J : zJ} {K : zK} {Q : zR → Nat → zJ → zK → Prop}
  (h : zin x15 ∧ zin x13 ∧ (x13 ≤ x15 → zGo L xs (D + 1) 256 429 [some (zr 142), some (zw 229 x1), none, some (zi x3), some (zi x4), some (zi x5), none, some (zi x7), some (zi x8), some (zi x9), some (zi x10), none, some (zi x12), none, none, none] [] J K Q) ∧ (x15 < x13 → 0 ≤ x1 ∧ x1 < 4 ∧ 0 ≤ x15 ∧ x15 < 8 ∧ 0 ≤ (J 229 x1 x15) ∧ (J 229 x1 x15) < 8 ∧ 0 ≤ x1 ∧ x1 < 4 ∧ 0 ≤ x15 ∧ x15 < 8 ∧ 0 ≤ (J 229 x1 x15) ∧ (J 229 x1 x15) < 8 ∧ zGo L xs (D + 1) 256 328 [some (zr 142), some (zw 229 x1), none, some (zi x3), some (zi x4), some (zi x5), none, some (zi x7), some (zi x8), some (zi x9), some (zi x10), none, some (zi x12), some (zi x13), none, some (zi (x15 + 1))] [] (zup (zup J 256 0 (J 229 x1 x15) x5) 257 0 (J 229 x1 x15) x7) K Q)) :
  zGo L xs (D + 1) 256 328 [some (zr 142), some (zw 229 x1), none, some (zi x3), some (zi x4), some (zi x5), none, some (zi x7), some (zi x8), some (zi x9), some (zi x10), none, some (zi x12), some (zi x13), none, some (zi x15)] [] J K Q :=
  zrun_ok (T := mct256) (o := 12) (ret := (some FieldType.int)) (hs := [(82, [6, 9, 10, 11, 12, 13, 14, 15]), (106, [6, 11, 12, 13, 14, 15]), (138, [0, 1, 2, 3, 5, 6, 7, 8, 9, 10, 11, 12, 13, 14, 15]), (145, [6, 11, 12, 13, 14, 15]), (173, [6, 11, 12, 13, 14, 15]), (176, [6, 11, 13, 14, 15]), (242, [6, 11, 13, 14, 15]), (266, [6, 11, 13, 14, 15]), (287, [2, 6, 11, 13, 14, 15]), (328, [2, 6, 11, 14]), (392, [2, 6, 11, 13, 15]), (429, [2, 6, 11, 13, 14, 15])]) hL rfl 19 _ _ _ _ _ _ _ h
set_option maxRecDepth 30000 in
theorem z256_392 {L : Nat} {xs : Nat → Int32} (hL : L ≤ 3072) {D : Nat} {x3 x4 x5 x7 x8 x9 x10 x12 x14 s2 s3 s4 s5 s6 x1 s1 : Int} {J : zJ} {K : zK} {Q : zR → Nat → zJ → zK → Prop}
  (h : 0 ≤ x14 ∧ x14 < 24 ∧ 0 ≤ x14 ∧ x14 < 24 ∧ 0 ≤ (1 : Int) ∧ (1 : Int) < 5 ∧ 0 ≤ x4 ∧ x4 < 12 ∧ 0 ≤ x4 ∧ x4 < 12 ∧ 0 ≤ x10 ∧ x10 < 8 ∧ zCall L xs D 256 [zr 142, zw 229 s1, zi s2, zi s3, zi s4, zi ((s5 + s6) + (J 145 x14 1)), zi (J 261 x4 x10)] J K fun r1 e1 J1 K1 => zaI r1 e1 (fun x1_ => zin x1_ ∧ (x1_ = (0 : Int) → zGo L xs (D + 1) 256 429 [some (zr 142), some (zw 229 x1), none, some (zi x3), some (zi x4), some (zi x5), none, some (zi x7), some (zi x8), some (zi x9), some (zi (x10 + 1)), none, some (zi x12), none, none, none] [] J1 K1 Q) ∧ (x1_ ≠ (0 : Int) → Q (.inl (some (zi x1_))) 0 J1 K1)) (fun E => Q (.inr E) e1 J1 K1)) :
  zGo L xs (D + 1) 256 392 [some (zr 142), some (zw 229 x1), none, some (zi x3), some (zi x4), some (zi x5), none, some (zi x7), some (zi x8), some (zi x9), some (zi x10), none, some (zi x12), none, some (zi x14), none] [zi s6, zi s5, zi s4, zi s3, zi s2, zw 229 s1, zr 142] J K Q :=
  zrun_ok (T := mct256) (o := 12) (ret := (some FieldType.int)) (hs := [(82, [6, 9, 10, 11, 12, 13, 14, 15]), (106, [6, 11, 12, 13, 14, 15]), (138, [0, 1, 2, 3, 5, 6, 7, 8, 9, 10, 11, 12, 13, 14, 15]), (145, [6, 11, 12, 13, 14, 15]), (173, [6, 11, 12, 13, 14, 15]), (176, [6, 11, 13, 14, 15]), (242, [6, 11, 13, 14, 15]), (266, [6, 11, 13, 14, 15]), (287, [2, 6, 11, 13, 14, 15]), (328, [2, 6, 11, 14]), (392, [2, 6, 11, 13, 15]), (429, [2, 6, 11, 13, 14, 15])]) hL rfl 20 _ _ _ _ _ _ _ h
set_option maxRecDepth 30000 in
theorem z256_429 {L : Nat} {xs : Nat → Int32} (hL : L ≤ 3072) {D : Nat} {x3 x4 x5 x7 x8 x9 x10 x12 x1 : Int} {J : zJ} {K : zK} {Q : zR → Nat → zJ → zK → Prop}
  (h : zCall L xs D 216 [zr 142, zw 229 x1, zi x12, zi x3, zi x4] J K fun r1 e1 J1 K1 => zaI r1 e1 (fun x1_ => zGo L xs (D + 1) 256 287 [some (zr 142), some (zw 229 x1), none, some (zi x3), some (zi x4), some (zi x5), none, some (zi x7), some (zi x8), some (zi x9), some (zi x10), none, some (zi x1_), none, none, none] [] J1 K1 Q) (fun E => Q (.inr E) e1 J1 K1)) :
  zGo L xs (D + 1) 256 429 [some (zr 142), some (zw 229 x1), none, some (zi x3), some (zi x4), some (zi x5), none, some (zi x7), some (zi x8), some (zi x9), some (zi x10), none, some (zi x12), none, none, none] [] J K Q :=
  zrun_ok (T := mct256) (o := 12) (ret := (some FieldType.int)) (hs := [(82, [6, 9, 10, 11, 12, 13, 14, 15]), (106, [6, 11, 12, 13, 14, 15]), (138, [0, 1, 2, 3, 5, 6, 7, 8, 9, 10, 11, 12, 13, 14, 15]), (145, [6, 11, 12, 13, 14, 15]), (173, [6, 11, 12, 13, 14, 15]), (176, [6, 11, 13, 14, 15]), (242, [6, 11, 13, 14, 15]), (266, [6, 11, 13, 14, 15]), (287, [2, 6, 11, 13, 14, 15]), (328, [2, 6, 11, 14]), (392, [2, 6, 11, 13, 15]), (429, [2, 6, 11, 13, 14, 15])]) hL rfl 8 _ _ _ _ _ _ _ h
/-! PartingTrainsModel.kindHere -/
set_option maxRecDepth 30000 in
theorem z257 {L : Nat} {xs : Nat → Int32} (hL : L ≤ 3072) {D : Nat} {J : zJ} {K : zK} {Q : zR → Nat → zJ → zK → Prop}
  (h : zCall L xs D 253 [zr 142, zi 16, zi 12, zi 1, zi 3, zi 5, zi 0, zi 0] J K fun r1 e1 J1 K1 => zaI r1 e1 (fun x1_ => zin x1_ ∧ (x1_ = (0 : Int) → zCall L xs D 253 [zr 142, zi 6, zi 15, zi 18, zi 11, zi 0, zi 0, zi 0] J1 K1 fun r2 e2 J2 K2 => zaI r2 e2 (fun x2_ => zin x2_ ∧ (x2_ = (0 : Int) → zCall L xs D 253 [zr 142, zi 16, zi 15, zi 18, zi 20, zi 9, zi 15, zi 14] J2 K2 fun r3 e3 J3 K3 => zaI r3 e3 (fun x3_ => zin x3_ ∧ (x3_ = (0 : Int) → zCall L xs D 253 [zr 142, zi 12, zi 1, zi 20, zi 5, zi 0, zi 0, zi 0] J3 K3 fun r4 e4 J4 K4 => zaI r4 e4 (fun x4_ => zin x4_ ∧ (x4_ = (0 : Int) → zCall L xs D 253 [zr 142, zi 5, zi 14, zi 7, zi 9, zi 14, zi 5, zi 0] J4 K4 fun r5 e5 J5 K5 => zaI r5 e5 (fun x5_ => zin x5_ ∧ (x5_ = (0 : Int) → zCall L xs D 253 [zr 142, zi 23, zi 1, zi 14, zi 20, zi 0, zi 0, zi 0] J5 K5 fun r6 e6 J6 K6 => zaI r6 e6 (fun x6_ => zin x6_ ∧ (x6_ = (0 : Int) → Q (.inl (some (zi (-1)))) 0 J6 K6) ∧ (x6_ ≠ (0 : Int) → Q (.inl (some (zi 5))) 0 J6 K6)) (fun E => Q (.inr E) e6 J6 K6)) ∧ (x5_ ≠ (0 : Int) → Q (.inl (some (zi 4))) 0 J5 K5)) (fun E => Q (.inr E) e5 J5 K5)) ∧ (x4_ ≠ (0 : Int) → Q (.inl (some (zi 3))) 0 J4 K4)) (fun E => Q (.inr E) e4 J4 K4)) ∧ (x3_ ≠ (0 : Int) → Q (.inl (some (zi 2))) 0 J3 K3)) (fun E => Q (.inr E) e3 J3 K3)) ∧ (x2_ ≠ (0 : Int) → Q (.inl (some (zi 1))) 0 J2 K2)) (fun E => Q (.inr E) e2 J2 K2)) ∧ (x1_ ≠ (0 : Int) → Q (.inl (some (zi 0))) 0 J1 K1)) (fun E => Q (.inr E) e1 J1 K1)) :
  zCall L xs (D + 1) 257 [zr 142] J K Q :=
  zrun_ok (T := mct257) (o := 12) (ret := (some FieldType.int)) (hs := []) hL rfl 63 _ _ _ _ _ _ _ h
/-! PartingTrainsModel.land -/
set_option maxRecDepth 30000 in
theorem z258 {L : Nat} {xs : Nat → Int32} (hL : L ≤ 3072) {D : Nat} {x1 : Int} {J : zJ} {K : zK} {Q : zR → Nat → zJ → zK → Prop}
  (h : zCall L xs D 240 [zi x1, zi 0, zi (J 142 0 1)] (zup J 142 0 0 0) K fun r1 e1 J1 K1 => zaI r1 e1 (fun x1_ => zin x1_ ∧ (x1_ ≠ (0 : Int) → zCall L xs D 195 [zr 142, zi 0, zi 1] J1 K1 fun r2 e2 J2 K2 => zaI r2 e2 (fun x2_ => zin x2_ ∧ (x2_ = (0 : Int) → zCall L xs D 283 [zr 142] (zup (zup (zup (zup (zup J2 142 0 1 0) 142 0 2 x1) 142 0 4 0) 142 0 5 0) 142 0 6 (-1)) K2 fun r3 e3 J3 K3 => zaV r3 e3 (zCall L xs D 202 [zr 142] J3 K3 fun r4 e4 J4 K4 => zaV r4 e4 (zGo L xs (D + 1) 258 65 [some (zr 142), none, none, none] [] J4 K4 Q) (fun E => Q (.inr E) e4 J4 K4)) (fun E => Q (.inr E) e3 J3 K3)) ∧ (x2_ ≠ (0 : Int) → Q (.inl (some (zi 0))) 0 J2 K2)) (fun E => Q (.inr E) e2 J2 K2)) ∧ (x1_ = (0 : Int) → zCall L xs D 195 [zr 142, zi 1, zi 1] J1 K1 fun r5 e5 J5 K5 => zaI r5 e5 (fun x5_ => zin x5_ ∧ (x5_ = (0 : Int) → zCall L xs D 283 [zr 142] (zup (zup (zup (zup (zup J5 142 0 1 0) 142 0 2 x1) 142 0 4 0) 142 0 5 0) 142 0 6 (-1)) K5 fun r6 e6 J6 K6 => zaV r6 e6 (zCall L xs D 202 [zr 142] J6 K6 fun r7 e7 J7 K7 => zaV r7 e7 (zGo L xs (D + 1) 258 65 [some (zr 142), none, none, none] [] J7 K7 Q) (fun E => Q (.inr E) e7 J7 K7)) (fun E => Q (.inr E) e6 J6 K6)) ∧ (x5_ ≠ (0 : Int) → Q (.inl (some (zi 0))) 0 J5 K5)) (fun E => Q (.inr E) e5 J5 K5))) (fun E => Q (.inr E) e1 J1 K1)) :
  zCall L xs (D + 1) 258 [zr 142, zi x1] J K Q :=
  zrun_ok (T := mct258) (o := 12) (ret := (some FieldType.int)) (hs := [(65, [1, 2, 3]), (119, [1, 3]), (146, [1, 3]), (154, [1]), (192, [1, 3]), (200, [1]), (238, [1, 3]), (246, [1]), (284, [1, 3]), (292, [1]), (350, [1, 3]), (378, [1, 3])]) hL rfl 34 _ _ _ _ _ _ _ h
set_option maxRecDepth 30000 in
theorem z258_65 {L : Nat} {xs : Nat → Int32} (hL : L ≤ 3072) {D : Nat} {J : zJ} {K : zK} {Q : zR → Nat → zJ → zK → Prop}
  (h : zin (J 142 0 5) ∧ ((J 142 0 5) ≠ (0 : Int) → zin (J 142 0 5) ∧ ((J 142 0 5) = (0 : Int) → zGo L xs (D + 1) 258 119 [some (zr 142), none, some (zi 0), none] [] (zup J 142 0 3 (J 142 0 6)) K Q) ∧ ((J 142 0 5) ≠ (0 : Int) → Q (.inl (some (zi ((J 142 0 5) - 10)))) 0 (zup J 142 0 3 (J 142 0 6)) K)) ∧ ((J 142 0 5) = (0 : Int) → zin (J 142 0 4) ∧ zin (J 142 0 2) ∧ ((J 142 0 2) ≤ (J 142 0 4) → zin (J 142 0 5) ∧ ((J 142 0 5) = (0 : Int) → zGo L xs (D + 1) 258 119 [some (zr 142), none, some (zi 0), none] [] (zup J 142 0 3 (J 142 0 6)) K Q) ∧ ((J 142 0 5) ≠ (0 : Int) → Q (.inl (some (zi ((J 142 0 5) - 10)))) 0 (zup J 142 0 3 (J 142 0 6)) K)) ∧ ((J 142 0 4) < (J 142 0 2) → zCall L xs D 206 [zr 142] J K fun r1 e1 J1 K1 => zaV r1 e1 (zCall L xs D 202 [zr 142] J1 K1 fun r2 e2 J2 K2 => zaV r2 e2 (zGo L xs (D + 1) 258 65 [some (zr 142), none, none, none] [] J2 K2 Q) (fun E => Q (.inr E) e2 J2 K2)) (fun E => Q (.inr E) e1 J1 K1)))) :
  zGo L xs (D + 1) 258 65 [some (zr 142), none, none, none] [] J K Q :=
  zrun_ok (T := mct258) (o := 12) (ret := (some FieldType.int)) (hs := [(65, [1, 2, 3]), (119, [1, 3]), (146, [1, 3]), (154, [1]), (192, [1, 3]), (200, [1]), (238, [1, 3]), (246, [1]), (284, [1, 3]), (292, [1]), (350, [1, 3]), (378, [1, 3])]) hL rfl 20 _ _ _ _ _ _ _ h
set_option maxRecDepth 30000 in
theorem z258_119 {L : Nat} {xs : Nat → Int32} (hL : L ≤ 3072) {D : Nat} {x2 : Int} {J : zJ} {K : zK} {Q : zR → Nat → zJ → zK → Prop}
  (h : zin x2 ∧ zin 4 ∧ ((4 : Int) ≤ x2 → zGo L xs (D + 1) 258 146 [some (zr 142), none, some (zi 0), none] [] J K Q) ∧ (x2 < (4 : Int) → 0 ≤ (4 + x2) ∧ (4 + x2) < 8 ∧ 0 ≤ x2 ∧ x2 < 8 ∧ zGo L xs (D + 1) 258 119 [some (zr 142), none, some (zi (x2 + 1)), none] [] (zup J 144 0 x2 (J 144 0 (4 + x2))) K Q)) :
  zGo L xs (D + 1) 258 119 [some (zr 142), none, some (zi x2), none] [] J K Q :=
  zrun_ok (T := mct258) (o := 12) (ret := (some FieldType.int)) (hs := [(65, [1, 2, 3]), (119, [1, 3]), (146, [1, 3]), (154, [1]), (192, [1, 3]), (200, [1]), (238, [1, 3]), (246, [1]), (284, [1, 3]), (292, [1]), (350, [1, 3]), (378, [1, 3])]) hL rfl 15 _ _ _ _ _ _ _ h
set_option maxRecDepth 30000 in
theorem z258_146 {L : Nat} {xs : Nat → Int32} (hL : L ≤ 3072) {D : Nat} {x2 : Int} {J : zJ} {K : zK} {Q : zR → Nat → zJ → zK → Prop}
  (h : zin x2 ∧ zin 12 ∧ ((12 : Int) ≤ x2 → zGo L xs (D + 1) 258 192 [some (zr 142), none, some (zi 0), none] [] J K Q) ∧ (x2 < (12 : Int) → zGo L xs (D + 1) 258 154 [some (zr 142), none, some (zi x2), some (zi 0)] [] J K Q)) :
  zGo L xs (D + 1) 258 146 [some (zr 142), none, some (zi x2), none] [] J K Q :=
  zrun_ok (T := mct258) (o := 12) (ret := (some FieldType.int)) (hs := [(65, [1, 2, 3]), (119, [1, 3]), (146, [1, 3]), (154, [1]), (192, [1, 3]), (200, [1]), (238, [1, 3]), (246, [1]), (284, [1, 3]), (292, [1]), (350, [1, 3]), (378, [1, 3])]) hL rfl 5 _ _ _ _ _ _ _ h
set_option maxRecDepth 30000 in
theorem z258_154 {L : Nat} {xs : Nat → Int32} (hL : L ≤ 3072) {D : Nat} {x2 x3 : Int} {J : zJ} {K : zK} {Q : zR → Nat → zJ → zK → Prop}
  (h : zin x3 ∧ zin 5 ∧ ((5 : Int) ≤ x3 → zGo L xs (D + 1) 258 146 [some (zr 142), none, some (zi (x2 + 1)), none] [] J K Q) ∧ (x3 < (5 : Int) → 0 ≤ x2 ∧ x2 < 24 ∧ 0 ≤ (12 + x2) ∧ (12 + x2) < 24 ∧ 0 ≤ (12 + x2) ∧ (12 + x2) < 24 ∧ 0 ≤ x3 ∧ x3 < 5 ∧ 0 ≤ x2 ∧ x2 < 24 ∧ 0 ≤ x3 ∧ x3 < 5 ∧ zGo L xs (D + 1) 258 154 [some (zr 142), none, some (zi x2), some (zi (x3 + 1))] [] (zup J 145 x2 x3 (J 145 (12 + x2) x3)) K Q)) :
  zGo L xs (D + 1) 258 154 [some (zr 142), none, some (zi x2), some (zi x3)] [] J K Q :=
  zrun_ok (T := mct258) (o := 12) (ret := (some FieldType.int)) (hs := [(65, [1, 2, 3]), (119, [1, 3]), (146, [1, 3]), (154, [1]), (192, [1, 3]), (200, [1]), (238, [1, 3]), (246, [1]), (284, [1, 3]), (292, [1]), (350, [1, 3]), (378, [1, 3])]) hL rfl 19 _ _ _ _ _ _ _ h
set_option maxRecDepth 30000 in
theorem z258_192 {L : Nat} {xs : Nat → Int32} (hL : L ≤ 3072) {D : Nat} {x2 : Int} {J : zJ} {K : zK} {Q : zR → Nat → zJ → zK → Prop}
  (h : zin x2 ∧ zin 8 ∧ ((8 : Int) ≤ x2 → zGo L xs (D + 1) 258 238 [some (zr 142), none, some (zi 0), none] [] J K Q) ∧ (x2 < (8 : Int) → zGo L xs (D + 1) 258 200 [some (zr 142), none, some (zi x2), some (zi 0)] [] J K Q)) :
  zGo L xs (D + 1) 258 192 [some (zr 142), none, some (zi x2), none] [] J K Q :=
  zrun_ok (T := mct258) (o := 12) (ret := (some FieldType.int)) (hs := [(65, [1, 2, 3]), (119, [1, 3]), (146, [1, 3]), (154, [1]), (192, [1, 3]), (200, [1]), (238, [1, 3]), (246, [1]), (284, [1, 3]), (292, [1]), (350, [1, 3]), (378, [1, 3])]) hL rfl 5 _ _ _ _ _ _ _ h
set_option maxRecDepth 30000 in
theorem z258_200 {L : Nat} {xs : Nat → Int32} (hL : L ≤ 3072) {D : Nat} {x2 x3 : Int} {J : zJ} {K : zK} {Q : zR → Nat → zJ → zK → Prop}
  (h : zin x3 ∧ zin 4 ∧ ((4 : Int) ≤ x3 → zGo L xs (D + 1) 258 192 [some (zr 142), none, some (zi (x2 + 1)), none] [] J K Q) ∧ (x3 < (4 : Int) → 0 ≤ x2 ∧ x2 < 16 ∧ 0 ≤ (8 + x2) ∧ (8 + x2) < 16 ∧ 0 ≤ (8 + x2) ∧ (8 + x2) < 16 ∧ 0 ≤ x3 ∧ x3 < 4 ∧ 0 ≤ x2 ∧ x2 < 16 ∧ 0 ≤ x3 ∧ x3 < 4 ∧ zGo L xs (D + 1) 258 200 [some (zr 142), none, some (zi x2), some (zi (x3 + 1))] [] (zup J 170 x2 x3 (J 170 (8 + x2) x3)) K Q)) :
  zGo L xs (D + 1) 258 200 [some (zr 142), none, some (zi x2), some (zi x3)] [] J K Q :=
  zrun_ok (T := mct258) (o := 12) (ret := (some FieldType.int)) (hs := [(65, [1, 2, 3]), (119, [1, 3]), (146, [1, 3]), (154, [1]), (192, [1, 3]), (200, [1]), (238, [1, 3]), (246, [1]), (284, [1, 3]), (292, [1]), (350, [1, 3]), (378, [1, 3])]) hL rfl 19 _ _ _ _ _ _ _ h
set_option maxRecDepth 30000 in
theorem z258_238 {L : Nat} {xs : Nat → Int32} (hL : L ≤ 3072) {D : Nat} {x2 : Int} {J : zJ} {K : zK} {Q : zR → Nat → zJ → zK → Prop}
  (h : zin x2 ∧ zin 8 ∧ ((8 : Int) ≤ x2 → zGo L xs (D + 1) 258 284 [some (zr 142), none, some (zi 0), none] [] J K Q) ∧ (x2 < (8 : Int) → zGo L xs (D + 1) 258 246 [some (zr 142), none, some (zi x2), some (zi 0)] [] J K Q)) :
  zGo L xs (D + 1) 258 238 [some (zr 142), none, some (zi x2), none] [] J K Q :=
  zrun_ok (T := mct258) (o := 12) (ret := (some FieldType.int)) (hs := [(65, [1, 2, 3]), (119, [1, 3]), (146, [1, 3]), (154, [1]), (192, [1, 3]), (200, [1]), (238, [1, 3]), (246, [1]), (284, [1, 3]), (292, [1]), (350, [1, 3]), (378, [1, 3])]) hL rfl 5 _ _ _ _ _ _ _ h
set_option maxRecDepth 30000 in
theorem z258_246 {L : Nat} {xs : Nat → Int32} (hL : L ≤ 3072) {D : Nat} {x2 x3 : Int} {J : zJ} {K : zK} {Q : zR → Nat → zJ → zK → Prop}
  (h : zin x3 ∧ zin 2 ∧ ((2 : Int) ≤ x3 → zGo L xs (D + 1) 258 238 [some (zr 142), none, some (zi (x2 + 1)), none] [] J K Q) ∧ (x3 < (2 : Int) → 0 ≤ x2 ∧ x2 < 16 ∧ 0 ≤ (8 + x2) ∧ (8 + x2) < 16 ∧ 0 ≤ (8 + x2) ∧ (8 + x2) < 16 ∧ 0 ≤ x3 ∧ x3 < 2 ∧ 0 ≤ x2 ∧ x2 < 16 ∧ 0 ≤ x3 ∧ x3 < 2 ∧ zGo L xs (D + 1) 258 246 [some (zr 142), none, some (zi x2), some (zi (x3 + 1))] [] (zup J 187 x2 x3 (J 187 (8 + x2) x3)) K Q)) :
  zGo L xs (D + 1) 258 246 [some (zr 142), none, some (zi x2), some (zi x3)] [] J K Q :=
  zrun_ok (T := mct258) (o := 12) (ret := (some FieldType.int)) (hs := [(65, [1, 2, 3]), (119, [1, 3]), (146, [1, 3]), (154, [1]), (192, [1, 3]), (200, [1]), (238, [1, 3]), (246, [1]), (284, [1, 3]), (292, [1]), (350, [1, 3]), (378, [1, 3])]) hL rfl 19 _ _ _ _ _ _ _ h
set_option maxRecDepth 30000 in
theorem z258_284 {L : Nat} {xs : Nat → Int32} (hL : L ≤ 3072) {D : Nat} {x2 : Int} {J : zJ} {K : zK} {Q : zR → Nat → zJ → zK → Prop}
  (h : zin x2 ∧ zin 12 ∧ ((12 : Int) ≤ x2 → ((1 : Int) = 0 ∨ (1 : Int) = 1) ∧ zGo L xs (D + 1) 258 350 [some (zr 142), none, some (zi 0), none] [] (zup (zup (zup (zup J 142 0 14 1) 142 0 15 0) 142 0 16 0) 142 0 17 0) K Q) ∧ (x2 < (12 : Int) → zGo L xs (D + 1) 258 292 [some (zr 142), none, some (zi x2), some (zi 0)] [] J K Q)) :
  zGo L xs (D + 1) 258 284 [some (zr 142), none, some (zi x2), none] [] J K Q :=
  zrun_ok (T := mct258) (o := 12) (ret := (some FieldType.int)) (hs := [(65, [1, 2, 3]), (119, [1, 3]), (146, [1, 3]), (154, [1]), (192, [1, 3]), (200, [1]), (238, [1, 3]), (246, [1]), (284, [1, 3]), (292, [1]), (350, [1, 3]), (378, [1, 3])]) hL rfl 17 _ _ _ _ _ _ _ h
set_option maxRecDepth 30000 in
theorem z258_292 {L : Nat} {xs : Nat → Int32} (hL : L ≤ 3072) {D : Nat} {x2 x3 : Int} {J : zJ} {K : zK} {Q : zR → Nat → zJ → zK → Prop}
  (h : zin x3 ∧ zin 3 ∧ ((3 : Int) ≤ x3 → zGo L xs (D + 1) 258 284 [some (zr 142), none, some (zi (x2 + 1)), none] [] J K Q) ∧ (x3 < (3 : Int) → 0 ≤ x2 ∧ x2 < 24 ∧ 0 ≤ (12 + x2) ∧ (12 + x2) < 24 ∧ 0 ≤ (12 + x2) ∧ (12 + x2) < 24 ∧ 0 ≤ x3 ∧ x3 < 3 ∧ 0 ≤ x2 ∧ x2 < 24 ∧ 0 ≤ x3 ∧ x3 < 3 ∧ zGo L xs (D + 1) 258 292 [some (zr 142), none, some (zi x2), some (zi (x3 + 1))] [] (zup J 204 x2 x3 (J 204 (12 + x2) x3)) K Q)) :
  zGo L xs (D + 1) 258 292 [some (zr 142), none, some (zi x2), some (zi x3)] [] J K Q :=
  zrun_ok (T := mct258) (o := 12) (ret := (some FieldType.int)) (hs := [(65, [1, 2, 3]), (119, [1, 3]), (146, [1, 3]), (154, [1]), (192, [1, 3]), (200, [1]), (238, [1, 3]), (246, [1]), (284, [1, 3]), (292, [1]), (350, [1, 3]), (378, [1, 3])]) hL rfl 19 _ _ _ _ _ _ _ h
set_option maxRecDepth 30000 in
theorem z258_350 {L : Nat} {xs : Nat → Int32} (hL : L ≤ 3072) {D : Nat} {x2 : Int} {J : zJ} {K : zK} {Q : zR → Nat → zJ → zK → Prop}
  (h : zin x2 ∧ zin 12 ∧ ((12 : Int) ≤ x2 → zGo L xs (D + 1) 258 378 [some (zr 142), none, some (zi 0), none] [] J K Q) ∧ (x2 < (12 : Int) → 0 ≤ x2 ∧ x2 < 12 ∧ 0 ≤ x2 ∧ x2 < 12 ∧ zGo L xs (D + 1) 258 350 [some (zr 142), none, some (zi (x2 + 1)), none] [] (zup (zup J 236 0 x2 0) 237 0 x2 0) K Q)) :
  zGo L xs (D + 1) 258 350 [some (zr 142), none, some (zi x2), none] [] J K Q :=
  zrun_ok (T := mct258) (o := 12) (ret := (some FieldType.int)) (hs := [(65, [1, 2, 3]), (119, [1, 3]), (146, [1, 3]), (154, [1]), (192, [1, 3]), (200, [1]), (238, [1, 3]), (246, [1]), (284, [1, 3]), (292, [1]), (350, [1, 3]), (378, [1, 3])]) hL rfl 15 _ _ _ _ _ _ _ h
set_option maxRecDepth 30000 in
theorem z258_378 {L : Nat} {xs : Nat → Int32} (hL : L ≤ 3072) {D : Nat} {x2 : Int} {J : zJ} {K : zK} {Q : zR → Nat → zJ → zK → Prop}
  (h : zin x2 ∧ zin 8 ∧ ((8 : Int) ≤ x2 → 0 ≤ (0 : Int) ∧ (0 : Int) < 8 ∧ Q (.inl (some (zi (J 144 0 0)))) 0 J K) ∧ (x2 < (8 : Int) → 0 ≤ x2 ∧ x2 < 8 ∧ 0 ≤ x2 ∧ x2 < 8 ∧ zGo L xs (D + 1) 258 378 [some (zr 142), none, some (zi (x2 + 1)), none] [] (zup (zup J 238 0 x2 1080) 239 0 x2 127) K Q)) :
  zGo L xs (D + 1) 258 378 [some (zr 142), none, some (zi x2), none] [] J K Q :=
  zrun_ok (T := mct258) (o := 12) (ret := (some FieldType.int)) (hs := [(65, [1, 2, 3]), (119, [1, 3]), (146, [1, 3]), (154, [1]), (192, [1, 3]), (200, [1]), (238, [1, 3]), (246, [1]), (284, [1, 3]), (292, [1]), (350, [1, 3]), (378, [1, 3])]) hL rfl 15 _ _ _ _ _ _ _ h
/-! PartingTrainsModel.leastOf -/
set_option maxRecDepth 30000 in
theorem z259 {L : Nat} {xs : Nat → Int32} (hL : L ≤ 3072) {D : Nat} {x1 : Int} {J : zJ} {K : zK} {Q : zR → Nat → zJ → zK → Prop}
  (h : zGo L xs (D + 1) 259 5 [some (zr 142), some (zi x1), some (zi 8), some (zi 0)] [] J K Q) :
  zCall L xs (D + 1) 259 [zr 142, zi x1] J K Q :=
  zrun_ok (T := mct259) (o := 12) (ret := (some FieldType.int)) (hs := [(5, [])]) hL rfl 4 _ _ _ _ _ _ _ h
set_option maxRecDepth 30000 in
theorem z259_5 {L : Nat} {xs : Nat → Int32} (hL : L ≤ 3072) {D : Nat} {x1 x2 x3 : Int} {J : zJ} {K : zK} {Q : zR → Nat → zJ → zK → Prop}
  (h : 0 ≤ x1 ∧ x1 < 8 ∧ zin x3 ∧ zin (J 550 0 x1) ∧ ((J 550 0 x1) ≤ x3 → Q (.inl (some (zi x2))) 0 J K) ∧ (x3 < (J 550 0 x1) → 0 ≤ x1 ∧ x1 < 8 ∧ 0 ≤ x1 ∧ x1 < 8 ∧ 0 ≤ x3 ∧ x3 < 8 ∧ zCall L xs D 261 [zi x2, zi (J 541 x1 x3)] J K fun r1 e1 J1 K1 => zaI r1 e1 (fun x1_ => zGo L xs (D + 1) 259 5 [some (zr 142), some (zi x1), some (zi x1_), some (zi (x3 + 1))] [] J1 K1 Q) (fun E => Q (.inr E) e1 J1 K1))) :
  zGo L xs (D + 1) 259 5 [some (zr 142), some (zi x1), some (zi x2), some (zi x3)] [] J K Q :=
  zrun_ok (T := mct259) (o := 12) (ret := (some FieldType.int)) (hs := [(5, [])]) hL rfl 17 _ _ _ _ _ _ _ h
/-! PartingTrainsModel.lengthOf -/
set_option maxRecDepth 30000 in
theorem z260 {L : Nat} {xs : Nat → Int32} (hL : L ≤ 3072) {D : Nat} {x2 x3 x1 : Int} {J : zJ} {K : zK} {Q : zR → Nat → zJ → zK → Prop}
  (h : zGo L xs (D + 1) 260 6 [some (zr 142), some (zw 229 x1), none, some (zi x3), some (zi 0), some (zi x2)] [] J K Q) :
  zCall L xs (D + 1) 260 [zr 142, zw 229 x1, zi x2, zi x3] J K Q :=
  zrun_ok (T := mct260) (o := 12) (ret := (some FieldType.int)) (hs := [(6, [2])]) hL rfl 4 _ _ _ _ _ _ _ h
set_option maxRecDepth 30000 in
theorem z260_6 {L : Nat} {xs : Nat → Int32} (hL : L ≤ 3072) {D : Nat} {x3 x4 x5 x1 : Int} {J : zJ} {K : zK} {Q : zR → Nat → zJ → zK → Prop}
  (h : zin x5 ∧ zin x3 ∧ (x3 ≤ x5 → Q (.inl (some (zi x4))) 0 J K) ∧ (x5 < x3 → 0 ≤ x1 ∧ x1 < 4 ∧ 0 ≤ x5 ∧ x5 < 8 ∧ 0 ≤ (J 229 x1 x5) ∧ (J 229 x1 x5) < 16 ∧ 0 ≤ (J 229 x1 x5) ∧ (J 229 x1 x5) < 16 ∧ 0 ≤ (1 : Int) ∧ (1 : Int) < 4 ∧ zGo L xs (D + 1) 260 6 [some (zr 142), some (zw 229 x1), none, some (zi x3), some (zi (x4 + (J 170 (J 229 x1 x5) 1))), some (zi (x5 + 1))] [] J K Q)) :
  zGo L xs (D + 1) 260 6 [some (zr 142), some (zw 229 x1), none, some (zi x3), some (zi x4), some (zi x5)] [] J K Q :=
  zrun_ok (T := mct260) (o := 12) (ret := (some FieldType.int)) (hs := [(6, [2])]) hL rfl 16 _ _ _ _ _ _ _ h
/-! PartingTrainsModel.lengthOf -/
set_option maxRecDepth 30000 in
theorem z260a {L : Nat} {xs : Nat → Int32} (hL : L ≤ 3072) {D : Nat} {x2 x3 x1 : Int} {J : zJ} {K : zK} {Q : zR → Nat → zJ → zK → Prop}
  (h : zGo L xs (D + 1) 260 6 [some (zr 142), some (zw 541 x1), none, some (zi x3), some (zi 0), some (zi x2)] [] J K Q) :
  zCall L xs (D + 1) 260 [zr 142, zw 541 x1, zi x2, zi x3] J K Q :=
  zrun_ok (T := mct260) (o := 12) (ret := (some FieldType.int)) (hs := [(6, [2])]) hL rfl 4 _ _ _ _ _ _ _ h
set_option maxRecDepth 30000 in
theorem z260a_6 {L : Nat} {xs : Nat → Int32} (hL : L ≤ 3072) {D : Nat} {x3 x4 x5 x1 : Int} {J : zJ} {K : zK} {Q : zR → Nat → zJ → zK → Prop}
  (h : zin x5 ∧ zin x3 ∧ (x3 ≤ x5 → Q (.inl (some (zi x4))) 0 J K) ∧ (x5 < x3 → 0 ≤ x1 ∧ x1 < 8 ∧ 0 ≤ x5 ∧ x5 < 8 ∧ 0 ≤ (J 541 x1 x5) ∧ (J 541 x1 x5) < 16 ∧ 0 ≤ (J 541 x1 x5) ∧ (J 541 x1 x5) < 16 ∧ 0 ≤ (1 : Int) ∧ (1 : Int) < 4 ∧ zGo L xs (D + 1) 260 6 [some (zr 142), some (zw 541 x1), none, some (zi x3), some (zi (x4 + (J 170 (J 541 x1 x5) 1))), some (zi (x5 + 1))] [] J K Q)) :
  zGo L xs (D + 1) 260 6 [some (zr 142), some (zw 541 x1), none, some (zi x3), some (zi x4), some (zi x5)] [] J K Q :=
  zrun_ok (T := mct260) (o := 12) (ret := (some FieldType.int)) (hs := [(6, [2])]) hL rfl 16 _ _ _ _ _ _ _ h
/-! PartingTrainsModel.less -/
set_option maxRecDepth 30000 in
theorem z261 {L : Nat} {xs : Nat → Int32} (hL : L ≤ 3072) {D : Nat} {x0 x1 : Int} {J : zJ} {K : zK} {Q : zR → Nat → zJ → zK → Prop}
  (h : zin x0 ∧ zin x1 ∧ (x1 ≤ x0 → Q (.inl (some (zi x1))) 0 J K) ∧ (x0 < x1 → Q (.inl (some (zi x0))) 0 J K)) :
  zCall L xs (D + 1) 261 [zi x0, zi x1] J K Q :=
  zrun_ok (T := mct261) (o := 12) (ret := (some FieldType.int)) (hs := []) hL rfl 6 _ _ _ _ _ _ _ h
/-! PartingTrainsModel.light -/
set_option maxRecDepth 30000 in
theorem z262 {L : Nat} {xs : Nat → Int32} (hL : L ≤ 3072) {D : Nat} {x1 x2 : Int} {J : zJ} {K : zK} {Q : zR → Nat → zJ → zK → Prop}
  (h : zCall L xs D 240 [zi x1, zi 1, zi 3] (zup J 142 0 0 0) K fun r1 e1 J1 K1 => zaI r1 e1 (fun x1_ => zin x1_ ∧ (x1_ = (0 : Int) → zCall L xs D 195 [zr 142, zi 1, zi 1] J1 K1 fun r2 e2 J2 K2 => zaI r2 e2 (fun x2_ => zin x2_ ∧ (x2_ = (0 : Int) → zGo L xs (D + 1) 262 46 [some (zr 142), some (zi x1), some (zi x2), some (zi (-1)), some (zi 0), some (zi 1), none] [] J2 K2 Q) ∧ (x2_ ≠ (0 : Int) → Q (.inl (some (zi 0))) 0 J2 K2)) (fun E => Q (.inr E) e2 J2 K2)) ∧ (x1_ ≠ (0 : Int) → zCall L xs D 240 [zi x2, zi 0, zi 1] J1 K1 fun r3 e3 J3 K3 => zaI r3 e3 (fun x3_ => zin x3_ ∧ (x3_ ≠ (0 : Int) → zCall L xs D 195 [zr 142, zi 0, zi 1] J3 K3 fun r4 e4 J4 K4 => zaI r4 e4 (fun x4_ => zin x4_ ∧ (x4_ = (0 : Int) → zGo L xs (D + 1) 262 46 [some (zr 142), some (zi x1), some (zi x2), some (zi (-1)), some (zi 0), some (zi 1), none] [] J4 K4 Q) ∧ (x4_ ≠ (0 : Int) → Q (.inl (some (zi 0))) 0 J4 K4)) (fun E => Q (.inr E) e4 J4 K4)) ∧ (x3_ = (0 : Int) → zCall L xs D 195 [zr 142, zi 1, zi 1] J3 K3 fun r5 e5 J5 K5 => zaI r5 e5 (fun x5_ => zin x5_ ∧ (x5_ = (0 : Int) → zGo L xs (D + 1) 262 46 [some (zr 142), some (zi x1), some (zi x2), some (zi (-1)), some (zi 0), some (zi 1), none] [] J5 K5 Q) ∧ (x5_ ≠ (0 : Int) → Q (.inl (some (zi 0))) 0 J5 K5)) (fun E => Q (.inr E) e5 J5 K5))) (fun E => Q (.inr E) e3 J3 K3))) (fun E => Q (.inr E) e1 J1 K1)) :
  zCall L xs (D + 1) 262 [zr 142, zi x1, zi x2] J K Q :=
  zrun_ok (T := mct262) (o := 12) (ret := (some FieldType.int)) (hs := [(46, [6])]) hL rfl 25 _ _ _ _ _ _ _ h
set_option maxRecDepth 30000 in
theorem z262_46 {L : Nat} {xs : Nat → Int32} (hL : L ≤ 3072) {D : Nat} {x1 x2 x3 x4 x5 : Int} {J : zJ} {K : zK} {Q : zR → Nat → zJ → zK → Prop}
  (h : 0 ≤ (0 : Int) ∧ (0 : Int) < 8 ∧ 0 ≤ (J 144 0 0) ∧ (J 144 0 0) < 32 ∧ zin x5 ∧ zin (1 * 2 ^ ((J 144 0 0).toNat)) ∧ ((1 * 2 ^ ((J 144 0 0).toNat)) ≤ x5 → zin x3 ∧ zin (-1) ∧ (x3 ≠ (-1 : Int) → zin x2 ∧ (x2 ≠ (0 : Int) → Q (.inl (some (zi x3))) 0 J K) ∧ (x2 = (0 : Int) → Q (.inl (some (zi x4))) 0 J K)) ∧ (x3 = (-1 : Int) → Q (.inl (some (zi (-1)))) 0 J K)) ∧ (x5 < (1 * 2 ^ ((J 144 0 0).toNat)) → zCall L xs D 274 [zi x5] J K fun r1 e1 J1 K1 => zaI r1 e1 (fun x1_ => zin x1_ ∧ zin x1 ∧ (x1_ = x1 → zCall L xs D 263 [zr 142, zi x5] J1 K1 fun r2 e2 J2 K2 => zaI r2 e2 (fun x2_ => zin x3 ∧ zin (-1) ∧ (x3 = (-1 : Int) → zGo L xs (D + 1) 262 46 [some (zr 142), some (zi x1), some (zi x2), some (zi x5), some (zi x2_), some (zi (x5 + 1)), none] [] J2 K2 Q) ∧ (x3 ≠ (-1 : Int) → zin x2_ ∧ zin x4 ∧ (x4 < x2_ → zGo L xs (D + 1) 262 46 [some (zr 142), some (zi x1), some (zi x2), some (zi x3), some (zi x4), some (zi (x5 + 1)), none] [] J2 K2 Q) ∧ (x2_ ≤ x4 → zin x2_ ∧ zin x4 ∧ (x2_ ≠ x4 → zGo L xs (D + 1) 262 46 [some (zr 142), some (zi x1), some (zi x2), some (zi x5), some (zi x2_), some (zi (x5 + 1)), none] [] J2 K2 Q) ∧ (x2_ = x4 → zCall L xs D 250 [zi x5, zi x3] J2 K2 fun r3 e3 J3 K3 => zaI r3 e3 (fun x3_ => zin x3_ ∧ (x3_ ≠ (0 : Int) → zGo L xs (D + 1) 262 46 [some (zr 142), some (zi x1), some (zi x2), some (zi x5), some (zi x2_), some (zi (x5 + 1)), none] [] J3 K3 Q) ∧ (x3_ = (0 : Int) → zGo L xs (D + 1) 262 46 [some (zr 142), some (zi x1), some (zi x2), some (zi x3), some (zi x4), some (zi (x5 + 1)), none] [] J3 K3 Q)) (fun E => Q (.inr E) e3 J3 K3))))) (fun E => Q (.inr E) e2 J2 K2)) ∧ (x1_ ≠ x1 → zGo L xs (D + 1) 262 46 [some (zr 142), some (zi x1), some (zi x2), some (zi x3), some (zi x4), some (zi (x5 + 1)), none] [] J1 K1 Q)) (fun E => Q (.inr E) e1 J1 K1))) :
  zGo L xs (D + 1) 262 46 [some (zr 142), some (zi x1), some (zi x2), some (zi x3), some (zi x4), some (zi x5), none] [] J K Q :=
  zrun_ok (T := mct262) (o := 12) (ret := (some FieldType.int)) (hs := [(46, [6])]) hL rfl 35 _ _ _ _ _ _ _ h
/-! PartingTrainsModel.lightOf -/
set_option maxRecDepth 30000 in
theorem z263 {L : Nat} {xs : Nat → Int32} (hL : L ≤ 3072) {D : Nat} {x1 : Int} {J : zJ} {K : zK} {Q : zR → Nat → zJ → zK → Prop}
  (h : zGo L xs (D + 1) 263 4 [some (zr 142), some (zi x1), some (zi 0), some (zi 0), none, none] [] J K Q) :
  zCall L xs (D + 1) 263 [zr 142, zi x1] J K Q :=
  zrun_ok (T := mct263) (o := 12) (ret := (some FieldType.int)) (hs := [(4, [4, 5]), (31, [])]) hL rfl 4 _ _ _ _ _ _ _ h
set_option maxRecDepth 30000 in
theorem z263_4 {L : Nat} {xs : Nat → Int32} (hL : L ≤ 3072) {D : Nat} {x1 x2 x3 : Int} {J : zJ} {K : zK} {Q : zR → Nat → zJ → zK → Prop}
  (h : 0 ≤ (0 : Int) ∧ (0 : Int) < 8 ∧ zin x3 ∧ zin (J 144 0 0) ∧ ((J 144 0 0) ≤ x3 → Q (.inl (some (zi x2))) 0 J K) ∧ (x3 < (J 144 0 0) → zCall L xs D 245 [zr 142, zi x3] J K fun r1 e1 J1 K1 => zaI r1 e1 (fun x1_ => zin x1_ ∧ (x1_ ≠ (0 : Int) → zGo L xs (D + 1) 263 31 [some (zr 142), some (zi x1), some (zi x2), some (zi x3), some (zi (-1)), some (zi 0)] [] J1 K1 Q) ∧ (x1_ = (0 : Int) → zGo L xs (D + 1) 263 4 [some (zr 142), some (zi x1), some (zi x2), some (zi (x3 + 1)), none, none] [] J1 K1 Q)) (fun E => Q (.inr E) e1 J1 K1))) :
  zGo L xs (D + 1) 263 4 [some (zr 142), some (zi x1), some (zi x2), some (zi x3), none, none] [] J K Q :=
  zrun_ok (T := mct263) (o := 12) (ret := (some FieldType.int)) (hs := [(4, [4, 5]), (31, [])]) hL rfl 14 _ _ _ _ _ _ _ h
set_option maxRecDepth 30000 in
theorem z263_31 {L : Nat} {xs : Nat → Int32} (hL : L ≤ 3072) {D : Nat} {x1 x2 x3 x4 x5 : Int} {J : zJ} {K : zK} {Q : zR → Nat → zJ → zK → Prop}
  (h : 0 ≤ (0 : Int) ∧ (0 : Int) < 8 ∧ zin x5 ∧ zin (J 144 0 0) ∧ ((J 144 0 0) ≤ x5 → zGo L xs (D + 1) 263 4 [some (zr 142), some (zi x1), some (zi (x2 + x4)), some (zi (x3 + 1)), none, none] [] J K Q) ∧ (x5 < (J 144 0 0) → zin x1 ∧ 0 ≤ x5 ∧ x5 < 32 ∧ zin (zand (x1 / 2 ^ (x5.toNat)) 1) ∧ zin 1 ∧ ((zand (x1 / 2 ^ (x5.toNat)) 1) ≠ (1 : Int) → zGo L xs (D + 1) 263 31 [some (zr 142), some (zi x1), some (zi x2), some (zi x3), some (zi x4), some (zi (x5 + 1))] [] J K Q) ∧ ((zand (x1 / 2 ^ (x5.toNat)) 1) = (1 : Int) → zin x4 ∧ zin (-1) ∧ (x4 ≠ (-1 : Int) → zCall L xs D 304 [zr 142, zi x3, zi x5] J K fun r1 e1 J1 K1 => zaI r1 e1 (fun x1_ => zCall L xs D 261 [zi x4, zi x1_] J1 K1 fun r2 e2 J2 K2 => zaI r2 e2 (fun x2_ => zGo L xs (D + 1) 263 31 [some (zr 142), some (zi x1), some (zi x2), some (zi x3), some (zi x2_), some (zi (x5 + 1))] [] J2 K2 Q) (fun E => Q (.inr E) e2 J2 K2)) (fun E => Q (.inr E) e1 J1 K1)) ∧ (x4 = (-1 : Int) → zCall L xs D 304 [zr 142, zi x3, zi x5] J K fun r3 e3 J3 K3 => zaI r3 e3 (fun x3_ => zGo L xs (D + 1) 263 31 [some (zr 142), some (zi x1), some (zi x2), some (zi x3), some (zi x3_), some (zi (x5 + 1))] [] J3 K3 Q) (fun E => Q (.inr E) e3 J3 K3))))) :
  zGo L xs (D + 1) 263 31 [some (zr 142), some (zi x1), some (zi x2), some (zi x3), some (zi x4), some (zi x5)] [] J K Q :=
  zrun_ok (T := mct263) (o := 12) (ret := (some FieldType.int)) (hs := [(4, [4, 5]), (31, [])]) hL rfl 25 _ _ _ _ _ _ _ h
/-! PartingTrainsModel.makes -/
set_option maxRecDepth 30000 in
theorem z264 {L : Nat} {xs : Nat → Int32} (hL : L ≤ 3072) {D : Nat} {x1 x2 : Int} {J : zJ} {K : zK} {Q : zR → Nat → zJ → zK → Prop}
  (h : zGo L xs (D + 1) 264 5 [some (zr 142), some (zi x1), some (zi x2), some (zi x1), some (zi 0), none, none] [] J K Q) :
  zCall L xs (D + 1) 264 [zr 142, zi x1, zi x2] J K Q :=
  zrun_ok (T := mct264) (o := 12) (ret := none) (hs := [(5, [5, 6]), (61, [1, 5, 6]), (115, [1, 2, 3, 6])]) hL rfl 4 _ _ _ _ _ _ _ h
set_option maxRecDepth 30000 in
theorem z264_5 {L : Nat} {xs : Nat → Int32} (hL : L ≤ 3072) {D : Nat} {x1 x2 x3 x4 : Int} {J : zJ} {K : zK} {Q : zR → Nat → zJ → zK → Prop}
  (h : 0 ≤ (1 : Int) ∧ (1 : Int) < 8 ∧ zin x4 ∧ zin (J 144 0 1) ∧ ((J 144 0 1) ≤ x4 → zGo L xs (D + 1) 264 61 [some (zr 142), none, some (zi x2), some (zi x3), some (zi (zand x1 (zxor x3 (-1)))), none, none] [] J K Q) ∧ (x4 < (J 144 0 1) → zin x1 ∧ 0 ≤ x4 ∧ x4 < 32 ∧ zin (zand (x1 / 2 ^ (x4.toNat)) 1) ∧ zin 1 ∧ ((zand (x1 / 2 ^ (x4.toNat)) 1) ≠ (1 : Int) → zGo L xs (D + 1) 264 5 [some (zr 142), some (zi x1), some (zi x2), some (zi x3), some (zi (x4 + 1)), none, none] [] J K Q) ∧ ((zand (x1 / 2 ^ (x4.toNat)) 1) = (1 : Int) → 0 ≤ x4 ∧ x4 < 16 ∧ 0 ≤ x4 ∧ x4 < 16 ∧ 0 ≤ (0 : Int) ∧ (0 : Int) < 4 ∧ zin (J 170 x4 0) ∧ zin x2 ∧ ((J 170 x4 0) ≠ x2 → zGo L xs (D + 1) 264 5 [some (zr 142), some (zi x1), some (zi x2), some (zi x3), some (zi (x4 + 1)), none, none] [] J K Q) ∧ ((J 170 x4 0) = x2 → 0 ≤ x4 ∧ x4 < 32 ∧ zGo L xs (D + 1) 264 5 [some (zr 142), some (zi x1), some (zi x2), some (zi (zand x3 (zxor (1 * 2 ^ (x4.toNat)) (-1)))), some (zi (x4 + 1)), none, none] [] J K Q)))) :
  zGo L xs (D + 1) 264 5 [some (zr 142), some (zi x1), some (zi x2), some (zi x3), some (zi x4), none, none] [] J K Q :=
  zrun_ok (T := mct264) (o := 12) (ret := none) (hs := [(5, [5, 6]), (61, [1, 5, 6]), (115, [1, 2, 3, 6])]) hL rfl 31 _ _ _ _ _ _ _ h
set_option maxRecDepth 30000 in
theorem z264_61 {L : Nat} {xs : Nat → Int32} (hL : L ≤ 3072) {D : Nat} {x2 x3 x4 : Int} {J : zJ} {K : zK} {Q : zR → Nat → zJ → zK → Prop}
  (h : zin x3 ∧ (x3 = (0 : Int) → zGo L xs (D + 1) 264 115 [some (zr 142), none, none, none, some (zi x4), some (zi 0), none] [] J K Q) ∧ (x3 ≠ (0 : Int) → zCall L xs D 237 [zr 142, zi x3, zi x2] J K fun r1 e1 J1 K1 => zaI r1 e1 (fun x1_ => 0 ≤ x1_ ∧ x1_ < 16 ∧ 0 ≤ x1_ ∧ x1_ < 16 ∧ 0 ≤ (0 : Int) ∧ (0 : Int) < 4 ∧ zCall L xs D 300 [zr 142, zi x2, zi (J1 170 x1_ 0)] J1 K1 fun r2 e2 J2 K2 => zaI r2 e2 (fun x2_ => zCall L xs D 232 [zr 142, zi x3, zi x2_] J2 K2 fun r3 e3 J3 K3 => zaI r3 e3 (fun x3_ => zCall L xs D 264 [zr 142, zi x3_, zi x2_] J3 K3 fun r4 e4 J4 K4 => zaV r4 e4 (zGo L xs (D + 1) 264 61 [some (zr 142), none, some (zi x2), some (zi (zand x3 (zxor x3_ (-1)))), some (zi x4), none, none] [] J4 K4 Q) (fun E => Q (.inr E) e4 J4 K4)) (fun E => Q (.inr E) e3 J3 K3)) (fun E => Q (.inr E) e2 J2 K2)) (fun E => Q (.inr E) e1 J1 K1))) :
  zGo L xs (D + 1) 264 61 [some (zr 142), none, some (zi x2), some (zi x3), some (zi x4), none, none] [] J K Q :=
  zrun_ok (T := mct264) (o := 12) (ret := none) (hs := [(5, [5, 6]), (61, [1, 5, 6]), (115, [1, 2, 3, 6])]) hL rfl 31 _ _ _ _ _ _ _ h
set_option maxRecDepth 30000 in
theorem z264_115 {L : Nat} {xs : Nat → Int32} (hL : L ≤ 3072) {D : Nat} {x4 x5 : Int} {J : zJ} {K : zK} {Q : zR → Nat → zJ → zK → Prop}
  (h : 0 ≤ (1 : Int) ∧ (1 : Int) < 8 ∧ zin x5 ∧ zin (J 144 0 1) ∧ ((J 144 0 1) ≤ x5 → Q (.inl none) 0 J K) ∧ (x5 < (J 144 0 1) → zin x4 ∧ 0 ≤ x5 ∧ x5 < 32 ∧ zin (zand (x4 / 2 ^ (x5.toNat)) 1) ∧ ((zand (x4 / 2 ^ (x5.toNat)) 1) ≠ (0 : Int) → 0 ≤ (J 142 0 37) ∧ (J 142 0 37) < 8 ∧ zGo L xs (D + 1) 264 115 [some (zr 142), none, none, none, some (zi x4), some (zi (x5 + 1)), none] [] (zup (zup J 533 0 (J 142 0 37) x5) 142 0 37 ((J 142 0 37) + 1)) K Q) ∧ ((zand (x4 / 2 ^ (x5.toNat)) 1) = (0 : Int) → zGo L xs (D + 1) 264 115 [some (zr 142), none, none, none, some (zi x4), some (zi (x5 + 1)), none] [] J K Q))) :
  zGo L xs (D + 1) 264 115 [some (zr 142), none, none, none, some (zi x4), some (zi x5), none] [] J K Q :=
  zrun_ok (T := mct264) (o := 12) (ret := none) (hs := [(5, [5, 6]), (61, [1, 5, 6]), (115, [1, 2, 3, 6])]) hL rfl 26 _ _ _ _ _ _ _ h
/-! PartingTrainsModel.makesFirst -/
set_option maxRecDepth 30000 in
theorem z265 {L : Nat} {xs : Nat → Int32} (hL : L ≤ 3072) {D : Nat} {x1 : Int} {J : zJ} {K : zK} {Q : zR → Nat → zJ → zK → Prop}
  (h : zin x1 ∧ (x1 = (0 : Int) → Q (.inl none) 0 (zup J 142 0 37 0) K) ∧ (x1 ≠ (0 : Int) → zCall L xs D 264 [zr 142, zi x1, zi 0] (zup J 142 0 37 0) K fun r1 e1 J1 K1 => zaV r1 e1 (Q (.inl none) 0 J1 K1) (fun E => Q (.inr E) e1 J1 K1))) :
  zCall L xs (D + 1) 265 [zr 142, zi x1] J K Q :=
  zrun_ok (T := mct265) (o := 12) (ret := none) (hs := []) hL rfl 10 _ _ _ _ _ _ _ h
/-! PartingTrainsModel.mean -/
set_option maxRecDepth 30000 in
theorem z266 {L : Nat} {xs : Nat → Int32} (hL : L ≤ 3072) {D : Nat} {J : zJ} {K : zK} {Q : zR → Nat → zJ → zK → Prop}
  (h : zCall L xs D 267 [zr 142] (zup J 142 0 0 0) K fun r1 e1 J1 K1 => zaL r1 e1 (fun x1_ => Q (.inl (some (zl x1_))) 0 J1 K1) (fun E => Q (.inr E) e1 J1 K1)) :
  zCall L xs (D + 1) 266 [zr 142] J K Q :=
  zrun_ok (T := mct266) (o := 12) (ret := (some FieldType.long)) (hs := []) hL rfl 6 _ _ _ _ _ _ _ h
/-! PartingTrainsModel.meanNow -/
set_option maxRecDepth 30000 in
theorem z267 {L : Nat} {xs : Nat → Int32} (hL : L ≤ 3072) {D : Nat} {J : zJ} {K : zK} {Q : zR → Nat → zJ → zK → Prop}
  (h : zGo L xs (D + 1) 267 4 [some (zr 142), some (zl 0), none, some (zi 0), none, none, none, none, none] [] J K Q) :
  zCall L xs (D + 1) 267 [zr 142] J K Q :=
  zrun_ok (T := mct267) (o := 12) (ret := (some FieldType.long)) (hs := [(4, [2, 4, 5, 6, 7, 8]), (25, [2, 5, 8]), (51, [2, 5, 8]), (75, [2, 5, 6]), (79, [2, 5, 6]), (80, [2, 5, 6]), (127, [2, 4, 5, 8]), (130, [2, 5, 8]), (153, [2, 4, 5, 6, 7, 8])]) hL rfl 4 _ _ _ _ _ _ _ h
set_option maxRecDepth 30000 in
theorem z267_4 {L : Nat} {xs : Nat → Int32} (hL : L ≤ 3072) {D : Nat} {x1 x3 : Int} {J : zJ} {K : zK} {Q : zR → Nat → zJ → zK → Prop}
  (h : 0 ≤ (1 : Int) ∧ (1 : Int) < 8 ∧ 0 ≤ (J 144 0 1) ∧ (J 144 0 1) < 32 ∧ zin x3 ∧ zin (1 * 2 ^ ((J 144 0 1).toNat)) ∧ ((1 * 2 ^ ((J 144 0 1).toNat)) ≤ x3 → Q (.inl (some (zl x1))) 0 J K) ∧ (x3 < (1 * 2 ^ ((J 144 0 1).toNat)) → zGo L xs (D + 1) 267 25 [some (zr 142), some (zl x1), none, some (zi x3), some (zl 1), none, some (zi 1), some (zi 0), none] [] J K Q)) :
  zGo L xs (D + 1) 267 4 [some (zr 142), some (zl x1), none, some (zi x3), none, none, none, none, none] [] J K Q :=
  zrun_ok (T := mct267) (o := 12) (ret := (some FieldType.long)) (hs := [(4, [2, 4, 5, 6, 7, 8]), (25, [2, 5, 8]), (51, [2, 5, 8]), (75, [2, 5, 6]), (79, [2, 5, 6]), (80, [2, 5, 6]), (127, [2, 4, 5, 8]), (130, [2, 5, 8]), (153, [2, 4, 5, 6, 7, 8])]) hL rfl 14 _ _ _ _ _ _ _ h
set_option maxRecDepth 30000 in
theorem z267_25 {L : Nat} {xs : Nat → Int32} (hL : L ≤ 3072) {D : Nat} {x1 x3 x4 x6 x7 : Int} {J : zJ} {K : zK} {Q : zR → Nat → zJ → zK → Prop}
  (h : 0 ≤ (1 : Int) ∧ (1 : Int) < 8 ∧ zin x7 ∧ zin (J 144 0 1) ∧ ((J 144 0 1) ≤ x7 → zin x6 ∧ (x6 = (0 : Int) → zGo L xs (D + 1) 267 153 [some (zr 142), some (zl x1), none, some (zi x3), none, none, none, none, none] [] J K Q) ∧ (x6 ≠ (0 : Int) → zCall L xs D 236 [zr 142, zi x3] J K fun r1 e1 J1 K1 => zaI r1 e1 (fun x1_ => zin x1_ ∧ zGo L xs (D + 1) 267 153 [some (zr 142), some (zl (x1 + (x4 * x1_))), none, some (zi x3), none, none, none, none, none] [] J1 K1 Q) (fun E => Q (.inr E) e1 J1 K1))) ∧ (x7 < (J 144 0 1) → zin x3 ∧ 0 ≤ x7 ∧ x7 < 32 ∧ zin (zand (x3 / 2 ^ (x7.toNat)) 1) ∧ zin 1 ∧ ((zand (x3 / 2 ^ (x7.toNat)) 1) ≠ (1 : Int) → zGo L xs (D + 1) 267 51 [some (zr 142), some (zl x1), none, some (zi x3), some (zl x4), none, some (zi x6), some (zi x7), none] [zi 0] J K Q) ∧ ((zand (x3 / 2 ^ (x7.toNat)) 1) = (1 : Int) → zGo L xs (D + 1) 267 51 [some (zr 142), some (zl x1), none, some (zi x3), some (zl x4), none, some (zi x6), some (zi x7), none] [zi 1] J K Q))) :
  zGo L xs (D + 1) 267 25 [some (zr 142), some (zl x1), none, some (zi x3), some (zl x4), none, some (zi x6), some (zi x7), none] [] J K Q :=
  zrun_ok (T := mct267) (o := 12) (ret := (some FieldType.long)) (hs := [(4, [2, 4, 5, 6, 7, 8]), (25, [2, 5, 8]), (51, [2, 5, 8]), (75, [2, 5, 6]), (79, [2, 5, 6]), (80, [2, 5, 6]), (127, [2, 4, 5, 8]), (130, [2, 5, 8]), (153, [2, 4, 5, 6, 7, 8])]) hL rfl 17 _ _ _ _ _ _ _ h
set_option maxRecDepth 30000 in
theorem z267_51 {L : Nat} {xs : Nat → Int32} (hL : L ≤ 3072) {D : Nat} {x1 x3 x4 x6 x7 s0 : Int} {J : zJ} {K : zK} {Q : zR → Nat → zJ → zK → Prop}
  (h : zin x6 ∧ (x6 = (0 : Int) → zGo L xs (D + 1) 267 79 [some (zr 142), some (zl x1), none, some (zi x3), some (zl x4), none, none, some (zi x7), some (zi s0)] [] J K Q) ∧ (x6 ≠ (0 : Int) → zin s0 ∧ (s0 = (0 : Int) → zGo L xs (D + 1) 267 75 [some (zr 142), some (zl x1), none, some (zi x3), some (zl x4), none, none, some (zi x7), some (zi s0)] [] J K Q) ∧ (s0 ≠ (0 : Int) → 0 ≤ x7 ∧ x7 < 16 ∧ 0 ≤ x7 ∧ x7 < 16 ∧ 0 ≤ (2 : Int) ∧ (2 : Int) < 4 ∧ zin (J 170 x7 2) ∧ ((J 170 x7 2) ≤ (0 : Int) → zGo L xs (D + 1) 267 79 [some (zr 142), some (zl x1), none, some (zi x3), some (zl x4), none, none, some (zi x7), some (zi s0)] [] J K Q) ∧ ((0 : Int) < (J 170 x7 2) → zGo L xs (D + 1) 267 75 [some (zr 142), some (zl x1), none, some (zi x3), some (zl x4), none, none, some (zi x7), some (zi s0)] [] J K Q)))) :
  zGo L xs (D + 1) 267 51 [some (zr 142), some (zl x1), none, some (zi x3), some (zl x4), none, some (zi x6), some (zi x7), none] [zi s0] J K Q :=
  zrun_ok (T := mct267) (o := 12) (ret := (some FieldType.long)) (hs := [(4, [2, 4, 5, 6, 7, 8]), (25, [2, 5, 8]), (51, [2, 5, 8]), (75, [2, 5, 6]), (79, [2, 5, 6]), (80, [2, 5, 6]), (127, [2, 4, 5, 8]), (130, [2, 5, 8]), (153, [2, 4, 5, 6, 7, 8])]) hL rfl 12 _ _ _ _ _ _ _ h
set_option maxRecDepth 30000 in
theorem z267_75 {L : Nat} {xs : Nat → Int32} (hL : L ≤ 3072) {D : Nat} {x1 x3 x4 x7 x8 : Int} {J : zJ} {K : zK} {Q : zR → Nat → zJ → zK → Prop}
  (h : zGo L xs (D + 1) 267 80 [some (zr 142), some (zl x1), none, some (zi x3), some (zl x4), none, none, some (zi x7), some (zi x8)] [zi 1] J K Q) :
  zGo L xs (D + 1) 267 75 [some (zr 142), some (zl x1), none, some (zi x3), some (zl x4), none, none, some (zi x7), some (zi x8)] [] J K Q :=
  zrun_ok (T := mct267) (o := 12) (ret := (some FieldType.long)) (hs := [(4, [2, 4, 5, 6, 7, 8]), (25, [2, 5, 8]), (51, [2, 5, 8]), (75, [2, 5, 6]), (79, [2, 5, 6]), (80, [2, 5, 6]), (127, [2, 4, 5, 8]), (130, [2, 5, 8]), (153, [2, 4, 5, 6, 7, 8])]) hL rfl 2 _ _ _ _ _ _ _ h
set_option maxRecDepth 30000 in
theorem z267_79 {L : Nat} {xs : Nat → Int32} (hL : L ≤ 3072) {D : Nat} {x1 x3 x4 x7 x8 : Int} {J : zJ} {K : zK} {Q : zR → Nat → zJ → zK → Prop}
  (h : zGo L xs (D + 1) 267 80 [some (zr 142), some (zl x1), none, some (zi x3), some (zl x4), none, none, some (zi x7), some (zi x8)] [zi 0] J K Q) :
  zGo L xs (D + 1) 267 79 [some (zr 142), some (zl x1), none, some (zi x3), some (zl x4), none, none, some (zi x7), some (zi x8)] [] J K Q :=
  zrun_ok (T := mct267) (o := 12) (ret := (some FieldType.long)) (hs := [(4, [2, 4, 5, 6, 7, 8]), (25, [2, 5, 8]), (51, [2, 5, 8]), (75, [2, 5, 6]), (79, [2, 5, 6]), (80, [2, 5, 6]), (127, [2, 4, 5, 8]), (130, [2, 5, 8]), (153, [2, 4, 5, 6, 7, 8])]) hL rfl 1 _ _ _ _ _ _ _ h
set_option maxRecDepth 30000 in
theorem z267_80 {L : Nat} {xs : Nat → Int32} (hL : L ≤ 3072) {D : Nat} {x1 x3 x4 x7 x8 s0 : Int} {J : zJ} {K : zK} {Q : zR → Nat → zJ → zK → Prop}
  (h : 0 ≤ x7 ∧ x7 < 16 ∧ 0 ≤ x7 ∧ x7 < 16 ∧ 0 ≤ (2 : Int) ∧ (2 : Int) < 4 ∧ zin (J 170 x7 2) ∧ ((J 170 x7 2) ≤ (0 : Int) → zGo L xs (D + 1) 267 130 [some (zr 142), some (zl x1), none, some (zi x3), some (zl x4), none, some (zi s0), some (zi x7), none] [] J K Q) ∧ ((0 : Int) < (J 170 x7 2) → zin x8 ∧ (x8 = (0 : Int) → 0 ≤ x7 ∧ x7 < 16 ∧ 0 ≤ x7 ∧ x7 < 16 ∧ 0 ≤ (2 : Int) ∧ (2 : Int) < 4 ∧ zin (20 - (J 170 x7 2)) ∧ zGo L xs (D + 1) 267 127 [some (zr 142), some (zl x1), none, some (zi x3), none, none, some (zi s0), some (zi x7), none] [zl (20 - (J 170 x7 2)), zl x4] J K Q) ∧ (x8 ≠ (0 : Int) → 0 ≤ x7 ∧ x7 < 16 ∧ 0 ≤ x7 ∧ x7 < 16 ∧ 0 ≤ (2 : Int) ∧ (2 : Int) < 4 ∧ zin (J 170 x7 2) ∧ zGo L xs (D + 1) 267 127 [some (zr 142), some (zl x1), none, some (zi x3), none, none, some (zi s0), some (zi x7), none] [zl (J 170 x7 2), zl x4] J K Q))) :
  zGo L xs (D + 1) 267 80 [some (zr 142), some (zl x1), none, some (zi x3), some (zl x4), none, none, some (zi x7), some (zi x8)] [zi s0] J K Q :=
  zrun_ok (T := mct267) (o := 12) (ret := (some FieldType.long)) (hs := [(4, [2, 4, 5, 6, 7, 8]), (25, [2, 5, 8]), (51, [2, 5, 8]), (75, [2, 5, 6]), (79, [2, 5, 6]), (80, [2, 5, 6]), (127, [2, 4, 5, 8]), (130, [2, 5, 8]), (153, [2, 4, 5, 6, 7, 8])]) hL rfl 20 _ _ _ _ _ _ _ h
set_option maxRecDepth 30000 in
theorem z267_127 {L : Nat} {xs : Nat → Int32} (hL : L ≤ 3072) {D : Nat} {x1 x3 x6 x7 s0 s1 : Int} {J : zJ} {K : zK} {Q : zR → Nat → zJ → zK → Prop}
  (h : zGo L xs (D + 1) 267 130 [some (zr 142), some (zl x1), none, some (zi x3), some (zl (s0 * s1)), none, some (zi x6), some (zi x7), none] [] J K Q) :
  zGo L xs (D + 1) 267 127 [some (zr 142), some (zl x1), none, some (zi x3), none, none, some (zi x6), some (zi x7), none] [zl s1, zl s0] J K Q :=
  zrun_ok (T := mct267) (o := 12) (ret := (some FieldType.long)) (hs := [(4, [2, 4, 5, 6, 7, 8]), (25, [2, 5, 8]), (51, [2, 5, 8]), (75, [2, 5, 6]), (79, [2, 5, 6]), (80, [2, 5, 6]), (127, [2, 4, 5, 8]), (130, [2, 5, 8]), (153, [2, 4, 5, 6, 7, 8])]) hL rfl 2 _ _ _ _ _ _ _ h
set_option maxRecDepth 30000 in
theorem z267_130 {L : Nat} {xs : Nat → Int32} (hL : L ≤ 3072) {D : Nat} {x1 x3 x4 x6 x7 : Int} {J : zJ} {K : zK} {Q : zR → Nat → zJ → zK → Prop}
  (h : zGo L xs (D + 1) 267 25 [some (zr 142), some (zl x1), none, some (zi x3), some (zl x4), none, some (zi x6), some (zi (x7 + 1)), none] [] J K Q) :
  zGo L xs (D + 1) 267 130 [some (zr 142), some (zl x1), none, some (zi x3), some (zl x4), none, some (zi x6), some (zi x7), none] [] J K Q :=
  zrun_ok (T := mct267) (o := 12) (ret := (some FieldType.long)) (hs := [(4, [2, 4, 5, 6, 7, 8]), (25, [2, 5, 8]), (51, [2, 5, 8]), (75, [2, 5, 6]), (79, [2, 5, 6]), (80, [2, 5, 6]), (127, [2, 4, 5, 8]), (130, [2, 5, 8]), (153, [2, 4, 5, 6, 7, 8])]) hL rfl 2 _ _ _ _ _ _ _ h
set_option maxRecDepth 30000 in
theorem z267_153 {L : Nat} {xs : Nat → Int32} (hL : L ≤ 3072) {D : Nat} {x1 x3 : Int} {J : zJ} {K : zK} {Q : zR → Nat → zJ → zK → Prop}
  (h : zGo L xs (D + 1) 267 4 [some (zr 142), some (zl x1), none, some (zi (x3 + 1)), none, none, none, none, none] [] J K Q) :
  zGo L xs (D + 1) 267 153 [some (zr 142), some (zl x1), none, some (zi x3), none, none, none, none, none] [] J K Q :=
  zrun_ok (T := mct267) (o := 12) (ret := (some FieldType.long)) (hs := [(4, [2, 4, 5, 6, 7, 8]), (25, [2, 5, 8]), (51, [2, 5, 8]), (75, [2, 5, 6]), (79, [2, 5, 6]), (80, [2, 5, 6]), (127, [2, 4, 5, 8]), (130, [2, 5, 8]), (153, [2, 4, 5, 6, 7, 8])]) hL rfl 2 _ _ _ _ _ _ _ h
/-! PartingTrainsModel.more -/
set_option maxRecDepth 30000 in
theorem z268 {L : Nat} {xs : Nat → Int32} (hL : L ≤ 3072) {D : Nat} {x0 x1 : Int} {J : zJ} {K : zK} {Q : zR → Nat → zJ → zK → Prop}
  (h : zin x0 ∧ zin x1 ∧ (x0 ≤ x1 → Q (.inl (some (zi x1))) 0 J K) ∧ (x1 < x0 → Q (.inl (some (zi x0))) 0 J K)) :
  zCall L xs (D + 1) 268 [zi x0, zi x1] J K Q :=
  zrun_ok (T := mct268) (o := 12) (ret := (some FieldType.int)) (hs := []) hL rfl 6 _ _ _ _ _ _ _ h
/-! PartingTrainsModel.moves -/
set_option maxRecDepth 30000 in
theorem z269 {L : Nat} {xs : Nat → Int32} (hL : L ≤ 3072) {D : Nat} {x1 x2 x3 : Int} {J : zJ} {K : zK} {Q : zR → Nat → zJ → zK → Prop}
  (h : zin x3 ∧ (x3 ≠ (0 : Int) → 0 ≤ x1 ∧ x1 < 3 ∧ 0 ≤ x1 ∧ x1 < 3 ∧ 0 ≤ (((J 142 0 52) + 1) - 1) ∧ (((J 142 0 52) + 1) - 1) < 220 ∧ Q (.inl (some (zi (J 557 x1 (((J 142 0 52) + 1) - 1))))) 0 (zup J 142 0 52 ((J 142 0 52) + 1)) K) ∧ (x3 = (0 : Int) → 0 ≤ x1 ∧ x1 < 3 ∧ 0 ≤ x1 ∧ x1 < 3 ∧ 0 ≤ (J 142 0 52) ∧ (J 142 0 52) < 220 ∧ 0 ≤ x1 ∧ x1 < 3 ∧ 0 ≤ x1 ∧ x1 < 3 ∧ 0 ≤ (((J 142 0 52) + 1) - 1) ∧ (((J 142 0 52) + 1) - 1) < 220 ∧ Q (.inl (some (zi ((zup J 557 x1 (J 142 0 52) x2) 557 x1 (((J 142 0 52) + 1) - 1))))) 0 (zup (zup J 557 x1 (J 142 0 52) x2) 142 0 52 ((J 142 0 52) + 1)) K)) :
  zCall L xs (D + 1) 269 [zr 142, zi x1, zi x2, zi x3] J K Q :=
  zrun_ok (T := mct269) (o := 12) (ret := (some FieldType.int)) (hs := []) hL rfl 26 _ _ _ _ _ _ _ h
/-! PartingTrainsModel.movesAll -/
set_option maxRecDepth 30000 in
theorem z270 {L : Nat} {xs : Nat → Int32} (hL : L ≤ 3072) {D : Nat} {x1 x2 : Int} {J : zJ} {K : zK} {Q : zR → Nat → zJ → zK → Prop}
  (h : zCall L xs D 269 [zr 142, zi x1, zi (J 142 0 15), zi x2] (zup J 142 0 52 0) K fun r1 e1 J1 K1 => zaI r1 e1 (fun x1_ => zCall L xs D 269 [zr 142, zi x1, zi (J1 142 0 16), zi x2] (zup J1 142 0 15 x1_) K1 fun r2 e2 J2 K2 => zaI r2 e2 (fun x2_ => zCall L xs D 271 [zr 142, zi x1, zr 234, zi x2] (zup J2 142 0 16 x2_) K2 fun r3 e3 J3 K3 => zaV r3 e3 (zCall L xs D 271 [zr 142, zi x1, zr 235, zi x2] J3 K3 fun r4 e4 J4 K4 => zaV r4 e4 (zCall L xs D 271 [zr 142, zi x1, zr 236, zi x2] J4 K4 fun r5 e5 J5 K5 => zaV r5 e5 (zCall L xs D 271 [zr 142, zi x1, zr 237, zi x2] J5 K5 fun r6 e6 J6 K6 => zaV r6 e6 (zCall L xs D 271 [zr 142, zi x1, zr 238, zi x2] J6 K6 fun r7 e7 J7 K7 => zaV r7 e7 (zCall L xs D 271 [zr 142, zi x1, zr 239, zi x2] J7 K7 fun r8 e8 J8 K8 => zaV r8 e8 (zGo L xs (D + 1) 270 95 [some (zr 142), some (zi x1), some (zi x2), some (zi 0)] [] J8 K8 Q) (fun E => Q (.inr E) e8 J8 K8)) (fun E => Q (.inr E) e7 J7 K7)) (fun E => Q (.inr E) e6 J6 K6)) (fun E => Q (.inr E) e5 J5 K5)) (fun E => Q (.inr E) e4 J4 K4)) (fun E => Q (.inr E) e3 J3 K3)) (fun E => Q (.inr E) e2 J2 K2)) (fun E => Q (.inr E) e1 J1 K1)) :
  zCall L xs (D + 1) 270 [zr 142, zi x1, zi x2] J K Q :=
  zrun_ok (T := mct270) (o := 12) (ret := none) (hs := [(95, []), (120, [])]) hL rfl 57 _ _ _ _ _ _ _ h
set_option maxRecDepth 30000 in
theorem z270_95 {L : Nat} {xs : Nat → Int32} (hL : L ≤ 3072) {D : Nat} {x1 x2 x3 : Int} {J : zJ} {K : zK} {Q : zR → Nat → zJ → zK → Prop}
  (h : zin x3 ∧ zin 4 ∧ ((4 : Int) ≤ x3 → zGo L xs (D + 1) 270 120 [some (zr 142), some (zi x1), some (zi x2), some (zi 0)] [] J K Q) ∧ (x3 < (4 : Int) → 0 ≤ x3 ∧ x3 < 4 ∧ zCall L xs D 271 [zr 142, zi x1, zw 229 x3, zi x2] J K fun r1 e1 J1 K1 => zaV r1 e1 (zGo L xs (D + 1) 270 95 [some (zr 142), some (zi x1), some (zi x2), some (zi (x3 + 1))] [] J1 K1 Q) (fun E => Q (.inr E) e1 J1 K1))) :
  zGo L xs (D + 1) 270 95 [some (zr 142), some (zi x1), some (zi x2), some (zi x3)] [] J K Q :=
  zrun_ok (T := mct270) (o := 12) (ret := none) (hs := [(95, []), (120, [])]) hL rfl 13 _ _ _ _ _ _ _ h
set_option maxRecDepth 30000 in
theorem z270_120 {L : Nat} {xs : Nat → Int32} (hL : L ≤ 3072) {D : Nat} {x1 x2 x3 : Int} {J : zJ} {K : zK} {Q : zR → Nat → zJ → zK → Prop}
  (h : zin x3 ∧ zin 14 ∧ ((14 : Int) ≤ x3 → Q (.inl none) 0 J K) ∧ (x3 < (14 : Int) → 0 ≤ x3 ∧ x3 < 14 ∧ zCall L xs D 271 [zr 142, zi x1, zw 240 x3, zi x2] J K fun r1 e1 J1 K1 => zaV r1 e1 (zGo L xs (D + 1) 270 120 [some (zr 142), some (zi x1), some (zi x2), some (zi (x3 + 1))] [] J1 K1 Q) (fun E => Q (.inr E) e1 J1 K1))) :
  zGo L xs (D + 1) 270 120 [some (zr 142), some (zi x1), some (zi x2), some (zi x3)] [] J K Q :=
  zrun_ok (T := mct270) (o := 12) (ret := none) (hs := [(95, []), (120, [])]) hL rfl 13 _ _ _ _ _ _ _ h
