/-! test -/
/-- PartingTrains$Tree.minutes -/
theorem z121 {L : Nat} {xs : Nat → Int32} (hL : L ≤ 3072) {D : Nat} {x1 x2 : Int} {J : zJ} {K : zK} {Q : zR → Nat → zJ → zK → Prop}
  (h : 0 ≤ ((x1 * 12) + x2) ∧ ((x1 * 12) + x2) < 144 ∧ Q (.inl (some (zi (J 34 0 ((x1 * 12) + x2))))) 0 J K) :
  zCall L xs (D + 1) 121 [zr 33, zi x1, zi x2] J K Q :=
  zrun_ok (T := mct121) (o := 9) (ret := (some FieldType.int)) (hs := []) hL rfl 9 _ _ _ _ _ _ _ h
/-- PartingTrains$Plan.members -/
theorem z82 {L : Nat} {xs : Nat → Int32} (hL : L ≤ 3072) {D : Nat} {x1 : Int} {J : zJ} {K : zK} {Q : zR → Nat → zJ → zK → Prop}
  (h : zGo L xs (D + 1) 82 4 [some (zr 40), some (zi x1), some (zi 0), some (zi 0)] [] J K Q) :
  zCall L xs (D + 1) 82 [zr 40, zi x1] J K Q :=
  zrun_ok (T := mct82) (o := 6) (ret := (some FieldType.int)) (hs := [(4, [])]) hL rfl 4 _ _ _ _ _ _ _ h
theorem z82_4 {L : Nat} {xs : Nat → Int32} (hL : L ≤ 3072) {D : Nat} {x1 x2 x3 : Int} {J : zJ} {K : zK} {Q : zR → Nat → zJ → zK → Prop}
  (h : 0 ≤ x1 ∧ x1 < 4 ∧ zin x3 ∧ zin (J 42 0 x1) ∧ ((J 42 0 x1) ≤ x3 → Q (.inl (some (zi x2))) 0 J K) ∧ (x3 < (J 42 0 x1) → 0 ≤ ((x1 * 7) + x3) ∧ ((x1 * 7) + x3) < 28 ∧ 0 ≤ (J 43 0 ((x1 * 7) + x3)) ∧ (J 43 0 ((x1 * 7) + x3)) < 32 ∧ zGo L xs (D + 1) 82 4 [some (zr 40), some (zi x1), some (zi (zor x2 (1 * 2 ^ ((J 43 0 ((x1 * 7) + x3)).toNat)))), some (zi (x3 + 1))] [] J K Q)) :
  zGo L xs (D + 1) 82 4 [some (zr 40), some (zi x1), some (zi x2), some (zi x3)] [] J K Q :=
  zrun_ok (T := mct82) (o := 6) (ret := (some FieldType.int)) (hs := [(4, [])]) hL rfl 21 _ _ _ _ _ _ _ h
/-- PartingTrains$Tree.drawWays -/
theorem z118 {L : Nat} {xs : Nat → Int32} (hL : L ≤ 3072) {D : Nat} {x1 : Int} {J : zJ} {K : zK} {Q : zR → Nat → zJ → zK → Prop}
  (h : 0 ≤ x1 ∧ x1 < 12 ∧ zGo L xs (D + 1) 118 12 [some (zr 33), some (zi x1), some (zi (J 19 0 x1)), some (zi 0), none] [] J K Q) :
  zCall L xs (D + 1) 118 [zr 33, zi x1] J K Q :=
  zrun_ok (T := mct118) (o := 9) (ret := none) (hs := [(12, [4])]) hL rfl 8 _ _ _ _ _ _ _ h
theorem z118_12 {L : Nat} {xs : Nat → Int32} (hL : L ≤ 3072) {D : Nat} {x1 x2 x3 : Int} {J : zJ} {K : zK} {Q : zR → Nat → zJ → zK → Prop}
  (h : zin x3 ∧ zin x1 ∧ (x1 ≤ x3 → 0 ≤ ((x1 * 12) + x1) ∧ ((x1 * 12) + x1) < 144 ∧ Q (.inl none) 0 (zup J 34 0 ((x1 * 12) + x1) 0) K) ∧ (x3 < x1 → 0 ≤ ((x2 * 12) + x3) ∧ ((x2 * 12) + x3) < 144 ∧ 0 ≤ x1 ∧ x1 < 12 ∧ 0 ≤ ((x1 * 12) + x3) ∧ ((x1 * 12) + x3) < 144 ∧ 0 ≤ ((x3 * 12) + x1) ∧ ((x3 * 12) + x1) < 144 ∧ zGo L xs (D + 1) 118 12 [some (zr 33), some (zi x1), some (zi x2), some (zi (x3 + 1)), none] [] (zup (zup J 34 0 ((x1 * 12) + x3) ((J 34 0 ((x2 * 12) + x3)) + (J 20 0 x1))) 34 0 ((x3 * 12) + x1) ((J 34 0 ((x2 * 12) + x3)) + (J 20 0 x1))) K Q)) :
  zGo L xs (D + 1) 118 12 [some (zr 33), some (zi x1), some (zi x2), some (zi x3), none] [] J K Q :=
  zrun_ok (T := mct118) (o := 9) (ret := none) (hs := [(12, [4])]) hL rfl 38 _ _ _ _ _ _ _ h
/-- PartingTrains$Orders.findHeads -/
theorem z66 {L : Nat} {xs : Nat → Int32} (hL : L ≤ 3072) {D : Nat} {x1 : Int} {J : zJ} {K : zK} {Q : zR → Nat → zJ → zK → Prop}
  (h : zGo L xs (D + 1) 66 2 [some (zr 89), some (zi x1), some (zi 0), none] [] J K Q) :
  zCall L xs (D + 1) 66 [zr 89, zi x1] J K Q :=
  zrun_ok (T := mct66) (o := 5) (ret := none) (hs := [(2, [3]), (37, [3])]) hL rfl 2 _ _ _ _ _ _ _ h
theorem z66_2 {L : Nat} {xs : Nat → Int32} (hL : L ≤ 3072) {D : Nat} {x1 x2 : Int} {J : zJ} {K : zK} {Q : zR → Nat → zJ → zK → Prop}
  (h : zin x2 ∧ zin (J 18 0 0) ∧ ((J 18 0 0) ≤ x2 → zGo L xs (D + 1) 66 37 [some (zr 89), some (zi x1), some (zi ((J 18 0 0) - 1)), none] [] J K Q) ∧ (x2 < (J 18 0 0) → 0 ≤ x2 ∧ x2 < 12 ∧ zGo L xs (D + 1) 66 2 [some (zr 89), some (zi x1), some (zi (x2 + 1)), none] [] (zup J 90 0 x2 7) K Q)) :
  zGo L xs (D + 1) 66 2 [some (zr 89), some (zi x1), some (zi x2), none] [] J K Q :=
  zrun_ok (T := mct66) (o := 5) (ret := none) (hs := [(2, [3]), (37, [3])]) hL rfl 12 _ _ _ _ _ _ _ h
theorem z66_37 {L : Nat} {xs : Nat → Int32} (hL : L ≤ 3072) {D : Nat} {x1 x2 : Int} {J : zJ} {K : zK} {Q : zR → Nat → zJ → zK → Prop}
  (h : zin x2 ∧ (x2 < (0 : Int) → Q (.inl none) 0 J K) ∧ ((0 : Int) ≤ x2 → 0 ≤ x2 ∧ x2 < 12 ∧ zin (J 90 0 x2) ∧ zin 7 ∧ ((J 90 0 x2) ≠ (7 : Int) → 0 ≤ x2 ∧ x2 < 12 ∧ zin x2 ∧ (x2 ≤ (0 : Int) → zGo L xs (D + 1) 66 37 [some (zr 89), some (zi x1), some (zi (x2 + (-1))), none] [] J K Q) ∧ ((0 : Int) < x2 → 0 ≤ x2 ∧ x2 < 12 ∧ 0 ≤ (J 19 0 x2) ∧ (J 19 0 x2) < 12 ∧ zin (J 90 0 x2) ∧ zin (J 90 0 (J 19 0 x2)) ∧ ((J 90 0 (J 19 0 x2)) ≤ (J 90 0 x2) → zGo L xs (D + 1) 66 37 [some (zr 89), some (zi x1), some (zi (x2 + (-1))), none] [] J K Q) ∧ ((J 90 0 x2) < (J 90 0 (J 19 0 x2)) → 0 ≤ x2 ∧ x2 < 12 ∧ 0 ≤ (J 19 0 x2) ∧ (J 19 0 x2) < 12 ∧ zGo L xs (D + 1) 66 37 [some (zr 89), some (zi x1), some (zi (x2 + (-1))), none] [] (zup J 90 0 (J 19 0 x2) (J 90 0 x2)) K Q))) ∧ ((J 90 0 x2) = (7 : Int) → 0 ≤ x2 ∧ x2 < 12 ∧ zCall L xs D 71 [zr 89, zi (zand x1 (J 38 0 x2))] J K fun r1 e1 J1 K1 => zaI r1 e1 (fun x1_ => 0 ≤ x2 ∧ x2 < 12 ∧ 0 ≤ x2 ∧ x2 < 12 ∧ zin x2 ∧ (x2 ≤ (0 : Int) → zGo L xs (D + 1) 66 37 [some (zr 89), some (zi x1), some (zi (x2 + (-1))), none] [] (zup J1 90 0 x2 x1_) K1 Q) ∧ ((0 : Int) < x2 → 0 ≤ x2 ∧ x2 < 12 ∧ 0 ≤ (J1 19 0 x2) ∧ (J1 19 0 x2) < 12 ∧ zin ((zup J1 90 0 x2 x1_) 90 0 x2) ∧ zin ((zup J1 90 0 x2 x1_) 90 0 (J1 19 0 x2)) ∧ (((zup J1 90 0 x2 x1_) 90 0 (J1 19 0 x2)) ≤ ((zup J1 90 0 x2 x1_) 90 0 x2) → zGo L xs (D + 1) 66 37 [some (zr 89), some (zi x1), some (zi (x2 + (-1))), none] [] (zup J1 90 0 x2 x1_) K1 Q) ∧ (((zup J1 90 0 x2 x1_) 90 0 x2) < ((zup J1 90 0 x2 x1_) 90 0 (J1 19 0 x2)) → 0 ≤ x2 ∧ x2 < 12 ∧ 0 ≤ (J1 19 0 x2) ∧ (J1 19 0 x2) < 12 ∧ zGo L xs (D + 1) 66 37 [some (zr 89), some (zi x1), some (zi (x2 + (-1))), none] [] (zup (zup J1 90 0 x2 x1_) 90 0 (J1 19 0 x2) ((zup J1 90 0 x2 x1_) 90 0 x2)) K1 Q))) (fun E => Q (.inr E) e1 J1 K1)))) :
  zGo L xs (D + 1) 66 37 [some (zr 89), some (zi x1), some (zi x2), none] [] J K Q :=
  zrun_ok (T := mct66) (o := 5) (ret := none) (hs := [(2, [3]), (37, [3])]) hL rfl 48 _ _ _ _ _ _ _ h
/-- PartingTrains$Walk.splits -/
theorem z135 {L : Nat} {xs : Nat → Int32} (hL : L ≤ 3072) {D : Nat} {J : zJ} {K : zK} {Q : zR → Nat → zJ → zK → Prop}
  (h : zGo L xs (D + 1) 135 20 [some (zr 92), some (zi (J 92 0 11)), some (zi 0), some (zi (-1)), some (zi (J 92 0 10)), none] [] (zup J 92 0 14 0) K Q) :
  zCall L xs (D + 1) 135 [zr 92] J K Q :=
  zrun_ok (T := mct135) (o := 10) (ret := (some FieldType.boolean)) (hs := [(20, [5])]) hL rfl 13 _ _ _ _ _ _ _ h
theorem z135_20 {L : Nat} {xs : Nat → Int32} (hL : L ≤ 3072) {D : Nat} {x1 x2 x3 x4 : Int} {J : zJ} {K : zK} {Q : zR → Nat → zJ → zK → Prop}
  (h : zin x4 ∧ zin (J 92 0 11) ∧ ((J 92 0 11) ≤ x4 → 0 ≤ (J 92 0 14) ∧ (J 92 0 14) < 8 ∧ ((1 : Int) = 0 ∨ (1 : Int) = 1) ∧ Q (.inl (some (zi 1))) 0 (zup J 99 0 (J 92 0 14) x1) K) ∧ (x4 < (J 92 0 11) → 0 ≤ x4 ∧ x4 < 7 ∧ 0 ≤ (J 93 0 x4) ∧ (J 93 0 x4) < 7 ∧ zCall L xs D 122 [zr 33, zi (J 92 0 9), zi (J 24 0 (J 93 0 x4))] J K fun r1 e1 J1 K1 => zaI r1 e1 (fun x1_ => zin x1_ ∧ zin x3 ∧ (x1_ = x3 → zGo L xs (D + 1) 135 20 [some (zr 92), some (zi x1), some (zi x2), some (zi x3), some (zi (x4 + 1)), none] [] J1 K1 Q) ∧ (x1_ ≠ x3 → zin x3 ∧ zin (J1 92 0 9) ∧ (x3 = (J1 92 0 9) → ((0 : Int) = 0 ∨ (0 : Int) = 1) ∧ Q (.inl (some (zi 0))) 0 J1 K1) ∧ (x3 ≠ (J1 92 0 9) → zin x2 ∧ 0 ≤ x1_ ∧ x1_ < 32 ∧ zin (zand (x2 / 2 ^ (x1_.toNat)) 1) ∧ ((zand (x2 / 2 ^ (x1_.toNat)) 1) = (0 : Int) → 0 ≤ x1_ ∧ x1_ < 32 ∧ zin x1_ ∧ zin (J1 92 0 9) ∧ (x1_ ≠ (J1 92 0 9) → 0 ≤ (J1 92 0 14) ∧ (J1 92 0 14) < 8 ∧ zGo L xs (D + 1) 135 20 [some (zr 92), some (zi x1), some (zi (zor x2 (1 * 2 ^ (x1_.toNat)))), some (zi x1_), some (zi (x4 + 1)), none] [] (zup (zup J1 99 0 (J1 92 0 14) x4) 92 0 14 ((J1 92 0 14) + 1)) K1 Q) ∧ (x1_ = (J1 92 0 9) → zGo L xs (D + 1) 135 20 [some (zr 92), some (zi x4), some (zi (zor x2 (1 * 2 ^ (x1_.toNat)))), some (zi x1_), some (zi (x4 + 1)), none] [] J1 K1 Q)) ∧ ((zand (x2 / 2 ^ (x1_.toNat)) 1) ≠ (0 : Int) → ((0 : Int) = 0 ∨ (0 : Int) = 1) ∧ Q (.inl (some (zi 0))) 0 J1 K1)))) (fun E => Q (.inr E) e1 J1 K1))) :
  zGo L xs (D + 1) 135 20 [some (zr 92), some (zi x1), some (zi x2), some (zi x3), some (zi x4), none] [] J K Q :=
  zrun_ok (T := mct135) (o := 10) (ret := (some FieldType.boolean)) (hs := [(20, [5])]) hL rfl 57 _ _ _ _ _ _ _ h
/-- PartingTrains$Walk.goOn -/
theorem z128 {L : Nat} {xs : Nat → Int32} (hL : L ≤ 3072) {D : Nat} {J : zJ} {K : zK} {Q : zR → Nat → zJ → zK → Prop}
  (h : zCall L xs D 126 [zr 92] J K fun r1 e1 J1 K1 => zaI r1 e1 (fun x1_ => zin x1_ ∧ (x1_ ≤ (0 : Int) → zGo L xs (D + 1) 128 31 [some (zr 92), some (zi 0), some (zi ((J1 92 0 14) - 1)), none, none] [] J1 K1 Q) ∧ ((0 : Int) < x1_ → 0 ≤ (J1 92 0 9) ∧ (J1 92 0 9) < 12 ∧ zGo L xs (D + 1) 128 31 [some (zr 92), some (zi (J1 22 0 (J1 92 0 9))), some (zi ((J1 92 0 14) - 1)), none, none] [] J1 K1 Q)) (fun E => Q (.inr E) e1 J1 K1)) :
  zCall L xs (D + 1) 128 [zr 92] J K Q :=
  zrun_ok (T := mct128) (o := 10) (ret := none) (hs := [(31, [3, 4])]) hL rfl 16 _ _ _ _ _ _ _ h
theorem z128_31 {L : Nat} {xs : Nat → Int32} (hL : L ≤ 3072) {D : Nat} {x1 x2 : Int} {J : zJ} {K : zK} {Q : zR → Nat → zJ → zK → Prop}
  (h : zin x2 ∧ (x2 < (0 : Int) → Q (.inl none) 0 J K) ∧ ((0 : Int) ≤ x2 → 0 ≤ x2 ∧ x2 < 8 ∧ 0 ≤ (J 99 0 x2) ∧ (J 99 0 x2) < 7 ∧ 0 ≤ (J 93 0 (J 99 0 x2)) ∧ (J 93 0 (J 99 0 x2)) < 7 ∧ zCall L xs D 122 [zr 33, zi (J 92 0 9), zi (J 24 0 (J 93 0 (J 99 0 x2)))] J K fun r1 e1 J1 K1 => zaI r1 e1 (fun x1_ => 0 ≤ x1_ ∧ x1_ < 12 ∧ 0 ≤ x2 ∧ x2 < 8 ∧ 0 ≤ (x2 + 1) ∧ (x2 + 1) < 8 ∧ 0 ≤ x2 ∧ x2 < 7 ∧ zCall L xs D 134 [zr 92, zi x1_, zi (J1 99 0 x2), zi (J1 99 0 (x2 + 1)), zi (((J1 92 0 12) + (x1 * (x2 + 1))) + (J1 20 0 x1_)), zi (J1 100 0 x2)] J1 K1 fun r2 e2 J2 K2 => zaV r2 e2 (zGo L xs (D + 1) 128 31 [some (zr 92), some (zi x1), some (zi (x2 + (-1))), none, none] [] J2 K2 Q) (fun E => Q (.inr E) e2 J2 K2)) (fun E => Q (.inr E) e1 J1 K1))) :
  zGo L xs (D + 1) 128 31 [some (zr 92), some (zi x1), some (zi x2), none, none] [] J K Q :=
  zrun_ok (T := mct128) (o := 10) (ret := none) (hs := [(31, [3, 4])]) hL rfl 54 _ _ _ _ _ _ _ h
