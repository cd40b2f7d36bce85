/-! REGION LEMMAS of the integer machine (printed by wip/whole/tools/zemit.py) -/
/-! PartingTrainsModel.alike -/
set_option maxRecDepth 30000 in
theorem z191 {L : Nat} {xs : Nat → Int32} (hL : L ≤ 3072) {D : Nat} {x1 : Int} {J : zJ} {K : zK} {Q : zR → Nat → zJ → zK → Prop}
  (h : zCall L xs D 252 [zr 142, zi x1] (zup J 142 0 0 0) K fun r1 e1 J1 K1 => zaI r1 e1 (fun x1_ => zin x1_ ∧ (x1_ ≠ (0 : Int) → zCall L xs D 195 [zr 142, zi 0, zi 1] J1 K1 fun r2 e2 J2 K2 => zaI r2 e2 (fun x2_ => zin x2_ ∧ (x2_ = (0 : Int) → zCall L xs D 229 [zr 142, zi 0] J2 K2 fun r3 e3 J3 K3 => zaV r3 e3 (0 ≤ x1 ∧ x1 < 4 ∧ zGo L xs (D + 1) 191 42 [some (zr 142), some (zi x1), some (zi (J3 234 0 x1)), some (zi 0), none, none] [] J3 K3 Q) (fun E => Q (.inr E) e3 J3 K3)) ∧ (x2_ ≠ (0 : Int) → ((0 : Int) = 0 ∨ (0 : Int) = 1) ∧ Q (.inl (some (zi 0))) 0 J2 K2)) (fun E => Q (.inr E) e2 J2 K2)) ∧ (x1_ = (0 : Int) → zCall L xs D 195 [zr 142, zi 1, zi 1] J1 K1 fun r4 e4 J4 K4 => zaI r4 e4 (fun x4_ => zin x4_ ∧ (x4_ = (0 : Int) → zCall L xs D 229 [zr 142, zi 0] J4 K4 fun r5 e5 J5 K5 => zaV r5 e5 (0 ≤ x1 ∧ x1 < 4 ∧ zGo L xs (D + 1) 191 42 [some (zr 142), some (zi x1), some (zi (J5 234 0 x1)), some (zi 0), none, none] [] J5 K5 Q) (fun E => Q (.inr E) e5 J5 K5)) ∧ (x4_ ≠ (0 : Int) → ((0 : Int) = 0 ∨ (0 : Int) = 1) ∧ Q (.inl (some (zi 0))) 0 J4 K4)) (fun E => Q (.inr E) e4 J4 K4))) (fun E => Q (.inr E) e1 J1 K1)) :
  zCall L xs (D + 1) 191 [zr 142, zi x1] J K Q :=
  zrun_ok (T := mct191) (o := 12) (ret := (some FieldType.boolean)) (hs := [(42, [4, 5]), (83, [])]) hL rfl 23 _ _ _ _ _ _ _ h
set_option maxRecDepth 30000 in
theorem z191_42 {L : Nat} {xs : Nat → Int32} (hL : L ≤ 3072) {D : Nat} {x1 x2 x3 : Int} {J : zJ} {K : zK} {Q : zR → Nat → zJ → zK → Prop}
  (h : zin x3 ∧ zin (J 142 0 49) ∧ ((J 142 0 49) ≤ x3 → ((0 : Int) = 0 ∨ (0 : Int) = 1) ∧ Q (.inl (some (zi 0))) 0 J K) ∧ (x3 < (J 142 0 49) → zin x2 ∧ (x2 ≤ (0 : Int) → ((0 : Int) = 0 ∨ (0 : Int) = 1) ∧ Q (.inl (some (zi 0))) 0 J K) ∧ ((0 : Int) < x2 → 0 ≤ x3 ∧ x3 < 8 ∧ zin (J 552 0 x3) ∧ ((J 552 0 x3) ≠ (0 : Int) → zGo L xs (D + 1) 191 83 [some (zr 142), some (zi x1), some (zi x2), some (zi x3), some (zi 0), some (zi 0)] [] J K Q) ∧ ((J 552 0 x3) = (0 : Int) → 0 ≤ x3 ∧ x3 < 8 ∧ zin (J 550 0 x3) ∧ zin x2 ∧ ((J 550 0 x3) ≠ x2 → zGo L xs (D + 1) 191 83 [some (zr 142), some (zi x1), some (zi x2), some (zi x3), some (zi 0), some (zi 0)] [] J K Q) ∧ ((J 550 0 x3) = x2 → zGo L xs (D + 1) 191 83 [some (zr 142), some (zi x1), some (zi x2), some (zi x3), some (zi 1), some (zi 0)] [] J K Q))))) :
  zGo L xs (D + 1) 191 42 [some (zr 142), some (zi x1), some (zi x2), some (zi x3), none, none] [] J K Q :=
  zrun_ok (T := mct191) (o := 12) (ret := (some FieldType.boolean)) (hs := [(42, [4, 5]), (83, [])]) hL rfl 22 _ _ _ _ _ _ _ h
set_option maxRecDepth 30000 in
theorem z191_83 {L : Nat} {xs : Nat → Int32} (hL : L ≤ 3072) {D : Nat} {x1 x2 x3 x4 x5 : Int} {J : zJ} {K : zK} {Q : zR → Nat → zJ → zK → Prop}
  (h : zin x5 ∧ zin x2 ∧ (x2 ≤ x5 → zin x4 ∧ (x4 = (0 : Int) → zGo L xs (D + 1) 191 42 [some (zr 142), some (zi x1), some (zi x2), some (zi (x3 + 1)), none, none] [] J K Q) ∧ (x4 ≠ (0 : Int) → ((1 : Int) = 0 ∨ (1 : Int) = 1) ∧ Q (.inl (some (zi 1))) 0 J K)) ∧ (x5 < x2 → zin x4 ∧ (x4 = (0 : Int) → zin x4 ∧ (x4 = (0 : Int) → zGo L xs (D + 1) 191 42 [some (zr 142), some (zi x1), some (zi x2), some (zi (x3 + 1)), none, none] [] J K Q) ∧ (x4 ≠ (0 : Int) → ((1 : Int) = 0 ∨ (1 : Int) = 1) ∧ Q (.inl (some (zi 1))) 0 J K)) ∧ (x4 ≠ (0 : Int) → 0 ≤ x3 ∧ x3 < 8 ∧ 0 ≤ x3 ∧ x3 < 8 ∧ 0 ≤ x5 ∧ x5 < 8 ∧ 0 ≤ x1 ∧ x1 < 4 ∧ 0 ≤ x1 ∧ x1 < 4 ∧ 0 ≤ ((x2 - 1) - x5) ∧ ((x2 - 1) - x5) < 8 ∧ zin (J 541 x3 x5) ∧ zin (J 229 x1 ((x2 - 1) - x5)) ∧ ((J 541 x3 x5) ≠ (J 229 x1 ((x2 - 1) - x5)) → zGo L xs (D + 1) 191 83 [some (zr 142), some (zi x1), some (zi x2), some (zi x3), some (zi 0), some (zi (x5 + 1))] [] J K Q) ∧ ((J 541 x3 x5) = (J 229 x1 ((x2 - 1) - x5)) → zGo L xs (D + 1) 191 83 [some (zr 142), some (zi x1), some (zi x2), some (zi x3), some (zi 1), some (zi (x5 + 1))] [] J K Q)))) :
  zGo L xs (D + 1) 191 83 [some (zr 142), some (zi x1), some (zi x2), some (zi x3), some (zi x4), some (zi x5)] [] J K Q :=
  zrun_ok (T := mct191) (o := 12) (ret := (some FieldType.boolean)) (hs := [(42, [4, 5]), (83, [])]) hL rfl 27 _ _ _ _ _ _ _ h
/-! PartingTrainsModel.amount -/
set_option maxRecDepth 30000 in
theorem z192 {L : Nat} {xs : Nat → Int32} (hL : L ≤ 3072) {D : Nat} {x0 : Int} {J : zJ} {K : zK} {Q : zR → Nat → zJ → zK → Prop}
  (h : zin x0 ∧ ((0 : Int) ≤ x0 → Q (.inl (some (zi x0))) 0 J K) ∧ (x0 < (0 : Int) → Q (.inl (some (zi (-x0)))) 0 J K)) :
  zCall L xs (D + 1) 192 [zi x0] J K Q :=
  zrun_ok (T := mct192) (o := 12) (ret := (some FieldType.int)) (hs := []) hL rfl 6 _ _ _ _ _ _ _ h
/-! PartingTrainsModel.areBits -/
set_option maxRecDepth 30000 in
theorem z193 {L : Nat} {xs : Nat → Int32} (hL : L ≤ 3072) {D : Nat} {x1 : Int} {J : zJ} {K : zK} {Q : zR → Nat → zJ → zK → Prop}
  (h : 0 ≤ (1 : Int) ∧ (1 : Int) < 8 ∧ 0 ≤ (J 144 0 1) ∧ (J 144 0 1) < 32 ∧ zCall L xs D 240 [zi x1, zi 0, zi ((1 * 2 ^ ((J 144 0 1).toNat)) - 1)] J K fun r1 e1 J1 K1 => zaI r1 e1 (fun x1_ => (x1_ = 0 ∨ x1_ = 1) ∧ Q (.inl (some (zi x1_))) 0 J1 K1) (fun E => Q (.inr E) e1 J1 K1)) :
  zCall L xs (D + 1) 193 [zr 142, zi x1] J K Q :=
  zrun_ok (T := mct193) (o := 12) (ret := (some FieldType.boolean)) (hs := []) hL rfl 12 _ _ _ _ _ _ _ h
/-! PartingTrainsModel.arrives -/
set_option maxRecDepth 30000 in
theorem z194 {L : Nat} {xs : Nat → Int32} (hL : L ≤ 3072) {D : Nat} {x1 : Int} {J : zJ} {K : zK} {Q : zR → Nat → zJ → zK → Prop}
  (h : zCall L xs D 249 [zr 142, zi x1] (zup J 142 0 0 0) K fun r1 e1 J1 K1 => zaI r1 e1 (fun x1_ => zin x1_ ∧ (x1_ ≠ (0 : Int) → zCall L xs D 195 [zr 142, zi 0, zi 1] J1 K1 fun r2 e2 J2 K2 => zaI r2 e2 (fun x2_ => zin x2_ ∧ (x2_ = (0 : Int) → zCall L xs D 255 [zr 142] J2 K2 fun r3 e3 J3 K3 => zaV r3 e3 (0 ≤ x1 ∧ x1 < 8 ∧ Q (.inl (some (zi (J3 256 0 x1)))) 0 J3 K3) (fun E => Q (.inr E) e3 J3 K3)) ∧ (x2_ ≠ (0 : Int) → Q (.inl (some (zi 0))) 0 J2 K2)) (fun E => Q (.inr E) e2 J2 K2)) ∧ (x1_ = (0 : Int) → zCall L xs D 195 [zr 142, zi 1, zi 1] J1 K1 fun r4 e4 J4 K4 => zaI r4 e4 (fun x4_ => zin x4_ ∧ (x4_ = (0 : Int) → zCall L xs D 255 [zr 142] J4 K4 fun r5 e5 J5 K5 => zaV r5 e5 (0 ≤ x1 ∧ x1 < 8 ∧ Q (.inl (some (zi (J5 256 0 x1)))) 0 J5 K5) (fun E => Q (.inr E) e5 J5 K5)) ∧ (x4_ ≠ (0 : Int) → Q (.inl (some (zi 0))) 0 J4 K4)) (fun E => Q (.inr E) e4 J4 K4))) (fun E => Q (.inr E) e1 J1 K1)) :
  zCall L xs (D + 1) 194 [zr 142, zi x1] J K Q :=
  zrun_ok (T := mct194) (o := 12) (ret := (some FieldType.int)) (hs := []) hL rfl 20 _ _ _ _ _ _ _ h
/-! PartingTrainsModel.bad -/
set_option maxRecDepth 30000 in
theorem z195 {L : Nat} {xs : Nat → Int32} (hL : L ≤ 3072) {D : Nat} {x1 x2 : Int} {J : zJ} {K : zK} {Q : zR → Nat → zJ → zK → Prop}
  (h : zin x1 ∧ (x1 = (0 : Int) → zin (J 142 0 0) ∧ ((J 142 0 0) = (0 : Int) → ((0 : Int) = 0 ∨ (0 : Int) = 1) ∧ Q (.inl (some (zi 0))) 0 J K) ∧ ((J 142 0 0) ≠ (0 : Int) → ((1 : Int) = 0 ∨ (1 : Int) = 1) ∧ Q (.inl (some (zi 1))) 0 J K)) ∧ (x1 ≠ (0 : Int) → zin (J 142 0 0) ∧ ((J 142 0 0) ≠ (0 : Int) → zin (J 142 0 0) ∧ ((J 142 0 0) = (0 : Int) → ((0 : Int) = 0 ∨ (0 : Int) = 1) ∧ Q (.inl (some (zi 0))) 0 J K) ∧ ((J 142 0 0) ≠ (0 : Int) → ((1 : Int) = 0 ∨ (1 : Int) = 1) ∧ Q (.inl (some (zi 1))) 0 J K)) ∧ ((J 142 0 0) = (0 : Int) → zin x2 ∧ (x2 = (0 : Int) → ((0 : Int) = 0 ∨ (0 : Int) = 1) ∧ Q (.inl (some (zi 0))) 0 (zup J 142 0 0 x2) K) ∧ (x2 ≠ (0 : Int) → ((1 : Int) = 0 ∨ (1 : Int) = 1) ∧ Q (.inl (some (zi 1))) 0 (zup J 142 0 0 x2) K)))) :
  zCall L xs (D + 1) 195 [zr 142, zi x1, zi x2] J K Q :=
  zrun_ok (T := mct195) (o := 12) (ret := (some FieldType.boolean)) (hs := []) hL rfl 14 _ _ _ _ _ _ _ h
/-! PartingTrainsModel.badFork -/
set_option maxRecDepth 30000 in
theorem z196 {L : Nat} {xs : Nat → Int32} (hL : L ≤ 3072) {D : Nat} {x1 : Int} {J : zJ} {K : zK} {Q : zR → Nat → zJ → zK → Prop}
  (h : zCall L xs D 248 [zr 142, zi x1] J K fun r1 e1 J1 K1 => zaI r1 e1 (fun x1_ => zin x1_ ∧ (x1_ ≠ (0 : Int) → zCall L xs D 195 [zr 142, zi 0, zi 1] J1 K1 fun r2 e2 J2 K2 => zaI r2 e2 (fun x2_ => zin x2_ ∧ (x2_ ≠ (0 : Int) → ((1 : Int) = 0 ∨ (1 : Int) = 1) ∧ Q (.inl (some (zi 1))) 0 J2 K2) ∧ (x2_ = (0 : Int) → zCall L xs D 245 [zr 142, zi x1] J2 K2 fun r3 e3 J3 K3 => zaI r3 e3 (fun x3_ => zin x3_ ∧ (x3_ ≠ (0 : Int) → zCall L xs D 195 [zr 142, zi 0, zi 2] J3 K3 fun r4 e4 J4 K4 => zaI r4 e4 (fun x4_ => zin x4_ ∧ (x4_ = (0 : Int) → ((0 : Int) = 0 ∨ (0 : Int) = 1) ∧ Q (.inl (some (zi 0))) 0 J4 K4) ∧ (x4_ ≠ (0 : Int) → ((1 : Int) = 0 ∨ (1 : Int) = 1) ∧ Q (.inl (some (zi 1))) 0 J4 K4)) (fun E => Q (.inr E) e4 J4 K4)) ∧ (x3_ = (0 : Int) → zCall L xs D 195 [zr 142, zi 1, zi 2] J3 K3 fun r5 e5 J5 K5 => zaI r5 e5 (fun x5_ => zin x5_ ∧ (x5_ = (0 : Int) → ((0 : Int) = 0 ∨ (0 : Int) = 1) ∧ Q (.inl (some (zi 0))) 0 J5 K5) ∧ (x5_ ≠ (0 : Int) → ((1 : Int) = 0 ∨ (1 : Int) = 1) ∧ Q (.inl (some (zi 1))) 0 J5 K5)) (fun E => Q (.inr E) e5 J5 K5))) (fun E => Q (.inr E) e3 J3 K3))) (fun E => Q (.inr E) e2 J2 K2)) ∧ (x1_ = (0 : Int) → zCall L xs D 195 [zr 142, zi 1, zi 1] J1 K1 fun r6 e6 J6 K6 => zaI r6 e6 (fun x6_ => zin x6_ ∧ (x6_ ≠ (0 : Int) → ((1 : Int) = 0 ∨ (1 : Int) = 1) ∧ Q (.inl (some (zi 1))) 0 J6 K6) ∧ (x6_ = (0 : Int) → zCall L xs D 245 [zr 142, zi x1] J6 K6 fun r7 e7 J7 K7 => zaI r7 e7 (fun x7_ => zin x7_ ∧ (x7_ ≠ (0 : Int) → zCall L xs D 195 [zr 142, zi 0, zi 2] J7 K7 fun r8 e8 J8 K8 => zaI r8 e8 (fun x8_ => zin x8_ ∧ (x8_ = (0 : Int) → ((0 : Int) = 0 ∨ (0 : Int) = 1) ∧ Q (.inl (some (zi 0))) 0 J8 K8) ∧ (x8_ ≠ (0 : Int) → ((1 : Int) = 0 ∨ (1 : Int) = 1) ∧ Q (.inl (some (zi 1))) 0 J8 K8)) (fun E => Q (.inr E) e8 J8 K8)) ∧ (x7_ = (0 : Int) → zCall L xs D 195 [zr 142, zi 1, zi 2] J7 K7 fun r9 e9 J9 K9 => zaI r9 e9 (fun x9_ => zin x9_ ∧ (x9_ = (0 : Int) → ((0 : Int) = 0 ∨ (0 : Int) = 1) ∧ Q (.inl (some (zi 0))) 0 J9 K9) ∧ (x9_ ≠ (0 : Int) → ((1 : Int) = 0 ∨ (1 : Int) = 1) ∧ Q (.inl (some (zi 1))) 0 J9 K9)) (fun E => Q (.inr E) e9 J9 K9))) (fun E => Q (.inr E) e7 J7 K7))) (fun E => Q (.inr E) e6 J6 K6))) (fun E => Q (.inr E) e1 J1 K1)) :
  zCall L xs (D + 1) 196 [zr 142, zi x1] J K Q :=
  zrun_ok (T := mct196) (o := 12) (ret := (some FieldType.boolean)) (hs := []) hL rfl 23 _ _ _ _ _ _ _ h
/-! PartingTrainsModel.behind -/
set_option maxRecDepth 30000 in
theorem z197 {L : Nat} {xs : Nat → Int32} (hL : L ≤ 3072) {D : Nat} {x1 x2 : Int} {J : zJ} {K : zK} {Q : zR → Nat → zJ → zK → Prop}
  (h : zCall L xs D 246 [zr 142, zi x1] (zup J 142 0 0 0) K fun r1 e1 J1 K1 => zaI r1 e1 (fun x1_ => zin x1_ ∧ (x1_ = (0 : Int) → zCall L xs D 195 [zr 142, zi 1, zi 1] J1 K1 fun r2 e2 J2 K2 => zaI r2 e2 (fun x2_ => zin x2_ ∧ (x2_ = (0 : Int) → zin x1 ∧ zin x2 ∧ (x1 = x2 → ((0 : Int) = 0 ∨ (0 : Int) = 1) ∧ Q (.inl (some (zi 0))) 0 J2 K2) ∧ (x1 ≠ x2 → zCall L xs D 243 [zr 142, zi x1, zi x2] J2 K2 fun r3 e3 J3 K3 => zaI r3 e3 (fun x3_ => zin x3_ ∧ (x3_ = (0 : Int) → ((0 : Int) = 0 ∨ (0 : Int) = 1) ∧ Q (.inl (some (zi 0))) 0 J3 K3) ∧ (x3_ ≠ (0 : Int) → ((1 : Int) = 0 ∨ (1 : Int) = 1) ∧ Q (.inl (some (zi 1))) 0 J3 K3)) (fun E => Q (.inr E) e3 J3 K3))) ∧ (x2_ ≠ (0 : Int) → ((0 : Int) = 0 ∨ (0 : Int) = 1) ∧ Q (.inl (some (zi 0))) 0 J2 K2)) (fun E => Q (.inr E) e2 J2 K2)) ∧ (x1_ ≠ (0 : Int) → zCall L xs D 246 [zr 142, zi x2] J1 K1 fun r4 e4 J4 K4 => zaI r4 e4 (fun x4_ => zin x4_ ∧ (x4_ ≠ (0 : Int) → zCall L xs D 195 [zr 142, zi 0, zi 1] J4 K4 fun r5 e5 J5 K5 => zaI r5 e5 (fun x5_ => zin x5_ ∧ (x5_ = (0 : Int) → zin x1 ∧ zin x2 ∧ (x1 = x2 → ((0 : Int) = 0 ∨ (0 : Int) = 1) ∧ Q (.inl (some (zi 0))) 0 J5 K5) ∧ (x1 ≠ x2 → zCall L xs D 243 [zr 142, zi x1, zi x2] J5 K5 fun r6 e6 J6 K6 => zaI r6 e6 (fun x6_ => zin x6_ ∧ (x6_ = (0 : Int) → ((0 : Int) = 0 ∨ (0 : Int) = 1) ∧ Q (.inl (some (zi 0))) 0 J6 K6) ∧ (x6_ ≠ (0 : Int) → ((1 : Int) = 0 ∨ (1 : Int) = 1) ∧ Q (.inl (some (zi 1))) 0 J6 K6)) (fun E => Q (.inr E) e6 J6 K6))) ∧ (x5_ ≠ (0 : Int) → ((0 : Int) = 0 ∨ (0 : Int) = 1) ∧ Q (.inl (some (zi 0))) 0 J5 K5)) (fun E => Q (.inr E) e5 J5 K5)) ∧ (x4_ = (0 : Int) → zCall L xs D 195 [zr 142, zi 1, zi 1] J4 K4 fun r7 e7 J7 K7 => zaI r7 e7 (fun x7_ => zin x7_ ∧ (x7_ = (0 : Int) → zin x1 ∧ zin x2 ∧ (x1 = x2 → ((0 : Int) = 0 ∨ (0 : Int) = 1) ∧ Q (.inl (some (zi 0))) 0 J7 K7) ∧ (x1 ≠ x2 → zCall L xs D 243 [zr 142, zi x1, zi x2] J7 K7 fun r8 e8 J8 K8 => zaI r8 e8 (fun x8_ => zin x8_ ∧ (x8_ = (0 : Int) → ((0 : Int) = 0 ∨ (0 : Int) = 1) ∧ Q (.inl (some (zi 0))) 0 J8 K8) ∧ (x8_ ≠ (0 : Int) → ((1 : Int) = 0 ∨ (1 : Int) = 1) ∧ Q (.inl (some (zi 1))) 0 J8 K8)) (fun E => Q (.inr E) e8 J8 K8))) ∧ (x7_ ≠ (0 : Int) → ((0 : Int) = 0 ∨ (0 : Int) = 1) ∧ Q (.inl (some (zi 0))) 0 J7 K7)) (fun E => Q (.inr E) e7 J7 K7))) (fun E => Q (.inr E) e4 J4 K4))) (fun E => Q (.inr E) e1 J1 K1)) :
  zCall L xs (D + 1) 197 [zr 142, zi x1, zi x2] J K Q :=
  zrun_ok (T := mct197) (o := 12) (ret := (some FieldType.boolean)) (hs := []) hL rfl 28 _ _ _ _ _ _ _ h
/-! PartingTrainsModel.best -/
set_option maxRecDepth 30000 in
theorem z198 {L : Nat} {xs : Nat → Int32} (hL : L ≤ 3072) {D : Nat} {x1 : Int} {J : zJ} {K : zK} {Q : zR → Nat → zJ → zK → Prop}
  (h : zin x1 ∧ zin (-1) ∧ (x1 = (-1 : Int) → zCall L xs D 195 [zr 142, zi 0, zi 1] (zup J 142 0 0 0) K fun r1 e1 J1 K1 => zaI r1 e1 (fun x1_ => zin x1_ ∧ (x1_ = (0 : Int) → zCall L xs D 223 [zr 142] J1 K1 fun r2 e2 J2 K2 => zaI r2 e2 (fun x2_ => zin x2_ ∧ zin (-2) ∧ (x2_ = (-2 : Int) → Q (.inl (some (zi x2_))) 0 J2 K2) ∧ (x2_ ≠ (-2 : Int) → zin x1 ∧ zin (-1) ∧ (x1 ≠ (-1 : Int) → 0 ≤ x1 ∧ x1 < 8 ∧ Q (.inl (some (zi (J2 534 0 x1)))) 0 J2 K2) ∧ (x1 = (-1 : Int) → Q (.inl (some (zi x2_))) 0 J2 K2))) (fun E => Q (.inr E) e2 J2 K2)) ∧ (x1_ ≠ (0 : Int) → Q (.inl (some (zi 0))) 0 J1 K1)) (fun E => Q (.inr E) e1 J1 K1)) ∧ (x1 ≠ (-1 : Int) → zCall L xs D 249 [zr 142, zi x1] (zup J 142 0 0 0) K fun r3 e3 J3 K3 => zaI r3 e3 (fun x3_ => zin x3_ ∧ (x3_ ≠ (0 : Int) → zCall L xs D 195 [zr 142, zi 0, zi 1] J3 K3 fun r4 e4 J4 K4 => zaI r4 e4 (fun x4_ => zin x4_ ∧ (x4_ = (0 : Int) → zCall L xs D 223 [zr 142] J4 K4 fun r5 e5 J5 K5 => zaI r5 e5 (fun x5_ => zin x5_ ∧ zin (-2) ∧ (x5_ = (-2 : Int) → Q (.inl (some (zi x5_))) 0 J5 K5) ∧ (x5_ ≠ (-2 : Int) → zin x1 ∧ zin (-1) ∧ (x1 ≠ (-1 : Int) → 0 ≤ x1 ∧ x1 < 8 ∧ Q (.inl (some (zi (J5 534 0 x1)))) 0 J5 K5) ∧ (x1 = (-1 : Int) → Q (.inl (some (zi x5_))) 0 J5 K5))) (fun E => Q (.inr E) e5 J5 K5)) ∧ (x4_ ≠ (0 : Int) → Q (.inl (some (zi 0))) 0 J4 K4)) (fun E => Q (.inr E) e4 J4 K4)) ∧ (x3_ = (0 : Int) → zCall L xs D 195 [zr 142, zi 1, zi 1] J3 K3 fun r6 e6 J6 K6 => zaI r6 e6 (fun x6_ => zin x6_ ∧ (x6_ = (0 : Int) → zCall L xs D 223 [zr 142] J6 K6 fun r7 e7 J7 K7 => zaI r7 e7 (fun x7_ => zin x7_ ∧ zin (-2) ∧ (x7_ = (-2 : Int) → Q (.inl (some (zi x7_))) 0 J7 K7) ∧ (x7_ ≠ (-2 : Int) → zin x1 ∧ zin (-1) ∧ (x1 ≠ (-1 : Int) → 0 ≤ x1 ∧ x1 < 8 ∧ Q (.inl (some (zi (J7 534 0 x1)))) 0 J7 K7) ∧ (x1 = (-1 : Int) → Q (.inl (some (zi x7_))) 0 J7 K7))) (fun E => Q (.inr E) e7 J7 K7)) ∧ (x6_ ≠ (0 : Int) → Q (.inl (some (zi 0))) 0 J6 K6)) (fun E => Q (.inr E) e6 J6 K6))) (fun E => Q (.inr E) e3 J3 K3))) :
  zCall L xs (D + 1) 198 [zr 142, zi x1] J K Q :=
  zrun_ok (T := mct198) (o := 12) (ret := (some FieldType.int)) (hs := []) hL rfl 30 _ _ _ _ _ _ _ h
/-! PartingTrainsModel.bestWait -/
set_option maxRecDepth 30000 in
theorem z199 {L : Nat} {xs : Nat → Int32} (hL : L ≤ 3072) {D : Nat} {x1 : Int} {J : zJ} {K : zK} {Q : zR → Nat → zJ → zK → Prop}
  (h : zCall L xs D 196 [zr 142, zi x1] (zup J 142 0 0 0) K fun r1 e1 J1 K1 => zaI r1 e1 (fun x1_ => zin x1_ ∧ (x1_ = (0 : Int) → zCall L xs D 200 [zr 142, zi x1] J1 K1 fun r2 e2 J2 K2 => zaI r2 e2 (fun x2_ => Q (.inl (some (zi x2_))) 0 J2 K2) (fun E => Q (.inr E) e2 J2 K2)) ∧ (x1_ ≠ (0 : Int) → Q (.inl (some (zi 0))) 0 J1 K1)) (fun E => Q (.inr E) e1 J1 K1)) :
  zCall L xs (D + 1) 199 [zr 142, zi x1] J K Q :=
  zrun_ok (T := mct199) (o := 12) (ret := (some FieldType.int)) (hs := []) hL rfl 11 _ _ _ _ _ _ _ h
/-! PartingTrainsModel.bestWaitOf -/
set_option maxRecDepth 30000 in
theorem z200 {L : Nat} {xs : Nat → Int32} (hL : L ≤ 3072) {D : Nat} {x1 : Int} {J : zJ} {K : zK} {Q : zR → Nat → zJ → zK → Prop}
  (h : 0 ≤ x1 ∧ x1 < 12 ∧ zGo L xs (D + 1) 200 15 [some (zr 142), some (zi x1), some (zi (J 237 0 x1)), some (zi 0), some (zl 0), none, some (zi 0), none, none] [] J K Q) :
  zCall L xs (D + 1) 200 [zr 142, zi x1] J K Q :=
  zrun_ok (T := mct200) (o := 12) (ret := (some FieldType.int)) (hs := [(15, [5, 7, 8])]) hL rfl 11 _ _ _ _ _ _ _ h
set_option maxRecDepth 30000 in
theorem z200_15 {L : Nat} {xs : Nat → Int32} (hL : L ≤ 3072) {D : Nat} {x1 x2 x3 x4 x6 : Int} {J : zJ} {K : zK} {Q : zR → Nat → zJ → zK → Prop}
  (h : zin x6 ∧ zin 60 ∧ ((60 : Int) < x6 → 0 ≤ x1 ∧ x1 < 12 ∧ Q (.inl (some (zi x3))) 0 (zup J 237 0 x1 x2) K) ∧ (x6 ≤ (60 : Int) → 0 ≤ x1 ∧ x1 < 12 ∧ zCall L xs D 267 [zr 142] (zup J 237 0 x1 x6) K fun r1 e1 J1 K1 => zaL r1 e1 (fun x1_ => zin x6 ∧ (x6 ≤ (0 : Int) → zGo L xs (D + 1) 200 15 [some (zr 142), some (zi x1), some (zi x2), some (zi x6), some (zl x1_), none, some (zi (x6 + 5)), none, none] [] J1 K1 Q) ∧ ((0 : Int) < x6 → zin (zcmp x1_ x4) ∧ ((zcmp x1_ x4) < (0 : Int) → zGo L xs (D + 1) 200 15 [some (zr 142), some (zi x1), some (zi x2), some (zi x6), some (zl x1_), none, some (zi (x6 + 5)), none, none] [] J1 K1 Q) ∧ ((0 : Int) ≤ (zcmp x1_ x4) → zGo L xs (D + 1) 200 15 [some (zr 142), some (zi x1), some (zi x2), some (zi x3), some (zl x4), none, some (zi (x6 + 5)), none, none] [] J1 K1 Q))) (fun E => Q (.inr E) e1 J1 K1))) :
  zGo L xs (D + 1) 200 15 [some (zr 142), some (zi x1), some (zi x2), some (zi x3), some (zl x4), none, some (zi x6), none, none] [] J K Q :=
  zrun_ok (T := mct200) (o := 12) (ret := (some FieldType.int)) (hs := [(15, [5, 7, 8])]) hL rfl 23 _ _ _ _ _ _ _ h
/-! PartingTrainsModel.bitsOf -/
set_option maxRecDepth 30000 in
theorem z201 {L : Nat} {xs : Nat → Int32} (hL : L ≤ 3072) {D : Nat} {x1 : Int} {J : zJ} {K : zK} {Q : zR → Nat → zJ → zK → Prop}
  (h : zGo L xs (D + 1) 201 4 [some (zr 142), some (zi x1), some (zi 0), some (zi 0)] [] J K Q) :
  zCall L xs (D + 1) 201 [zr 142, zi x1] J K Q :=
  zrun_ok (T := mct201) (o := 12) (ret := (some FieldType.int)) (hs := [(4, [])]) hL rfl 4 _ _ _ _ _ _ _ h
set_option maxRecDepth 30000 in
theorem z201_4 {L : Nat} {xs : Nat → Int32} (hL : L ≤ 3072) {D : Nat} {x1 x2 x3 : Int} {J : zJ} {K : zK} {Q : zR → Nat → zJ → zK → Prop}
  (h : 0 ≤ x1 ∧ x1 < 4 ∧ zin x3 ∧ zin (J 234 0 x1) ∧ ((J 234 0 x1) ≤ x3 → Q (.inl (some (zi x2))) 0 J K) ∧ (x3 < (J 234 0 x1) → 0 ≤ x1 ∧ x1 < 4 ∧ 0 ≤ x1 ∧ x1 < 4 ∧ 0 ≤ x3 ∧ x3 < 8 ∧ 0 ≤ (J 229 x1 x3) ∧ (J 229 x1 x3) < 32 ∧ zGo L xs (D + 1) 201 4 [some (zr 142), some (zi x1), some (zi (zor x2 (1 * 2 ^ ((J 229 x1 x3).toNat)))), some (zi (x3 + 1))] [] J K Q)) :
  zGo L xs (D + 1) 201 4 [some (zr 142), some (zi x1), some (zi x2), some (zi x3)] [] J K Q :=
  zrun_ok (T := mct201) (o := 12) (ret := (some FieldType.int)) (hs := [(4, [])]) hL rfl 19 _ _ _ _ _ _ _ h
/-! PartingTrainsModel.blanks -/
set_option maxRecDepth 30000 in
theorem z202 {L : Nat} {xs : Nat → Int32} (hL : L ≤ 3072) {D : Nat} {J : zJ} {K : zK} {Q : zR → Nat → zJ → zK → Prop}
  (h : zCall L xs D 204 [zr 142, zi (J 142 0 4)] J K fun r1 e1 J1 K1 => zaI r1 e1 (fun x1_ => zin x1_ ∧ zin 32 ∧ (x1_ ≠ (32 : Int) → Q (.inl none) 0 J1 K1) ∧ (x1_ = (32 : Int) → zGo L xs (D + 1) 202 0 [some (zr 142)] [] (zup J1 142 0 4 ((J1 142 0 4) + 1)) K1 Q)) (fun E => Q (.inr E) e1 J1 K1)) :
  zCall L xs (D + 1) 202 [zr 142] J K Q :=
  zrun_ok (T := mct202) (o := 12) (ret := none) (hs := [(0, [])]) hL rfl 13 _ _ _ _ _ _ _ h
set_option maxRecDepth 30000 in
theorem z202_0 {L : Nat} {xs : Nat → Int32} (hL : L ≤ 3072) {D : Nat} {J : zJ} {K : zK} {Q : zR → Nat → zJ → zK → Prop}
  (h : zCall L xs D 204 [zr 142, zi (J 142 0 4)] J K fun r1 e1 J1 K1 => zaI r1 e1 (fun x1_ => zin x1_ ∧ zin 32 ∧ (x1_ ≠ (32 : Int) → Q (.inl none) 0 J1 K1) ∧ (x1_ = (32 : Int) → zGo L xs (D + 1) 202 0 [some (zr 142)] [] (zup J1 142 0 4 ((J1 142 0 4) + 1)) K1 Q)) (fun E => Q (.inr E) e1 J1 K1)) :
  zGo L xs (D + 1) 202 0 [some (zr 142)] [] J K Q :=
  zrun_ok (T := mct202) (o := 12) (ret := none) (hs := [(0, [])]) hL rfl 13 _ _ _ _ _ _ _ h
/-! PartingTrainsModel.bound -/
set_option maxRecDepth 30000 in
theorem z203 {L : Nat} {xs : Nat → Int32} (hL : L ≤ 3072) {D : Nat} {J : zJ} {K : zK} {Q : zR → Nat → zJ → zK → Prop}
  (h : zGo L xs (D + 1) 203 9 [some (zr 142), some (zi 0), some (zi 0), none, none] [] (zup J 142 0 0 0) K Q) :
  zCall L xs (D + 1) 203 [zr 142] J K Q :=
  zrun_ok (T := mct203) (o := 12) (ret := (some FieldType.int)) (hs := [(9, [3, 4]), (24, [])]) hL rfl 7 _ _ _ _ _ _ _ h
set_option maxRecDepth 30000 in
theorem z203_9 {L : Nat} {xs : Nat → Int32} (hL : L ≤ 3072) {D : Nat} {x1 x2 : Int} {J : zJ} {K : zK} {Q : zR → Nat → zJ → zK → Prop}
  (h : 0 ≤ (3 : Int) ∧ (3 : Int) < 8 ∧ zin x2 ∧ zin (J 144 0 3) ∧ ((J 144 0 3) ≤ x2 → Q (.inl (some (zi x1))) 0 J K) ∧ (x2 < (J 144 0 3) → zGo L xs (D + 1) 203 24 [some (zr 142), some (zi x1), some (zi x2), some (zi 0), some (zi 0)] [] J K Q)) :
  zGo L xs (D + 1) 203 9 [some (zr 142), some (zi x1), some (zi x2), none, none] [] J K Q :=
  zrun_ok (T := mct203) (o := 12) (ret := (some FieldType.int)) (hs := [(9, [3, 4]), (24, [])]) hL rfl 10 _ _ _ _ _ _ _ h
set_option maxRecDepth 30000 in
theorem z203_24 {L : Nat} {xs : Nat → Int32} (hL : L ≤ 3072) {D : Nat} {x1 x2 x3 x4 : Int} {J : zJ} {K : zK} {Q : zR → Nat → zJ → zK → Prop}
  (h : zin x4 ∧ zin (J 142 0 15) ∧ ((J 142 0 15) ≤ x4 → zGo L xs (D + 1) 203 9 [some (zr 142), some (zi (x1 + x3)), some (zi (x2 + 1)), none, none] [] J K Q) ∧ (x4 < (J 142 0 15) → 0 ≤ x4 ∧ x4 < 4 ∧ zCall L xs D 311 [zr 142, zi x2, zi (J 235 0 x4)] J K fun r1 e1 J1 K1 => zaI r1 e1 (fun x1_ => zCall L xs D 268 [zi x3, zi x1_] J1 K1 fun r2 e2 J2 K2 => zaI r2 e2 (fun x2_ => zGo L xs (D + 1) 203 24 [some (zr 142), some (zi x1), some (zi x2), some (zi x2_), some (zi (x4 + 1))] [] J2 K2 Q) (fun E => Q (.inr E) e2 J2 K2)) (fun E => Q (.inr E) e1 J1 K1))) :
  zGo L xs (D + 1) 203 24 [some (zr 142), some (zi x1), some (zi x2), some (zi x3), some (zi x4)] [] J K Q :=
  zrun_ok (T := mct203) (o := 12) (ret := (some FieldType.int)) (hs := [(9, [3, 4]), (24, [])]) hL rfl 16 _ _ _ _ _ _ _ h
/-! PartingTrainsModel.byteAt -/
set_option maxRecDepth 30000 in
theorem z204 {L : Nat} {xs : Nat → Int32} (hL : L ≤ 3072) {D : Nat} {x1 : Int} {J : zJ} {K : zK} {Q : zR → Nat → zJ → zK → Prop}
  (h : zin x1 ∧ zin (J 142 0 2) ∧ (x1 < (J 142 0 2) → 0 ≤ x1 ∧ x1 < 500 ∧ Q (.inl (some (zi (J 143 0 x1)))) 0 J K) ∧ ((J 142 0 2) ≤ x1 → Q (.inl (some (zi (-1)))) 0 J K)) :
  zCall L xs (D + 1) 204 [zr 142, zi x1] J K Q :=
  zrun_ok (T := mct204) (o := 12) (ret := (some FieldType.int)) (hs := []) hL rfl 9 _ _ _ _ _ _ _ h
/-! PartingTrainsModel.carriages -/
set_option maxRecDepth 30000 in
theorem z205 {L : Nat} {xs : Nat → Int32} (hL : L ≤ 3072) {D : Nat} {x1 : Int} {J : zJ} {K : zK} {Q : zR → Nat → zJ → zK → Prop}
  (h : zGo L xs (D + 1) 205 4 [some (zr 142), some (zi x1), some (zi 0), some (zi 0)] [] J K Q) :
  zCall L xs (D + 1) 205 [zr 142, zi x1] J K Q :=
  zrun_ok (T := mct205) (o := 12) (ret := (some FieldType.int)) (hs := [(4, [])]) hL rfl 4 _ _ _ _ _ _ _ h
set_option maxRecDepth 30000 in
theorem z205_4 {L : Nat} {xs : Nat → Int32} (hL : L ≤ 3072) {D : Nat} {x1 x2 x3 : Int} {J : zJ} {K : zK} {Q : zR → Nat → zJ → zK → Prop}
  (h : 0 ≤ (1 : Int) ∧ (1 : Int) < 8 ∧ zin x3 ∧ zin (J 144 0 1) ∧ ((J 144 0 1) ≤ x3 → Q (.inl (some (zi x2))) 0 J K) ∧ (x3 < (J 144 0 1) → zin x1 ∧ 0 ≤ x3 ∧ x3 < 32 ∧ zin (zand (x1 / 2 ^ (x3.toNat)) 1) ∧ zin 1 ∧ ((zand (x1 / 2 ^ (x3.toNat)) 1) ≠ (1 : Int) → zGo L xs (D + 1) 205 4 [some (zr 142), some (zi x1), some (zi (x2 + 0)), some (zi (x3 + 1))] [] J K Q) ∧ ((zand (x1 / 2 ^ (x3.toNat)) 1) = (1 : Int) → 0 ≤ x3 ∧ x3 < 16 ∧ 0 ≤ x3 ∧ x3 < 16 ∧ 0 ≤ (1 : Int) ∧ (1 : Int) < 4 ∧ zGo L xs (D + 1) 205 4 [some (zr 142), some (zi x1), some (zi (x2 + (J 170 x3 1))), some (zi (x3 + 1))] [] J K Q))) :
  zGo L xs (D + 1) 205 4 [some (zr 142), some (zi x1), some (zi x2), some (zi x3)] [] J K Q :=
  zrun_ok (T := mct205) (o := 12) (ret := (some FieldType.int)) (hs := [(4, [])]) hL rfl 25 _ _ _ _ _ _ _ h
/-! PartingTrainsModel.clause -/
set_option maxRecDepth 30000 in
theorem z206 {L : Nat} {xs : Nat → Int32} (hL : L ≤ 3072) {D : Nat} {J : zJ} {K : zK} {Q : zR → Nat → zJ → zK → Prop}
  (h : zCall L xs D 257 [zr 142] J K fun r1 e1 J1 K1 => zaI r1 e1 (fun x1_ => zin x1_ ∧ zin (-1) ∧ (x1_ ≠ (-1 : Int) → zin (J1 142 0 7) ∧ zin 40 ∧ ((J1 142 0 7) = (40 : Int) → zGo L xs (D + 1) 206 96 [some (zr 142), some (zi x1_), none, none, none] [] J1 K1 Q) ∧ ((J1 142 0 7) ≠ (40 : Int) → zin x1_ ∧ (x1_ ≠ (0 : Int) → zGo L xs (D + 1) 206 46 [some (zr 142), some (zi x1_), none, none, none] [] J1 K1 Q) ∧ (x1_ = (0 : Int) → 0 ≤ (4 : Int) ∧ (4 : Int) < 8 ∧ zin (J1 144 0 4) ∧ zin 12 ∧ ((J1 144 0 4) = (12 : Int) → zGo L xs (D + 1) 206 96 [some (zr 142), some (zi x1_), none, none, none] [] J1 K1 Q) ∧ ((J1 144 0 4) ≠ (12 : Int) → zGo L xs (D + 1) 206 46 [some (zr 142), some (zi x1_), none, none, none] [] J1 K1 Q)))) ∧ (x1_ = (-1 : Int) → zCall L xs D 314 [zr 142, zi 1, zi (J1 142 0 4)] J1 K1 fun r2 e2 J2 K2 => zaV r2 e2 (zGo L xs (D + 1) 206 105 [some (zr 142), some (zi x1_), none, none, none] [] J2 K2 Q) (fun E => Q (.inr E) e2 J2 K2))) (fun E => Q (.inr E) e1 J1 K1)) :
  zCall L xs (D + 1) 206 [zr 142] J K Q :=
  zrun_ok (T := mct206) (o := 12) (ret := none) (hs := [(46, [2, 3, 4]), (62, [2, 3, 4]), (79, [2, 3, 4]), (96, [2, 3, 4]), (105, [2, 3, 4]), (195, [1, 2, 3, 4]), (209, [2, 3, 4]), (214, [2, 3, 4]), (232, [1, 2, 3, 4])]) hL rfl 18 _ _ _ _ _ _ _ h
set_option maxRecDepth 30000 in
theorem z206_46 {L : Nat} {xs : Nat → Int32} (hL : L ≤ 3072) {D : Nat} {x1 : Int} {J : zJ} {K : zK} {Q : zR → Nat → zJ → zK → Prop}
  (h : zin x1 ∧ zin 2 ∧ (x1 ≠ (2 : Int) → zGo L xs (D + 1) 206 62 [some (zr 142), some (zi x1), none, none, none] [] J K Q) ∧ (x1 = (2 : Int) → 0 ≤ (5 : Int) ∧ (5 : Int) < 8 ∧ zin (J 144 0 5) ∧ zin 7 ∧ ((J 144 0 5) = (7 : Int) → zGo L xs (D + 1) 206 96 [some (zr 142), some (zi x1), none, none, none] [] J K Q) ∧ ((J 144 0 5) ≠ (7 : Int) → zGo L xs (D + 1) 206 62 [some (zr 142), some (zi x1), none, none, none] [] J K Q))) :
  zGo L xs (D + 1) 206 46 [some (zr 142), some (zi x1), none, none, none] [] J K Q :=
  zrun_ok (T := mct206) (o := 12) (ret := none) (hs := [(46, [2, 3, 4]), (62, [2, 3, 4]), (79, [2, 3, 4]), (96, [2, 3, 4]), (105, [2, 3, 4]), (195, [1, 2, 3, 4]), (209, [2, 3, 4]), (214, [2, 3, 4]), (232, [1, 2, 3, 4])]) hL rfl 9 _ _ _ _ _ _ _ h
set_option maxRecDepth 30000 in
theorem z206_62 {L : Nat} {xs : Nat → Int32} (hL : L ≤ 3072) {D : Nat} {x1 : Int} {J : zJ} {K : zK} {Q : zR → Nat → zJ → zK → Prop}
  (h : zin x1 ∧ zin 4 ∧ (x1 ≠ (4 : Int) → zGo L xs (D + 1) 206 79 [some (zr 142), some (zi x1), none, none, none] [] J K Q) ∧ (x1 = (4 : Int) → 0 ≤ (6 : Int) ∧ (6 : Int) < 8 ∧ zin (J 144 0 6) ∧ zin 8 ∧ ((J 144 0 6) = (8 : Int) → zGo L xs (D + 1) 206 96 [some (zr 142), some (zi x1), none, none, none] [] J K Q) ∧ ((J 144 0 6) ≠ (8 : Int) → zGo L xs (D + 1) 206 79 [some (zr 142), some (zi x1), none, none, none] [] J K Q))) :
  zGo L xs (D + 1) 206 62 [some (zr 142), some (zi x1), none, none, none] [] J K Q :=
  zrun_ok (T := mct206) (o := 12) (ret := none) (hs := [(46, [2, 3, 4]), (62, [2, 3, 4]), (79, [2, 3, 4]), (96, [2, 3, 4]), (105, [2, 3, 4]), (195, [1, 2, 3, 4]), (209, [2, 3, 4]), (214, [2, 3, 4]), (232, [1, 2, 3, 4])]) hL rfl 9 _ _ _ _ _ _ _ h
set_option maxRecDepth 30000 in
theorem z206_79 {L : Nat} {xs : Nat → Int32} (hL : L ≤ 3072) {D : Nat} {x1 : Int} {J : zJ} {K : zK} {Q : zR → Nat → zJ → zK → Prop}
  (h : zin x1 ∧ zin 5 ∧ (x1 ≠ (5 : Int) → zGo L xs (D + 1) 206 105 [some (zr 142), some (zi x1), none, none, none] [] J K Q) ∧ (x1 = (5 : Int) → 0 ≤ (7 : Int) ∧ (7 : Int) < 8 ∧ zin (J 144 0 7) ∧ zin 12 ∧ ((J 144 0 7) ≠ (12 : Int) → zGo L xs (D + 1) 206 105 [some (zr 142), some (zi x1), none, none, none] [] J K Q) ∧ ((J 144 0 7) = (12 : Int) → zGo L xs (D + 1) 206 96 [some (zr 142), some (zi x1), none, none, none] [] J K Q))) :
  zGo L xs (D + 1) 206 79 [some (zr 142), some (zi x1), none, none, none] [] J K Q :=
  zrun_ok (T := mct206) (o := 12) (ret := none) (hs := [(46, [2, 3, 4]), (62, [2, 3, 4]), (79, [2, 3, 4]), (96, [2, 3, 4]), (105, [2, 3, 4]), (195, [1, 2, 3, 4]), (209, [2, 3, 4]), (214, [2, 3, 4]), (232, [1, 2, 3, 4])]) hL rfl 9 _ _ _ _ _ _ _ h
set_option maxRecDepth 30000 in
theorem z206_96 {L : Nat} {xs : Nat → Int32} (hL : L ≤ 3072) {D : Nat} {x1 : Int} {J : zJ} {K : zK} {Q : zR → Nat → zJ → zK → Prop}
  (h : zCall L xs D 314 [zr 142, zi 3, zi (J 142 0 4)] J K fun r1 e1 J1 K1 => zaV r1 e1 (zGo L xs (D + 1) 206 105 [some (zr 142), some (zi x1), none, none, none] [] J1 K1 Q) (fun E => Q (.inr E) e1 J1 K1)) :
  zGo L xs (D + 1) 206 96 [some (zr 142), some (zi x1), none, none, none] [] J K Q :=
  zrun_ok (T := mct206) (o := 12) (ret := none) (hs := [(46, [2, 3, 4]), (62, [2, 3, 4]), (79, [2, 3, 4]), (96, [2, 3, 4]), (105, [2, 3, 4]), (195, [1, 2, 3, 4]), (209, [2, 3, 4]), (214, [2, 3, 4]), (232, [1, 2, 3, 4])]) hL rfl 5 _ _ _ _ _ _ _ h
set_option maxRecDepth 30000 in
theorem z206_105 {L : Nat} {xs : Nat → Int32} (hL : L ≤ 3072) {D : Nat} {x1 : Int} {J : zJ} {K : zK} {Q : zR → Nat → zJ → zK → Prop}
  (h : zin (J 142 0 5) ∧ ((J 142 0 5) = (0 : Int) → zCall L xs D 293 [zr 142] J K fun r1 e1 J1 K1 => zaV r1 e1 (zin x1 ∧ zin 3 ∧ (x1 ≠ (3 : Int) → zin x1 ∧ zin 2 ∧ (x1 = (2 : Int) → zGo L xs (D + 1) 206 209 [some (zr 142), some (zi x1), none, none, none] [zr 142] (zup J1 142 0 7 ((J1 142 0 7) + 1)) K1 Q) ∧ (x1 ≠ (2 : Int) → zin x1 ∧ zin 5 ∧ (x1 ≠ (5 : Int) → zGo L xs (D + 1) 206 214 [some (zr 142), some (zi x1), none, none, none] [zi 0, zr 142] (zup J1 142 0 7 ((J1 142 0 7) + 1)) K1 Q) ∧ (x1 = (5 : Int) → zGo L xs (D + 1) 206 209 [some (zr 142), some (zi x1), none, none, none] [zr 142] (zup J1 142 0 7 ((J1 142 0 7) + 1)) K1 Q))) ∧ (x1 = (3 : Int) → 0 ≤ (5 : Int) ∧ (5 : Int) < 8 ∧ zCall L xs D 273 [zr 142, zi 0, zi ((J1 144 0 5) - 1)] (zup J1 142 0 7 ((J1 142 0 7) + 1)) K1 fun r2 e2 J2 K2 => zaI r2 e2 (fun x2_ => zCall L xs D 273 [zr 142, zi 0, zi 19] J2 K2 fun r3 e3 J3 K3 => zaI r3 e3 (fun x3_ => zCall L xs D 273 [zr 142, zi 1, zi 120] J3 K3 fun r4 e4 J4 K4 => zaI r4 e4 (fun x4_ => zin (J4 142 0 5) ∧ ((J4 142 0 5) ≠ (0 : Int) → zGo L xs (D + 1) 206 195 [some (zr 142), none, none, none, none] [] J4 K4 Q) ∧ ((J4 142 0 5) = (0 : Int) → 0 ≤ (8 + x2_) ∧ (8 + x2_) < 16 ∧ 0 ≤ (8 + x2_) ∧ (8 + x2_) < 16 ∧ 0 ≤ (2 : Int) ∧ (2 : Int) < 4 ∧ 0 ≤ (8 + x2_) ∧ (8 + x2_) < 16 ∧ 0 ≤ (8 + x2_) ∧ (8 + x2_) < 16 ∧ 0 ≤ (3 : Int) ∧ (3 : Int) < 4 ∧ zGo L xs (D + 1) 206 195 [some (zr 142), none, none, none, none] [] (zup (zup J4 170 (8 + x2_) 2 x3_) 170 (8 + x2_) 3 x4_) K4 Q)) (fun E => Q (.inr E) e4 J4 K4)) (fun E => Q (.inr E) e3 J3 K3)) (fun E => Q (.inr E) e2 J2 K2))) (fun E => Q (.inr E) e1 J1 K1)) ∧ ((J 142 0 5) ≠ (0 : Int) → Q (.inl none) 0 J K)) :
  zGo L xs (D + 1) 206 105 [some (zr 142), some (zi x1), none, none, none] [] J K Q :=
  zrun_ok (T := mct206) (o := 12) (ret := none) (hs := [(46, [2, 3, 4]), (62, [2, 3, 4]), (79, [2, 3, 4]), (96, [2, 3, 4]), (105, [2, 3, 4]), (195, [1, 2, 3, 4]), (209, [2, 3, 4]), (214, [2, 3, 4]), (232, [1, 2, 3, 4])]) hL rfl 55 _ _ _ _ _ _ _ h
set_option maxRecDepth 30000 in
theorem z206_195 {L : Nat} {xs : Nat → Int32} (hL : L ≤ 3072) {D : Nat} {J : zJ} {K : zK} {Q : zR → Nat → zJ → zK → Prop}
  (h : zGo L xs (D + 1) 206 232 [some (zr 142), none, none, none, none] [] J K Q) :
  zGo L xs (D + 1) 206 195 [some (zr 142), none, none, none, none] [] J K Q :=
  zrun_ok (T := mct206) (o := 12) (ret := none) (hs := [(46, [2, 3, 4]), (62, [2, 3, 4]), (79, [2, 3, 4]), (96, [2, 3, 4]), (105, [2, 3, 4]), (195, [1, 2, 3, 4]), (209, [2, 3, 4]), (214, [2, 3, 4]), (232, [1, 2, 3, 4])]) hL rfl 1 _ _ _ _ _ _ _ h
set_option maxRecDepth 30000 in
theorem z206_209 {L : Nat} {xs : Nat → Int32} (hL : L ≤ 3072) {D : Nat} {x1 : Int} {J : zJ} {K : zK} {Q : zR → Nat → zJ → zK → Prop}
  (h : zGo L xs (D + 1) 206 214 [some (zr 142), some (zi x1), none, none, none] [zi 1, zr 142] J K Q) :
  zGo L xs (D + 1) 206 209 [some (zr 142), some (zi x1), none, none, none] [zr 142] J K Q :=
  zrun_ok (T := mct206) (o := 12) (ret := none) (hs := [(46, [2, 3, 4]), (62, [2, 3, 4]), (79, [2, 3, 4]), (96, [2, 3, 4]), (105, [2, 3, 4]), (195, [1, 2, 3, 4]), (209, [2, 3, 4]), (214, [2, 3, 4]), (232, [1, 2, 3, 4])]) hL rfl 2 _ _ _ _ _ _ _ h
set_option maxRecDepth 30000 in
theorem z206_214 {L : Nat} {xs : Nat → Int32} (hL : L ≤ 3072) {D : Nat} {x1 s1 : Int} {J : zJ} {K : zK} {Q : zR → Nat → zJ → zK → Prop}
  (h : 0 ≤ (4 : Int) ∧ (4 : Int) < 8 ∧ zCall L xs D 273 [zr 142, zi s1, zi ((J 144 0 4) - 1)] J K fun r1 e1 J1 K1 => zaI r1 e1 (fun x1_ => zCall L xs D 297 [zr 142, zi x1, zi x1_] J1 K1 fun r2 e2 J2 K2 => zaV r2 e2 (zGo L xs (D + 1) 206 232 [some (zr 142), none, none, none, none] [] J2 K2 Q) (fun E => Q (.inr E) e2 J2 K2)) (fun E => Q (.inr E) e1 J1 K1)) :
  zGo L xs (D + 1) 206 214 [some (zr 142), some (zi x1), none, none, none] [zi s1, zr 142] J K Q :=
  zrun_ok (T := mct206) (o := 12) (ret := none) (hs := [(46, [2, 3, 4]), (62, [2, 3, 4]), (79, [2, 3, 4]), (96, [2, 3, 4]), (105, [2, 3, 4]), (195, [1, 2, 3, 4]), (209, [2, 3, 4]), (214, [2, 3, 4]), (232, [1, 2, 3, 4])]) hL rfl 12 _ _ _ _ _ _ _ h
set_option maxRecDepth 30000 in
theorem z206_232 {L : Nat} {xs : Nat → Int32} (hL : L ≤ 3072) {D : Nat} {J : zJ} {K : zK} {Q : zR → Nat → zJ → zK → Prop}
  (h : zCall L xs D 292 [zr 142, zi 59] J K fun r1 e1 J1 K1 => zaV r1 e1 (Q (.inl none) 0 J1 K1) (fun E => Q (.inr E) e1 J1 K1)) :
  zGo L xs (D + 1) 206 232 [some (zr 142), none, none, none, none] [] J K Q :=
  zrun_ok (T := mct206) (o := 12) (ret := none) (hs := [(46, [2, 3, 4]), (62, [2, 3, 4]), (79, [2, 3, 4]), (96, [2, 3, 4]), (105, [2, 3, 4]), (195, [1, 2, 3, 4]), (209, [2, 3, 4]), (214, [2, 3, 4]), (232, [1, 2, 3, 4])]) hL rfl 4 _ _ _ _ _ _ _ h
/-! PartingTrainsModel.clear -/
set_option maxRecDepth 30000 in
theorem z207 {L : Nat} {xs : Nat → Int32} (hL : L ≤ 3072) {D : Nat} {x1 : Int} {J : zJ} {K : zK} {Q : zR → Nat → zJ → zK → Prop}
  (h : zCall L xs D 252 [zr 142, zi x1] (zup J 142 0 0 0) K fun r1 e1 J1 K1 => zaI r1 e1 (fun x1_ => zin x1_ ∧ (x1_ ≠ (0 : Int) → zCall L xs D 195 [zr 142, zi 0, zi 1] J1 K1 fun r2 e2 J2 K2 => zaI r2 e2 (fun x2_ => zin x2_ ∧ (x2_ = (0 : Int) → 0 ≤ x1 ∧ x1 < 4 ∧ 0 ≤ x1 ∧ x1 < 4 ∧ Q (.inl (some (zi (J2 234 0 x1)))) 0 (zup J2 234 0 x1 0) K2) ∧ (x2_ ≠ (0 : Int) → Q (.inl (some (zi 0))) 0 J2 K2)) (fun E => Q (.inr E) e2 J2 K2)) ∧ (x1_ = (0 : Int) → zCall L xs D 195 [zr 142, zi 1, zi 1] J1 K1 fun r3 e3 J3 K3 => zaI r3 e3 (fun x3_ => zin x3_ ∧ (x3_ = (0 : Int) → 0 ≤ x1 ∧ x1 < 4 ∧ 0 ≤ x1 ∧ x1 < 4 ∧ Q (.inl (some (zi (J3 234 0 x1)))) 0 (zup J3 234 0 x1 0) K3) ∧ (x3_ ≠ (0 : Int) → Q (.inl (some (zi 0))) 0 J3 K3)) (fun E => Q (.inr E) e3 J3 K3))) (fun E => Q (.inr E) e1 J1 K1)) :
  zCall L xs (D + 1) 207 [zr 142, zi x1] J K Q :=
  zrun_ok (T := mct207) (o := 12) (ret := (some FieldType.int)) (hs := []) hL rfl 25 _ _ _ _ _ _ _ h
/-! PartingTrainsModel.count -/
set_option maxRecDepth 30000 in
theorem z208 {L : Nat} {xs : Nat → Int32} (hL : L ≤ 3072) {D : Nat} {x1 : Int} {J : zJ} {K : zK} {Q : zR → Nat → zJ → zK → Prop}
  (h : zin x1 ∧ (x1 < 0 ∨ 5 < x1 → Q (.inl (some (zi (-1)))) 0 (zup J 142 0 0 0) K) ∧ (0 : Int) + (6 : Nat) = 5 + 1 ∧ (x1 = 0 → Q (.inl (some (zi (J 142 0 15)))) 0 (zup J 142 0 0 0) K) ∧ (x1 = 1 → zGo L xs (D + 1) 208 55 [some (zr 142), none, some (zi 0), some (zi 0)] [] (zup J 142 0 0 0) K Q) ∧ (x1 = 2 → Q (.inl (some (zi (J 142 0 16)))) 0 (zup J 142 0 0 0) K) ∧ (x1 = 3 → zGo L xs (D + 1) 208 87 [some (zr 142), none, some (zi 0), some (zi 0)] [] (zup J 142 0 0 0) K Q) ∧ (x1 = 4 → Q (.inl (some (zi (J 142 0 17)))) 0 (zup J 142 0 0 0) K) ∧ (x1 = 5 → Q (.inl (some (zi (J 142 0 1)))) 0 (zup J 142 0 0 0) K) ∧ True) :
  zCall L xs (D + 1) 208 [zr 142, zi x1] J K Q :=
  zrun_ok (T := mct208) (o := 12) (ret := (some FieldType.int)) (hs := [(55, [1]), (87, [1])]) hL rfl 10 _ _ _ _ _ _ _ h
set_option maxRecDepth 30000 in
theorem z208_55 {L : Nat} {xs : Nat → Int32} (hL : L ≤ 3072) {D : Nat} {x2 x3 : Int} {J : zJ} {K : zK} {Q : zR → Nat → zJ → zK → Prop}
  (h : zin x3 ∧ zin (J 142 0 15) ∧ ((J 142 0 15) ≤ x3 → Q (.inl (some (zi x2))) 0 J K) ∧ (x3 < (J 142 0 15) → 0 ≤ x3 ∧ x3 < 4 ∧ zGo L xs (D + 1) 208 55 [some (zr 142), none, some (zi (x2 + (J 234 0 x3))), some (zi (x3 + 1))] [] J K Q)) :
  zGo L xs (D + 1) 208 55 [some (zr 142), none, some (zi x2), some (zi x3)] [] J K Q :=
  zrun_ok (T := mct208) (o := 12) (ret := (some FieldType.int)) (hs := [(55, [1]), (87, [1])]) hL rfl 13 _ _ _ _ _ _ _ h
set_option maxRecDepth 30000 in
theorem z208_87 {L : Nat} {xs : Nat → Int32} (hL : L ≤ 3072) {D : Nat} {x2 x3 : Int} {J : zJ} {K : zK} {Q : zR → Nat → zJ → zK → Prop}
  (h : zin x3 ∧ zin 12 ∧ ((12 : Int) ≤ x3 → Q (.inl (some (zi x2))) 0 J K) ∧ (x3 < (12 : Int) → 0 ≤ x3 ∧ x3 < 12 ∧ zGo L xs (D + 1) 208 87 [some (zr 142), none, some (zi (x2 + (J 236 0 x3))), some (zi (x3 + 1))] [] J K Q)) :
  zGo L xs (D + 1) 208 87 [some (zr 142), none, some (zi x2), some (zi x3)] [] J K Q :=
  zrun_ok (T := mct208) (o := 12) (ret := (some FieldType.int)) (hs := [(55, [1]), (87, [1])]) hL rfl 12 _ _ _ _ _ _ _ h
/-! PartingTrainsModel.cuts -/
set_option maxRecDepth 30000 in
theorem z209 {L : Nat} {xs : Nat → Int32} (hL : L ≤ 3072) {D : Nat} {x1 x2 : Int} {J : zJ} {K : zK} {Q : zR → Nat → zJ → zK → Prop}
  (h : zCall L xs D 252 [zr 142, zi x1] (zup J 142 0 0 0) K fun r1 e1 J1 K1 => zaI r1 e1 (fun x1_ => zin x1_ ∧ (x1_ ≠ (0 : Int) → zCall L xs D 195 [zr 142, zi 0, zi 1] J1 K1 fun r2 e2 J2 K2 => zaI r2 e2 (fun x2_ => zin x2_ ∧ (x2_ ≠ (0 : Int) → Q (.inl (some (zi 0))) 0 J2 K2) ∧ (x2_ = (0 : Int) → zCall L xs D 240 [zi x2, zi 0, zi 6] J2 K2 fun r3 e3 J3 K3 => zaI r3 e3 (fun x3_ => zin x3_ ∧ (x3_ ≠ (0 : Int) → zCall L xs D 195 [zr 142, zi 0, zi 2] J3 K3 fun r4 e4 J4 K4 => zaI r4 e4 (fun x4_ => zin x4_ ∧ (x4_ = (0 : Int) → zGo L xs (D + 1) 209 58 [some (zr 142), some (zi x1), some (zi x2), some (zi 0)] [] (zup J4 142 0 37 0) K4 Q) ∧ (x4_ ≠ (0 : Int) → Q (.inl (some (zi 0))) 0 J4 K4)) (fun E => Q (.inr E) e4 J4 K4)) ∧ (x3_ = (0 : Int) → zCall L xs D 195 [zr 142, zi 1, zi 2] J3 K3 fun r5 e5 J5 K5 => zaI r5 e5 (fun x5_ => zin x5_ ∧ (x5_ = (0 : Int) → zGo L xs (D + 1) 209 58 [some (zr 142), some (zi x1), some (zi x2), some (zi 0)] [] (zup J5 142 0 37 0) K5 Q) ∧ (x5_ ≠ (0 : Int) → Q (.inl (some (zi 0))) 0 J5 K5)) (fun E => Q (.inr E) e5 J5 K5))) (fun E => Q (.inr E) e3 J3 K3))) (fun E => Q (.inr E) e2 J2 K2)) ∧ (x1_ = (0 : Int) → zCall L xs D 195 [zr 142, zi 1, zi 1] J1 K1 fun r6 e6 J6 K6 => zaI r6 e6 (fun x6_ => zin x6_ ∧ (x6_ ≠ (0 : Int) → Q (.inl (some (zi 0))) 0 J6 K6) ∧ (x6_ = (0 : Int) → zCall L xs D 240 [zi x2, zi 0, zi 6] J6 K6 fun r7 e7 J7 K7 => zaI r7 e7 (fun x7_ => zin x7_ ∧ (x7_ ≠ (0 : Int) → zCall L xs D 195 [zr 142, zi 0, zi 2] J7 K7 fun r8 e8 J8 K8 => zaI r8 e8 (fun x8_ => zin x8_ ∧ (x8_ = (0 : Int) → zGo L xs (D + 1) 209 58 [some (zr 142), some (zi x1), some (zi x2), some (zi 0)] [] (zup J8 142 0 37 0) K8 Q) ∧ (x8_ ≠ (0 : Int) → Q (.inl (some (zi 0))) 0 J8 K8)) (fun E => Q (.inr E) e8 J8 K8)) ∧ (x7_ = (0 : Int) → zCall L xs D 195 [zr 142, zi 1, zi 2] J7 K7 fun r9 e9 J9 K9 => zaI r9 e9 (fun x9_ => zin x9_ ∧ (x9_ = (0 : Int) → zGo L xs (D + 1) 209 58 [some (zr 142), some (zi x1), some (zi x2), some (zi 0)] [] (zup J9 142 0 37 0) K9 Q) ∧ (x9_ ≠ (0 : Int) → Q (.inl (some (zi 0))) 0 J9 K9)) (fun E => Q (.inr E) e9 J9 K9))) (fun E => Q (.inr E) e7 J7 K7))) (fun E => Q (.inr E) e6 J6 K6))) (fun E => Q (.inr E) e1 J1 K1)) :
  zCall L xs (D + 1) 209 [zr 142, zi x1, zi x2] J K Q :=
  zrun_ok (T := mct209) (o := 12) (ret := (some FieldType.int)) (hs := [(58, [])]) hL rfl 29 _ _ _ _ _ _ _ h
set_option maxRecDepth 30000 in
theorem z209_58 {L : Nat} {xs : Nat → Int32} (hL : L ≤ 3072) {D : Nat} {x1 x2 x3 : Int} {J : zJ} {K : zK} {Q : zR → Nat → zJ → zK → Prop}
  (h : 0 ≤ x1 ∧ x1 < 4 ∧ zin x3 ∧ zin (J 234 0 x1) ∧ ((J 234 0 x1) ≤ x3 → zin (J 142 0 37) ∧ ((J 142 0 37) ≠ (0 : Int) → zCall L xs D 211 [zr 142, zr 533, zi 0, zi (J 142 0 37), zi 0] J K fun r1 e1 J1 K1 => zaI r1 e1 (fun x1_ => Q (.inl (some (zi x1_))) 0 J1 K1) (fun E => Q (.inr E) e1 J1 K1)) ∧ ((J 142 0 37) = (0 : Int) → Q (.inl (some (zi 0))) 0 J K)) ∧ (x3 < (J 234 0 x1) → 0 ≤ x1 ∧ x1 < 4 ∧ 0 ≤ x1 ∧ x1 < 4 ∧ 0 ≤ x3 ∧ x3 < 8 ∧ 0 ≤ (J 229 x1 x3) ∧ (J 229 x1 x3) < 8 ∧ zin (J 239 0 (J 229 x1 x3)) ∧ 0 ≤ x2 ∧ x2 < 32 ∧ zin (zand ((J 239 0 (J 229 x1 x3)) / 2 ^ (x2.toNat)) 1) ∧ ((zand ((J 239 0 (J 229 x1 x3)) / 2 ^ (x2.toNat)) 1) ≠ (0 : Int) → 0 ≤ x1 ∧ x1 < 4 ∧ 0 ≤ x1 ∧ x1 < 4 ∧ 0 ≤ x3 ∧ x3 < 8 ∧ 0 ≤ (J 142 0 37) ∧ (J 142 0 37) < 8 ∧ zGo L xs (D + 1) 209 58 [some (zr 142), some (zi x1), some (zi x2), some (zi (x3 + 1))] [] (zup (zup J 533 0 (J 142 0 37) (J 229 x1 x3)) 142 0 37 ((J 142 0 37) + 1)) K Q) ∧ ((zand ((J 239 0 (J 229 x1 x3)) / 2 ^ (x2.toNat)) 1) = (0 : Int) → zGo L xs (D + 1) 209 58 [some (zr 142), some (zi x1), some (zi x2), some (zi (x3 + 1))] [] J K Q))) :
  zGo L xs (D + 1) 209 58 [some (zr 142), some (zi x1), some (zi x2), some (zi x3)] [] J K Q :=
  zrun_ok (T := mct209) (o := 12) (ret := (some FieldType.int)) (hs := [(58, [])]) hL rfl 39 _ _ _ _ _ _ _ h
/-! PartingTrainsModel.cutsAt -/
set_option maxRecDepth 30000 in
theorem z210 {L : Nat} {xs : Nat → Int32} (hL : L ≤ 3072) {D : Nat} {x2 x3 x4 : Int} {J : zJ} {K : zK} {Q : zR → Nat → zJ → zK → Prop}
  (h : zGo L xs (D + 1) 210 6 [some (zr 142), some (zr 533), none, some (zi x3), some (zi x4), some (zi 0), some (zi x2)] [] J K Q) :
  zCall L xs (D + 1) 210 [zr 142, zr 533, zi x2, zi x3, zi x4] J K Q :=
  zrun_ok (T := mct210) (o := 12) (ret := (some FieldType.int)) (hs := [(6, [2])]) hL rfl 4 _ _ _ _ _ _ _ h
set_option maxRecDepth 30000 in
theorem z210_6 {L : Nat} {xs : Nat → Int32} (hL : L ≤ 3072) {D : Nat} {x3 x4 x5 x6 : Int} {J : zJ} {K : zK} {Q : zR → Nat → zJ → zK → Prop}
  (h : zin x6 ∧ zin x3 ∧ (x3 ≤ x6 → Q (.inl (some (zi (x5 - 1)))) 0 J K) ∧ (x6 < x3 → zCall L xs D 216 [zr 142, zr 533, zi x6, zi x3, zi x4] J K fun r1 e1 J1 K1 => zaI r1 e1 (fun x1_ => zGo L xs (D + 1) 210 6 [some (zr 142), some (zr 533), none, some (zi x3), some (zi x4), some (zi (x5 + 1)), some (zi x1_)] [] J1 K1 Q) (fun E => Q (.inr E) e1 J1 K1))) :
  zGo L xs (D + 1) 210 6 [some (zr 142), some (zr 533), none, some (zi x3), some (zi x4), some (zi x5), some (zi x6)] [] J K Q :=
  zrun_ok (T := mct210) (o := 12) (ret := (some FieldType.int)) (hs := [(6, [2])]) hL rfl 12 _ _ _ _ _ _ _ h
/-! PartingTrainsModel.cutsAt -/
set_option maxRecDepth 30000 in
theorem z210a {L : Nat} {xs : Nat → Int32} (hL : L ≤ 3072) {D : Nat} {x2 x3 x4 x1 : Int} {J : zJ} {K : zK} {Q : zR → Nat → zJ → zK → Prop}
  (h : zGo L xs (D + 1) 210 6 [some (zr 142), some (zw 229 x1), none, some (zi x3), some (zi x4), some (zi 0), some (zi x2)] [] J K Q) :
  zCall L xs (D + 1) 210 [zr 142, zw 229 x1, zi x2, zi x3, zi x4] J K Q :=
  zrun_ok (T := mct210) (o := 12) (ret := (some FieldType.int)) (hs := [(6, [2])]) hL rfl 4 _ _ _ _ _ _ _ h
set_option maxRecDepth 30000 in
theorem z210a_6 {L : Nat} {xs : Nat → Int32} (hL : L ≤ 3072) {D : Nat} {x3 x4 x5 x6 x1 : Int} {J : zJ} {K : zK} {Q : zR → Nat → zJ → zK → Prop}
  (h : zin x6 ∧ zin x3 ∧ (x3 ≤ x6 → Q (.inl (some (zi (x5 - 1)))) 0 J K) ∧ (x6 < x3 → zCall L xs D 216 [zr 142, zw 229 x1, zi x6, zi x3, zi x4] J K fun r1 e1 J1 K1 => zaI r1 e1 (fun x1_ => zGo L xs (D + 1) 210 6 [some (zr 142), some (zw 229 x1), none, some (zi x3), some (zi x4), some (zi (x5 + 1)), some (zi x1_)] [] J1 K1 Q) (fun E => Q (.inr E) e1 J1 K1))) :
  zGo L xs (D + 1) 210 6 [some (zr 142), some (zw 229 x1), none, some (zi x3), some (zi x4), some (zi x5), some (zi x6)] [] J K Q :=
  zrun_ok (T := mct210) (o := 12) (ret := (some FieldType.int)) (hs := [(6, [2])]) hL rfl 12 _ _ _ _ _ _ _ h
/-! PartingTrainsModel.cutsFrom -/
set_option maxRecDepth 30000 in
theorem z211 {L : Nat} {xs : Nat → Int32} (hL : L ≤ 3072) {D : Nat} {x2 x3 x4 : Int} {J : zJ} {K : zK} {Q : zR → Nat → zJ → zK → Prop}
  (h : zCall L xs D 251 [zr 142, zr 533, zi x2, zi x3, zi x4] J K fun r1 e1 J1 K1 => zaI r1 e1 (fun x1_ => zin x1_ ∧ (x1_ = (0 : Int) → zCall L xs D 210 [zr 142, zr 533, zi x2, zi x3, zi x4] J1 K1 fun r2 e2 J2 K2 => zaI r2 e2 (fun x2_ => zGo L xs (D + 1) 211 28 [some (zr 142), some (zr 533), none, some (zi x3), some (zi x4), some (zi x2_), some (zi x2), none] [] J2 K2 Q) (fun E => Q (.inr E) e2 J2 K2)) ∧ (x1_ ≠ (0 : Int) → Q (.inl (some (zi (-1)))) 0 J1 K1)) (fun E => Q (.inr E) e1 J1 K1)) :
  zCall L xs (D + 1) 211 [zr 142, zr 533, zi x2, zi x3, zi x4] J K Q :=
  zrun_ok (T := mct211) (o := 12) (ret := (some FieldType.int)) (hs := [(28, [2, 7])]) hL rfl 16 _ _ _ _ _ _ _ h
set_option maxRecDepth 30000 in
theorem z211_28 {L : Nat} {xs : Nat → Int32} (hL : L ≤ 3072) {D : Nat} {x3 x4 x5 x6 : Int} {J : zJ} {K : zK} {Q : zR → Nat → zJ → zK → Prop}
  (h : zin x6 ∧ zin x3 ∧ (x3 ≤ x6 → Q (.inl (some (zi x5))) 0 J K) ∧ (x6 < x3 → 0 ≤ x6 ∧ x6 < 8 ∧ zCall L xs D 272 [zr 142, zi (J 533 0 x6), zi x4] J K fun r1 e1 J1 K1 => zaI r1 e1 (fun x1_ => zin x1_ ∧ zin x4 ∧ (x1_ ≠ x4 → zCall L xs D 216 [zr 142, zr 533, zi x6, zi x3, zi x4] J1 K1 fun r2 e2 J2 K2 => zaI r2 e2 (fun x2_ => 0 ≤ x6 ∧ x6 < 8 ∧ zCall L xs D 272 [zr 142, zi (J2 533 0 x6), zi x4] J2 K2 fun r3 e3 J3 K3 => zaI r3 e3 (fun x3_ => zCall L xs D 211 [zr 142, zr 533, zi x6, zi x2_, zi x3_] J3 K3 fun r4 e4 J4 K4 => zaI r4 e4 (fun x4_ => zin x4_ ∧ zin (-1) ∧ (x4_ ≠ (-1 : Int) → zCall L xs D 216 [zr 142, zr 533, zi x6, zi x3, zi x4] J4 K4 fun r5 e5 J5 K5 => zaI r5 e5 (fun x5_ => zGo L xs (D + 1) 211 28 [some (zr 142), some (zr 533), none, some (zi x3), some (zi x4), some (zi (x5 + x4_)), some (zi x5_), none] [] J5 K5 Q) (fun E => Q (.inr E) e5 J5 K5)) ∧ (x4_ = (-1 : Int) → Q (.inl (some (zi (-1)))) 0 J4 K4)) (fun E => Q (.inr E) e4 J4 K4)) (fun E => Q (.inr E) e3 J3 K3)) (fun E => Q (.inr E) e2 J2 K2)) ∧ (x1_ = x4 → zCall L xs D 216 [zr 142, zr 533, zi x6, zi x3, zi x4] J1 K1 fun r6 e6 J6 K6 => zaI r6 e6 (fun x6_ => zGo L xs (D + 1) 211 28 [some (zr 142), some (zr 533), none, some (zi x3), some (zi x4), some (zi x5), some (zi x6_), none] [] J6 K6 Q) (fun E => Q (.inr E) e6 J6 K6))) (fun E => Q (.inr E) e1 J1 K1))) :
  zGo L xs (D + 1) 211 28 [some (zr 142), some (zr 533), none, some (zi x3), some (zi x4), some (zi x5), some (zi x6), none] [] J K Q :=
  zrun_ok (T := mct211) (o := 12) (ret := (some FieldType.int)) (hs := [(28, [2, 7])]) hL rfl 43 _ _ _ _ _ _ _ h
/-! PartingTrainsModel.cutsFrom -/
set_option maxRecDepth 30000 in
theorem z211a {L : Nat} {xs : Nat → Int32} (hL : L ≤ 3072) {D : Nat} {x2 x3 x4 x1 : Int} {J : zJ} {K : zK} {Q : zR → Nat → zJ → zK → Prop}
  (h : zCall L xs D 251 [zr 142, zw 229 x1, zi x2, zi x3, zi x4] J K fun r1 e1 J1 K1 => zaI r1 e1 (fun x1_ => zin x1_ ∧ (x1_ = (0 : Int) → zCall L xs D 210 [zr 142, zw 229 x1, zi x2, zi x3, zi x4] J1 K1 fun r2 e2 J2 K2 => zaI r2 e2 (fun x2_ => zGo L xs (D + 1) 211 28 [some (zr 142), some (zw 229 x1), none, some (zi x3), some (zi x4), some (zi x2_), some (zi x2), none] [] J2 K2 Q) (fun E => Q (.inr E) e2 J2 K2)) ∧ (x1_ ≠ (0 : Int) → Q (.inl (some (zi (-1)))) 0 J1 K1)) (fun E => Q (.inr E) e1 J1 K1)) :
  zCall L xs (D + 1) 211 [zr 142, zw 229 x1, zi x2, zi x3, zi x4] J K Q :=
  zrun_ok (T := mct211) (o := 12) (ret := (some FieldType.int)) (hs := [(28, [2, 7])]) hL rfl 16 _ _ _ _ _ _ _ h
set_option maxRecDepth 30000 in
theorem z211a_28 {L : Nat} {xs : Nat → Int32} (hL : L ≤ 3072) {D : Nat} {x3 x4 x5 x6 x1 : Int} {J : zJ} {K : zK} {Q : zR → Nat → zJ → zK → Prop}
  (h : zin x6 ∧ zin x3 ∧ (x3 ≤ x6 → Q (.inl (some (zi x5))) 0 J K) ∧ (x6 < x3 → 0 ≤ x1 ∧ x1 < 4 ∧ 0 ≤ x6 ∧ x6 < 8 ∧ zCall L xs D 272 [zr 142, zi (J 229 x1 x6), zi x4] J K fun r1 e1 J1 K1 => zaI r1 e1 (fun x1_ => zin x1_ ∧ zin x4 ∧ (x1_ ≠ x4 → zCall L xs D 216 [zr 142, zw 229 x1, zi x6, zi x3, zi x4] J1 K1 fun r2 e2 J2 K2 => zaI r2 e2 (fun x2_ => 0 ≤ x1 ∧ x1 < 4 ∧ 0 ≤ x6 ∧ x6 < 8 ∧ zCall L xs D 272 [zr 142, zi (J2 229 x1 x6), zi x4] J2 K2 fun r3 e3 J3 K3 => zaI r3 e3 (fun x3_ => zCall L xs D 211 [zr 142, zw 229 x1, zi x6, zi x2_, zi x3_] J3 K3 fun r4 e4 J4 K4 => zaI r4 e4 (fun x4_ => zin x4_ ∧ zin (-1) ∧ (x4_ ≠ (-1 : Int) → zCall L xs D 216 [zr 142, zw 229 x1, zi x6, zi x3, zi x4] J4 K4 fun r5 e5 J5 K5 => zaI r5 e5 (fun x5_ => zGo L xs (D + 1) 211 28 [some (zr 142), some (zw 229 x1), none, some (zi x3), some (zi x4), some (zi (x5 + x4_)), some (zi x5_), none] [] J5 K5 Q) (fun E => Q (.inr E) e5 J5 K5)) ∧ (x4_ = (-1 : Int) → Q (.inl (some (zi (-1)))) 0 J4 K4)) (fun E => Q (.inr E) e4 J4 K4)) (fun E => Q (.inr E) e3 J3 K3)) (fun E => Q (.inr E) e2 J2 K2)) ∧ (x1_ = x4 → zCall L xs D 216 [zr 142, zw 229 x1, zi x6, zi x3, zi x4] J1 K1 fun r6 e6 J6 K6 => zaI r6 e6 (fun x6_ => zGo L xs (D + 1) 211 28 [some (zr 142), some (zw 229 x1), none, some (zi x3), some (zi x4), some (zi x5), some (zi x6_), none] [] J6 K6 Q) (fun E => Q (.inr E) e6 J6 K6))) (fun E => Q (.inr E) e1 J1 K1))) :
  zGo L xs (D + 1) 211 28 [some (zr 142), some (zw 229 x1), none, some (zi x3), some (zi x4), some (zi x5), some (zi x6), none] [] J K Q :=
  zrun_ok (T := mct211) (o := 12) (ret := (some FieldType.int)) (hs := [(28, [2, 7])]) hL rfl 43 _ _ _ _ _ _ _ h
/-! PartingTrainsModel.day -/
set_option maxRecDepth 30000 in
theorem z212 {L : Nat} {xs : Nat → Int32} (hL : L ≤ 3072) {D : Nat} {x1 : Int} {J : zJ} {K : zK} {Q : zR → Nat → zJ → zK → Prop}
  (h : zCall L xs D 213 [zr 142] (zup (zup J 142 0 0 0) 142 0 53 x1) K fun r1 e1 J1 K1 => zaI r1 e1 (fun x1_ => Q (.inl (some (zi x1_))) 0 J1 K1) (fun E => Q (.inr E) e1 J1 K1)) :
  zCall L xs (D + 1) 212 [zr 142, zi x1] J K Q :=
  zrun_ok (T := mct212) (o := 12) (ret := (some FieldType.int)) (hs := []) hL rfl 9 _ _ _ _ _ _ _ h
/-! PartingTrainsModel.dayNow -/
set_option maxRecDepth 30000 in
theorem z213 {L : Nat} {xs : Nat → Int32} (hL : L ≤ 3072) {D : Nat} {J : zJ} {K : zK} {Q : zR → Nat → zJ → zK → Prop}
  (h : zGo L xs (D + 1) 213 4 [some (zr 142), some (zi 0), some (zi 0)] [] J K Q) :
  zCall L xs (D + 1) 213 [zr 142] J K Q :=
  zrun_ok (T := mct213) (o := 12) (ret := (some FieldType.int)) (hs := [(4, [])]) hL rfl 4 _ _ _ _ _ _ _ h
set_option maxRecDepth 30000 in
theorem z213_4 {L : Nat} {xs : Nat → Int32} (hL : L ≤ 3072) {D : Nat} {x1 x2 : Int} {J : zJ} {K : zK} {Q : zR → Nat → zJ → zK → Prop}
  (h : 0 ≤ (1 : Int) ∧ (1 : Int) < 8 ∧ zin x2 ∧ zin (J 144 0 1) ∧ ((J 144 0 1) ≤ x2 → zCall L xs D 236 [zr 142, zi x1] J K fun r1 e1 J1 K1 => zaI r1 e1 (fun x1_ => Q (.inl (some (zi x1_))) 0 J1 K1) (fun E => Q (.inr E) e1 J1 K1)) ∧ (x2 < (J 144 0 1) → 0 ≤ x2 ∧ x2 < 16 ∧ 0 ≤ x2 ∧ x2 < 16 ∧ 0 ≤ (2 : Int) ∧ (2 : Int) < 4 ∧ zin (J 170 x2 2) ∧ ((J 170 x2 2) ≠ (0 : Int) → zin (((J 142 0 53) * 1103515245) + 12345) ∧ 0 ≤ (16 : Int) ∧ (16 : Int) < 32 ∧ 0 ≤ (zand ((((J 142 0 53) * 1103515245) + 12345) / 2 ^ (16 : Int).toNat) 32767) ∧ (zand ((((J 142 0 53) * 1103515245) + 12345) / 2 ^ (16 : Int).toNat) 32767) < 2147483648 ∧ 0 < (20 : Int) ∧ (20 : Int) < 2147483648 ∧ 0 ≤ x2 ∧ x2 < 16 ∧ 0 ≤ x2 ∧ x2 < 16 ∧ 0 ≤ (2 : Int) ∧ (2 : Int) < 4 ∧ zin ((zand ((((J 142 0 53) * 1103515245) + 12345) / 2 ^ (16 : Int).toNat) 32767) % 20) ∧ zin (J 170 x2 2) ∧ ((J 170 x2 2) ≤ ((zand ((((J 142 0 53) * 1103515245) + 12345) / 2 ^ (16 : Int).toNat) 32767) % 20) → zGo L xs (D + 1) 213 4 [some (zr 142), some (zi (zor x1 0)), some (zi (x2 + 1))] [] (zup J 142 0 53 (((J 142 0 53) * 1103515245) + 12345)) K Q) ∧ (((zand ((((J 142 0 53) * 1103515245) + 12345) / 2 ^ (16 : Int).toNat) 32767) % 20) < (J 170 x2 2) → 0 ≤ x2 ∧ x2 < 32 ∧ zGo L xs (D + 1) 213 4 [some (zr 142), some (zi (zor x1 (1 * 2 ^ (x2.toNat)))), some (zi (x2 + 1))] [] (zup J 142 0 53 (((J 142 0 53) * 1103515245) + 12345)) K Q)) ∧ ((J 170 x2 2) = (0 : Int) → zGo L xs (D + 1) 213 4 [some (zr 142), some (zi x1), some (zi (x2 + 1))] [] J K Q))) :
  zGo L xs (D + 1) 213 4 [some (zr 142), some (zi x1), some (zi x2)] [] J K Q :=
  zrun_ok (T := mct213) (o := 12) (ret := (some FieldType.int)) (hs := [(4, [])]) hL rfl 45 _ _ _ _ _ _ _ h
/-! PartingTrainsModel.days -/
set_option maxRecDepth 30000 in
theorem z214 {L : Nat} {xs : Nat → Int32} (hL : L ≤ 3072) {D : Nat} {x1 x2 : Int} {J : zJ} {K : zK} {Q : zR → Nat → zJ → zK → Prop}
  (h : zCall L xs D 249 [zr 142, zi x1] (zup J 142 0 0 0) K fun r1 e1 J1 K1 => zaI r1 e1 (fun x1_ => zin x1_ ∧ (x1_ = (0 : Int) → zCall L xs D 195 [zr 142, zi 1, zi 1] J1 K1 fun r2 e2 J2 K2 => zaI r2 e2 (fun x2_ => zin x2_ ∧ (x2_ = (0 : Int) → 0 ≤ x1 ∧ x1 < 8 ∧ 0 ≤ x1 ∧ x1 < 8 ∧ Q (.inl (some (zi (J2 239 0 x1)))) 0 (zup J2 239 0 x1 x2) K2) ∧ (x2_ ≠ (0 : Int) → Q (.inl (some (zi 0))) 0 J2 K2)) (fun E => Q (.inr E) e2 J2 K2)) ∧ (x1_ ≠ (0 : Int) → zCall L xs D 240 [zi x2, zi 0, zi 127] J1 K1 fun r3 e3 J3 K3 => zaI r3 e3 (fun x3_ => zin x3_ ∧ (x3_ ≠ (0 : Int) → zCall L xs D 195 [zr 142, zi 0, zi 1] J3 K3 fun r4 e4 J4 K4 => zaI r4 e4 (fun x4_ => zin x4_ ∧ (x4_ = (0 : Int) → 0 ≤ x1 ∧ x1 < 8 ∧ 0 ≤ x1 ∧ x1 < 8 ∧ Q (.inl (some (zi (J4 239 0 x1)))) 0 (zup J4 239 0 x1 x2) K4) ∧ (x4_ ≠ (0 : Int) → Q (.inl (some (zi 0))) 0 J4 K4)) (fun E => Q (.inr E) e4 J4 K4)) ∧ (x3_ = (0 : Int) → zCall L xs D 195 [zr 142, zi 1, zi 1] J3 K3 fun r5 e5 J5 K5 => zaI r5 e5 (fun x5_ => zin x5_ ∧ (x5_ = (0 : Int) → 0 ≤ x1 ∧ x1 < 8 ∧ 0 ≤ x1 ∧ x1 < 8 ∧ Q (.inl (some (zi (J5 239 0 x1)))) 0 (zup J5 239 0 x1 x2) K5) ∧ (x5_ ≠ (0 : Int) → Q (.inl (some (zi 0))) 0 J5 K5)) (fun E => Q (.inr E) e5 J5 K5))) (fun E => Q (.inr E) e3 J3 K3))) (fun E => Q (.inr E) e1 J1 K1)) :
  zCall L xs (D + 1) 214 [zr 142, zi x1, zi x2] J K Q :=
  zrun_ok (T := mct214) (o := 12) (ret := (some FieldType.int)) (hs := []) hL rfl 30 _ _ _ _ _ _ _ h
/-! PartingTrainsModel.depth -/
set_option maxRecDepth 30000 in
theorem z215 {L : Nat} {xs : Nat → Int32} (hL : L ≤ 3072) {D : Nat} {x1 : Int} {J : zJ} {K : zK} {Q : zR → Nat → zJ → zK → Prop}
  (h : zGo L xs (D + 1) 215 4 [some (zr 142), none, some (zi 0), some (zi x1)] [] J K Q) :
  zCall L xs (D + 1) 215 [zr 142, zi x1] J K Q :=
  zrun_ok (T := mct215) (o := 12) (ret := (some FieldType.int)) (hs := [(4, [1])]) hL rfl 4 _ _ _ _ _ _ _ h
set_option maxRecDepth 30000 in
theorem z215_4 {L : Nat} {xs : Nat → Int32} (hL : L ≤ 3072) {D : Nat} {x2 x3 : Int} {J : zJ} {K : zK} {Q : zR → Nat → zJ → zK → Prop}
  (h : zin x3 ∧ (x3 ≤ (0 : Int) → Q (.inl (some (zi x2))) 0 J K) ∧ ((0 : Int) < x3 → 0 ≤ x3 ∧ x3 < 24 ∧ 0 ≤ x3 ∧ x3 < 24 ∧ 0 ≤ (1 : Int) ∧ (1 : Int) < 5 ∧ 0 ≤ x3 ∧ x3 < 24 ∧ 0 ≤ x3 ∧ x3 < 24 ∧ 0 ≤ (0 : Int) ∧ (0 : Int) < 5 ∧ zGo L xs (D + 1) 215 4 [some (zr 142), none, some (zi (x2 + (J 145 x3 1))), some (zi (J 145 x3 0))] [] J K Q)) :
  zGo L xs (D + 1) 215 4 [some (zr 142), none, some (zi x2), some (zi x3)] [] J K Q :=
  zrun_ok (T := mct215) (o := 12) (ret := (some FieldType.int)) (hs := [(4, [1])]) hL rfl 19 _ _ _ _ _ _ _ h
/-! PartingTrainsModel.endOfGroup -/
set_option maxRecDepth 30000 in
theorem z216 {L : Nat} {xs : Nat → Int32} (hL : L ≤ 3072) {D : Nat} {x2 x3 x4 : Int} {J : zJ} {K : zK} {Q : zR → Nat → zJ → zK → Prop}
  (h : zGo L xs (D + 1) 216 5 [some (zr 142), some (zr 533), some (zi x2), some (zi x3), some (zi x4), some (zi (x2 + 1))] [] J K Q) :
  zCall L xs (D + 1) 216 [zr 142, zr 533, zi x2, zi x3, zi x4] J K Q :=
  zrun_ok (T := mct216) (o := 12) (ret := (some FieldType.int)) (hs := [(5, [])]) hL rfl 4 _ _ _ _ _ _ _ h
set_option maxRecDepth 30000 in
theorem z216_5 {L : Nat} {xs : Nat → Int32} (hL : L ≤ 3072) {D : Nat} {x2 x3 x4 x5 : Int} {J : zJ} {K : zK} {Q : zR → Nat → zJ → zK → Prop}
  (h : zin x5 ∧ zin x3 ∧ (x3 ≤ x5 → Q (.inl (some (zi x5))) 0 J K) ∧ (x5 < x3 → 0 ≤ x5 ∧ x5 < 8 ∧ zCall L xs D 272 [zr 142, zi (J 533 0 x5), zi x4] J K fun r1 e1 J1 K1 => zaI r1 e1 (fun x1_ => 0 ≤ x2 ∧ x2 < 8 ∧ zCall L xs D 272 [zr 142, zi (J1 533 0 x2), zi x4] J1 K1 fun r2 e2 J2 K2 => zaI r2 e2 (fun x2_ => zin x1_ ∧ zin x2_ ∧ (x1_ ≠ x2_ → Q (.inl (some (zi x5))) 0 J2 K2) ∧ (x1_ = x2_ → zGo L xs (D + 1) 216 5 [some (zr 142), some (zr 533), some (zi x2), some (zi x3), some (zi x4), some (zi (x5 + 1))] [] J2 K2 Q)) (fun E => Q (.inr E) e2 J2 K2)) (fun E => Q (.inr E) e1 J1 K1))) :
  zGo L xs (D + 1) 216 5 [some (zr 142), some (zr 533), some (zi x2), some (zi x3), some (zi x4), some (zi x5)] [] J K Q :=
  zrun_ok (T := mct216) (o := 12) (ret := (some FieldType.int)) (hs := [(5, [])]) hL rfl 18 _ _ _ _ _ _ _ h
/-! PartingTrainsModel.endOfGroup -/
set_option maxRecDepth 30000 in
theorem z216a {L : Nat} {xs : Nat → Int32} (hL : L ≤ 3072) {D : Nat} {x2 x3 x4 x1 : Int} {J : zJ} {K : zK} {Q : zR → Nat → zJ → zK → Prop}
  (h : zGo L xs (D + 1) 216 5 [some (zr 142), some (zw 229 x1), some (zi x2), some (zi x3), some (zi x4), some (zi (x2 + 1))] [] J K Q) :
  zCall L xs (D + 1) 216 [zr 142, zw 229 x1, zi x2, zi x3, zi x4] J K Q :=
  zrun_ok (T := mct216) (o := 12) (ret := (some FieldType.int)) (hs := [(5, [])]) hL rfl 4 _ _ _ _ _ _ _ h
set_option maxRecDepth 30000 in
theorem z216a_5 {L : Nat} {xs : Nat → Int32} (hL : L ≤ 3072) {D : Nat} {x2 x3 x4 x5 x1 : Int} {J : zJ} {K : zK} {Q : zR → Nat → zJ → zK → Prop}
  (h : zin x5 ∧ zin x3 ∧ (x3 ≤ x5 → Q (.inl (some (zi x5))) 0 J K) ∧ (x5 < x3 → 0 ≤ x1 ∧ x1 < 4 ∧ 0 ≤ x5 ∧ x5 < 8 ∧ zCall L xs D 272 [zr 142, zi (J 229 x1 x5), zi x4] J K fun r1 e1 J1 K1 => zaI r1 e1 (fun x1_ => 0 ≤ x1 ∧ x1 < 4 ∧ 0 ≤ x2 ∧ x2 < 8 ∧ zCall L xs D 272 [zr 142, zi (J1 229 x1 x2), zi x4] J1 K1 fun r2 e2 J2 K2 => zaI r2 e2 (fun x2_ => zin x1_ ∧ zin x2_ ∧ (x1_ ≠ x2_ → Q (.inl (some (zi x5))) 0 J2 K2) ∧ (x1_ = x2_ → zGo L xs (D + 1) 216 5 [some (zr 142), some (zw 229 x1), some (zi x2), some (zi x3), some (zi x4), some (zi (x5 + 1))] [] J2 K2 Q)) (fun E => Q (.inr E) e2 J2 K2)) (fun E => Q (.inr E) e1 J1 K1))) :
  zGo L xs (D + 1) 216 5 [some (zr 142), some (zw 229 x1), some (zi x2), some (zi x3), some (zi x4), some (zi x5)] [] J K Q :=
  zrun_ok (T := mct216) (o := 12) (ret := (some FieldType.int)) (hs := [(5, [])]) hL rfl 18 _ _ _ _ _ _ _ h
/-! PartingTrainsModel.engine -/
set_option maxRecDepth 30000 in
theorem z217 {L : Nat} {xs : Nat → Int32} (hL : L ≤ 3072) {D : Nat} {x1 : Int} {J : zJ} {K : zK} {Q : zR → Nat → zJ → zK → Prop}
  (h : zCall L xs D 249 [zr 142, zi x1] (zup J 142 0 0 0) K fun r1 e1 J1 K1 => zaI r1 e1 (fun x1_ => zin x1_ ∧ (x1_ ≠ (0 : Int) → zCall L xs D 195 [zr 142, zi 0, zi 1] J1 K1 fun r2 e2 J2 K2 => zaI r2 e2 (fun x2_ => zin x2_ ∧ (x2_ = (0 : Int) → zCall L xs D 255 [zr 142] J2 K2 fun r3 e3 J3 K3 => zaV r3 e3 (0 ≤ x1 ∧ x1 < 8 ∧ Q (.inl (some (zi (J3 257 0 x1)))) 0 J3 K3) (fun E => Q (.inr E) e3 J3 K3)) ∧ (x2_ ≠ (0 : Int) → Q (.inl (some (zi 0))) 0 J2 K2)) (fun E => Q (.inr E) e2 J2 K2)) ∧ (x1_ = (0 : Int) → zCall L xs D 195 [zr 142, zi 1, zi 1] J1 K1 fun r4 e4 J4 K4 => zaI r4 e4 (fun x4_ => zin x4_ ∧ (x4_ = (0 : Int) → zCall L xs D 255 [zr 142] J4 K4 fun r5 e5 J5 K5 => zaV r5 e5 (0 ≤ x1 ∧ x1 < 8 ∧ Q (.inl (some (zi (J5 257 0 x1)))) 0 J5 K5) (fun E => Q (.inr E) e5 J5 K5)) ∧ (x4_ ≠ (0 : Int) → Q (.inl (some (zi 0))) 0 J4 K4)) (fun E => Q (.inr E) e4 J4 K4))) (fun E => Q (.inr E) e1 J1 K1)) :
  zCall L xs (D + 1) 217 [zr 142, zi x1] J K Q :=
  zrun_ok (T := mct217) (o := 12) (ret := (some FieldType.int)) (hs := []) hL rfl 20 _ _ _ _ _ _ _ h
/-! PartingTrainsModel.error -/
set_option maxRecDepth 30000 in
theorem z218 {L : Nat} {xs : Nat → Int32} (hL : L ≤ 3072) {D : Nat} {x1 : Int} {J : zJ} {K : zK} {Q : zR → Nat → zJ → zK → Prop}
  (h : zCall L xs D 252 [zr 142, zi x1] (zup J 142 0 0 0) K fun r1 e1 J1 K1 => zaI r1 e1 (fun x1_ => zin x1_ ∧ (x1_ ≠ (0 : Int) → zCall L xs D 195 [zr 142, zi 0, zi 1] J1 K1 fun r2 e2 J2 K2 => zaI r2 e2 (fun x2_ => zin x2_ ∧ (x2_ = (0 : Int) → zCall L xs D 255 [zr 142] J2 K2 fun r3 e3 J3 K3 => zaV r3 e3 (0 ≤ x1 ∧ x1 < 4 ∧ Q (.inl (some (zi (J3 255 0 x1)))) 0 J3 K3) (fun E => Q (.inr E) e3 J3 K3)) ∧ (x2_ ≠ (0 : Int) → Q (.inl (some (zi 0))) 0 J2 K2)) (fun E => Q (.inr E) e2 J2 K2)) ∧ (x1_ = (0 : Int) → zCall L xs D 195 [zr 142, zi 1, zi 1] J1 K1 fun r4 e4 J4 K4 => zaI r4 e4 (fun x4_ => zin x4_ ∧ (x4_ = (0 : Int) → zCall L xs D 255 [zr 142] J4 K4 fun r5 e5 J5 K5 => zaV r5 e5 (0 ≤ x1 ∧ x1 < 4 ∧ Q (.inl (some (zi (J5 255 0 x1)))) 0 J5 K5) (fun E => Q (.inr E) e5 J5 K5)) ∧ (x4_ ≠ (0 : Int) → Q (.inl (some (zi 0))) 0 J4 K4)) (fun E => Q (.inr E) e4 J4 K4))) (fun E => Q (.inr E) e1 J1 K1)) :
  zCall L xs (D + 1) 218 [zr 142, zi x1] J K Q :=
  zrun_ok (T := mct218) (o := 12) (ret := (some FieldType.int)) (hs := []) hL rfl 20 _ _ _ _ _ _ _ h
/-! PartingTrainsModel.evening -/
set_option maxRecDepth 30000 in
theorem z219 {L : Nat} {xs : Nat → Int32} (hL : L ≤ 3072) {D : Nat} {x1 x2 : Int} {J : zJ} {K : zK} {Q : zR → Nat → zJ → zK → Prop}
  (h : zCall L xs D 249 [zr 142, zi x1] (zup J 142 0 0 0) K fun r1 e1 J1 K1 => zaI r1 e1 (fun x1_ => zin x1_ ∧ (x1_ = (0 : Int) → zCall L xs D 195 [zr 142, zi 1, zi 1] J1 K1 fun r2 e2 J2 K2 => zaI r2 e2 (fun x2_ => zin x2_ ∧ (x2_ = (0 : Int) → 0 ≤ x1 ∧ x1 < 8 ∧ 0 ≤ x1 ∧ x1 < 8 ∧ Q (.inl (some (zi (J2 238 0 x1)))) 0 (zup J2 238 0 x1 x2) K2) ∧ (x2_ ≠ (0 : Int) → Q (.inl (some (zi 0))) 0 J2 K2)) (fun E => Q (.inr E) e2 J2 K2)) ∧ (x1_ ≠ (0 : Int) → zCall L xs D 240 [zi x2, zi 0, zi 1439] J1 K1 fun r3 e3 J3 K3 => zaI r3 e3 (fun x3_ => zin x3_ ∧ (x3_ ≠ (0 : Int) → zCall L xs D 195 [zr 142, zi 0, zi 1] J3 K3 fun r4 e4 J4 K4 => zaI r4 e4 (fun x4_ => zin x4_ ∧ (x4_ = (0 : Int) → 0 ≤ x1 ∧ x1 < 8 ∧ 0 ≤ x1 ∧ x1 < 8 ∧ Q (.inl (some (zi (J4 238 0 x1)))) 0 (zup J4 238 0 x1 x2) K4) ∧ (x4_ ≠ (0 : Int) → Q (.inl (some (zi 0))) 0 J4 K4)) (fun E => Q (.inr E) e4 J4 K4)) ∧ (x3_ = (0 : Int) → zCall L xs D 195 [zr 142, zi 1, zi 1] J3 K3 fun r5 e5 J5 K5 => zaI r5 e5 (fun x5_ => zin x5_ ∧ (x5_ = (0 : Int) → 0 ≤ x1 ∧ x1 < 8 ∧ 0 ≤ x1 ∧ x1 < 8 ∧ Q (.inl (some (zi (J5 238 0 x1)))) 0 (zup J5 238 0 x1 x2) K5) ∧ (x5_ ≠ (0 : Int) → Q (.inl (some (zi 0))) 0 J5 K5)) (fun E => Q (.inr E) e5 J5 K5))) (fun E => Q (.inr E) e3 J3 K3))) (fun E => Q (.inr E) e1 J1 K1)) :
  zCall L xs (D + 1) 219 [zr 142, zi x1, zi x2] J K Q :=
  zrun_ok (T := mct219) (o := 12) (ret := (some FieldType.int)) (hs := []) hL rfl 30 _ _ _ _ _ _ _ h
/-! PartingTrainsModel.fault -/
set_option maxRecDepth 30000 in
theorem z220 {L : Nat} {xs : Nat → Int32} (hL : L ≤ 3072) {D : Nat} {J : zJ} {K : zK} {Q : zR → Nat → zJ → zK → Prop}
  (h : Q (.inl (some (zi (J 142 0 3)))) 0 (zup J 142 0 0 0) K) :
  zCall L xs (D + 1) 220 [zr 142] J K Q :=
  zrun_ok (T := mct220) (o := 12) (ret := (some FieldType.int)) (hs := []) hL rfl 6 _ _ _ _ _ _ _ h
/-! PartingTrainsModel.feed -/
set_option maxRecDepth 30000 in
theorem z221 {L : Nat} {xs : Nat → Int32} (hL : L ≤ 3072) {D : Nat} {x1 x2 x3 x4 x5 : Int} {J : zJ} {K : zK} {Q : zR → Nat → zJ → zK → Prop}
  (h : zin ((J 142 0 1) + 20) ∧ zin 500 ∧ (((J 142 0 1) + 20) ≤ (500 : Int) → zGo L xs (D + 1) 221 23 [some (zr 142), some (zi x1), some (zi x2), some (zi x3), some (zi x4), some (zi x5), some (zi 0), none] [] (zup J 142 0 0 0) K Q) ∧ ((500 : Int) < ((J 142 0 1) + 20) → Q (.inl (some (zi (-1)))) 0 (zup J 142 0 0 0) K)) :
  zCall L xs (D + 1) 221 [zr 142, zi x1, zi x2, zi x3, zi x4, zi x5] J K Q :=
  zrun_ok (T := mct221) (o := 12) (ret := (some FieldType.int)) (hs := [(23, [7])]) hL rfl 11 _ _ _ _ _ _ _ h
set_option maxRecDepth 30000 in
theorem z221_23 {L : Nat} {xs : Nat → Int32} (hL : L ≤ 3072) {D : Nat} {x1 x2 x3 x4 x5 x6 : Int} {J : zJ} {K : zK} {Q : zR → Nat → zJ → zK → Prop}
  (h : zin x6 ∧ zin 20 ∧ ((20 : Int) ≤ x6 → Q (.inl (some (zi (J 142 0 1)))) 0 J K) ∧ (x6 < (20 : Int) → zin x6 ∧ zin 4 ∧ ((4 : Int) ≤ x6 → zin x6 ∧ zin 8 ∧ ((8 : Int) ≤ x6 → zin x6 ∧ zin 12 ∧ ((12 : Int) ≤ x6 → zin x6 ∧ zin 16 ∧ ((16 : Int) ≤ x6 → 0 ≤ x6 ∧ x6 < 2147483648 ∧ 0 < (4 : Int) ∧ (4 : Int) < 2147483648 ∧ zin x5 ∧ 0 ≤ (24 - (8 * (x6 % 4))) ∧ (24 - (8 * (x6 % 4))) < 32 ∧ 0 ≤ (J 142 0 1) ∧ (J 142 0 1) < 500 ∧ zGo L xs (D + 1) 221 23 [some (zr 142), some (zi x1), some (zi x2), some (zi x3), some (zi x4), some (zi x5), some (zi (x6 + 1)), none] [] (zup (zup J 143 0 (J 142 0 1) (zand (x5 / 2 ^ ((24 - (8 * (x6 % 4))).toNat)) 255)) 142 0 1 ((J 142 0 1) + 1)) K Q) ∧ (x6 < (16 : Int) → 0 ≤ x6 ∧ x6 < 2147483648 ∧ 0 < (4 : Int) ∧ (4 : Int) < 2147483648 ∧ zin x4 ∧ 0 ≤ (24 - (8 * (x6 % 4))) ∧ (24 - (8 * (x6 % 4))) < 32 ∧ 0 ≤ (J 142 0 1) ∧ (J 142 0 1) < 500 ∧ zGo L xs (D + 1) 221 23 [some (zr 142), some (zi x1), some (zi x2), some (zi x3), some (zi x4), some (zi x5), some (zi (x6 + 1)), none] [] (zup (zup J 143 0 (J 142 0 1) (zand (x4 / 2 ^ ((24 - (8 * (x6 % 4))).toNat)) 255)) 142 0 1 ((J 142 0 1) + 1)) K Q)) ∧ (x6 < (12 : Int) → 0 ≤ x6 ∧ x6 < 2147483648 ∧ 0 < (4 : Int) ∧ (4 : Int) < 2147483648 ∧ zin x3 ∧ 0 ≤ (24 - (8 * (x6 % 4))) ∧ (24 - (8 * (x6 % 4))) < 32 ∧ 0 ≤ (J 142 0 1) ∧ (J 142 0 1) < 500 ∧ zGo L xs (D + 1) 221 23 [some (zr 142), some (zi x1), some (zi x2), some (zi x3), some (zi x4), some (zi x5), some (zi (x6 + 1)), none] [] (zup (zup J 143 0 (J 142 0 1) (zand (x3 / 2 ^ ((24 - (8 * (x6 % 4))).toNat)) 255)) 142 0 1 ((J 142 0 1) + 1)) K Q)) ∧ (x6 < (8 : Int) → 0 ≤ x6 ∧ x6 < 2147483648 ∧ 0 < (4 : Int) ∧ (4 : Int) < 2147483648 ∧ zin x2 ∧ 0 ≤ (24 - (8 * (x6 % 4))) ∧ (24 - (8 * (x6 % 4))) < 32 ∧ 0 ≤ (J 142 0 1) ∧ (J 142 0 1) < 500 ∧ zGo L xs (D + 1) 221 23 [some (zr 142), some (zi x1), some (zi x2), some (zi x3), some (zi x4), some (zi x5), some (zi (x6 + 1)), none] [] (zup (zup J 143 0 (J 142 0 1) (zand (x2 / 2 ^ ((24 - (8 * (x6 % 4))).toNat)) 255)) 142 0 1 ((J 142 0 1) + 1)) K Q)) ∧ (x6 < (4 : Int) → 0 ≤ x6 ∧ x6 < 2147483648 ∧ 0 < (4 : Int) ∧ (4 : Int) < 2147483648 ∧ zin x1 ∧ 0 ≤ (24 - (8 * (x6 % 4))) ∧ (24 - (8 * (x6 % 4))) < 32 ∧ 0 ≤ (J 142 0 1) ∧ (J 142 0 1) < 500 ∧ zGo L xs (D + 1) 221 23 [some (zr 142), some (zi x1), some (zi x2), some (zi x3), some (zi x4), some (zi x5), some (zi (x6 + 1)), none] [] (zup (zup J 143 0 (J 142 0 1) (zand (x1 / 2 ^ ((24 - (8 * (x6 % 4))).toNat)) 255)) 142 0 1 ((J 142 0 1) + 1)) K Q))) :
  zGo L xs (D + 1) 221 23 [some (zr 142), some (zi x1), some (zi x2), some (zi x3), some (zi x4), some (zi x5), some (zi x6), none] [] J K Q :=
  zrun_ok (T := mct221) (o := 12) (ret := (some FieldType.int)) (hs := [(23, [7])]) hL rfl 42 _ _ _ _ _ _ _ h
/-! PartingTrainsModel.fewest -/
set_option maxRecDepth 30000 in
theorem z222 {L : Nat} {xs : Nat → Int32} (hL : L ≤ 3072) {D : Nat} {J : zJ} {K : zK} {Q : zR → Nat → zJ → zK → Prop}
  (h : zCall L xs D 279 [zr 142] (zup J 142 0 0 0) K fun r1 e1 J1 K1 => zaI r1 e1 (fun x1_ => zCall L xs D 274 [zi x1_] J1 K1 fun r2 e2 J2 K2 => zaI r2 e2 (fun x2_ => Q (.inl (some (zi x2_))) 0 J2 K2) (fun E => Q (.inr E) e2 J2 K2)) (fun E => Q (.inr E) e1 J1 K1)) :
  zCall L xs (D + 1) 222 [zr 142] J K Q :=
  zrun_ok (T := mct222) (o := 12) (ret := (some FieldType.int)) (hs := []) hL rfl 7 _ _ _ _ _ _ _ h
/-! PartingTrainsModel.findBest -/
set_option maxRecDepth 30000 in
theorem z223 {L : Nat} {xs : Nat → Int32} (hL : L ≤ 3072) {D : Nat} {J : zJ} {K : zK} {Q : zR → Nat → zJ → zK → Prop}
  (h : zGo L xs (D + 1) 223 7 [some (zr 142), some (zi (-2)), some (zi 1), some (zi 0), none, none, none] [] J K Q) :
  zCall L xs (D + 1) 223 [zr 142] J K Q :=
  zrun_ok (T := mct223) (o := 12) (ret := (some FieldType.int)) (hs := [(7, [4, 5, 6]), (32, [4, 5, 6]), (55, [5, 6]), (102, [4, 5, 6]), (120, [6]), (175, [4, 5]), (214, [2, 4, 5, 6]), (237, [2, 5, 6])]) hL rfl 6 _ _ _ _ _ _ _ h
set_option maxRecDepth 30000 in
theorem z223_7 {L : Nat} {xs : Nat → Int32} (hL : L ≤ 3072) {D : Nat} {x1 x2 x3 : Int} {J : zJ} {K : zK} {Q : zR → Nat → zJ → zK → Prop}
  (h : 0 ≤ (1 : Int) ∧ (1 : Int) < 8 ∧ zin x3 ∧ zin (J 144 0 1) ∧ ((J 144 0 1) ≤ x3 → zGo L xs (D + 1) 223 32 [some (zr 142), some (zi x1), some (zi x2), some (zi 0), none, none, none] [] J K Q) ∧ (x3 < (J 144 0 1) → zGo L xs (D + 1) 223 7 [some (zr 142), some (zi x1), some (zi (x2 * (J 142 0 15))), some (zi (x3 + 1)), none, none, none] [] J K Q)) :
  zGo L xs (D + 1) 223 7 [some (zr 142), some (zi x1), some (zi x2), some (zi x3), none, none, none] [] J K Q :=
  zrun_ok (T := mct223) (o := 12) (ret := (some FieldType.int)) (hs := [(7, [4, 5, 6]), (32, [4, 5, 6]), (55, [5, 6]), (102, [4, 5, 6]), (120, [6]), (175, [4, 5]), (214, [2, 4, 5, 6]), (237, [2, 5, 6])]) hL rfl 13 _ _ _ _ _ _ _ h
set_option maxRecDepth 30000 in
theorem z223_32 {L : Nat} {xs : Nat → Int32} (hL : L ≤ 3072) {D : Nat} {x1 x2 x3 : Int} {J : zJ} {K : zK} {Q : zR → Nat → zJ → zK → Prop}
  (h : zin x3 ∧ zin (J 142 0 15) ∧ ((J 142 0 15) ≤ x3 → zCall L xs D 225 [zr 142] J K fun r1 e1 J1 K1 => zaV r1 e1 (zGo L xs (D + 1) 223 102 [some (zr 142), some (zi x1), some (zi x2), some (zi 0), none, none, none] [] J1 K1 Q) (fun E => Q (.inr E) e1 J1 K1)) ∧ (x3 < (J 142 0 15) → 0 ≤ x3 ∧ x3 < 4 ∧ 0 ≤ x3 ∧ x3 < 4 ∧ zGo L xs (D + 1) 223 55 [some (zr 142), some (zi x1), some (zi x2), some (zi x3), some (zi 0), none, none] [] (zup J 535 0 x3 (J 234 0 x3)) K Q)) :
  zGo L xs (D + 1) 223 32 [some (zr 142), some (zi x1), some (zi x2), some (zi x3), none, none, none] [] J K Q :=
  zrun_ok (T := mct223) (o := 12) (ret := (some FieldType.int)) (hs := [(7, [4, 5, 6]), (32, [4, 5, 6]), (55, [5, 6]), (102, [4, 5, 6]), (120, [6]), (175, [4, 5]), (214, [2, 4, 5, 6]), (237, [2, 5, 6])]) hL rfl 14 _ _ _ _ _ _ _ h
set_option maxRecDepth 30000 in
theorem z223_55 {L : Nat} {xs : Nat → Int32} (hL : L ≤ 3072) {D : Nat} {x1 x2 x3 x4 : Int} {J : zJ} {K : zK} {Q : zR → Nat → zJ → zK → Prop}
  (h : 0 ≤ x3 ∧ x3 < 4 ∧ zin x4 ∧ zin (J 234 0 x3) ∧ ((J 234 0 x3) ≤ x4 → zGo L xs (D + 1) 223 32 [some (zr 142), some (zi x1), some (zi x2), some (zi (x3 + 1)), none, none, none] [] J K Q) ∧ (x4 < (J 234 0 x3) → 0 ≤ x3 ∧ x3 < 4 ∧ 0 ≤ x3 ∧ x3 < 4 ∧ 0 ≤ x3 ∧ x3 < 4 ∧ 0 ≤ x4 ∧ x4 < 8 ∧ 0 ≤ x3 ∧ x3 < 4 ∧ 0 ≤ x4 ∧ x4 < 8 ∧ zGo L xs (D + 1) 223 55 [some (zr 142), some (zi x1), some (zi x2), some (zi x3), some (zi (x4 + 1)), none, none] [] (zup J 536 x3 x4 (J 229 x3 x4)) K Q)) :
  zGo L xs (D + 1) 223 55 [some (zr 142), some (zi x1), some (zi x2), some (zi x3), some (zi x4), none, none] [] J K Q :=
  zrun_ok (T := mct223) (o := 12) (ret := (some FieldType.int)) (hs := [(7, [4, 5, 6]), (32, [4, 5, 6]), (55, [5, 6]), (102, [4, 5, 6]), (120, [6]), (175, [4, 5]), (214, [2, 4, 5, 6]), (237, [2, 5, 6])]) hL rfl 20 _ _ _ _ _ _ _ h
set_option maxRecDepth 30000 in
theorem z223_102 {L : Nat} {xs : Nat → Int32} (hL : L ≤ 3072) {D : Nat} {x1 x2 x3 : Int} {J : zJ} {K : zK} {Q : zR → Nat → zJ → zK → Prop}
  (h : zin x3 ∧ zin x2 ∧ (x2 ≤ x3 → zGo L xs (D + 1) 223 214 [some (zr 142), some (zi x1), none, some (zi 0), none, none, none] [] J K Q) ∧ (x3 < x2 → 0 ≤ (1 : Int) ∧ (1 : Int) < 8 ∧ zGo L xs (D + 1) 223 120 [some (zr 142), some (zi x1), some (zi x2), some (zi x3), some (zi x3), some (zi ((J 144 0 1) - 1)), none] [] J K Q)) :
  zGo L xs (D + 1) 223 102 [some (zr 142), some (zi x1), some (zi x2), some (zi x3), none, none, none] [] J K Q :=
  zrun_ok (T := mct223) (o := 12) (ret := (some FieldType.int)) (hs := [(7, [4, 5, 6]), (32, [4, 5, 6]), (55, [5, 6]), (102, [4, 5, 6]), (120, [6]), (175, [4, 5]), (214, [2, 4, 5, 6]), (237, [2, 5, 6])]) hL rfl 12 _ _ _ _ _ _ _ h
set_option maxRecDepth 30000 in
theorem z223_120 {L : Nat} {xs : Nat → Int32} (hL : L ≤ 3072) {D : Nat} {x1 x2 x3 x4 x5 : Int} {J : zJ} {K : zK} {Q : zR → Nat → zJ → zK → Prop}
  (h : zin x5 ∧ (x5 < (0 : Int) → zCall L xs D 234 [zr 142] J K fun r1 e1 J1 K1 => zaI r1 e1 (fun x1_ => zin x1_ ∧ zin x1 ∧ (x1 < x1_ → zGo L xs (D + 1) 223 175 [some (zr 142), some (zi x1_), some (zi x2), some (zi x3), none, none, some (zi 0)] [] J1 K1 Q) ∧ (x1_ ≤ x1 → zGo L xs (D + 1) 223 102 [some (zr 142), some (zi x1), some (zi x2), some (zi (x3 + 1)), none, none, none] [] J1 K1 Q)) (fun E => Q (.inr E) e1 J1 K1)) ∧ ((0 : Int) ≤ x5 → 0 ≤ x4 ∧ x4 < 2147483648 ∧ 0 < (J 142 0 15) ∧ (J 142 0 15) < 2147483648 ∧ 0 ≤ x5 ∧ x5 < 8 ∧ 0 ≤ x4 ∧ x4 < 2147483648 ∧ 0 < (J 142 0 15) ∧ (J 142 0 15) < 2147483648 ∧ zGo L xs (D + 1) 223 120 [some (zr 142), some (zi x1), some (zi x2), some (zi x3), some (zi (x4 / (J 142 0 15))), some (zi (x5 + (-1))), none] [] (zup J 259 0 x5 (x4 % (J 142 0 15))) K Q)) :
  zGo L xs (D + 1) 223 120 [some (zr 142), some (zi x1), some (zi x2), some (zi x3), some (zi x4), some (zi x5), none] [] J K Q :=
  zrun_ok (T := mct223) (o := 12) (ret := (some FieldType.int)) (hs := [(7, [4, 5, 6]), (32, [4, 5, 6]), (55, [5, 6]), (102, [4, 5, 6]), (120, [6]), (175, [4, 5]), (214, [2, 4, 5, 6]), (237, [2, 5, 6])]) hL rfl 17 _ _ _ _ _ _ _ h
set_option maxRecDepth 30000 in
theorem z223_175 {L : Nat} {xs : Nat → Int32} (hL : L ≤ 3072) {D : Nat} {x1 x2 x3 x6 : Int} {J : zJ} {K : zK} {Q : zR → Nat → zJ → zK → Prop}
  (h : 0 ≤ (1 : Int) ∧ (1 : Int) < 8 ∧ zin x6 ∧ zin (J 144 0 1) ∧ ((J 144 0 1) ≤ x6 → zGo L xs (D + 1) 223 102 [some (zr 142), some (zi x1), some (zi x2), some (zi (x3 + 1)), none, none, none] [] J K Q) ∧ (x6 < (J 144 0 1) → 0 ≤ x6 ∧ x6 < 8 ∧ 0 ≤ x6 ∧ x6 < 8 ∧ zGo L xs (D + 1) 223 175 [some (zr 142), some (zi x1), some (zi x2), some (zi x3), none, none, some (zi (x6 + 1))] [] (zup J 534 0 x6 (J 259 0 x6)) K Q)) :
  zGo L xs (D + 1) 223 175 [some (zr 142), some (zi x1), some (zi x2), some (zi x3), none, none, some (zi x6)] [] J K Q :=
  zrun_ok (T := mct223) (o := 12) (ret := (some FieldType.int)) (hs := [(7, [4, 5, 6]), (32, [4, 5, 6]), (55, [5, 6]), (102, [4, 5, 6]), (120, [6]), (175, [4, 5]), (214, [2, 4, 5, 6]), (237, [2, 5, 6])]) hL rfl 16 _ _ _ _ _ _ _ h
set_option maxRecDepth 30000 in
theorem z223_214 {L : Nat} {xs : Nat → Int32} (hL : L ≤ 3072) {D : Nat} {x1 x3 : Int} {J : zJ} {K : zK} {Q : zR → Nat → zJ → zK → Prop}
  (h : zin x3 ∧ zin (J 142 0 15) ∧ ((J 142 0 15) ≤ x3 → Q (.inl (some (zi x1))) 0 J K) ∧ (x3 < (J 142 0 15) → 0 ≤ x3 ∧ x3 < 4 ∧ 0 ≤ x3 ∧ x3 < 4 ∧ zGo L xs (D + 1) 223 237 [some (zr 142), some (zi x1), none, some (zi x3), some (zi 0), none, none] [] (zup J 234 0 x3 (J 535 0 x3)) K Q)) :
  zGo L xs (D + 1) 223 214 [some (zr 142), some (zi x1), none, some (zi x3), none, none, none] [] J K Q :=
  zrun_ok (T := mct223) (o := 12) (ret := (some FieldType.int)) (hs := [(7, [4, 5, 6]), (32, [4, 5, 6]), (55, [5, 6]), (102, [4, 5, 6]), (120, [6]), (175, [4, 5]), (214, [2, 4, 5, 6]), (237, [2, 5, 6])]) hL rfl 14 _ _ _ _ _ _ _ h
set_option maxRecDepth 30000 in
theorem z223_237 {L : Nat} {xs : Nat → Int32} (hL : L ≤ 3072) {D : Nat} {x1 x3 x4 : Int} {J : zJ} {K : zK} {Q : zR → Nat → zJ → zK → Prop}
  (h : 0 ≤ x3 ∧ x3 < 4 ∧ zin x4 ∧ zin (J 234 0 x3) ∧ ((J 234 0 x3) ≤ x4 → zGo L xs (D + 1) 223 214 [some (zr 142), some (zi x1), none, some (zi (x3 + 1)), none, none, none] [] J K Q) ∧ (x4 < (J 234 0 x3) → 0 ≤ x3 ∧ x3 < 4 ∧ 0 ≤ x3 ∧ x3 < 4 ∧ 0 ≤ x3 ∧ x3 < 4 ∧ 0 ≤ x4 ∧ x4 < 8 ∧ 0 ≤ x3 ∧ x3 < 4 ∧ 0 ≤ x4 ∧ x4 < 8 ∧ zGo L xs (D + 1) 223 237 [some (zr 142), some (zi x1), none, some (zi x3), some (zi (x4 + 1)), none, none] [] (zup J 229 x3 x4 (J 536 x3 x4)) K Q)) :
  zGo L xs (D + 1) 223 237 [some (zr 142), some (zi x1), none, some (zi x3), some (zi x4), none, none] [] J K Q :=
  zrun_ok (T := mct223) (o := 12) (ret := (some FieldType.int)) (hs := [(7, [4, 5, 6]), (32, [4, 5, 6]), (55, [5, 6]), (102, [4, 5, 6]), (120, [6]), (175, [4, 5]), (214, [2, 4, 5, 6]), (237, [2, 5, 6])]) hL rfl 20 _ _ _ _ _ _ _ h
/-! PartingTrainsModel.findComing -/
set_option maxRecDepth 30000 in
theorem z224 {L : Nat} {xs : Nat → Int32} (hL : L ≤ 3072) {D : Nat} {x1 : Int} {J : zJ} {K : zK} {Q : zR → Nat → zJ → zK → Prop}
  (h : zGo L xs (D + 1) 224 7 [some (zr 142), some (zi x1), some (zi 0), none] [] (zup J 142 0 50 0) K Q) :
  zCall L xs (D + 1) 224 [zr 142, zi x1] J K Q :=
  zrun_ok (T := mct224) (o := 12) (ret := none) (hs := [(7, [3]), (33, [])]) hL rfl 5 _ _ _ _ _ _ _ h
set_option maxRecDepth 30000 in
theorem z224_7 {L : Nat} {xs : Nat → Int32} (hL : L ≤ 3072) {D : Nat} {x1 x2 : Int} {J : zJ} {K : zK} {Q : zR → Nat → zJ → zK → Prop}
  (h : zin x2 ∧ zin (J 142 0 49) ∧ ((J 142 0 49) ≤ x2 → Q (.inl none) 0 J K) ∧ (x2 < (J 142 0 49) → 0 ≤ x2 ∧ x2 < 8 ∧ zin (J 552 0 x2) ∧ zin x1 ∧ ((J 552 0 x2) = x1 → zGo L xs (D + 1) 224 33 [some (zr 142), some (zi x1), some (zi x2), some (zi (J 142 0 50))] [] J K Q) ∧ ((J 552 0 x2) ≠ x1 → zGo L xs (D + 1) 224 7 [some (zr 142), some (zi x1), some (zi (x2 + 1)), none] [] J K Q))) :
  zGo L xs (D + 1) 224 7 [some (zr 142), some (zi x1), some (zi x2), none] [] J K Q :=
  zrun_ok (T := mct224) (o := 12) (ret := none) (hs := [(7, [3]), (33, [])]) hL rfl 13 _ _ _ _ _ _ _ h
set_option maxRecDepth 30000 in
theorem z224_33 {L : Nat} {xs : Nat → Int32} (hL : L ≤ 3072) {D : Nat} {x1 x2 x3 : Int} {J : zJ} {K : zK} {Q : zR → Nat → zJ → zK → Prop}
  (h : zin x3 ∧ (x3 ≤ (0 : Int) → 0 ≤ x3 ∧ x3 < 8 ∧ zGo L xs (D + 1) 224 7 [some (zr 142), some (zi x1), some (zi (x2 + 1)), none] [] (zup (zup J 555 0 x3 x2) 142 0 50 ((J 142 0 50) + 1)) K Q) ∧ ((0 : Int) < x3 → 0 ≤ (x3 - 1) ∧ (x3 - 1) < 8 ∧ zCall L xs D 241 [zr 142, zi x2, zi (J 555 0 (x3 - 1))] J K fun r1 e1 J1 K1 => zaI r1 e1 (fun x1_ => zin x1_ ∧ (x1_ = (0 : Int) → 0 ≤ x3 ∧ x3 < 8 ∧ zGo L xs (D + 1) 224 7 [some (zr 142), some (zi x1), some (zi (x2 + 1)), none] [] (zup (zup J1 555 0 x3 x2) 142 0 50 ((J1 142 0 50) + 1)) K1 Q) ∧ (x1_ ≠ (0 : Int) → 0 ≤ (x3 - 1) ∧ (x3 - 1) < 8 ∧ 0 ≤ x3 ∧ x3 < 8 ∧ zGo L xs (D + 1) 224 33 [some (zr 142), some (zi x1), some (zi x2), some (zi (x3 + (-1)))] [] (zup J1 555 0 x3 (J1 555 0 (x3 - 1))) K1 Q)) (fun E => Q (.inr E) e1 J1 K1))) :
  zGo L xs (D + 1) 224 33 [some (zr 142), some (zi x1), some (zi x2), some (zi x3)] [] J K Q :=
  zrun_ok (T := mct224) (o := 12) (ret := none) (hs := [(7, [3]), (33, [])]) hL rfl 25 _ _ _ _ _ _ _ h
/-! PartingTrainsModel.findSets -/
set_option maxRecDepth 30000 in
theorem z225 {L : Nat} {xs : Nat → Int32} (hL : L ≤ 3072) {D : Nat} {J : zJ} {K : zK} {Q : zR → Nat → zJ → zK → Prop}
  (h : zGo L xs (D + 1) 225 2 [some (zr 142), some (zi 0), none, none] [] J K Q) :
  zCall L xs (D + 1) 225 [zr 142] J K Q :=
  zrun_ok (T := mct225) (o := 12) (ret := none) (hs := [(2, [2, 3]), (38, [3]), (62, [])]) hL rfl 2 _ _ _ _ _ _ _ h
set_option maxRecDepth 30000 in
theorem z225_2 {L : Nat} {xs : Nat → Int32} (hL : L ≤ 3072) {D : Nat} {x1 : Int} {J : zJ} {K : zK} {Q : zR → Nat → zJ → zK → Prop}
  (h : 0 ≤ (1 : Int) ∧ (1 : Int) < 8 ∧ 0 ≤ (J 144 0 1) ∧ (J 144 0 1) < 32 ∧ zin x1 ∧ zin (1 * 2 ^ ((J 144 0 1).toNat)) ∧ ((1 * 2 ^ ((J 144 0 1).toNat)) ≤ x1 → Q (.inl none) 0 J K) ∧ (x1 < (1 * 2 ^ ((J 144 0 1).toNat)) → zCall L xs D 265 [zr 142, zi x1] J K fun r1 e1 J1 K1 => zaV r1 e1 (0 ≤ x1 ∧ x1 < 256 ∧ 0 ≤ x1 ∧ x1 < 256 ∧ zGo L xs (D + 1) 225 38 [some (zr 142), some (zi x1), some (zi 0), none] [] (zup (zup J1 531 0 x1 (J1 142 0 37)) 532 0 x1 0) K1 Q) (fun E => Q (.inr E) e1 J1 K1))) :
  zGo L xs (D + 1) 225 2 [some (zr 142), some (zi x1), none, none] [] J K Q :=
  zrun_ok (T := mct225) (o := 12) (ret := none) (hs := [(2, [2, 3]), (38, [3]), (62, [])]) hL rfl 24 _ _ _ _ _ _ _ h
set_option maxRecDepth 30000 in
theorem z225_38 {L : Nat} {xs : Nat → Int32} (hL : L ≤ 3072) {D : Nat} {x1 x2 : Int} {J : zJ} {K : zK} {Q : zR → Nat → zJ → zK → Prop}
  (h : zin x2 ∧ zin (J 142 0 37) ∧ ((J 142 0 37) ≤ x2 → zGo L xs (D + 1) 225 2 [some (zr 142), some (zi (x1 + 1)), none, none] [] J K Q) ∧ (x2 < (J 142 0 37) → 0 ≤ x1 ∧ x1 < 256 ∧ 0 ≤ x2 ∧ x2 < 8 ∧ 0 ≤ x1 ∧ x1 < 256 ∧ 0 ≤ x2 ∧ x2 < 8 ∧ zGo L xs (D + 1) 225 62 [some (zr 142), some (zi x1), some (zi x2), some (zi 0)] [] (zup J 274 x1 x2 (J 533 0 x2)) K Q)) :
  zGo L xs (D + 1) 225 38 [some (zr 142), some (zi x1), some (zi x2), none] [] J K Q :=
  zrun_ok (T := mct225) (o := 12) (ret := none) (hs := [(2, [2, 3]), (38, [3]), (62, [])]) hL rfl 16 _ _ _ _ _ _ _ h
set_option maxRecDepth 30000 in
theorem z225_62 {L : Nat} {xs : Nat → Int32} (hL : L ≤ 3072) {D : Nat} {x1 x2 x3 : Int} {J : zJ} {K : zK} {Q : zR → Nat → zJ → zK → Prop}
  (h : 0 ≤ (0 : Int) ∧ (0 : Int) < 8 ∧ zin x3 ∧ zin (J 144 0 0) ∧ ((J 144 0 0) ≤ x3 → zGo L xs (D + 1) 225 38 [some (zr 142), some (zi x1), some (zi (x2 + 1)), none] [] J K Q) ∧ (x3 < (J 144 0 0) → 0 ≤ x1 ∧ x1 < 256 ∧ 0 ≤ x2 ∧ x2 < 8 ∧ 0 ≤ (J 533 0 x2) ∧ (J 533 0 x2) < 16 ∧ 0 ≤ (J 533 0 x2) ∧ (J 533 0 x2) < 16 ∧ 0 ≤ (0 : Int) ∧ (0 : Int) < 4 ∧ zCall L xs D 247 [zr 142, zi x3, zi (J 170 (J 533 0 x2) 0)] J K fun r1 e1 J1 K1 => zaI r1 e1 (fun x1_ => zin x1_ ∧ (x1_ = (0 : Int) → 0 ≤ x1 ∧ x1 < 256 ∧ zGo L xs (D + 1) 225 62 [some (zr 142), some (zi x1), some (zi x2), some (zi (x3 + 1))] [] (zup J1 532 0 x1 (zor (J 532 0 x1) 0)) K1 Q) ∧ (x1_ ≠ (0 : Int) → 0 ≤ x3 ∧ x3 < 32 ∧ 0 ≤ x1 ∧ x1 < 256 ∧ zGo L xs (D + 1) 225 62 [some (zr 142), some (zi x1), some (zi x2), some (zi (x3 + 1))] [] (zup J1 532 0 x1 (zor (J 532 0 x1) (1 * 2 ^ (x3.toNat)))) K1 Q)) (fun E => Q (.inr E) e1 J1 K1))) :
  zGo L xs (D + 1) 225 62 [some (zr 142), some (zi x1), some (zi x2), some (zi x3)] [] J K Q :=
  zrun_ok (T := mct225) (o := 12) (ret := none) (hs := [(2, [2, 3]), (38, [3]), (62, [])]) hL rfl 32 _ _ _ _ _ _ _ h
