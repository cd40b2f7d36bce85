/-! REGION LEMMAS of the integer machine (printed by wip/whole/tools/zemit.py) -/
/-! PartingTrains.alike -/
set_option maxRecDepth 30000 in
theorem z137 {L : Nat} {xs : Nat → Int32} (hL : L ≤ 3072) {D : Nat} {x1 : Int} {J : zJ} {K : zK} {Q : zR → Nat → zJ → zK → Prop}
  (h : zCall L xs D 169 [zr 0, zi x1] J K fun r1 e1 J1 K1 => zaV r1 e1 (0 ≤ x1 ∧ x1 < 4 ∧ zin (J1 42 0 x1) ∧ ((J1 42 0 x1) ≠ (0 : Int) → zCall L xs D 19 [zr 117, zi 0] J1 K1 fun r2 e2 J2 K2 => zaV r2 e2 (zCall L xs D 8 [zr 117, zi x1] J2 K2 fun r3 e3 J3 K3 => zaI r3 e3 (fun x3_ => (x3_ = 0 ∨ x3_ = 1) ∧ Q (.inl (some (zi x3_))) 0 J3 K3) (fun E => Q (.inr E) e3 J3 K3)) (fun E => Q (.inr E) e2 J2 K2)) ∧ ((J1 42 0 x1) = (0 : Int) → ((0 : Int) = 0 ∨ (0 : Int) = 1) ∧ Q (.inl (some (zi 0))) 0 J1 K1)) (fun E => Q (.inr E) e1 J1 K1)) :
  zCall L xs (D + 1) 137 [zr 0, zi x1] J K Q :=
  zrun_ok (T := mct137) (o := 11) (ret := (some FieldType.boolean)) (hs := []) hL rfl 18 _ _ _ _ _ _ _ h
/-! PartingTrains.arrives -/
set_option maxRecDepth 30000 in
theorem z138 {L : Nat} {xs : Nat → Int32} (hL : L ≤ 3072) {D : Nat} {x1 : Int} {J : zJ} {K : zK} {Q : zR → Nat → zJ → zK → Prop}
  (h : zCall L xs D 167 [zr 0, zi x1] J K fun r1 e1 J1 K1 => zaV r1 e1 (zCall L xs D 46 [zr 101] J1 K1 fun r2 e2 J2 K2 => zaV r2 e2 (0 ≤ x1 ∧ x1 < 7 ∧ Q (.inl (some (zi (J2 104 0 x1)))) 0 J2 K2) (fun E => Q (.inr E) e2 J2 K2)) (fun E => Q (.inr E) e1 J1 K1)) :
  zCall L xs (D + 1) 138 [zr 0, zi x1] J K Q :=
  zrun_ok (T := mct138) (o := 11) (ret := (some FieldType.int)) (hs := []) hL rfl 12 _ _ _ _ _ _ _ h
/-! PartingTrains.behind -/
set_option maxRecDepth 30000 in
theorem z139 {L : Nat} {xs : Nat → Int32} (hL : L ≤ 3072) {D : Nat} {x1 x2 : Int} {J : zJ} {K : zK} {Q : zR → Nat → zJ → zK → Prop}
  (h : zCall L xs D 165 [zr 0, zi x1] J K fun r1 e1 J1 K1 => zaV r1 e1 (zCall L xs D 165 [zr 0, zi x2] J1 K1 fun r2 e2 J2 K2 => zaV r2 e2 (zCall L xs D 104 [zr 136, zi x1, zi x2] J2 K2 fun r3 e3 J3 K3 => zaI r3 e3 (fun x3_ => (x3_ = 0 ∨ x3_ = 1) ∧ Q (.inl (some (zi x3_))) 0 J3 K3) (fun E => Q (.inr E) e3 J3 K3)) (fun E => Q (.inr E) e2 J2 K2)) (fun E => Q (.inr E) e1 J1 K1)) :
  zCall L xs (D + 1) 139 [zr 0, zi x1, zi x2] J K Q :=
  zrun_ok (T := mct139) (o := 11) (ret := (some FieldType.boolean)) (hs := []) hL rfl 12 _ _ _ _ _ _ _ h
/-! PartingTrains.best -/
set_option maxRecDepth 30000 in
theorem z140 {L : Nat} {xs : Nat → Int32} (hL : L ≤ 3072) {D : Nat} {x1 : Int} {J : zJ} {K : zK} {Q : zR → Nat → zJ → zK → Prop}
  (h : zin x1 ∧ zin (-1) ∧ (x1 = (-1 : Int) → zCall L xs D 33 [zr 105] J K fun r1 e1 J1 K1 => zaI r1 e1 (fun x1_ => zin x1_ ∧ (x1_ ≠ (0 : Int) → zin x1 ∧ zin (-1) ∧ (x1 ≠ (-1 : Int) → 0 ≤ x1 ∧ x1 < 7 ∧ Q (.inl (some (zi (J1 113 0 x1)))) 0 J1 K1) ∧ (x1 = (-1 : Int) → Q (.inl (some (zi (J1 105 0 13)))) 0 J1 K1)) ∧ (x1_ = (0 : Int) → Q (.inl (some (zi (-2)))) 0 J1 K1)) (fun E => Q (.inr E) e1 J1 K1)) ∧ (x1 ≠ (-1 : Int) → zCall L xs D 167 [zr 0, zi x1] J K fun r2 e2 J2 K2 => zaV r2 e2 (zCall L xs D 33 [zr 105] J2 K2 fun r3 e3 J3 K3 => zaI r3 e3 (fun x3_ => zin x3_ ∧ (x3_ ≠ (0 : Int) → zin x1 ∧ zin (-1) ∧ (x1 ≠ (-1 : Int) → 0 ≤ x1 ∧ x1 < 7 ∧ Q (.inl (some (zi (J3 113 0 x1)))) 0 J3 K3) ∧ (x1 = (-1 : Int) → Q (.inl (some (zi (J3 105 0 13)))) 0 J3 K3)) ∧ (x3_ = (0 : Int) → Q (.inl (some (zi (-2)))) 0 J3 K3)) (fun E => Q (.inr E) e3 J3 K3)) (fun E => Q (.inr E) e2 J2 K2))) :
  zCall L xs (D + 1) 140 [zr 0, zi x1] J K Q :=
  zrun_ok (T := mct140) (o := 11) (ret := (some FieldType.int)) (hs := []) hL rfl 19 _ _ _ _ _ _ _ h
/-! PartingTrains.bestWait -/
set_option maxRecDepth 30000 in
theorem z141 {L : Nat} {xs : Nat → Int32} (hL : L ≤ 3072) {D : Nat} {x1 : Int} {J : zJ} {K : zK} {Q : zR → Nat → zJ → zK → Prop}
  (h : zCall L xs D 164 [zr 0, zi x1] J K fun r1 e1 J1 K1 => zaV r1 e1 (zCall L xs D 7 [zr 117, zi x1] J1 K1 fun r2 e2 J2 K2 => zaI r2 e2 (fun x2_ => Q (.inl (some (zi x2_))) 0 J2 K2) (fun E => Q (.inr E) e2 J2 K2)) (fun E => Q (.inr E) e1 J1 K1)) :
  zCall L xs (D + 1) 141 [zr 0, zi x1] J K Q :=
  zrun_ok (T := mct141) (o := 11) (ret := (some FieldType.int)) (hs := []) hL rfl 8 _ _ _ _ _ _ _ h
/-! PartingTrains.bound -/
set_option maxRecDepth 30000 in
theorem z142 {L : Nat} {xs : Nat → Int32} (hL : L ≤ 3072) {D : Nat} {J : zJ} {K : zK} {Q : zR → Nat → zJ → zK → Prop}
  (h : zin (J 40 0 0) ∧ ((J 40 0 0) ≠ (0 : Int) → zGo L xs (D + 1) 142 16 [some (zr 0), some (zi 0), some (zi 0), none, none] [] J K Q) ∧ ((J 40 0 0) = (0 : Int) → Q (.inl (some (zi 0))) 0 J K)) :
  zCall L xs (D + 1) 142 [zr 0] J K Q :=
  zrun_ok (T := mct142) (o := 11) (ret := (some FieldType.int)) (hs := [(16, [3, 4]), (32, [])]) hL rfl 8 _ _ _ _ _ _ _ h
set_option maxRecDepth 30000 in
theorem z142_16 {L : Nat} {xs : Nat → Int32} (hL : L ≤ 3072) {D : Nat} {x1 x2 : Int} {J : zJ} {K : zK} {Q : zR → Nat → zJ → zK → Prop}
  (h : zin x2 ∧ zin (J 18 0 14) ∧ ((J 18 0 14) ≤ x2 → Q (.inl (some (zi x1))) 0 J K) ∧ (x2 < (J 18 0 14) → zGo L xs (D + 1) 142 32 [some (zr 0), some (zi x1), some (zi x2), some (zi 0), some (zi 0)] [] J K Q)) :
  zGo L xs (D + 1) 142 16 [some (zr 0), some (zi x1), some (zi x2), none, none] [] J K Q :=
  zrun_ok (T := mct142) (o := 11) (ret := (some FieldType.int)) (hs := [(16, [3, 4]), (32, [])]) hL rfl 9 _ _ _ _ _ _ _ h
set_option maxRecDepth 30000 in
theorem z142_32 {L : Nat} {xs : Nat → Int32} (hL : L ≤ 3072) {D : Nat} {x1 x2 x3 x4 : Int} {J : zJ} {K : zK} {Q : zR → Nat → zJ → zK → Prop}
  (h : zin x4 ∧ zin (J 40 0 0) ∧ ((J 40 0 0) ≤ x4 → zGo L xs (D + 1) 142 16 [some (zr 0), some (zi (x1 + x3)), some (zi (x2 + 1)), none, none] [] J K Q) ∧ (x4 < (J 40 0 0) → 0 ≤ x4 ∧ x4 < 4 ∧ zCall L xs D 60 [zr 18, zi x2, zi (J 41 0 x4)] J K fun r1 e1 J1 K1 => zaI r1 e1 (fun x1_ => zin x3 ∧ zin x1_ ∧ 1 ≤ D + 1 ∧ zGo L xs (D + 1) 142 32 [some (zr 0), some (zi x1), some (zi x2), some (zi (if x3 < x1_ then x1_ else x3)), some (zi (x4 + 1))] [] J1 K1 Q) (fun E => Q (.inr E) e1 J1 K1))) :
  zGo L xs (D + 1) 142 32 [some (zr 0), some (zi x1), some (zi x2), some (zi x3), some (zi x4)] [] J K Q :=
  zrun_ok (T := mct142) (o := 11) (ret := (some FieldType.int)) (hs := [(16, [3, 4]), (32, [])]) hL rfl 19 _ _ _ _ _ _ _ h
/-! PartingTrains.carriageMinutes -/
set_option maxRecDepth 30000 in
theorem z143 {L : Nat} {xs : Nat → Int32} (hL : L ≤ 3072) {D : Nat} {x1 x2 : Int} {J : zJ} {K : zK} {Q : zR → Nat → zJ → zK → Prop}
  (h : zGo L xs (D + 1) 143 5 [some (zr 0), some (zi x1), some (zi x2), some (zi 0), some (zi 0)] [] J K Q) :
  zCall L xs (D + 1) 143 [zr 0, zi x1, zi x2] J K Q :=
  zrun_ok (T := mct143) (o := 11) (ret := (some FieldType.int)) (hs := [(5, [])]) hL rfl 4 _ _ _ _ _ _ _ h
set_option maxRecDepth 30000 in
theorem z143_5 {L : Nat} {xs : Nat → Int32} (hL : L ≤ 3072) {D : Nat} {x1 x2 x3 x4 : Int} {J : zJ} {K : zK} {Q : zR → Nat → zJ → zK → Prop}
  (h : zin x4 ∧ zin (J 18 0 6) ∧ ((J 18 0 6) ≤ x4 → Q (.inl (some (zi x3))) 0 J K) ∧ (x4 < (J 18 0 6) → zin x1 ∧ 0 ≤ x4 ∧ x4 < 32 ∧ zin (zand (x1 / 2 ^ (x4.toNat)) 1) ∧ ((zand (x1 / 2 ^ (x4.toNat)) 1) = (0 : Int) → zGo L xs (D + 1) 143 5 [some (zr 0), some (zi x1), some (zi x2), some (zi x3), some (zi (x4 + 1))] [] J K Q) ∧ ((zand (x1 / 2 ^ (x4.toNat)) 1) ≠ (0 : Int) → 0 ≤ x4 ∧ x4 < 7 ∧ 0 ≤ x2 ∧ x2 < 7 ∧ 0 ≤ x4 ∧ x4 < 7 ∧ zCall L xs D 121 [zr 33, zi (J 24 0 x2), zi (J 24 0 x4)] J K fun r1 e1 J1 K1 => zaI r1 e1 (fun x1_ => zGo L xs (D + 1) 143 5 [some (zr 0), some (zi x1), some (zi x2), some (zi (x3 + ((J 25 0 x4) * x1_))), some (zi (x4 + 1))] [] J1 K1 Q) (fun E => Q (.inr E) e1 J1 K1)))) :
  zGo L xs (D + 1) 143 5 [some (zr 0), some (zi x1), some (zi x2), some (zi x3), some (zi x4)] [] J K Q :=
  zrun_ok (T := mct143) (o := 11) (ret := (some FieldType.int)) (hs := [(5, [])]) hL rfl 35 _ _ _ _ _ _ _ h
/-! PartingTrains.clear -/
set_option maxRecDepth 30000 in
theorem z144 {L : Nat} {xs : Nat → Int32} (hL : L ≤ 3072) {D : Nat} {x1 : Int} {J : zJ} {K : zK} {Q : zR → Nat → zJ → zK → Prop}
  (h : zCall L xs D 169 [zr 0, zi x1] J K fun r1 e1 J1 K1 => zaV r1 e1 (zCall L xs D 80 [zr 40, zi x1] J1 K1 fun r2 e2 J2 K2 => zaI r2 e2 (fun x2_ => Q (.inl (some (zi x2_))) 0 J2 K2) (fun E => Q (.inr E) e2 J2 K2)) (fun E => Q (.inr E) e1 J1 K1)) :
  zCall L xs (D + 1) 144 [zr 0, zi x1] J K Q :=
  zrun_ok (T := mct144) (o := 11) (ret := (some FieldType.int)) (hs := []) hL rfl 8 _ _ _ _ _ _ _ h
/-! PartingTrains.count -/
set_option maxRecDepth 30000 in
theorem z145 {L : Nat} {xs : Nat → Int32} (hL : L ≤ 3072) {D : Nat} {x1 : Int} {J : zJ} {K : zK} {Q : zR → Nat → zJ → zK → Prop}
  (h : zin x1 ∧ (x1 < 0 ∨ 5 < x1 → Q (.inl (some (zi (-1)))) 0 J K) ∧ (0 : Int) + (6 : Nat) = 5 + 1 ∧ (x1 = 0 → Q (.inl (some (zi (J 40 0 0)))) 0 J K) ∧ (x1 = 1 → zCall L xs D 83 [zr 40] J K fun r1 e1 J1 K1 => zaI r1 e1 (fun x1_ => Q (.inl (some (zi x1_))) 0 J1 K1) (fun E => Q (.inr E) e1 J1 K1)) ∧ (x1 = 2 → Q (.inl (some (zi (J 40 0 5)))) 0 J K) ∧ (x1 = 3 → zCall L xs D 317 [zi (J 40 0 10)] J K fun r2 e2 J2 K2 => zaI r2 e2 (fun x2_ => Q (.inl (some (zi x2_))) 0 J2 K2) (fun E => Q (.inr E) e2 J2 K2)) ∧ (x1 = 4 → Q (.inl (some (zi (J 0 0 8)))) 0 J K) ∧ (x1 = 5 → Q (.inl (some (zi (J 0 0 1)))) 0 J K) ∧ True) :
  zCall L xs (D + 1) 145 [zr 0, zi x1] J K Q :=
  zrun_ok (T := mct145) (o := 11) (ret := (some FieldType.int)) (hs := []) hL rfl 7 _ _ _ _ _ _ _ h
/-! PartingTrains.cuts -/
set_option maxRecDepth 30000 in
theorem z146 {L : Nat} {xs : Nat → Int32} (hL : L ≤ 3072) {D : Nat} {x1 x2 : Int} {J : zJ} {K : zK} {Q : zR → Nat → zJ → zK → Prop}
  (h : zCall L xs D 169 [zr 0, zi x1] J K fun r1 e1 J1 K1 => zaV r1 e1 (zin x2 ∧ (x2 < (0 : Int) → 8 ≤ D + 1 ∧ Q (.inr 0) 1 J1 K1) ∧ ((0 : Int) ≤ x2 → zin x2 ∧ zin 7 ∧ (x2 < (7 : Int) → zCall L xs D 84 [zr 40, zi x1, zi x2, zr 141] J1 K1 fun r2 e2 J2 K2 => zaI r2 e2 (fun x2_ => zCall L xs D 127 [zr 92, zi x2_, zr 141] J2 K2 fun r3 e3 J3 K3 => zaI r3 e3 (fun x3_ => Q (.inl (some (zi x3_))) 0 J3 K3) (fun E => Q (.inr E) e3 J3 K3)) (fun E => Q (.inr E) e2 J2 K2)) ∧ ((7 : Int) ≤ x2 → 8 ≤ D + 1 ∧ Q (.inr 0) 1 J1 K1))) (fun E => Q (.inr E) e1 J1 K1)) :
  zCall L xs (D + 1) 146 [zr 0, zi x1, zi x2] J K Q :=
  zrun_ok (T := mct146) (o := 11) (ret := (some FieldType.int)) (hs := []) hL rfl 21 _ _ _ _ _ _ _ h
/-! PartingTrains.day -/
set_option maxRecDepth 30000 in
theorem z147 {L : Nat} {xs : Nat → Int32} (hL : L ≤ 3072) {D : Nat} {x1 : Int} {J : zJ} {K : zK} {Q : zR → Nat → zJ → zK → Prop}
  (h : zCall L xs D 13 [zr 117, zi x1, zi 1] J K fun r1 e1 J1 K1 => zaI r1 e1 (fun x1_ => Q (.inl (some (zi x1_))) 0 J1 K1) (fun E => Q (.inr E) e1 J1 K1)) :
  zCall L xs (D + 1) 147 [zr 0, zi x1] J K Q :=
  zrun_ok (T := mct147) (o := 11) (ret := (some FieldType.int)) (hs := []) hL rfl 6 _ _ _ _ _ _ _ h
/-! PartingTrains.days -/
set_option maxRecDepth 30000 in
theorem z148 {L : Nat} {xs : Nat → Int32} (hL : L ≤ 3072) {D : Nat} {x1 x2 : Int} {J : zJ} {K : zK} {Q : zR → Nat → zJ → zK → Prop}
  (h : zCall L xs D 167 [zr 0, zi x1] J K fun r1 e1 J1 K1 => zaV r1 e1 (zin x2 ∧ (x2 < (0 : Int) → 8 ≤ D + 1 ∧ Q (.inr 0) 1 J1 K1) ∧ ((0 : Int) ≤ x2 → zin x2 ∧ zin 127 ∧ (x2 ≤ (127 : Int) → 0 ≤ x1 ∧ x1 < 7 ∧ 0 ≤ x1 ∧ x1 < 7 ∧ Q (.inl (some (zi (J1 50 0 x1)))) 0 (zup J1 50 0 x1 x2) K1) ∧ ((127 : Int) < x2 → 8 ≤ D + 1 ∧ Q (.inr 0) 1 J1 K1))) (fun E => Q (.inr E) e1 J1 K1)) :
  zCall L xs (D + 1) 148 [zr 0, zi x1, zi x2] J K Q :=
  zrun_ok (T := mct148) (o := 11) (ret := (some FieldType.int)) (hs := []) hL rfl 22 _ _ _ _ _ _ _ h
/-! PartingTrains.engine -/
set_option maxRecDepth 30000 in
theorem z149 {L : Nat} {xs : Nat → Int32} (hL : L ≤ 3072) {D : Nat} {x1 : Int} {J : zJ} {K : zK} {Q : zR → Nat → zJ → zK → Prop}
  (h : zCall L xs D 167 [zr 0, zi x1] J K fun r1 e1 J1 K1 => zaV r1 e1 (zCall L xs D 46 [zr 101] J1 K1 fun r2 e2 J2 K2 => zaV r2 e2 (0 ≤ x1 ∧ x1 < 7 ∧ Q (.inl (some (zi (J2 103 0 x1)))) 0 J2 K2) (fun E => Q (.inr E) e2 J2 K2)) (fun E => Q (.inr E) e1 J1 K1)) :
  zCall L xs (D + 1) 149 [zr 0, zi x1] J K Q :=
  zrun_ok (T := mct149) (o := 11) (ret := (some FieldType.int)) (hs := []) hL rfl 12 _ _ _ _ _ _ _ h
/-! PartingTrains.error -/
set_option maxRecDepth 30000 in
theorem z150 {L : Nat} {xs : Nat → Int32} (hL : L ≤ 3072) {D : Nat} {x1 : Int} {J : zJ} {K : zK} {Q : zR → Nat → zJ → zK → Prop}
  (h : zCall L xs D 169 [zr 0, zi x1] J K fun r1 e1 J1 K1 => zaV r1 e1 (zCall L xs D 46 [zr 101] J1 K1 fun r2 e2 J2 K2 => zaV r2 e2 (0 ≤ x1 ∧ x1 < 4 ∧ Q (.inl (some (zi (J2 102 0 x1)))) 0 J2 K2) (fun E => Q (.inr E) e2 J2 K2)) (fun E => Q (.inr E) e1 J1 K1)) :
  zCall L xs (D + 1) 150 [zr 0, zi x1] J K Q :=
  zrun_ok (T := mct150) (o := 11) (ret := (some FieldType.int)) (hs := []) hL rfl 12 _ _ _ _ _ _ _ h
/-! PartingTrains.evening -/
set_option maxRecDepth 30000 in
theorem z151 {L : Nat} {xs : Nat → Int32} (hL : L ≤ 3072) {D : Nat} {x1 x2 : Int} {J : zJ} {K : zK} {Q : zR → Nat → zJ → zK → Prop}
  (h : zCall L xs D 167 [zr 0, zi x1] J K fun r1 e1 J1 K1 => zaV r1 e1 (zin x2 ∧ (x2 < (0 : Int) → 8 ≤ D + 1 ∧ Q (.inr 0) 1 J1 K1) ∧ ((0 : Int) ≤ x2 → zin x2 ∧ zin 1439 ∧ (x2 ≤ (1439 : Int) → 0 ≤ x1 ∧ x1 < 7 ∧ 0 ≤ x1 ∧ x1 < 7 ∧ Q (.inl (some (zi (J1 51 0 x1)))) 0 (zup J1 51 0 x1 x2) K1) ∧ ((1439 : Int) < x2 → 8 ≤ D + 1 ∧ Q (.inr 0) 1 J1 K1))) (fun E => Q (.inr E) e1 J1 K1)) :
  zCall L xs (D + 1) 151 [zr 0, zi x1, zi x2] J K Q :=
  zrun_ok (T := mct151) (o := 11) (ret := (some FieldType.int)) (hs := []) hL rfl 22 _ _ _ _ _ _ _ h
/-! PartingTrains.fault -/
set_option maxRecDepth 30000 in
theorem z152 {L : Nat} {xs : Nat → Int32} (hL : L ≤ 3072) {D : Nat} {J : zJ} {K : zK} {Q : zR → Nat → zJ → zK → Prop}
  (h : Q (.inl (some (zi (J 0 0 2)))) 0 J K) :
  zCall L xs (D + 1) 152 [zr 0] J K Q :=
  zrun_ok (T := mct152) (o := 11) (ret := (some FieldType.int)) (hs := []) hL rfl 3 _ _ _ _ _ _ _ h
/-! PartingTrains.feed -/
set_option maxRecDepth 30000 in
theorem z153 {L : Nat} {xs : Nat → Int32} (hL : L ≤ 3072) {D : Nat} {x1 x2 x3 x4 x5 : Int} {J : zJ} {K : zK} {Q : zR → Nat → zJ → zK → Prop}
  (h : zin ((J 0 0 1) + 20) ∧ zin 500 ∧ (((J 0 0 1) + 20) ≤ (500 : Int) → zCall L xs D 183 [zr 0, zi x1] J K fun r1 e1 J1 K1 => zaV r1 e1 (zCall L xs D 183 [zr 0, zi x2] J1 K1 fun r2 e2 J2 K2 => zaV r2 e2 (zCall L xs D 183 [zr 0, zi x3] J2 K2 fun r3 e3 J3 K3 => zaV r3 e3 (zCall L xs D 183 [zr 0, zi x4] J3 K3 fun r4 e4 J4 K4 => zaV r4 e4 (zCall L xs D 183 [zr 0, zi x5] J4 K4 fun r5 e5 J5 K5 => zaV r5 e5 (Q (.inl (some (zi (J5 0 0 1)))) 0 J5 K5) (fun E => Q (.inr E) e5 J5 K5)) (fun E => Q (.inr E) e4 J4 K4)) (fun E => Q (.inr E) e3 J3 K3)) (fun E => Q (.inr E) e2 J2 K2)) (fun E => Q (.inr E) e1 J1 K1)) ∧ ((500 : Int) < ((J 0 0 1) + 20) → Q (.inl (some (zi (-1)))) 0 J K)) :
  zCall L xs (D + 1) 153 [zr 0, zi x1, zi x2, zi x3, zi x4, zi x5] J K Q :=
  zrun_ok (T := mct153) (o := 11) (ret := (some FieldType.int)) (hs := []) hL rfl 24 _ _ _ _ _ _ _ h
/-! PartingTrains.fewest -/
set_option maxRecDepth 30000 in
theorem z154 {L : Nat} {xs : Nat → Int32} (hL : L ≤ 3072) {D : Nat} {J : zJ} {K : zK} {Q : zR → Nat → zJ → zK → Prop}
  (h : zCall L xs D 106 [zr 136] J K fun r1 e1 J1 K1 => zaI r1 e1 (fun x1_ => Q (.inl (some (zi x1_))) 0 J1 K1) (fun E => Q (.inr E) e1 J1 K1)) :
  zCall L xs (D + 1) 154 [zr 0] J K Q :=
  zrun_ok (T := mct154) (o := 11) (ret := (some FieldType.int)) (hs := []) hL rfl 4 _ _ _ _ _ _ _ h
/-! PartingTrains.first -/
set_option maxRecDepth 30000 in
theorem z155 {L : Nat} {xs : Nat → Int32} (hL : L ≤ 3072) {D : Nat} {x1 x2 : Int} {J : zJ} {K : zK} {Q : zR → Nat → zJ → zK → Prop}
  (h : zCall L xs D 168 [zr 0, zi x1] J K fun r1 e1 J1 K1 => zaV r1 e1 (zin x2 ∧ (x2 < (0 : Int) → Q (.inl (some (zi (-1)))) 0 J1 K1) ∧ ((0 : Int) ≤ x2 → zCall L xs D 317 [zi x1] J1 K1 fun r2 e2 J2 K2 => zaI r2 e2 (fun x2_ => zin x2 ∧ zin x2_ ∧ (x2 < x2_ → zCall L xs D 67 [zr 89, zi x1, zr 141, zi 0] J2 K2 fun r3 e3 J3 K3 => zaV r3 e3 (0 ≤ x2 ∧ x2 < 7 ∧ Q (.inl (some (zi (J3 141 0 x2)))) 0 J3 K3) (fun E => Q (.inr E) e3 J3 K3)) ∧ (x2_ ≤ x2 → Q (.inl (some (zi (-1)))) 0 J2 K2)) (fun E => Q (.inr E) e2 J2 K2))) (fun E => Q (.inr E) e1 J1 K1)) :
  zCall L xs (D + 1) 155 [zr 0, zi x1, zi x2] J K Q :=
  zrun_ok (T := mct155) (o := 11) (ret := (some FieldType.int)) (hs := []) hL rfl 21 _ _ _ _ _ _ _ h
/-! PartingTrains.group -/
set_option maxRecDepth 30000 in
theorem z156 {L : Nat} {xs : Nat → Int32} (hL : L ≤ 3072) {D : Nat} {J : zJ} {K : zK} {Q : zR → Nat → zJ → zK → Prop}
  (h : zCall L xs D 33 [zr 105] J K fun r1 e1 J1 K1 => zaI r1 e1 (fun x1_ => zin x1_ ∧ (x1_ ≠ (0 : Int) → zGo L xs (D + 1) 156 17 [some (zr 0), some (zi 0), some (zi 0)] [] J1 K1 Q) ∧ (x1_ = (0 : Int) → Q (.inl (some (zi (-2)))) 0 J1 K1)) (fun E => Q (.inr E) e1 J1 K1)) :
  zCall L xs (D + 1) 156 [zr 0] J K Q :=
  zrun_ok (T := mct156) (o := 11) (ret := (some FieldType.int)) (hs := [(17, [])]) hL rfl 8 _ _ _ _ _ _ _ h
set_option maxRecDepth 30000 in
theorem z156_17 {L : Nat} {xs : Nat → Int32} (hL : L ≤ 3072) {D : Nat} {x1 x2 : Int} {J : zJ} {K : zK} {Q : zR → Nat → zJ → zK → Prop}
  (h : zin x2 ∧ zin (J 18 0 6) ∧ ((J 18 0 6) ≤ x2 → zCall L xs D 173 [zr 0] J K fun r1 e1 J1 K1 => zaV r1 e1 (Q (.inl (some (zi x1))) 0 J1 K1) (fun E => Q (.inr E) e1 J1 K1)) ∧ (x2 < (J 18 0 6) → 0 ≤ x2 ∧ x2 < 7 ∧ 0 ≤ x2 ∧ x2 < 7 ∧ zin (J 44 0 x2) ∧ zin (J 113 0 x2) ∧ ((J 44 0 x2) = (J 113 0 x2) → zGo L xs (D + 1) 156 17 [some (zr 0), some (zi x1), some (zi (x2 + 1))] [] J K Q) ∧ ((J 44 0 x2) ≠ (J 113 0 x2) → zGo L xs (D + 1) 156 17 [some (zr 0), some (zi (x1 + 1)), some (zi (x2 + 1))] [] J K Q))) :
  zGo L xs (D + 1) 156 17 [some (zr 0), some (zi x1), some (zi x2)] [] J K Q :=
  zrun_ok (T := mct156) (o := 11) (ret := (some FieldType.int)) (hs := [(17, [])]) hL rfl 19 _ _ _ _ _ _ _ h
/-! PartingTrains.harm -/
set_option maxRecDepth 30000 in
theorem z157 {L : Nat} {xs : Nat → Int32} (hL : L ≤ 3072) {D : Nat} {x1 : Int} {J : zJ} {K : zK} {Q : zR → Nat → zJ → zK → Prop}
  (h : zCall L xs D 168 [zr 0, zi x1] J K fun r1 e1 J1 K1 => zaV r1 e1 (zCall L xs D 19 [zr 117, zi x1] J1 K1 fun r2 e2 J2 K2 => zaV r2 e2 (zCall L xs D 12 [zr 117] J2 K2 fun r3 e3 J3 K3 => zaI r3 e3 (fun x3_ => Q (.inl (some (zi x3_))) 0 J3 K3) (fun E => Q (.inr E) e3 J3 K3)) (fun E => Q (.inr E) e2 J2 K2)) (fun E => Q (.inr E) e1 J1 K1)) :
  zCall L xs (D + 1) 157 [zr 0, zi x1] J K Q :=
  zrun_ok (T := mct157) (o := 11) (ret := (some FieldType.int)) (hs := []) hL rfl 11 _ _ _ _ _ _ _ h
/-! PartingTrains.hold -/
set_option maxRecDepth 30000 in
theorem z158 {L : Nat} {xs : Nat → Int32} (hL : L ≤ 3072) {D : Nat} {x1 x2 : Int} {J : zJ} {K : zK} {Q : zR → Nat → zJ → zK → Prop}
  (h : zCall L xs D 164 [zr 0, zi x1] J K fun r1 e1 J1 K1 => zaV r1 e1 (zin x2 ∧ (x2 < (0 : Int) → 8 ≤ D + 1 ∧ Q (.inr 0) 1 J1 K1) ∧ ((0 : Int) ≤ x2 → zin x2 ∧ zin 60 ∧ (x2 ≤ (60 : Int) → 0 ≤ x1 ∧ x1 < 12 ∧ 0 ≤ x1 ∧ x1 < 12 ∧ Q (.inl (some (zi (J1 49 0 x1)))) 0 (zup J1 49 0 x1 x2) K1) ∧ ((60 : Int) < x2 → 8 ≤ D + 1 ∧ Q (.inr 0) 1 J1 K1))) (fun E => Q (.inr E) e1 J1 K1)) :
  zCall L xs (D + 1) 158 [zr 0, zi x1, zi x2] J K Q :=
  zrun_ok (T := mct158) (o := 11) (ret := (some FieldType.int)) (hs := []) hL rfl 22 _ _ _ _ _ _ _ h
/-! PartingTrains.image -/
set_option maxRecDepth 30000 in
theorem z159 {L : Nat} {xs : Nat → Int32} (hL : L ≤ 3072) {D : Nat} {J : zJ} {K : zK} {Q : zR → Nat → zJ → zK → Prop}
  (h : zin (J 0 0 8) ∧ zin 3 ∧ ((J 0 0 8) < (3 : Int) → 0 ≤ (J 0 0 8) ∧ (J 0 0 8) < 3 ∧ ∃ q, m_rf [some 53, some 65, some 77] (J 0 0 8).toNat = some q ∧ zGo L xs (D + 1) 159 19 [some (zr 0)] [zr q] J K Q) ∧ ((3 : Int) ≤ (J 0 0 8) → Q (.inl (some (zi (-1)))) 0 J K)) :
  zCall L xs (D + 1) 159 [zr 0] J K Q :=
  zrun_ok (T := mct159) (o := 11) (ret := (some FieldType.int)) (hs := [(19, [])]) hL rfl 9 _ _ _ _ _ _ _ h
set_option maxRecDepth 30000 in
theorem z159_19 {L : Nat} {xs : Nat → Int32} (hL : L ≤ 3072) {D : Nat} {J : zJ} {K : zK} {Q : zR → Nat → zJ → zK → Prop}
  (h : zCall L xs D 79 [zr 53, zr 40] J K fun r1 e1 J1 K1 => zaV r1 e1 (Q (.inl (some (zi ((J1 0 0 8) + 1)))) 0 (zup J1 0 0 8 ((J1 0 0 8) + 1)) K1) (fun E => Q (.inr E) e1 J1 K1)) :
  zGo L xs (D + 1) 159 19 [some (zr 0)] [zr 53] J K Q :=
  zrun_ok (T := mct159) (o := 11) (ret := (some FieldType.int)) (hs := [(19, [])]) hL rfl 12 _ _ _ _ _ _ _ h
set_option maxRecDepth 30000 in
theorem z159_19a {L : Nat} {xs : Nat → Int32} (hL : L ≤ 3072) {D : Nat} {J : zJ} {K : zK} {Q : zR → Nat → zJ → zK → Prop}
  (h : zCall L xs D 79 [zr 65, zr 40] J K fun r1 e1 J1 K1 => zaV r1 e1 (Q (.inl (some (zi ((J1 0 0 8) + 1)))) 0 (zup J1 0 0 8 ((J1 0 0 8) + 1)) K1) (fun E => Q (.inr E) e1 J1 K1)) :
  zGo L xs (D + 1) 159 19 [some (zr 0)] [zr 65] J K Q :=
  zrun_ok (T := mct159) (o := 11) (ret := (some FieldType.int)) (hs := [(19, [])]) hL rfl 12 _ _ _ _ _ _ _ h
set_option maxRecDepth 30000 in
theorem z159_19b {L : Nat} {xs : Nat → Int32} (hL : L ≤ 3072) {D : Nat} {J : zJ} {K : zK} {Q : zR → Nat → zJ → zK → Prop}
  (h : zCall L xs D 79 [zr 77, zr 40] J K fun r1 e1 J1 K1 => zaV r1 e1 (Q (.inl (some (zi ((J1 0 0 8) + 1)))) 0 (zup J1 0 0 8 ((J1 0 0 8) + 1)) K1) (fun E => Q (.inr E) e1 J1 K1)) :
  zGo L xs (D + 1) 159 19 [some (zr 0)] [zr 77] J K Q :=
  zrun_ok (T := mct159) (o := 11) (ret := (some FieldType.int)) (hs := [(19, [])]) hL rfl 12 _ _ _ _ _ _ _ h
/-! PartingTrains.job -/
set_option maxRecDepth 30000 in
theorem z160 {L : Nat} {xs : Nat → Int32} (hL : L ≤ 3072) {D : Nat} {x1 x2 x3 x4 : Int} {J : zJ} {K : zK} {Q : zR → Nat → zJ → zK → Prop}
  (h : zCall L xs D 166 [zr 0, zi x1] J K fun r1 e1 J1 K1 => zaV r1 e1 (zCall L xs D 166 [zr 0, zi x3] J1 K1 fun r2 e2 J2 K2 => zaV r2 e2 (zin x2 ∧ (x2 < (0 : Int) → 8 ≤ D + 1 ∧ Q (.inr 0) 1 J2 K2) ∧ ((0 : Int) ≤ x2 → zin x2 ∧ zin 2879 ∧ ((2879 : Int) < x2 → 8 ≤ D + 1 ∧ Q (.inr 0) 1 J2 K2) ∧ (x2 ≤ (2879 : Int) → zin x4 ∧ zin x2 ∧ (x4 ≤ x2 → 8 ≤ D + 1 ∧ Q (.inr 0) 1 J2 K2) ∧ (x2 < x4 → zin x4 ∧ zin 2879 ∧ (x4 ≤ (2879 : Int) → zCall L xs D 121 [zr 33, zi x1, zi x3] J2 K2 fun r3 e3 J3 K3 => zaI r3 e3 (fun x3_ => zin (x4 - x2) ∧ zin x3_ ∧ (x3_ ≤ (x4 - x2) → zin (J3 40 0 5) ∧ zin 14 ∧ ((J3 40 0 5) ≠ (14 : Int) → zCall L xs D 75 [zr 40, zi x1, zi x2, zi x3, zi x4] J3 K3 fun r4 e4 J4 K4 => zaI r4 e4 (fun x4_ => Q (.inl (some (zi x4_))) 0 J4 K4) (fun E => Q (.inr E) e4 J4 K4)) ∧ ((J3 40 0 5) = (14 : Int) → Q (.inl (some (zi (-1)))) 0 J3 K3)) ∧ ((x4 - x2) < x3_ → 8 ≤ D + 1 ∧ Q (.inr 0) 1 J3 K3)) (fun E => Q (.inr E) e3 J3 K3)) ∧ ((2879 : Int) < x4 → 8 ≤ D + 1 ∧ Q (.inr 0) 1 J2 K2))))) (fun E => Q (.inr E) e2 J2 K2)) (fun E => Q (.inr E) e1 J1 K1)) :
  zCall L xs (D + 1) 160 [zr 0, zi x1, zi x2, zi x3, zi x4] J K Q :=
  zrun_ok (T := mct160) (o := 11) (ret := (some FieldType.int)) (hs := []) hL rfl 39 _ _ _ _ _ _ _ h
/-! PartingTrains.land -/
set_option maxRecDepth 30000 in
theorem z161 {L : Nat} {xs : Nat → Int32} (hL : L ≤ 3072) {D : Nat} {x1 : Int} {J : zJ} {K : zK} {Q : zR → Nat → zJ → zK → Prop}
  (h : zin x1 ∧ (x1 < (0 : Int) → 8 ≤ D + 1 ∧ Q (.inr 0) 1 J K) ∧ ((0 : Int) ≤ x1 → zin x1 ∧ zin (J 0 0 1) ∧ (x1 ≤ (J 0 0 1) → zCall L xs D 89 [zr 2, zi x1] (zup J 0 0 1 0) K fun r1 e1 J1 K1 => zaI r1 e1 (fun x1_ => zin x1_ ∧ (x1_ = (0 : Int) → zCall L xs D 56 [zr 18, zr 3] (zup J1 0 0 2 (J1 2 0 6)) K1 fun r2 e2 J2 K2 => zaV r2 e2 (zCall L xs D 116 [zr 33] J2 K2 fun r3 e3 J3 K3 => zaV r3 e3 (zCall L xs D 78 [zr 40] J3 K3 fun r4 e4 J4 K4 => zaV r4 e4 (zCall L xs D 34 [zr 105] (zup J4 0 0 8 0) K4 fun r5 e5 J5 K5 => zaV r5 e5 (Q (.inl (some (zi (J5 18 0 0)))) 0 J5 K5) (fun E => Q (.inr E) e5 J5 K5)) (fun E => Q (.inr E) e4 J4 K4)) (fun E => Q (.inr E) e3 J3 K3)) (fun E => Q (.inr E) e2 J2 K2)) ∧ (x1_ ≠ (0 : Int) → Q (.inl (some (zi (x1_ - 10)))) 0 (zup J1 0 0 2 (J1 2 0 6)) K1)) (fun E => Q (.inr E) e1 J1 K1)) ∧ ((J 0 0 1) < x1 → 8 ≤ D + 1 ∧ Q (.inr 0) 1 J K))) :
  zCall L xs (D + 1) 161 [zr 0, zi x1] J K Q :=
  zrun_ok (T := mct161) (o := 11) (ret := (some FieldType.int)) (hs := []) hL rfl 43 _ _ _ _ _ _ _ h
/-! PartingTrains.light -/
set_option maxRecDepth 30000 in
theorem z162 {L : Nat} {xs : Nat → Int32} (hL : L ≤ 3072) {D : Nat} {x1 x2 : Int} {J : zJ} {K : zK} {Q : zR → Nat → zJ → zK → Prop}
  (h : zin x1 ∧ zin 1 ∧ (x1 < (1 : Int) → 8 ≤ D + 1 ∧ Q (.inr 0) 1 J K) ∧ ((1 : Int) ≤ x1 → zin x1 ∧ zin 3 ∧ (x1 ≤ (3 : Int) → zin x2 ∧ (x2 = (0 : Int) → zin (J 18 0 0) ∧ zin x1 ∧ (x1 ≤ (J 18 0 0) → zCall L xs D 107 [zr 136, zi x1] J K fun r1 e1 J1 K1 => zaV r1 e1 (zin x2 ∧ (x2 ≠ (0 : Int) → Q (.inl (some (zi (J1 136 0 9)))) 0 J1 K1) ∧ (x2 = (0 : Int) → Q (.inl (some (zi (J1 136 0 8)))) 0 J1 K1)) (fun E => Q (.inr E) e1 J1 K1)) ∧ ((J 18 0 0) < x1 → Q (.inl (some (zi (-1)))) 0 J K)) ∧ (x2 ≠ (0 : Int) → zin x2 ∧ zin 1 ∧ (x2 = (1 : Int) → zin (J 18 0 0) ∧ zin x1 ∧ (x1 ≤ (J 18 0 0) → zCall L xs D 107 [zr 136, zi x1] J K fun r2 e2 J2 K2 => zaV r2 e2 (zin x2 ∧ (x2 ≠ (0 : Int) → Q (.inl (some (zi (J2 136 0 9)))) 0 J2 K2) ∧ (x2 = (0 : Int) → Q (.inl (some (zi (J2 136 0 8)))) 0 J2 K2)) (fun E => Q (.inr E) e2 J2 K2)) ∧ ((J 18 0 0) < x1 → Q (.inl (some (zi (-1)))) 0 J K)) ∧ (x2 ≠ (1 : Int) → 8 ≤ D + 1 ∧ Q (.inr 0) 1 J K))) ∧ ((3 : Int) < x1 → 8 ≤ D + 1 ∧ Q (.inr 0) 1 J K))) :
  zCall L xs (D + 1) 162 [zr 0, zi x1, zi x2] J K Q :=
  zrun_ok (T := mct162) (o := 11) (ret := (some FieldType.int)) (hs := []) hL rfl 27 _ _ _ _ _ _ _ h
/-! PartingTrains.mean -/
set_option maxRecDepth 30000 in
theorem z163 {L : Nat} {xs : Nat → Int32} (hL : L ≤ 3072) {D : Nat} {J : zJ} {K : zK} {Q : zR → Nat → zJ → zK → Prop}
  (h : zCall L xs D 18 [zr 117] J K fun r1 e1 J1 K1 => zaL r1 e1 (fun x1_ => Q (.inl (some (zl x1_))) 0 J1 K1) (fun E => Q (.inr E) e1 J1 K1)) :
  zCall L xs (D + 1) 163 [zr 0] J K Q :=
  zrun_ok (T := mct163) (o := 11) (ret := (some FieldType.long)) (hs := []) hL rfl 4 _ _ _ _ _ _ _ h
/-! PartingTrains.needFork -/
set_option maxRecDepth 30000 in
theorem z164 {L : Nat} {xs : Nat → Int32} (hL : L ≤ 3072) {D : Nat} {x1 : Int} {J : zJ} {K : zK} {Q : zR → Nat → zJ → zK → Prop}
  (h : zCall L xs D 166 [zr 0, zi x1] J K fun r1 e1 J1 K1 => zaV r1 e1 (zCall L xs D 62 [zr 18, zi x1] J1 K1 fun r2 e2 J2 K2 => zaI r2 e2 (fun x2_ => zin x2_ ∧ (x2_ ≠ (0 : Int) → Q (.inl none) 0 J2 K2) ∧ (x2_ = (0 : Int) → 8 ≤ D + 1 ∧ Q (.inr 0) 1 J2 K2)) (fun E => Q (.inr E) e2 J2 K2)) (fun E => Q (.inr E) e1 J1 K1)) :
  zCall L xs (D + 1) 164 [zr 0, zi x1] J K Q :=
  zrun_ok (T := mct164) (o := 11) (ret := none) (hs := []) hL rfl 9 _ _ _ _ _ _ _ h
/-! PartingTrains.needJob -/
set_option maxRecDepth 30000 in
theorem z165 {L : Nat} {xs : Nat → Int32} (hL : L ≤ 3072) {D : Nat} {x1 : Int} {J : zJ} {K : zK} {Q : zR → Nat → zJ → zK → Prop}
  (h : zin x1 ∧ (x1 < (0 : Int) → 8 ≤ D + 1 ∧ Q (.inr 0) 1 J K) ∧ ((0 : Int) ≤ x1 → zin x1 ∧ zin (J 40 0 5) ∧ (x1 < (J 40 0 5) → Q (.inl none) 0 J K) ∧ ((J 40 0 5) ≤ x1 → 8 ≤ D + 1 ∧ Q (.inr 0) 1 J K))) :
  zCall L xs (D + 1) 165 [zr 0, zi x1] J K Q :=
  zrun_ok (T := mct165) (o := 11) (ret := none) (hs := []) hL rfl 8 _ _ _ _ _ _ _ h
/-! PartingTrains.needPlace -/
set_option maxRecDepth 30000 in
theorem z166 {L : Nat} {xs : Nat → Int32} (hL : L ≤ 3072) {D : Nat} {x1 : Int} {J : zJ} {K : zK} {Q : zR → Nat → zJ → zK → Prop}
  (h : zCall L xs D 61 [zr 18, zi x1] J K fun r1 e1 J1 K1 => zaI r1 e1 (fun x1_ => zin x1_ ∧ (x1_ ≠ (0 : Int) → Q (.inl none) 0 J1 K1) ∧ (x1_ = (0 : Int) → 8 ≤ D + 1 ∧ Q (.inr 1) 1 J1 K1)) (fun E => Q (.inr E) e1 J1 K1)) :
  zCall L xs (D + 1) 166 [zr 0, zi x1] J K Q :=
  zrun_ok (T := mct166) (o := 11) (ret := none) (hs := []) hL rfl 6 _ _ _ _ _ _ _ h
/-! PartingTrains.needPortion -/
set_option maxRecDepth 30000 in
theorem z167 {L : Nat} {xs : Nat → Int32} (hL : L ≤ 3072) {D : Nat} {x1 : Int} {J : zJ} {K : zK} {Q : zR → Nat → zJ → zK → Prop}
  (h : zin x1 ∧ (x1 < (0 : Int) → 8 ≤ D + 1 ∧ Q (.inr 0) 1 J K) ∧ ((0 : Int) ≤ x1 → zin x1 ∧ zin (J 18 0 6) ∧ (x1 < (J 18 0 6) → Q (.inl none) 0 J K) ∧ ((J 18 0 6) ≤ x1 → 8 ≤ D + 1 ∧ Q (.inr 0) 1 J K))) :
  zCall L xs (D + 1) 167 [zr 0, zi x1] J K Q :=
  zrun_ok (T := mct167) (o := 11) (ret := none) (hs := []) hL rfl 8 _ _ _ _ _ _ _ h
/-! PartingTrains.needSet -/
set_option maxRecDepth 30000 in
theorem z168 {L : Nat} {xs : Nat → Int32} (hL : L ≤ 3072) {D : Nat} {x1 : Int} {J : zJ} {K : zK} {Q : zR → Nat → zJ → zK → Prop}
  (h : zin x1 ∧ (x1 < (0 : Int) → 8 ≤ D + 1 ∧ Q (.inr 0) 1 J K) ∧ ((0 : Int) ≤ x1 → zCall L xs D 55 [zr 18] J K fun r1 e1 J1 K1 => zaI r1 e1 (fun x1_ => zin x1 ∧ zin x1_ ∧ (x1 ≤ x1_ → Q (.inl none) 0 J1 K1) ∧ (x1_ < x1 → 8 ≤ D + 1 ∧ Q (.inr 0) 1 J1 K1)) (fun E => Q (.inr E) e1 J1 K1))) :
  zCall L xs (D + 1) 168 [zr 0, zi x1] J K Q :=
  zrun_ok (T := mct168) (o := 11) (ret := none) (hs := []) hL rfl 8 _ _ _ _ _ _ _ h
/-! PartingTrains.needTrain -/
set_option maxRecDepth 30000 in
theorem z169 {L : Nat} {xs : Nat → Int32} (hL : L ≤ 3072) {D : Nat} {x1 : Int} {J : zJ} {K : zK} {Q : zR → Nat → zJ → zK → Prop}
  (h : zin x1 ∧ (x1 < (0 : Int) → 8 ≤ D + 1 ∧ Q (.inr 3) 1 J K) ∧ ((0 : Int) ≤ x1 → zin x1 ∧ zin (J 40 0 0) ∧ (x1 < (J 40 0 0) → Q (.inl none) 0 J K) ∧ ((J 40 0 0) ≤ x1 → 8 ≤ D + 1 ∧ Q (.inr 3) 1 J K))) :
  zCall L xs (D + 1) 169 [zr 0, zi x1] J K Q :=
  zrun_ok (T := mct169) (o := 11) (ret := none) (hs := []) hL rfl 8 _ _ _ _ _ _ _ h
/-! PartingTrains.orders -/
set_option maxRecDepth 30000 in
theorem z170 {L : Nat} {xs : Nat → Int32} (hL : L ≤ 3072) {D : Nat} {x1 : Int} {J : zJ} {K : zK} {Q : zR → Nat → zJ → zK → Prop}
  (h : zCall L xs D 168 [zr 0, zi x1] J K fun r1 e1 J1 K1 => zaV r1 e1 (zCall L xs D 70 [zr 89, zi x1] J1 K1 fun r2 e2 J2 K2 => zaI r2 e2 (fun x2_ => Q (.inl (some (zi x2_))) 0 J2 K2) (fun E => Q (.inr E) e2 J2 K2)) (fun E => Q (.inr E) e1 J1 K1)) :
  zCall L xs (D + 1) 170 [zr 0, zi x1] J K Q :=
  zrun_ok (T := mct170) (o := 11) (ret := (some FieldType.int)) (hs := []) hL rfl 8 _ _ _ _ _ _ _ h
/-! PartingTrains.proof -/
set_option maxRecDepth 30000 in
theorem z171 {L : Nat} {xs : Nat → Int32} (hL : L ≤ 3072) {D : Nat} {J : zJ} {K : zK} {Q : zR → Nat → zJ → zK → Prop}
  (h : zCall L xs D 112 [zr 136] J K fun r1 e1 J1 K1 => zaI r1 e1 (fun x1_ => Q (.inl (some (zi x1_))) 0 J1 K1) (fun E => Q (.inr E) e1 J1 K1)) :
  zCall L xs (D + 1) 171 [zr 0] J K Q :=
  zrun_ok (T := mct171) (o := 11) (ret := (some FieldType.int)) (hs := []) hL rfl 4 _ _ _ _ _ _ _ h
/-! PartingTrains.put -/
set_option maxRecDepth 30000 in
theorem z172 {L : Nat} {xs : Nat → Int32} (hL : L ≤ 3072) {D : Nat} {x1 x2 : Int} {J : zJ} {K : zK} {Q : zR → Nat → zJ → zK → Prop}
  (h : zCall L xs D 169 [zr 0, zi x1] J K fun r1 e1 J1 K1 => zaV r1 e1 (zCall L xs D 167 [zr 0, zi x2] J1 K1 fun r2 e2 J2 K2 => zaV r2 e2 (0 ≤ x2 ∧ x2 < 7 ∧ zin (J2 44 0 x2) ∧ zin (-1) ∧ ((J2 44 0 x2) = (-1 : Int) → zCall L xs D 77 [zr 40, zi x1, zi x2] J2 K2 fun r3 e3 J3 K3 => zaV r3 e3 (0 ≤ x1 ∧ x1 < 4 ∧ Q (.inl (some (zi (J3 42 0 x1)))) 0 J3 K3) (fun E => Q (.inr E) e3 J3 K3)) ∧ ((J2 44 0 x2) ≠ (-1 : Int) → Q (.inl (some (zi (-1)))) 0 J2 K2)) (fun E => Q (.inr E) e2 J2 K2)) (fun E => Q (.inr E) e1 J1 K1)) :
  zCall L xs (D + 1) 172 [zr 0, zi x1, zi x2] J K Q :=
  zrun_ok (T := mct172) (o := 11) (ret := (some FieldType.int)) (hs := []) hL rfl 24 _ _ _ _ _ _ _ h
/-! PartingTrains.putGrouping -/
set_option maxRecDepth 30000 in
theorem z173 {L : Nat} {xs : Nat → Int32} (hL : L ≤ 3072) {D : Nat} {J : zJ} {K : zK} {Q : zR → Nat → zJ → zK → Prop}
  (h : zGo L xs (D + 1) 173 2 [some (zr 0), some (zi 0)] [] J K Q) :
  zCall L xs (D + 1) 173 [zr 0] J K Q :=
  zrun_ok (T := mct173) (o := 11) (ret := none) (hs := [(2, []), (30, []), (66, [])]) hL rfl 2 _ _ _ _ _ _ _ h
set_option maxRecDepth 30000 in
theorem z173_2 {L : Nat} {xs : Nat → Int32} (hL : L ≤ 3072) {D : Nat} {x1 : Int} {J : zJ} {K : zK} {Q : zR → Nat → zJ → zK → Prop}
  (h : zin x1 ∧ zin (J 40 0 0) ∧ ((J 40 0 0) ≤ x1 → zGo L xs (D + 1) 173 30 [some (zr 0), some (zi 0)] [] J K Q) ∧ (x1 < (J 40 0 0) → zCall L xs D 80 [zr 40, zi x1] J K fun r1 e1 J1 K1 => zaI r1 e1 (fun x1_ => zGo L xs (D + 1) 173 2 [some (zr 0), some (zi (x1 + 1))] [] J1 K1 Q) (fun E => Q (.inr E) e1 J1 K1))) :
  zGo L xs (D + 1) 173 2 [some (zr 0), some (zi x1)] [] J K Q :=
  zrun_ok (T := mct173) (o := 11) (ret := none) (hs := [(2, []), (30, []), (66, [])]) hL rfl 12 _ _ _ _ _ _ _ h
set_option maxRecDepth 30000 in
theorem z173_30 {L : Nat} {xs : Nat → Int32} (hL : L ≤ 3072) {D : Nat} {x1 : Int} {J : zJ} {K : zK} {Q : zR → Nat → zJ → zK → Prop}
  (h : zin x1 ∧ zin (J 18 0 6) ∧ ((J 18 0 6) ≤ x1 → zGo L xs (D + 1) 173 66 [some (zr 0), some (zi 0)] [] J K Q) ∧ (x1 < (J 18 0 6) → 0 ≤ x1 ∧ x1 < 7 ∧ zCall L xs D 77 [zr 40, zi (J 113 0 x1), zi x1] J K fun r1 e1 J1 K1 => zaV r1 e1 (zGo L xs (D + 1) 173 30 [some (zr 0), some (zi (x1 + 1))] [] J1 K1 Q) (fun E => Q (.inr E) e1 J1 K1))) :
  zGo L xs (D + 1) 173 30 [some (zr 0), some (zi x1)] [] J K Q :=
  zrun_ok (T := mct173) (o := 11) (ret := none) (hs := [(2, []), (30, []), (66, [])]) hL rfl 16 _ _ _ _ _ _ _ h
set_option maxRecDepth 30000 in
theorem z173_66 {L : Nat} {xs : Nat → Int32} (hL : L ≤ 3072) {D : Nat} {x1 : Int} {J : zJ} {K : zK} {Q : zR → Nat → zJ → zK → Prop}
  (h : zin x1 ∧ zin (J 40 0 0) ∧ ((J 40 0 0) ≤ x1 → Q (.inl none) 0 J K) ∧ (x1 < (J 40 0 0) → zCall L xs D 82 [zr 40, zi x1] J K fun r1 e1 J1 K1 => zaI r1 e1 (fun x1_ => zCall L xs D 67 [zr 89, zi x1_, zr 43, zi (x1 * 7)] J1 K1 fun r2 e2 J2 K2 => zaV r2 e2 (zGo L xs (D + 1) 173 66 [some (zr 0), some (zi (x1 + 1))] [] J2 K2 Q) (fun E => Q (.inr E) e2 J2 K2)) (fun E => Q (.inr E) e1 J1 K1))) :
  zGo L xs (D + 1) 173 66 [some (zr 0), some (zi x1)] [] J K Q :=
  zrun_ok (T := mct173) (o := 11) (ret := none) (hs := [(2, []), (30, []), (66, [])]) hL rfl 20 _ _ _ _ _ _ _ h
/-! PartingTrains.reaches -/
set_option maxRecDepth 30000 in
theorem z174 {L : Nat} {xs : Nat → Int32} (hL : L ≤ 3072) {D : Nat} {x1 x2 : Int} {J : zJ} {K : zK} {Q : zR → Nat → zJ → zK → Prop}
  (h : zCall L xs D 167 [zr 0, zi x1] J K fun r1 e1 J1 K1 => zaV r1 e1 (zCall L xs D 168 [zr 0, zi x2] J1 K1 fun r2 e2 J2 K2 => zaV r2 e2 (zCall L xs D 19 [zr 117, zi x2] J2 K2 fun r3 e3 J3 K3 => zaV r3 e3 (zCall L xs D 21 [zr 117, zi x1] J3 K3 fun r4 e4 J4 K4 => zaI r4 e4 (fun x4_ => Q (.inl (some (zi x4_))) 0 J4 K4) (fun E => Q (.inr E) e4 J4 K4)) (fun E => Q (.inr E) e3 J3 K3)) (fun E => Q (.inr E) e2 J2 K2)) (fun E => Q (.inr E) e1 J1 K1)) :
  zCall L xs (D + 1) 174 [zr 0, zi x1, zi x2] J K Q :=
  zrun_ok (T := mct174) (o := 11) (ret := (some FieldType.int)) (hs := []) hL rfl 15 _ _ _ _ _ _ _ h
/-! PartingTrains.restore -/
set_option maxRecDepth 30000 in
theorem z175 {L : Nat} {xs : Nat → Int32} (hL : L ≤ 3072) {D : Nat} {J : zJ} {K : zK} {Q : zR → Nat → zJ → zK → Prop}
  (h : zin (J 0 0 8) ∧ ((0 : Int) < (J 0 0 8) → 0 ≤ ((J 0 0 8) - 1) ∧ ((J 0 0 8) - 1) < 3 ∧ ∃ q, m_rf [some 53, some 65, some 77] ((J 0 0 8) - 1).toNat = some q ∧ zGo L xs (D + 1) 175 32 [some (zr 0)] [zr q, zr 40] (zup J 0 0 8 ((J 0 0 8) - 1)) K Q) ∧ ((J 0 0 8) ≤ (0 : Int) → Q (.inl (some (zi (-1)))) 0 J K)) :
  zCall L xs (D + 1) 175 [zr 0] J K Q :=
  zrun_ok (T := mct175) (o := 11) (ret := (some FieldType.int)) (hs := [(32, [])]) hL rfl 16 _ _ _ _ _ _ _ h
set_option maxRecDepth 30000 in
theorem z175_32 {L : Nat} {xs : Nat → Int32} (hL : L ≤ 3072) {D : Nat} {J : zJ} {K : zK} {Q : zR → Nat → zJ → zK → Prop}
  (h : zCall L xs D 79 [zr 40, zr 53] J K fun r1 e1 J1 K1 => zaV r1 e1 (zCall L xs D 35 [zr 105] J1 K1 fun r2 e2 J2 K2 => zaV r2 e2 (Q (.inl (some (zi (J2 0 0 8)))) 0 J2 K2) (fun E => Q (.inr E) e2 J2 K2)) (fun E => Q (.inr E) e1 J1 K1)) :
  zGo L xs (D + 1) 175 32 [some (zr 0)] [zr 53, zr 40] J K Q :=
  zrun_ok (T := mct175) (o := 11) (ret := (some FieldType.int)) (hs := [(32, [])]) hL rfl 7 _ _ _ _ _ _ _ h
set_option maxRecDepth 30000 in
theorem z175_32a {L : Nat} {xs : Nat → Int32} (hL : L ≤ 3072) {D : Nat} {J : zJ} {K : zK} {Q : zR → Nat → zJ → zK → Prop}
  (h : zCall L xs D 79 [zr 40, zr 65] J K fun r1 e1 J1 K1 => zaV r1 e1 (zCall L xs D 35 [zr 105] J1 K1 fun r2 e2 J2 K2 => zaV r2 e2 (Q (.inl (some (zi (J2 0 0 8)))) 0 J2 K2) (fun E => Q (.inr E) e2 J2 K2)) (fun E => Q (.inr E) e1 J1 K1)) :
  zGo L xs (D + 1) 175 32 [some (zr 0)] [zr 65, zr 40] J K Q :=
  zrun_ok (T := mct175) (o := 11) (ret := (some FieldType.int)) (hs := [(32, [])]) hL rfl 7 _ _ _ _ _ _ _ h
set_option maxRecDepth 30000 in
theorem z175_32b {L : Nat} {xs : Nat → Int32} (hL : L ≤ 3072) {D : Nat} {J : zJ} {K : zK} {Q : zR → Nat → zJ → zK → Prop}
  (h : zCall L xs D 79 [zr 40, zr 77] J K fun r1 e1 J1 K1 => zaV r1 e1 (zCall L xs D 35 [zr 105] J1 K1 fun r2 e2 J2 K2 => zaV r2 e2 (Q (.inl (some (zi (J2 0 0 8)))) 0 J2 K2) (fun E => Q (.inr E) e2 J2 K2)) (fun E => Q (.inr E) e1 J1 K1)) :
  zGo L xs (D + 1) 175 32 [some (zr 0)] [zr 77, zr 40] J K Q :=
  zrun_ok (T := mct175) (o := 11) (ret := (some FieldType.int)) (hs := [(32, [])]) hL rfl 7 _ _ _ _ _ _ _ h
/-! PartingTrains.row -/
set_option maxRecDepth 30000 in
theorem z176 {L : Nat} {xs : Nat → Int32} (hL : L ≤ 3072) {D : Nat} {x1 x2 : Int} {J : zJ} {K : zK} {Q : zR → Nat → zJ → zK → Prop}
  (h : zCall L xs D 169 [zr 0, zi x1] J K fun r1 e1 J1 K1 => zaV r1 e1 (zin x2 ∧ (x2 < (0 : Int) → Q (.inl (some (zi (-1)))) 0 J1 K1) ∧ ((0 : Int) ≤ x2 → 0 ≤ x1 ∧ x1 < 4 ∧ zin x2 ∧ zin (J1 42 0 x1) ∧ (x2 < (J1 42 0 x1) → 0 ≤ ((x1 * 7) + x2) ∧ ((x1 * 7) + x2) < 28 ∧ Q (.inl (some (zi (J1 43 0 ((x1 * 7) + x2))))) 0 J1 K1) ∧ ((J1 42 0 x1) ≤ x2 → Q (.inl (some (zi (-1)))) 0 J1 K1))) (fun E => Q (.inr E) e1 J1 K1)) :
  zCall L xs (D + 1) 176 [zr 0, zi x1, zi x2] J K Q :=
  zrun_ok (T := mct176) (o := 11) (ret := (some FieldType.int)) (hs := []) hL rfl 22 _ _ _ _ _ _ _ h
/-! PartingTrains.rows -/
set_option maxRecDepth 30000 in
theorem z177 {L : Nat} {xs : Nat → Int32} (hL : L ≤ 3072) {D : Nat} {x1 : Int} {J : zJ} {K : zK} {Q : zR → Nat → zJ → zK → Prop}
  (h : zCall L xs D 168 [zr 0, zi x1] J K fun r1 e1 J1 K1 => zaV r1 e1 (zCall L xs D 19 [zr 117, zi x1] J1 K1 fun r2 e2 J2 K2 => zaV r2 e2 (zCall L xs D 22 [zr 117] J2 K2 fun r3 e3 J3 K3 => zaI r3 e3 (fun x3_ => Q (.inl (some (zi x3_))) 0 J3 K3) (fun E => Q (.inr E) e3 J3 K3)) (fun E => Q (.inr E) e2 J2 K2)) (fun E => Q (.inr E) e1 J1 K1)) :
  zCall L xs (D + 1) 177 [zr 0, zi x1] J K Q :=
  zrun_ok (T := mct177) (o := 11) (ret := (some FieldType.int)) (hs := []) hL rfl 11 _ _ _ _ _ _ _ h
/-! PartingTrains.run -/
set_option maxRecDepth 30000 in
theorem z178 {L : Nat} {xs : Nat → Int32} (hL : L ≤ 3072) {D : Nat} {x1 x2 : Int} {J : zJ} {K : zK} {Q : zR → Nat → zJ → zK → Prop}
  (h : zin x2 ∧ zin 1 ∧ (x2 < (1 : Int) → 8 ≤ D + 1 ∧ Q (.inr 0) 1 J K) ∧ ((1 : Int) ≤ x2 → zin x2 ∧ zin 200 ∧ (x2 ≤ (200 : Int) → zCall L xs D 13 [zr 117, zi x1, zi x2] J K fun r1 e1 J1 K1 => zaI r1 e1 (fun x1_ => Q (.inl (some (zi x1_))) 0 J1 K1) (fun E => Q (.inr E) e1 J1 K1)) ∧ ((200 : Int) < x2 → 8 ≤ D + 1 ∧ Q (.inr 0) 1 J K))) :
  zCall L xs (D + 1) 178 [zr 0, zi x1, zi x2] J K Q :=
  zrun_ok (T := mct178) (o := 11) (ret := (some FieldType.int)) (hs := []) hL rfl 12 _ _ _ _ _ _ _ h
/-! PartingTrains.settle -/
set_option maxRecDepth 30000 in
theorem z179 {L : Nat} {xs : Nat → Int32} (hL : L ≤ 3072) {D : Nat} {J : zJ} {K : zK} {Q : zR → Nat → zJ → zK → Prop}
  (h : zGo L xs (D + 1) 179 12 [some (zr 0), some (zi 0), some (zi ((J 18 0 0) - 1)), none] [] J K Q) :
  zCall L xs (D + 1) 179 [zr 0] J K Q :=
  zrun_ok (T := mct179) (o := 11) (ret := (some FieldType.int)) (hs := [(12, [3])]) hL rfl 8 _ _ _ _ _ _ _ h
set_option maxRecDepth 30000 in
theorem z179_12 {L : Nat} {xs : Nat → Int32} (hL : L ≤ 3072) {D : Nat} {x1 x2 : Int} {J : zJ} {K : zK} {Q : zR → Nat → zJ → zK → Prop}
  (h : zin x2 ∧ (x2 < (0 : Int) → Q (.inl (some (zi x1))) 0 J K) ∧ ((0 : Int) ≤ x2 → zCall L xs D 62 [zr 18, zi x2] J K fun r1 e1 J1 K1 => zaI r1 e1 (fun x1_ => zin x1_ ∧ (x1_ = (0 : Int) → zGo L xs (D + 1) 179 12 [some (zr 0), some (zi x1), some (zi (x2 + (-1))), none] [] J1 K1 Q) ∧ (x1_ ≠ (0 : Int) → zCall L xs D 7 [zr 117, zi x2] J1 K1 fun r2 e2 J2 K2 => zaI r2 e2 (fun x2_ => 0 ≤ x2 ∧ x2 < 12 ∧ zin x2_ ∧ zin (J2 49 0 x2) ∧ (x2_ = (J2 49 0 x2) → zGo L xs (D + 1) 179 12 [some (zr 0), some (zi x1), some (zi (x2 + (-1))), none] [] J2 K2 Q) ∧ (x2_ ≠ (J2 49 0 x2) → 0 ≤ x2 ∧ x2 < 12 ∧ zGo L xs (D + 1) 179 12 [some (zr 0), some (zi (x1 + 1)), some (zi (x2 + (-1))), none] [] (zup J2 49 0 x2 x2_) K2 Q)) (fun E => Q (.inr E) e2 J2 K2))) (fun E => Q (.inr E) e1 J1 K1))) :
  zGo L xs (D + 1) 179 12 [some (zr 0), some (zi x1), some (zi x2), none] [] J K Q :=
  zrun_ok (T := mct179) (o := 11) (ret := (some FieldType.int)) (hs := [(12, [3])]) hL rfl 28 _ _ _ _ _ _ _ h
/-! PartingTrains.shut -/
set_option maxRecDepth 30000 in
theorem z180 {L : Nat} {xs : Nat → Int32} (hL : L ≤ 3072) {D : Nat} {x1 x2 : Int} {J : zJ} {K : zK} {Q : zR → Nat → zJ → zK → Prop}
  (h : zCall L xs D 164 [zr 0, zi x1] J K fun r1 e1 J1 K1 => zaV r1 e1 (zCall L xs D 81 [zr 40, zi x1] J1 K1 fun r2 e2 J2 K2 => zaI r2 e2 (fun x2_ => zin x2_ ∧ zin x2 ∧ (x2_ = x2 → (x2_ = 0 ∨ x2_ = 1) ∧ Q (.inl (some (zi x2_))) 0 J2 K2) ∧ (x2_ ≠ x2 → 0 ≤ x1 ∧ x1 < 32 ∧ zCall L xs D 35 [zr 105] (zup J2 40 0 10 (zxor (J2 40 0 10) (1 * 2 ^ (x1.toNat)))) K2 fun r3 e3 J3 K3 => zaV r3 e3 ((x2_ = 0 ∨ x2_ = 1) ∧ Q (.inl (some (zi x2_))) 0 J3 K3) (fun E => Q (.inr E) e3 J3 K3))) (fun E => Q (.inr E) e2 J2 K2)) (fun E => Q (.inr E) e1 J1 K1)) :
  zCall L xs (D + 1) 180 [zr 0, zi x1, zi x2] J K Q :=
  zrun_ok (T := mct180) (o := 11) (ret := (some FieldType.boolean)) (hs := []) hL rfl 25 _ _ _ _ _ _ _ h
/-! PartingTrains.sort -/
set_option maxRecDepth 30000 in
theorem z181 {L : Nat} {xs : Nat → Int32} (hL : L ≤ 3072) {D : Nat} {x1 : Int} {J : zJ} {K : zK} {Q : zR → Nat → zJ → zK → Prop}
  (h : zCall L xs D 169 [zr 0, zi x1] J K fun r1 e1 J1 K1 => zaV r1 e1 (0 ≤ x1 ∧ x1 < 4 ∧ 1 ≤ D + 1 ∧ 0 ≤ (x1 * 7) ∧ 0 ≤ (0 : Int) ∧ 0 ≤ (J1 42 0 x1) ∧ (x1 * 7) + (J1 42 0 x1) ≤ 28 ∧ (0 : Int) + (J1 42 0 x1) ≤ 7 ∧ zCall L xs D 82 [zr 40, zi x1] (zcp J1 43 141 (x1 * 7) 0 (J1 42 0 x1)) K1 fun r2 e2 J2 K2 => zaI r2 e2 (fun x2_ => zCall L xs D 67 [zr 89, zi x2_, zr 43, zi (x1 * 7)] J2 K2 fun r3 e3 J3 K3 => zaV r3 e3 (zGo L xs (D + 1) 181 63 [some (zr 0), none, some (zi (x1 * 7)), some (zi (J1 42 0 x1)), some (zi 0)] [] J3 K3 Q) (fun E => Q (.inr E) e3 J3 K3)) (fun E => Q (.inr E) e2 J2 K2)) (fun E => Q (.inr E) e1 J1 K1)) :
  zCall L xs (D + 1) 181 [zr 0, zi x1] J K Q :=
  zrun_ok (T := mct181) (o := 11) (ret := (some FieldType.int)) (hs := [(63, [1])]) hL rfl 35 _ _ _ _ _ _ _ h
set_option maxRecDepth 30000 in
theorem z181_63 {L : Nat} {xs : Nat → Int32} (hL : L ≤ 3072) {D : Nat} {x2 x3 x4 : Int} {J : zJ} {K : zK} {Q : zR → Nat → zJ → zK → Prop}
  (h : zin x4 ∧ zin x3 ∧ (x3 ≤ x4 → Q (.inl (some (zi 0))) 0 J K) ∧ (x4 < x3 → 0 ≤ (x2 + x4) ∧ (x2 + x4) < 28 ∧ 0 ≤ x4 ∧ x4 < 7 ∧ zin (J 43 0 (x2 + x4)) ∧ zin (J 141 0 x4) ∧ ((J 43 0 (x2 + x4)) = (J 141 0 x4) → zGo L xs (D + 1) 181 63 [some (zr 0), none, some (zi x2), some (zi x3), some (zi (x4 + 1))] [] J K Q) ∧ ((J 43 0 (x2 + x4)) ≠ (J 141 0 x4) → Q (.inl (some (zi 1))) 0 J K))) :
  zGo L xs (D + 1) 181 63 [some (zr 0), none, some (zi x2), some (zi x3), some (zi x4)] [] J K Q :=
  zrun_ok (T := mct181) (o := 11) (ret := (some FieldType.int)) (hs := [(63, [1])]) hL rfl 17 _ _ _ _ _ _ _ h
/-! PartingTrains.spoil -/
set_option maxRecDepth 30000 in
theorem z182 {L : Nat} {xs : Nat → Int32} (hL : L ≤ 3072) {D : Nat} {x1 x2 x3 : Int} {J : zJ} {K : zK} {Q : zR → Nat → zJ → zK → Prop}
  (h : zCall L xs D 167 [zr 0, zi x1] J K fun r1 e1 J1 K1 => zaV r1 e1 (zin x2 ∧ (x2 < (0 : Int) → 8 ≤ D + 1 ∧ Q (.inr 0) 1 J1 K1) ∧ ((0 : Int) ≤ x2 → zin x2 ∧ zin 240 ∧ (x2 ≤ (240 : Int) → zin x3 ∧ (x3 = (0 : Int) → zin x3 ∧ zin 1 ∧ (x3 ≠ (1 : Int) → zCall L xs D 25 [zr 117, zi x1, zi x2, zi 0] J1 K1 fun r2 e2 J2 K2 => zaI r2 e2 (fun x2_ => Q (.inl (some (zi x2_))) 0 J2 K2) (fun E => Q (.inr E) e2 J2 K2)) ∧ (x3 = (1 : Int) → zCall L xs D 25 [zr 117, zi x1, zi x2, zi 1] J1 K1 fun r3 e3 J3 K3 => zaI r3 e3 (fun x3_ => Q (.inl (some (zi x3_))) 0 J3 K3) (fun E => Q (.inr E) e3 J3 K3))) ∧ (x3 ≠ (0 : Int) → zin x3 ∧ zin 1 ∧ (x3 = (1 : Int) → zin x3 ∧ zin 1 ∧ (x3 ≠ (1 : Int) → zCall L xs D 25 [zr 117, zi x1, zi x2, zi 0] J1 K1 fun r4 e4 J4 K4 => zaI r4 e4 (fun x4_ => Q (.inl (some (zi x4_))) 0 J4 K4) (fun E => Q (.inr E) e4 J4 K4)) ∧ (x3 = (1 : Int) → zCall L xs D 25 [zr 117, zi x1, zi x2, zi 1] J1 K1 fun r5 e5 J5 K5 => zaI r5 e5 (fun x5_ => Q (.inl (some (zi x5_))) 0 J5 K5) (fun E => Q (.inr E) e5 J5 K5))) ∧ (x3 ≠ (1 : Int) → 8 ≤ D + 1 ∧ Q (.inr 0) 1 J1 K1))) ∧ ((240 : Int) < x2 → 8 ≤ D + 1 ∧ Q (.inr 0) 1 J1 K1))) (fun E => Q (.inr E) e1 J1 K1)) :
  zCall L xs (D + 1) 182 [zr 0, zi x1, zi x2, zi x3] J K Q :=
  zrun_ok (T := mct182) (o := 11) (ret := (some FieldType.int)) (hs := []) hL rfl 24 _ _ _ _ _ _ _ h
/-! PartingTrains.tapeNumber -/
set_option maxRecDepth 30000 in
theorem z183 {L : Nat} {xs : Nat → Int32} (hL : L ≤ 3072) {D : Nat} {x1 : Int} {J : zJ} {K : zK} {Q : zR → Nat → zJ → zK → Prop}
  (h : zGo L xs (D + 1) 183 3 [some (zr 0), some (zi x1), some (zi 24)] [] J K Q) :
  zCall L xs (D + 1) 183 [zr 0, zi x1] J K Q :=
  zrun_ok (T := mct183) (o := 11) (ret := none) (hs := [(3, [])]) hL rfl 2 _ _ _ _ _ _ _ h
set_option maxRecDepth 30000 in
theorem z183_3 {L : Nat} {xs : Nat → Int32} (hL : L ≤ 3072) {D : Nat} {x1 x2 : Int} {J : zJ} {K : zK} {Q : zR → Nat → zJ → zK → Prop}
  (h : zin x2 ∧ (x2 < (0 : Int) → Q (.inl none) 0 J K) ∧ ((0 : Int) ≤ x2 → 0 ≤ x2 ∧ x2 < 32 ∧ 0 ≤ (J 0 0 1) ∧ (J 0 0 1) < 500 ∧ zGo L xs (D + 1) 183 3 [some (zr 0), some (zi x1), some (zi (x2 + (-8)))] [] (zup (zup J 1 0 (J 0 0 1) (zbyte (zi2b (x1 % 4294967296 / 2 ^ (x2.toNat))))) 0 0 1 ((J 0 0 1) + 1)) K Q)) :
  zGo L xs (D + 1) 183 3 [some (zr 0), some (zi x1), some (zi x2)] [] J K Q :=
  zrun_ok (T := mct183) (o := 11) (ret := none) (hs := [(3, [])]) hL rfl 19 _ _ _ _ _ _ _ h
/-! PartingTrains.told -/
set_option maxRecDepth 30000 in
theorem z184 {L : Nat} {xs : Nat → Int32} (hL : L ≤ 3072) {D : Nat} {x1 : Int} {J : zJ} {K : zK} {Q : zR → Nat → zJ → zK → Prop}
  (h : zin x1 ∧ (x1 < 0 ∨ 5 < x1 → 8 ≤ D + 1 ∧ Q (.inr 0) 1 J K) ∧ (0 : Int) + (6 : Nat) = 5 + 1 ∧ (x1 = 0 → Q (.inl (some (zi (J 18 0 0)))) 0 J K) ∧ (x1 = 1 → Q (.inl (some (zi (J 18 0 6)))) 0 J K) ∧ (x1 = 2 → Q (.inl (some (zi (J 18 0 11)))) 0 J K) ∧ (x1 = 3 → Q (.inl (some (zi (J 18 0 14)))) 0 J K) ∧ (x1 = 4 → zCall L xs D 58 [zr 18] J K fun r1 e1 J1 K1 => zaI r1 e1 (fun x1_ => zCall L xs D 317 [zi x1_] J1 K1 fun r2 e2 J2 K2 => zaI r2 e2 (fun x2_ => Q (.inl (some (zi x2_))) 0 J2 K2) (fun E => Q (.inr E) e2 J2 K2)) (fun E => Q (.inr E) e1 J1 K1)) ∧ (x1 = 5 → zCall L xs D 55 [zr 18] J K fun r3 e3 J3 K3 => zaI r3 e3 (fun x3_ => 0 ≤ x3_ ∧ x3_ < 128 ∧ Q (.inl (some (zi (J3 39 0 x3_)))) 0 J3 K3) (fun E => Q (.inr E) e3 J3 K3)) ∧ True) :
  zCall L xs (D + 1) 184 [zr 0, zi x1] J K Q :=
  zrun_ok (T := mct184) (o := 11) (ret := (some FieldType.int)) (hs := []) hL rfl 10 _ _ _ _ _ _ _ h
/-! PartingTrains.train -/
set_option maxRecDepth 30000 in
theorem z185 {L : Nat} {xs : Nat → Int32} (hL : L ≤ 3072) {D : Nat} {x1 : Int} {J : zJ} {K : zK} {Q : zR → Nat → zJ → zK → Prop}
  (h : zin x1 ∧ (x1 < (0 : Int) → 8 ≤ D + 1 ∧ Q (.inr 0) 1 J K) ∧ ((0 : Int) ≤ x1 → zin x1 ∧ zin 1439 ∧ (x1 ≤ (1439 : Int) → zin (J 18 0 0) ∧ ((J 18 0 0) ≠ (0 : Int) → zin (J 40 0 0) ∧ zin 4 ∧ ((J 40 0 0) ≠ (4 : Int) → zCall L xs D 35 [zr 105] J K fun r1 e1 J1 K1 => zaV r1 e1 (zCall L xs D 76 [zr 40, zi x1] J1 K1 fun r2 e2 J2 K2 => zaI r2 e2 (fun x2_ => Q (.inl (some (zi x2_))) 0 J2 K2) (fun E => Q (.inr E) e2 J2 K2)) (fun E => Q (.inr E) e1 J1 K1)) ∧ ((J 40 0 0) = (4 : Int) → Q (.inl (some (zi (-1)))) 0 J K)) ∧ ((J 18 0 0) = (0 : Int) → 8 ≤ D + 1 ∧ Q (.inr 2) 1 J K)) ∧ ((1439 : Int) < x1 → 8 ≤ D + 1 ∧ Q (.inr 0) 1 J K))) :
  zCall L xs (D + 1) 185 [zr 0, zi x1] J K Q :=
  zrun_ok (T := mct185) (o := 11) (ret := (some FieldType.int)) (hs := []) hL rfl 22 _ _ _ _ _ _ _ h
/-! PartingTrains.way -/
set_option maxRecDepth 30000 in
theorem z186 {L : Nat} {xs : Nat → Int32} (hL : L ≤ 3072) {D : Nat} {x1 x2 : Int} {J : zJ} {K : zK} {Q : zR → Nat → zJ → zK → Prop}
  (h : zCall L xs D 166 [zr 0, zi x1] J K fun r1 e1 J1 K1 => zaV r1 e1 (zCall L xs D 166 [zr 0, zi x2] J1 K1 fun r2 e2 J2 K2 => zaV r2 e2 (zCall L xs D 121 [zr 33, zi x1, zi x2] J2 K2 fun r3 e3 J3 K3 => zaI r3 e3 (fun x3_ => Q (.inl (some (zi x3_))) 0 J3 K3) (fun E => Q (.inr E) e3 J3 K3)) (fun E => Q (.inr E) e2 J2 K2)) (fun E => Q (.inr E) e1 J1 K1)) :
  zCall L xs (D + 1) 186 [zr 0, zi x1, zi x2] J K Q :=
  zrun_ok (T := mct186) (o := 11) (ret := (some FieldType.int)) (hs := []) hL rfl 12 _ _ _ _ _ _ _ h
/-! PartingTrains.why -/
set_option maxRecDepth 30000 in
theorem z187 {L : Nat} {xs : Nat → Int32} (hL : L ≤ 3072) {D : Nat} {x1 x2 : Int} {J : zJ} {K : zK} {Q : zR → Nat → zJ → zK → Prop}
  (h : zCall L xs D 169 [zr 0, zi x1] J K fun r1 e1 J1 K1 => zaV r1 e1 (zCall L xs D 166 [zr 0, zi x2] J1 K1 fun r2 e2 J2 K2 => zaV r2 e2 (0 ≤ x1 ∧ x1 < 4 ∧ zCall L xs D 129 [zr 92, zr 43, zi (x1 * 7), zi (J2 42 0 x1), zi 0] J2 K2 fun r3 e3 J3 K3 => zaV r3 e3 (zCall L xs D 132 [zr 92, zi x2] J3 K3 fun r4 e4 J4 K4 => zaI r4 e4 (fun x4_ => zCall L xs D 63 [zr 18, zi x4_] J4 K4 fun r5 e5 J5 K5 => zaI r5 e5 (fun x5_ => Q (.inl (some (zi x5_))) 0 J5 K5) (fun E => Q (.inr E) e5 J5 K5)) (fun E => Q (.inr E) e4 J4 K4)) (fun E => Q (.inr E) e3 J3 K3)) (fun E => Q (.inr E) e2 J2 K2)) (fun E => Q (.inr E) e1 J1 K1)) :
  zCall L xs (D + 1) 187 [zr 0, zi x1, zi x2] J K Q :=
  zrun_ok (T := mct187) (o := 11) (ret := (some FieldType.int)) (hs := []) hL rfl 29 _ _ _ _ _ _ _ h
/-! PartingTrains.worth -/
set_option maxRecDepth 30000 in
theorem z188 {L : Nat} {xs : Nat → Int32} (hL : L ≤ 3072) {D : Nat} {x1 : Int} {J : zJ} {K : zK} {Q : zR → Nat → zJ → zK → Prop}
  (h : zin x1 ∧ zin (-1) ∧ (x1 < (-1 : Int) → 8 ≤ D + 1 ∧ Q (.inr 0) 1 J K) ∧ ((-1 : Int) ≤ x1 → zin x1 ∧ zin (J 18 0 14) ∧ (x1 < (J 18 0 14) → zCall L xs D 46 [zr 101] J K fun r1 e1 J1 K1 => zaV r1 e1 (zin x1 ∧ zin (-1) ∧ (x1 ≠ (-1 : Int) → zCall L xs D 52 [zr 101, zi x1] J1 K1 fun r2 e2 J2 K2 => zaI r2 e2 (fun x2_ => Q (.inl (some (zi x2_))) 0 J2 K2) (fun E => Q (.inr E) e2 J2 K2)) ∧ (x1 = (-1 : Int) → zCall L xs D 53 [zr 101] J1 K1 fun r3 e3 J3 K3 => zaI r3 e3 (fun x3_ => Q (.inl (some (zi x3_))) 0 J3 K3) (fun E => Q (.inr E) e3 J3 K3))) (fun E => Q (.inr E) e1 J1 K1)) ∧ ((J 18 0 14) ≤ x1 → 8 ≤ D + 1 ∧ Q (.inr 0) 1 J K))) :
  zCall L xs (D + 1) 188 [zr 0, zi x1] J K Q :=
  zrun_ok (T := mct188) (o := 11) (ret := (some FieldType.int)) (hs := []) hL rfl 19 _ _ _ _ _ _ _ h
/-! PartingTrains.wrong -/
set_option maxRecDepth 30000 in
theorem z189 {L : Nat} {xs : Nat → Int32} (hL : L ≤ 3072) {D : Nat} {x1 x2 : Int} {J : zJ} {K : zK} {Q : zR → Nat → zJ → zK → Prop}
  (h : zCall L xs D 169 [zr 0, zi x1] J K fun r1 e1 J1 K1 => zaV r1 e1 (zin x2 ∧ (x2 < (0 : Int) → 8 ≤ D + 1 ∧ Q (.inr 0) 1 J1 K1) ∧ ((0 : Int) ≤ x2 → zin x2 ∧ zin 100 ∧ (x2 ≤ (100 : Int) → zCall L xs D 82 [zr 40, zi x1] J1 K1 fun r2 e2 J2 K2 => zaI r2 e2 (fun x2_ => 0 ≤ x2_ ∧ x2_ < 128 ∧ zin (J2 39 0 x2_) ∧ ((J2 39 0 x2_) ≠ (0 : Int) → zGo L xs (D + 1) 189 59 [some (zr 0), none, some (zi x2), some (zi x2_), some (zi (J2 39 0 x2_)), some (zl 0), none, some (zi 0)] [] J2 K2 Q) ∧ ((J2 39 0 x2_) = (0 : Int) → Q (.inl (some (zi 0))) 0 J2 K2)) (fun E => Q (.inr E) e2 J2 K2)) ∧ ((100 : Int) < x2 → 8 ≤ D + 1 ∧ Q (.inr 0) 1 J1 K1))) (fun E => Q (.inr E) e1 J1 K1)) :
  zCall L xs (D + 1) 189 [zr 0, zi x1, zi x2] J K Q :=
  zrun_ok (T := mct189) (o := 11) (ret := (some FieldType.int)) (hs := [(59, [1, 6])]) hL rfl 25 _ _ _ _ _ _ _ h
set_option maxRecDepth 30000 in
theorem z189_59 {L : Nat} {xs : Nat → Int32} (hL : L ≤ 3072) {D : Nat} {x2 x3 x4 x5 x7 : Int} {J : zJ} {K : zK} {Q : zR → Nat → zJ → zK → Prop}
  (h : zin x7 ∧ zin (J 18 0 6) ∧ ((J 18 0 6) ≤ x7 → zin x4 ∧ 0 ≤ x5 ∧ x5 < 9223372036854775808 ∧ 0 < (100 * x4) ∧ (100 * x4) < 9223372036854775808 ∧ Q (.inl (some (zi (x5 / (100 * x4))))) 0 J K) ∧ (x7 < (J 18 0 6) → zin x3 ∧ 0 ≤ x7 ∧ x7 < 32 ∧ zin (zand (x3 / 2 ^ (x7.toNat)) 1) ∧ ((zand (x3 / 2 ^ (x7.toNat)) 1) = (0 : Int) → zGo L xs (D + 1) 189 59 [some (zr 0), none, some (zi x2), some (zi x3), some (zi x4), some (zl x5), none, some (zi (x7 + 1))] [] J K Q) ∧ ((zand (x3 / 2 ^ (x7.toNat)) 1) ≠ (0 : Int) → 0 ≤ x7 ∧ x7 < 7 ∧ 0 ≤ (J 24 0 x7) ∧ (J 24 0 x7) < 32 ∧ zCall L xs D 63 [zr 18, zi (1 * 2 ^ ((J 24 0 x7).toNat))] J K fun r1 e1 J1 K1 => zaI r1 e1 (fun x1_ => zin x1_ ∧ zin (100 - x2) ∧ zCall L xs D 143 [zr 0, zi x3, zi x7] J1 K1 fun r2 e2 J2 K2 => zaI r2 e2 (fun x2_ => zin x2_ ∧ zGo L xs (D + 1) 189 59 [some (zr 0), none, some (zi x2), some (zi x3), some (zi x4), some (zl (x5 + ((x1_ * (100 - x2)) * x2_))), none, some (zi (x7 + 1))] [] J2 K2 Q) (fun E => Q (.inr E) e2 J2 K2)) (fun E => Q (.inr E) e1 J1 K1)))) :
  zGo L xs (D + 1) 189 59 [some (zr 0), none, some (zi x2), some (zi x3), some (zi x4), some (zl x5), none, some (zi x7)] [] J K Q :=
  zrun_ok (T := mct189) (o := 11) (ret := (some FieldType.int)) (hs := [(59, [1, 6])]) hL rfl 38 _ _ _ _ _ _ _ h
