/-! THE LAW'S LOOP over any invariant I that every operation keeps -/
def OpD (I : zJ → zK → Prop) (kc km : Nat) (as : List zV) : Prop := ∀ (L : Nat) (xs : Nat → Int32) (D : Nat) (J : zJ) (K : zK), L ≤ 3072 → 800 ≤ D → I J K → zCall L xs D kc (zr 0 :: as) J K fun r e J1 K1 => ∃ v, r = .inl (some (zi v)) ∧ e = 0 ∧ zin v ∧ zCall L xs D km (zr 142 :: as) J1 K1 fun r2 e2 J2 K2 => r2 = .inl (some (zi v)) ∧ e2 = 0 ∧ I J2 K2
def OpL (I : zJ → zK → Prop) (kc km : Nat) : Prop := ∀ (L : Nat) (xs : Nat → Int32) (D : Nat) (J : zJ) (K : zK), L ≤ 3072 → 800 ≤ D → I J K → zCall L xs D kc [zr 0] J K fun r e J1 K1 => ∃ v, r = .inl (some (zl v)) ∧ e = 0 ∧ zCall L xs D km [zr 142] J1 K1 fun r2 e2 J2 K2 => r2 = .inl (some (zl v)) ∧ e2 = 0 ∧ I J2 K2
def OpW (I : zJ → zK → Prop) (kw pcw kc km : Nat) (P : Int → Prop) (as : List zV) : Prop := ∀ (L : Nat) (xs : Nat → Int32) (D D' : Nat) (J : zJ) (K : zK), L ≤ 3072 → 800 ≤ D → 800 ≤ D' → I J K → zCall L xs D kc (zr 0 :: as) J K fun r e J1 K1 =>
  (∃ v, r = .inl (some (zi v)) ∧ e = 0 ∧ P v ∧ ∀ x, zCall L xs D' km (zr 142 :: as) J1 (zku K1 561 0 x) fun r2 e2 J2 K2 => r2 = .inl (some (zi v)) ∧ e2 = 0 ∧ J2 142 0 0 = 0 ∧ K2 561 0 = x ∧ I J2 K2) ∨
  (∃ (E : Nat) (c : Int), r = .inr E ∧ e = 1 ∧ zon kw pcw E = some (.inl (some (zi c))) ∧ 1 ≤ c ∧ c ≤ 2 ∧ zCall L xs D' km (zr 142 :: as) J1 K1 fun r2 e2 J2 K2 => (∃ v2, r2 = .inl (some (zi v2)) ∧ zin v2) ∧ e2 = 0 ∧ J2 142 0 0 = c ∧ I J2 K2)
theorem zaE_of {k pc E : Nat} {v : zR} {f : zR → Prop} (h : zon k pc E = some v) (hf : f v) : zaE 1 k pc E f := by
  unfold zaE
  rw [h]
  exact hf
theorem zaIE {k pc E e : Nat} {c : Int} {B : Int → Prop} {f : zR → Prop} (h : zon k pc E = some (.inl (some (zi c)))) (hf : f (.inl (some (zi c)))) : zaI (.inr E) e B (fun E => zaE 1 k pc E f) := by
  unfold zaI
  simp only
  unfold zaE
  rw [h]
  exact hf
theorem zcmp_self (x : Int) : zcmp x x = 0 := by
  unfold zcmp lg_cmp
  simp
theorem zin_xs (x : Int32) : zin x.toInt := ⟨by have := Int32.le_toInt x; omega, by have := Int32.toInt_lt x; omega⟩
theorem zin_0 : zin 0 := ⟨by decide, by decide⟩
theorem zin_1 : zin 1 := ⟨by decide, by decide⟩
section LT
variable {L : Nat} {xs : Nat → Int32} {D : Nat} {x1 x2 : Int} {ls : zLs} {J : zJ} {K : zK} {Q : zR → Nat → zJ → zK → Prop} {C : Nat → zJ → zK → Nat → Prop}
/-- behind the model's answer -/
theorem lt_int (hL : L ≤ 3072) (hD : 1 ≤ D) (h1 : zin x1) (h2 : zin x2) (h3 : J 142 0 0 = x1) (h4 : x1 = 0 → K 561 0 = x2) (hg : zGo L xs (D + 1) 353 2542 ls [] J K Q) :
  zCall L xs D 298 [zr 142] J K fun r3 e3 J3 K3 => zaI r3 e3 (fun x3_ => zin x3_ ∧ zin x1 ∧ (x3_ = x1 → zin x1 ∧ (x1 ≠ (0 : Int) → zGo L xs (D + 1) 353 2542 ls [] J3 K3 Q) ∧ (x1 = (0 : Int) → 0 ≤ (0 : Int) ∧ (0 : Int) < 1 ∧ zin x2 ∧ zin (zcmp (K3 561 0) x2) ∧ ((zcmp (K3 561 0) x2) = (0 : Int) → zGo L xs (D + 1) 353 2542 ls [] J3 K3 Q) ∧ ((zcmp (K3 561 0) x2) ≠ (0 : Int) → ((0 : Int) = 0 ∨ (0 : Int) = 1) ∧ Q (.inl (some (zi 0))) 0 J3 K3))) ∧ (x3_ ≠ x1 → ((0 : Int) = 0 ∨ (0 : Int) = 1) ∧ Q (.inl (some (zi 0))) 0 J3 K3)) (fun E => C e3 J3 K3 E) := by
  obtain ⟨D, rfl⟩ : ∃ d, D = d + 1 := ⟨D - 1, by omega⟩
  refine z298 hL (zaI_of ?_)
  rw [h3]
  refine ⟨h1, h1, fun _ => ⟨h1, fun _ => hg, fun e => ?_⟩, fun n => absurd rfl n⟩
  rw [h4 e, zcmp_self]
  exact ⟨by decide, by decide, h2, zin_0, fun _ => hg, fun n => absurd rfl n⟩
theorem lt_bool (hL : L ≤ 3072) (hD : 1 ≤ D) (h1 : zin x1) (h2 : zin x2) (h3 : J 142 0 0 = x1) (h4 : x1 = 0 → K 561 0 = x2 ∧ (x2 = 0 ∨ x2 = 1)) (hg : zGo L xs (D + 1) 353 2542 ls [] J K Q) :
  zCall L xs D 298 [zr 142] J K fun r3 e3 J3 K3 => zaI r3 e3 (fun x3_ => zin x3_ ∧ zin x1 ∧ (x3_ = x1 → zin x1 ∧ (x1 ≠ (0 : Int) → zGo L xs (D + 1) 353 2542 ls [] J3 K3 Q) ∧ (x1 = (0 : Int) → 0 ≤ (0 : Int) ∧ (0 : Int) < 1 ∧ zin x2 ∧ (x2 = (0 : Int) → zin (zcmp (K3 561 0) 0) ∧ ((zcmp (K3 561 0) 0) = (0 : Int) → zGo L xs (D + 1) 353 2542 ls [] J3 K3 Q) ∧ ((zcmp (K3 561 0) 0) ≠ (0 : Int) → ((0 : Int) = 0 ∨ (0 : Int) = 1) ∧ Q (.inl (some (zi 0))) 0 J3 K3)) ∧ (x2 ≠ (0 : Int) → zin (zcmp (K3 561 0) 1) ∧ ((zcmp (K3 561 0) 1) = (0 : Int) → zGo L xs (D + 1) 353 2542 ls [] J3 K3 Q) ∧ ((zcmp (K3 561 0) 1) ≠ (0 : Int) → ((0 : Int) = 0 ∨ (0 : Int) = 1) ∧ Q (.inl (some (zi 0))) 0 J3 K3)))) ∧ (x3_ ≠ x1 → ((0 : Int) = 0 ∨ (0 : Int) = 1) ∧ Q (.inl (some (zi 0))) 0 J3 K3)) (fun E => C e3 J3 K3 E) := by
  obtain ⟨D, rfl⟩ : ∃ d, D = d + 1 := ⟨D - 1, by omega⟩
  refine z298 hL (zaI_of ?_)
  rw [h3]
  refine ⟨h1, h1, fun _ => ⟨h1, fun _ => hg, fun e => ?_⟩, fun n => absurd rfl n⟩
  obtain ⟨h5, h6⟩ := h4 e
  rw [h5]
  refine ⟨by decide, by decide, h2, fun q => ?_, fun q => ?_⟩
  · rw [q, zcmp_self]
    exact ⟨zin_0, fun _ => hg, fun n => absurd rfl n⟩
  · have q2 : x2 = 1 := by omega
    rw [q2, zcmp_self]
    exact ⟨zin_0, fun _ => hg, fun n => absurd rfl n⟩
end LT
set_option maxRecDepth 20000 in
theorem law_0 {I : zJ → zK → Prop} (h0 : ∀ a b c d e : Int, zin a → zin b → zin c → zin d → zin e → OpD I 153 221 [zi a, zi b, zi c, zi d, zi e]) {L : Nat} {xs : Nat → Int32} (hL : L ≤ 3072) {D : Nat} (hD : 800 ≤ D) {x4 : Int} (g0 : 0 ≤ x4) (g1 : x4 ≤ (L : Int) - 6) {J : zJ} {K : zK} {Q : zR → Nat → zJ → zK → Prop} (hI : I J K) (hnx : ∀ J K, I J K → ∀ m, m ≤ 1 → zGo L xs (D + 1 + 1) 353 2542 [some (zr 1000000), some (zr 0), some (zr 142), some (zr 561), some (zi x4), none, none] [] J K (fun q e => Q q (e + m))) : zGo L xs (D + 1 + 1) 353 232 [some (zr 1000000), some (zr 0), some (zr 142), some (zr 561), some (zi x4), none, none] [] J K Q := by
  refine z353_232 hL ?_
  refine ⟨by omega, by omega, by omega, by omega, by omega, by omega, by omega, by omega, by omega, by omega, ?_⟩
  refine zCall_mono (h0 ((xs (x4 + 1).toNat).toInt) ((xs (x4 + 2).toNat).toInt) ((xs (x4 + 3).toNat).toInt) ((xs (x4 + 4).toNat).toInt) ((xs (x4 + 5).toNat).toInt) (zin_xs _) (zin_xs _) (zin_xs _) (zin_xs _) (zin_xs _) L xs (D + 1) J K hL (by omega) hI) ?_
  rintro r e J1 K1 ⟨v, rfl, rfl, hv, h2⟩
  refine zaI_of ?_
  refine ⟨by omega, by omega, by omega, by omega, by omega, by omega, by omega, by omega, by omega, by omega, ?_⟩
  refine zCall_mono h2 ?_
  rintro r2 e2 J2 K2 ⟨rfl, rfl, hI2⟩
  exact zaI_of ⟨hv, hv, fun _ => hnx J2 K2 hI2 0 (by omega), fun n => absurd rfl n⟩
set_option maxRecDepth 20000 in
theorem law_1 {I : zJ → zK → Prop} (h1 : ∀ a : Int, zin a → OpW I 336 4 161 258 zin [zi a]) {L : Nat} {xs : Nat → Int32} (hL : L ≤ 3072) {D : Nat} (hD : 800 ≤ D) {x4 : Int} (g0 : 0 ≤ x4) (g1 : x4 ≤ (L : Int) - 6) {J : zJ} {K : zK} {Q : zR → Nat → zJ → zK → Prop} (hI : I J K) (hnx : ∀ J K, I J K → ∀ m, m ≤ 1 → zGo L xs (D + 1 + 1) 353 2542 [some (zr 1000000), some (zr 0), some (zr 142), some (zr 561), some (zi x4), none, none] [] J K (fun q e => Q q (e + m))) : zGo L xs (D + 1 + 1) 353 305 [some (zr 1000000), some (zr 0), some (zr 142), some (zr 561), some (zi x4), none, none] [] J K Q := by
  refine z353_305 hL ?_
  refine ⟨by omega, by omega, ?_⟩
  refine z336 hL ?_
  refine zCall_mono (h1 ((xs (x4 + 1).toNat).toInt) (zin_xs _) L xs D (D + 1) J K hL (by omega) (by omega) hI) ?_
  rintro r e J1 K1 (⟨v, rfl, rfl, hv, h2⟩ | ⟨E, cc, rfl, rfl, hz, hc0, hc1, h2⟩)
  · refine zaI_of ⟨hv, by decide, by decide, zaW_of ?_⟩
    refine ⟨by omega, by omega, ?_⟩
    refine zCall_mono (h2 v) ?_
    rintro r2 e2 J2 K2 ⟨rfl, rfl, ht, hk, hI2⟩
    exact zaI_of (lt_int hL (by omega) zin_0 hv ht (fun _ => hk) (hnx J2 K2 hI2 0 (by omega)))
  · refine zaIE hz ?_
    refine zaW_of ?_
    refine ⟨by omega, by omega, ?_⟩
    refine zCall_mono h2 ?_
    rintro r2 e2 J2 K2 ⟨⟨v2, rfl, hv2⟩, rfl, ht, hI2⟩
    exact zaI_of (lt_int hL (by omega) ⟨by omega, by omega⟩ hv2 ht (fun q => absurd q (by omega)) (hnx J2 K2 hI2 1 (by omega)))
set_option maxRecDepth 20000 in
theorem law_2 {I : zJ → zK → Prop} (h2 : OpD I 152 220 []) {L : Nat} {xs : Nat → Int32} (hL : L ≤ 3072) {D : Nat} (hD : 800 ≤ D) {x4 : Int} (g0 : 0 ≤ x4) (g1 : x4 ≤ (L : Int) - 6) {J : zJ} {K : zK} {Q : zR → Nat → zJ → zK → Prop} (hI : I J K) (hnx : ∀ J K, I J K → ∀ m, m ≤ 1 → zGo L xs (D + 1 + 1) 353 2542 [some (zr 1000000), some (zr 0), some (zr 142), some (zr 561), some (zi x4), none, none] [] J K (fun q e => Q q (e + m))) : zGo L xs (D + 1 + 1) 353 361 [some (zr 1000000), some (zr 0), some (zr 142), some (zr 561), some (zi x4), none, none] [] J K Q := by
  refine z353_361 hL ?_
  refine zCall_mono (h2   L xs (D + 1) J K hL (by omega) hI) ?_
  rintro r e J1 K1 ⟨v, rfl, rfl, hv, h2⟩
  refine zaI_of ?_
  refine zCall_mono h2 ?_
  rintro r2 e2 J2 K2 ⟨rfl, rfl, hI2⟩
  exact zaI_of ⟨hv, hv, fun _ => hnx J2 K2 hI2 0 (by omega), fun n => absurd rfl n⟩
set_option maxRecDepth 20000 in
theorem law_3 {I : zJ → zK → Prop} (h3 : ∀ a : Int, zin a → OpW I 347 4 184 299 zin [zi a]) {L : Nat} {xs : Nat → Int32} (hL : L ≤ 3072) {D : Nat} (hD : 800 ≤ D) {x4 : Int} (g0 : 0 ≤ x4) (g1 : x4 ≤ (L : Int) - 6) {J : zJ} {K : zK} {Q : zR → Nat → zJ → zK → Prop} (hI : I J K) (hnx : ∀ J K, I J K → ∀ m, m ≤ 1 → zGo L xs (D + 1 + 1) 353 2542 [some (zr 1000000), some (zr 0), some (zr 142), some (zr 561), some (zi x4), none, none] [] J K (fun q e => Q q (e + m))) : zGo L xs (D + 1 + 1) 353 374 [some (zr 1000000), some (zr 0), some (zr 142), some (zr 561), some (zi x4), none, none] [] J K Q := by
  refine z353_374 hL ?_
  refine ⟨by omega, by omega, ?_⟩
  refine z347 hL ?_
  refine zCall_mono (h3 ((xs (x4 + 1).toNat).toInt) (zin_xs _) L xs D (D + 1) J K hL (by omega) (by omega) hI) ?_
  rintro r e J1 K1 (⟨v, rfl, rfl, hv, h2⟩ | ⟨E, cc, rfl, rfl, hz, hc0, hc1, h2⟩)
  · refine zaI_of ⟨hv, by decide, by decide, zaW_of ?_⟩
    refine ⟨by omega, by omega, ?_⟩
    refine zCall_mono (h2 v) ?_
    rintro r2 e2 J2 K2 ⟨rfl, rfl, ht, hk, hI2⟩
    exact zaI_of (lt_int hL (by omega) zin_0 hv ht (fun _ => hk) (hnx J2 K2 hI2 0 (by omega)))
  · refine zaIE hz ?_
    refine zaW_of ?_
    refine ⟨by omega, by omega, ?_⟩
    refine zCall_mono h2 ?_
    rintro r2 e2 J2 K2 ⟨⟨v2, rfl, hv2⟩, rfl, ht, hI2⟩
    exact zaI_of (lt_int hL (by omega) ⟨by omega, by omega⟩ hv2 ht (fun q => absurd q (by omega)) (hnx J2 K2 hI2 1 (by omega)))
set_option maxRecDepth 20000 in
theorem law_4 {I : zJ → zK → Prop} (h4 : ∀ a b : Int, zin a → zin b → OpW I 349 5 186 303 zin [zi a, zi b]) {L : Nat} {xs : Nat → Int32} (hL : L ≤ 3072) {D : Nat} (hD : 800 ≤ D) {x4 : Int} (g0 : 0 ≤ x4) (g1 : x4 ≤ (L : Int) - 6) {J : zJ} {K : zK} {Q : zR → Nat → zJ → zK → Prop} (hI : I J K) (hnx : ∀ J K, I J K → ∀ m, m ≤ 1 → zGo L xs (D + 1 + 1) 353 2542 [some (zr 1000000), some (zr 0), some (zr 142), some (zr 561), some (zi x4), none, none] [] J K (fun q e => Q q (e + m))) : zGo L xs (D + 1 + 1) 353 430 [some (zr 1000000), some (zr 0), some (zr 142), some (zr 561), some (zi x4), none, none] [] J K Q := by
  refine z353_430 hL ?_
  refine ⟨by omega, by omega, by omega, by omega, ?_⟩
  refine z349 hL ?_
  refine zCall_mono (h4 ((xs (x4 + 1).toNat).toInt) ((xs (x4 + 2).toNat).toInt) (zin_xs _) (zin_xs _) L xs D (D + 1) J K hL (by omega) (by omega) hI) ?_
  rintro r e J1 K1 (⟨v, rfl, rfl, hv, h2⟩ | ⟨E, cc, rfl, rfl, hz, hc0, hc1, h2⟩)
  · refine zaI_of ⟨hv, by decide, by decide, zaW_of ?_⟩
    refine ⟨by omega, by omega, by omega, by omega, ?_⟩
    refine zCall_mono (h2 v) ?_
    rintro r2 e2 J2 K2 ⟨rfl, rfl, ht, hk, hI2⟩
    exact zaI_of (lt_int hL (by omega) zin_0 hv ht (fun _ => hk) (hnx J2 K2 hI2 0 (by omega)))
  · refine zaIE hz ?_
    refine zaW_of ?_
    refine ⟨by omega, by omega, by omega, by omega, ?_⟩
    refine zCall_mono h2 ?_
    rintro r2 e2 J2 K2 ⟨⟨v2, rfl, hv2⟩, rfl, ht, hI2⟩
    exact zaI_of (lt_int hL (by omega) ⟨by omega, by omega⟩ hv2 ht (fun q => absurd q (by omega)) (hnx J2 K2 hI2 1 (by omega)))
set_option maxRecDepth 20000 in
theorem law_5 {I : zJ → zK → Prop} (h5 : ∀ a : Int, zin a → OpW I 338 4 170 275 zin [zi a]) {L : Nat} {xs : Nat → Int32} (hL : L ≤ 3072) {D : Nat} (hD : 800 ≤ D) {x4 : Int} (g0 : 0 ≤ x4) (g1 : x4 ≤ (L : Int) - 6) {J : zJ} {K : zK} {Q : zR → Nat → zJ → zK → Prop} (hI : I J K) (hnx : ∀ J K, I J K → ∀ m, m ≤ 1 → zGo L xs (D + 1 + 1) 353 2542 [some (zr 1000000), some (zr 0), some (zr 142), some (zr 561), some (zi x4), none, none] [] J K (fun q e => Q q (e + m))) : zGo L xs (D + 1 + 1) 353 498 [some (zr 1000000), some (zr 0), some (zr 142), some (zr 561), some (zi x4), none, none] [] J K Q := by
  refine z353_498 hL ?_
  refine ⟨by omega, by omega, ?_⟩
  refine z338 hL ?_
  refine zCall_mono (h5 ((xs (x4 + 1).toNat).toInt) (zin_xs _) L xs D (D + 1) J K hL (by omega) (by omega) hI) ?_
  rintro r e J1 K1 (⟨v, rfl, rfl, hv, h2⟩ | ⟨E, cc, rfl, rfl, hz, hc0, hc1, h2⟩)
  · refine zaI_of ⟨hv, by decide, by decide, zaW_of ?_⟩
    refine ⟨by omega, by omega, ?_⟩
    refine zCall_mono (h2 v) ?_
    rintro r2 e2 J2 K2 ⟨rfl, rfl, ht, hk, hI2⟩
    exact zaI_of (lt_int hL (by omega) zin_0 hv ht (fun _ => hk) (hnx J2 K2 hI2 0 (by omega)))
  · refine zaIE hz ?_
    refine zaW_of ?_
    refine ⟨by omega, by omega, ?_⟩
    refine zCall_mono h2 ?_
    rintro r2 e2 J2 K2 ⟨⟨v2, rfl, hv2⟩, rfl, ht, hI2⟩
    exact zaI_of (lt_int hL (by omega) ⟨by omega, by omega⟩ hv2 ht (fun q => absurd q (by omega)) (hnx J2 K2 hI2 1 (by omega)))
set_option maxRecDepth 20000 in
theorem law_6 {I : zJ → zK → Prop} (h6 : ∀ a b : Int, zin a → zin b → OpW I 332 5 155 226 zin [zi a, zi b]) {L : Nat} {xs : Nat → Int32} (hL : L ≤ 3072) {D : Nat} (hD : 800 ≤ D) {x4 : Int} (g0 : 0 ≤ x4) (g1 : x4 ≤ (L : Int) - 6) {J : zJ} {K : zK} {Q : zR → Nat → zJ → zK → Prop} (hI : I J K) (hnx : ∀ J K, I J K → ∀ m, m ≤ 1 → zGo L xs (D + 1 + 1) 353 2542 [some (zr 1000000), some (zr 0), some (zr 142), some (zr 561), some (zi x4), none, none] [] J K (fun q e => Q q (e + m))) : zGo L xs (D + 1 + 1) 353 554 [some (zr 1000000), some (zr 0), some (zr 142), some (zr 561), some (zi x4), none, none] [] J K Q := by
  refine z353_554 hL ?_
  refine ⟨by omega, by omega, by omega, by omega, ?_⟩
  refine z332 hL ?_
  refine zCall_mono (h6 ((xs (x4 + 1).toNat).toInt) ((xs (x4 + 2).toNat).toInt) (zin_xs _) (zin_xs _) L xs D (D + 1) J K hL (by omega) (by omega) hI) ?_
  rintro r e J1 K1 (⟨v, rfl, rfl, hv, h2⟩ | ⟨E, cc, rfl, rfl, hz, hc0, hc1, h2⟩)
  · refine zaI_of ⟨hv, by decide, by decide, zaW_of ?_⟩
    refine ⟨by omega, by omega, by omega, by omega, ?_⟩
    refine zCall_mono (h2 v) ?_
    rintro r2 e2 J2 K2 ⟨rfl, rfl, ht, hk, hI2⟩
    exact zaI_of (lt_int hL (by omega) zin_0 hv ht (fun _ => hk) (hnx J2 K2 hI2 0 (by omega)))
  · refine zaIE hz ?_
    refine zaW_of ?_
    refine ⟨by omega, by omega, by omega, by omega, ?_⟩
    refine zCall_mono h2 ?_
    rintro r2 e2 J2 K2 ⟨⟨v2, rfl, hv2⟩, rfl, ht, hI2⟩
    exact zaI_of (lt_int hL (by omega) ⟨by omega, by omega⟩ hv2 ht (fun q => absurd q (by omega)) (hnx J2 K2 hI2 1 (by omega)))
set_option maxRecDepth 20000 in
theorem law_7 {I : zJ → zK → Prop} (h7 : ∀ a : Int, zin a → OpW I 348 4 185 301 zin [zi a]) {L : Nat} {xs : Nat → Int32} (hL : L ≤ 3072) {D : Nat} (hD : 800 ≤ D) {x4 : Int} (g0 : 0 ≤ x4) (g1 : x4 ≤ (L : Int) - 6) {J : zJ} {K : zK} {Q : zR → Nat → zJ → zK → Prop} (hI : I J K) (hnx : ∀ J K, I J K → ∀ m, m ≤ 1 → zGo L xs (D + 1 + 1) 353 2542 [some (zr 1000000), some (zr 0), some (zr 142), some (zr 561), some (zi x4), none, none] [] J K (fun q e => Q q (e + m))) : zGo L xs (D + 1 + 1) 353 622 [some (zr 1000000), some (zr 0), some (zr 142), some (zr 561), some (zi x4), none, none] [] J K Q := by
  refine z353_622 hL ?_
  refine ⟨by omega, by omega, ?_⟩
  refine z348 hL ?_
  refine zCall_mono (h7 ((xs (x4 + 1).toNat).toInt) (zin_xs _) L xs D (D + 1) J K hL (by omega) (by omega) hI) ?_
  rintro r e J1 K1 (⟨v, rfl, rfl, hv, h2⟩ | ⟨E, cc, rfl, rfl, hz, hc0, hc1, h2⟩)
  · refine zaI_of ⟨hv, by decide, by decide, zaW_of ?_⟩
    refine ⟨by omega, by omega, ?_⟩
    refine zCall_mono (h2 v) ?_
    rintro r2 e2 J2 K2 ⟨rfl, rfl, ht, hk, hI2⟩
    exact zaI_of (lt_int hL (by omega) zin_0 hv ht (fun _ => hk) (hnx J2 K2 hI2 0 (by omega)))
  · refine zaIE hz ?_
    refine zaW_of ?_
    refine ⟨by omega, by omega, ?_⟩
    refine zCall_mono h2 ?_
    rintro r2 e2 J2 K2 ⟨⟨v2, rfl, hv2⟩, rfl, ht, hI2⟩
    exact zaI_of (lt_int hL (by omega) ⟨by omega, by omega⟩ hv2 ht (fun q => absurd q (by omega)) (hnx J2 K2 hI2 1 (by omega)))
set_option maxRecDepth 20000 in
theorem law_8 {I : zJ → zK → Prop} (h8 : ∀ a b : Int, zin a → zin b → OpW I 339 5 172 280 zin [zi a, zi b]) {L : Nat} {xs : Nat → Int32} (hL : L ≤ 3072) {D : Nat} (hD : 800 ≤ D) {x4 : Int} (g0 : 0 ≤ x4) (g1 : x4 ≤ (L : Int) - 6) {J : zJ} {K : zK} {Q : zR → Nat → zJ → zK → Prop} (hI : I J K) (hnx : ∀ J K, I J K → ∀ m, m ≤ 1 → zGo L xs (D + 1 + 1) 353 2542 [some (zr 1000000), some (zr 0), some (zr 142), some (zr 561), some (zi x4), none, none] [] J K (fun q e => Q q (e + m))) : zGo L xs (D + 1 + 1) 353 678 [some (zr 1000000), some (zr 0), some (zr 142), some (zr 561), some (zi x4), none, none] [] J K Q := by
  refine z353_678 hL ?_
  refine ⟨by omega, by omega, by omega, by omega, ?_⟩
  refine z339 hL ?_
  refine zCall_mono (h8 ((xs (x4 + 1).toNat).toInt) ((xs (x4 + 2).toNat).toInt) (zin_xs _) (zin_xs _) L xs D (D + 1) J K hL (by omega) (by omega) hI) ?_
  rintro r e J1 K1 (⟨v, rfl, rfl, hv, h2⟩ | ⟨E, cc, rfl, rfl, hz, hc0, hc1, h2⟩)
  · refine zaI_of ⟨hv, by decide, by decide, zaW_of ?_⟩
    refine ⟨by omega, by omega, by omega, by omega, ?_⟩
    refine zCall_mono (h2 v) ?_
    rintro r2 e2 J2 K2 ⟨rfl, rfl, ht, hk, hI2⟩
    exact zaI_of (lt_int hL (by omega) zin_0 hv ht (fun _ => hk) (hnx J2 K2 hI2 0 (by omega)))
  · refine zaIE hz ?_
    refine zaW_of ?_
    refine ⟨by omega, by omega, by omega, by omega, ?_⟩
    refine zCall_mono h2 ?_
    rintro r2 e2 J2 K2 ⟨⟨v2, rfl, hv2⟩, rfl, ht, hI2⟩
    exact zaI_of (lt_int hL (by omega) ⟨by omega, by omega⟩ hv2 ht (fun q => absurd q (by omega)) (hnx J2 K2 hI2 1 (by omega)))
set_option maxRecDepth 20000 in
theorem law_9 {I : zJ → zK → Prop} (h9 : ∀ a : Int, zin a → OpW I 345 4 181 294 zin [zi a]) {L : Nat} {xs : Nat → Int32} (hL : L ≤ 3072) {D : Nat} (hD : 800 ≤ D) {x4 : Int} (g0 : 0 ≤ x4) (g1 : x4 ≤ (L : Int) - 6) {J : zJ} {K : zK} {Q : zR → Nat → zJ → zK → Prop} (hI : I J K) (hnx : ∀ J K, I J K → ∀ m, m ≤ 1 → zGo L xs (D + 1 + 1) 353 2542 [some (zr 1000000), some (zr 0), some (zr 142), some (zr 561), some (zi x4), none, none] [] J K (fun q e => Q q (e + m))) : zGo L xs (D + 1 + 1) 353 746 [some (zr 1000000), some (zr 0), some (zr 142), some (zr 561), some (zi x4), none, none] [] J K Q := by
  refine z353_746 hL ?_
  refine ⟨by omega, by omega, ?_⟩
  refine z345 hL ?_
  refine zCall_mono (h9 ((xs (x4 + 1).toNat).toInt) (zin_xs _) L xs D (D + 1) J K hL (by omega) (by omega) hI) ?_
  rintro r e J1 K1 (⟨v, rfl, rfl, hv, h2⟩ | ⟨E, cc, rfl, rfl, hz, hc0, hc1, h2⟩)
  · refine zaI_of ⟨hv, by decide, by decide, zaW_of ?_⟩
    refine ⟨by omega, by omega, ?_⟩
    refine zCall_mono (h2 v) ?_
    rintro r2 e2 J2 K2 ⟨rfl, rfl, ht, hk, hI2⟩
    exact zaI_of (lt_int hL (by omega) zin_0 hv ht (fun _ => hk) (hnx J2 K2 hI2 0 (by omega)))
  · refine zaIE hz ?_
    refine zaW_of ?_
    refine ⟨by omega, by omega, ?_⟩
    refine zCall_mono h2 ?_
    rintro r2 e2 J2 K2 ⟨⟨v2, rfl, hv2⟩, rfl, ht, hI2⟩
    exact zaI_of (lt_int hL (by omega) ⟨by omega, by omega⟩ hv2 ht (fun q => absurd q (by omega)) (hnx J2 K2 hI2 1 (by omega)))
set_option maxRecDepth 20000 in
theorem law_10 {I : zJ → zK → Prop} (h10 : ∀ a : Int, zin a → OpW I 326 4 144 207 zin [zi a]) {L : Nat} {xs : Nat → Int32} (hL : L ≤ 3072) {D : Nat} (hD : 800 ≤ D) {x4 : Int} (g0 : 0 ≤ x4) (g1 : x4 ≤ (L : Int) - 6) {J : zJ} {K : zK} {Q : zR → Nat → zJ → zK → Prop} (hI : I J K) (hnx : ∀ J K, I J K → ∀ m, m ≤ 1 → zGo L xs (D + 1 + 1) 353 2542 [some (zr 1000000), some (zr 0), some (zr 142), some (zr 561), some (zi x4), none, none] [] J K (fun q e => Q q (e + m))) : zGo L xs (D + 1 + 1) 353 802 [some (zr 1000000), some (zr 0), some (zr 142), some (zr 561), some (zi x4), none, none] [] J K Q := by
  refine z353_802 hL ?_
  refine ⟨by omega, by omega, ?_⟩
  refine z326 hL ?_
  refine zCall_mono (h10 ((xs (x4 + 1).toNat).toInt) (zin_xs _) L xs D (D + 1) J K hL (by omega) (by omega) hI) ?_
  rintro r e J1 K1 (⟨v, rfl, rfl, hv, h2⟩ | ⟨E, cc, rfl, rfl, hz, hc0, hc1, h2⟩)
  · refine zaI_of ⟨hv, by decide, by decide, zaW_of ?_⟩
    refine ⟨by omega, by omega, ?_⟩
    refine zCall_mono (h2 v) ?_
    rintro r2 e2 J2 K2 ⟨rfl, rfl, ht, hk, hI2⟩
    exact zaI_of (lt_int hL (by omega) zin_0 hv ht (fun _ => hk) (hnx J2 K2 hI2 0 (by omega)))
  · refine zaIE hz ?_
    refine zaW_of ?_
    refine ⟨by omega, by omega, ?_⟩
    refine zCall_mono h2 ?_
    rintro r2 e2 J2 K2 ⟨⟨v2, rfl, hv2⟩, rfl, ht, hI2⟩
    exact zaI_of (lt_int hL (by omega) ⟨by omega, by omega⟩ hv2 ht (fun q => absurd q (by omega)) (hnx J2 K2 hI2 1 (by omega)))
set_option maxRecDepth 20000 in
theorem law_11 {I : zJ → zK → Prop} (h11 : ∀ a b : Int, zin a → zin b → OpW I 341 5 176 284 zin [zi a, zi b]) {L : Nat} {xs : Nat → Int32} (hL : L ≤ 3072) {D : Nat} (hD : 800 ≤ D) {x4 : Int} (g0 : 0 ≤ x4) (g1 : x4 ≤ (L : Int) - 6) {J : zJ} {K : zK} {Q : zR → Nat → zJ → zK → Prop} (hI : I J K) (hnx : ∀ J K, I J K → ∀ m, m ≤ 1 → zGo L xs (D + 1 + 1) 353 2542 [some (zr 1000000), some (zr 0), some (zr 142), some (zr 561), some (zi x4), none, none] [] J K (fun q e => Q q (e + m))) : zGo L xs (D + 1 + 1) 353 858 [some (zr 1000000), some (zr 0), some (zr 142), some (zr 561), some (zi x4), none, none] [] J K Q := by
  refine z353_858 hL ?_
  refine ⟨by omega, by omega, by omega, by omega, ?_⟩
  refine z341 hL ?_
  refine zCall_mono (h11 ((xs (x4 + 1).toNat).toInt) ((xs (x4 + 2).toNat).toInt) (zin_xs _) (zin_xs _) L xs D (D + 1) J K hL (by omega) (by omega) hI) ?_
  rintro r e J1 K1 (⟨v, rfl, rfl, hv, h2⟩ | ⟨E, cc, rfl, rfl, hz, hc0, hc1, h2⟩)
  · refine zaI_of ⟨hv, by decide, by decide, zaW_of ?_⟩
    refine ⟨by omega, by omega, by omega, by omega, ?_⟩
    refine zCall_mono (h2 v) ?_
    rintro r2 e2 J2 K2 ⟨rfl, rfl, ht, hk, hI2⟩
    exact zaI_of (lt_int hL (by omega) zin_0 hv ht (fun _ => hk) (hnx J2 K2 hI2 0 (by omega)))
  · refine zaIE hz ?_
    refine zaW_of ?_
    refine ⟨by omega, by omega, by omega, by omega, ?_⟩
    refine zCall_mono h2 ?_
    rintro r2 e2 J2 K2 ⟨⟨v2, rfl, hv2⟩, rfl, ht, hI2⟩
    exact zaI_of (lt_int hL (by omega) ⟨by omega, by omega⟩ hv2 ht (fun q => absurd q (by omega)) (hnx J2 K2 hI2 1 (by omega)))
set_option maxRecDepth 20000 in
theorem law_12 {I : zJ → zK → Prop} (h12 : ∀ a : Int, zin a → OpW I 330 4 150 218 zin [zi a]) {L : Nat} {xs : Nat → Int32} (hL : L ≤ 3072) {D : Nat} (hD : 800 ≤ D) {x4 : Int} (g0 : 0 ≤ x4) (g1 : x4 ≤ (L : Int) - 6) {J : zJ} {K : zK} {Q : zR → Nat → zJ → zK → Prop} (hI : I J K) (hnx : ∀ J K, I J K → ∀ m, m ≤ 1 → zGo L xs (D + 1 + 1) 353 2542 [some (zr 1000000), some (zr 0), some (zr 142), some (zr 561), some (zi x4), none, none] [] J K (fun q e => Q q (e + m))) : zGo L xs (D + 1 + 1) 353 926 [some (zr 1000000), some (zr 0), some (zr 142), some (zr 561), some (zi x4), none, none] [] J K Q := by
  refine z353_926 hL ?_
  refine ⟨by omega, by omega, ?_⟩
  refine z330 hL ?_
  refine zCall_mono (h12 ((xs (x4 + 1).toNat).toInt) (zin_xs _) L xs D (D + 1) J K hL (by omega) (by omega) hI) ?_
  rintro r e J1 K1 (⟨v, rfl, rfl, hv, h2⟩ | ⟨E, cc, rfl, rfl, hz, hc0, hc1, h2⟩)
  · refine zaI_of ⟨hv, by decide, by decide, zaW_of ?_⟩
    refine ⟨by omega, by omega, ?_⟩
    refine zCall_mono (h2 v) ?_
    rintro r2 e2 J2 K2 ⟨rfl, rfl, ht, hk, hI2⟩
    exact zaI_of (lt_int hL (by omega) zin_0 hv ht (fun _ => hk) (hnx J2 K2 hI2 0 (by omega)))
  · refine zaIE hz ?_
    refine zaW_of ?_
    refine ⟨by omega, by omega, ?_⟩
    refine zCall_mono h2 ?_
    rintro r2 e2 J2 K2 ⟨⟨v2, rfl, hv2⟩, rfl, ht, hI2⟩
    exact zaI_of (lt_int hL (by omega) ⟨by omega, by omega⟩ hv2 ht (fun q => absurd q (by omega)) (hnx J2 K2 hI2 1 (by omega)))
set_option maxRecDepth 20000 in
theorem law_13 {I : zJ → zK → Prop} (h13 : ∀ a : Int, zin a → OpW I 329 4 149 217 zin [zi a]) {L : Nat} {xs : Nat → Int32} (hL : L ≤ 3072) {D : Nat} (hD : 800 ≤ D) {x4 : Int} (g0 : 0 ≤ x4) (g1 : x4 ≤ (L : Int) - 6) {J : zJ} {K : zK} {Q : zR → Nat → zJ → zK → Prop} (hI : I J K) (hnx : ∀ J K, I J K → ∀ m, m ≤ 1 → zGo L xs (D + 1 + 1) 353 2542 [some (zr 1000000), some (zr 0), some (zr 142), some (zr 561), some (zi x4), none, none] [] J K (fun q e => Q q (e + m))) : zGo L xs (D + 1 + 1) 353 982 [some (zr 1000000), some (zr 0), some (zr 142), some (zr 561), some (zi x4), none, none] [] J K Q := by
  refine z353_982 hL ?_
  refine ⟨by omega, by omega, ?_⟩
  refine z329 hL ?_
  refine zCall_mono (h13 ((xs (x4 + 1).toNat).toInt) (zin_xs _) L xs D (D + 1) J K hL (by omega) (by omega) hI) ?_
  rintro r e J1 K1 (⟨v, rfl, rfl, hv, h2⟩ | ⟨E, cc, rfl, rfl, hz, hc0, hc1, h2⟩)
  · refine zaI_of ⟨hv, by decide, by decide, zaW_of ?_⟩
    refine ⟨by omega, by omega, ?_⟩
    refine zCall_mono (h2 v) ?_
    rintro r2 e2 J2 K2 ⟨rfl, rfl, ht, hk, hI2⟩
    exact zaI_of (lt_int hL (by omega) zin_0 hv ht (fun _ => hk) (hnx J2 K2 hI2 0 (by omega)))
  · refine zaIE hz ?_
    refine zaW_of ?_
    refine ⟨by omega, by omega, ?_⟩
    refine zCall_mono h2 ?_
    rintro r2 e2 J2 K2 ⟨⟨v2, rfl, hv2⟩, rfl, ht, hI2⟩
    exact zaI_of (lt_int hL (by omega) ⟨by omega, by omega⟩ hv2 ht (fun q => absurd q (by omega)) (hnx J2 K2 hI2 1 (by omega)))
set_option maxRecDepth 20000 in
theorem law_14 {I : zJ → zK → Prop} (h14 : ∀ a : Int, zin a → OpW I 322 4 138 194 zin [zi a]) {L : Nat} {xs : Nat → Int32} (hL : L ≤ 3072) {D : Nat} (hD : 800 ≤ D) {x4 : Int} (g0 : 0 ≤ x4) (g1 : x4 ≤ (L : Int) - 6) {J : zJ} {K : zK} {Q : zR → Nat → zJ → zK → Prop} (hI : I J K) (hnx : ∀ J K, I J K → ∀ m, m ≤ 1 → zGo L xs (D + 1 + 1) 353 2542 [some (zr 1000000), some (zr 0), some (zr 142), some (zr 561), some (zi x4), none, none] [] J K (fun q e => Q q (e + m))) : zGo L xs (D + 1 + 1) 353 1038 [some (zr 1000000), some (zr 0), some (zr 142), some (zr 561), some (zi x4), none, none] [] J K Q := by
  refine z353_1038 hL ?_
  refine ⟨by omega, by omega, ?_⟩
  refine z322 hL ?_
  refine zCall_mono (h14 ((xs (x4 + 1).toNat).toInt) (zin_xs _) L xs D (D + 1) J K hL (by omega) (by omega) hI) ?_
  rintro r e J1 K1 (⟨v, rfl, rfl, hv, h2⟩ | ⟨E, cc, rfl, rfl, hz, hc0, hc1, h2⟩)
  · refine zaI_of ⟨hv, by decide, by decide, zaW_of ?_⟩
    refine ⟨by omega, by omega, ?_⟩
    refine zCall_mono (h2 v) ?_
    rintro r2 e2 J2 K2 ⟨rfl, rfl, ht, hk, hI2⟩
    exact zaI_of (lt_int hL (by omega) zin_0 hv ht (fun _ => hk) (hnx J2 K2 hI2 0 (by omega)))
  · refine zaIE hz ?_
    refine zaW_of ?_
    refine ⟨by omega, by omega, ?_⟩
    refine zCall_mono h2 ?_
    rintro r2 e2 J2 K2 ⟨⟨v2, rfl, hv2⟩, rfl, ht, hI2⟩
    exact zaI_of (lt_int hL (by omega) ⟨by omega, by omega⟩ hv2 ht (fun q => absurd q (by omega)) (hnx J2 K2 hI2 1 (by omega)))
set_option maxRecDepth 20000 in
theorem law_15 {I : zJ → zK → Prop} (h15 : ∀ a : Int, zin a → OpW I 351 4 188 308 zin [zi a]) {L : Nat} {xs : Nat → Int32} (hL : L ≤ 3072) {D : Nat} (hD : 800 ≤ D) {x4 : Int} (g0 : 0 ≤ x4) (g1 : x4 ≤ (L : Int) - 6) {J : zJ} {K : zK} {Q : zR → Nat → zJ → zK → Prop} (hI : I J K) (hnx : ∀ J K, I J K → ∀ m, m ≤ 1 → zGo L xs (D + 1 + 1) 353 2542 [some (zr 1000000), some (zr 0), some (zr 142), some (zr 561), some (zi x4), none, none] [] J K (fun q e => Q q (e + m))) : zGo L xs (D + 1 + 1) 353 1094 [some (zr 1000000), some (zr 0), some (zr 142), some (zr 561), some (zi x4), none, none] [] J K Q := by
  refine z353_1094 hL ?_
  refine ⟨by omega, by omega, ?_⟩
  refine z351 hL ?_
  refine zCall_mono (h15 ((xs (x4 + 1).toNat).toInt) (zin_xs _) L xs D (D + 1) J K hL (by omega) (by omega) hI) ?_
  rintro r e J1 K1 (⟨v, rfl, rfl, hv, h2⟩ | ⟨E, cc, rfl, rfl, hz, hc0, hc1, h2⟩)
  · refine zaI_of ⟨hv, by decide, by decide, zaW_of ?_⟩
    refine ⟨by omega, by omega, ?_⟩
    refine zCall_mono (h2 v) ?_
    rintro r2 e2 J2 K2 ⟨rfl, rfl, ht, hk, hI2⟩
    exact zaI_of (lt_int hL (by omega) zin_0 hv ht (fun _ => hk) (hnx J2 K2 hI2 0 (by omega)))
  · refine zaIE hz ?_
    refine zaW_of ?_
    refine ⟨by omega, by omega, ?_⟩
    refine zCall_mono h2 ?_
    rintro r2 e2 J2 K2 ⟨⟨v2, rfl, hv2⟩, rfl, ht, hI2⟩
    exact zaI_of (lt_int hL (by omega) ⟨by omega, by omega⟩ hv2 ht (fun q => absurd q (by omega)) (hnx J2 K2 hI2 1 (by omega)))
set_option maxRecDepth 20000 in
theorem law_16 {I : zJ → zK → Prop} (h16 : ∀ a : Int, zin a → OpW I 324 4 140 198 zin [zi a]) {L : Nat} {xs : Nat → Int32} (hL : L ≤ 3072) {D : Nat} (hD : 800 ≤ D) {x4 : Int} (g0 : 0 ≤ x4) (g1 : x4 ≤ (L : Int) - 6) {J : zJ} {K : zK} {Q : zR → Nat → zJ → zK → Prop} (hI : I J K) (hnx : ∀ J K, I J K → ∀ m, m ≤ 1 → zGo L xs (D + 1 + 1) 353 2542 [some (zr 1000000), some (zr 0), some (zr 142), some (zr 561), some (zi x4), none, none] [] J K (fun q e => Q q (e + m))) : zGo L xs (D + 1 + 1) 353 1150 [some (zr 1000000), some (zr 0), some (zr 142), some (zr 561), some (zi x4), none, none] [] J K Q := by
  refine z353_1150 hL ?_
  refine ⟨by omega, by omega, ?_⟩
  refine z324 hL ?_
  refine zCall_mono (h16 ((xs (x4 + 1).toNat).toInt) (zin_xs _) L xs D (D + 1) J K hL (by omega) (by omega) hI) ?_
  rintro r e J1 K1 (⟨v, rfl, rfl, hv, h2⟩ | ⟨E, cc, rfl, rfl, hz, hc0, hc1, h2⟩)
  · refine zaI_of ⟨hv, by decide, by decide, zaW_of ?_⟩
    refine ⟨by omega, by omega, ?_⟩
    refine zCall_mono (h2 v) ?_
    rintro r2 e2 J2 K2 ⟨rfl, rfl, ht, hk, hI2⟩
    exact zaI_of (lt_int hL (by omega) zin_0 hv ht (fun _ => hk) (hnx J2 K2 hI2 0 (by omega)))
  · refine zaIE hz ?_
    refine zaW_of ?_
    refine ⟨by omega, by omega, ?_⟩
    refine zCall_mono h2 ?_
    rintro r2 e2 J2 K2 ⟨⟨v2, rfl, hv2⟩, rfl, ht, hI2⟩
    exact zaI_of (lt_int hL (by omega) ⟨by omega, by omega⟩ hv2 ht (fun q => absurd q (by omega)) (hnx J2 K2 hI2 1 (by omega)))
set_option maxRecDepth 20000 in
theorem law_17 {I : zJ → zK → Prop} (h17 : OpD I 142 203 []) {L : Nat} {xs : Nat → Int32} (hL : L ≤ 3072) {D : Nat} (hD : 800 ≤ D) {x4 : Int} (g0 : 0 ≤ x4) (g1 : x4 ≤ (L : Int) - 6) {J : zJ} {K : zK} {Q : zR → Nat → zJ → zK → Prop} (hI : I J K) (hnx : ∀ J K, I J K → ∀ m, m ≤ 1 → zGo L xs (D + 1 + 1) 353 2542 [some (zr 1000000), some (zr 0), some (zr 142), some (zr 561), some (zi x4), none, none] [] J K (fun q e => Q q (e + m))) : zGo L xs (D + 1 + 1) 353 1206 [some (zr 1000000), some (zr 0), some (zr 142), some (zr 561), some (zi x4), none, none] [] J K Q := by
  refine z353_1206 hL ?_
  refine zCall_mono (h17   L xs (D + 1) J K hL (by omega) hI) ?_
  rintro r e J1 K1 ⟨v, rfl, rfl, hv, h2⟩
  refine zaI_of ?_
  refine zCall_mono h2 ?_
  rintro r2 e2 J2 K2 ⟨rfl, rfl, hI2⟩
  exact zaI_of ⟨hv, hv, fun _ => hnx J2 K2 hI2 0 (by omega), fun n => absurd rfl n⟩
set_option maxRecDepth 20000 in
theorem law_18 {I : zJ → zK → Prop} (h18 : OpD I 156 231 []) {L : Nat} {xs : Nat → Int32} (hL : L ≤ 3072) {D : Nat} (hD : 800 ≤ D) {x4 : Int} (g0 : 0 ≤ x4) (g1 : x4 ≤ (L : Int) - 6) {J : zJ} {K : zK} {Q : zR → Nat → zJ → zK → Prop} (hI : I J K) (hnx : ∀ J K, I J K → ∀ m, m ≤ 1 → zGo L xs (D + 1 + 1) 353 2542 [some (zr 1000000), some (zr 0), some (zr 142), some (zr 561), some (zi x4), none, none] [] J K (fun q e => Q q (e + m))) : zGo L xs (D + 1 + 1) 353 1219 [some (zr 1000000), some (zr 0), some (zr 142), some (zr 561), some (zi x4), none, none] [] J K Q := by
  refine z353_1219 hL ?_
  refine zCall_mono (h18   L xs (D + 1) J K hL (by omega) hI) ?_
  rintro r e J1 K1 ⟨v, rfl, rfl, hv, h2⟩
  refine zaI_of ?_
  refine zCall_mono h2 ?_
  rintro r2 e2 J2 K2 ⟨rfl, rfl, hI2⟩
  exact zaI_of ⟨hv, hv, fun _ => hnx J2 K2 hI2 0 (by omega), fun n => absurd rfl n⟩
set_option maxRecDepth 20000 in
theorem law_19 {I : zJ → zK → Prop} (h19 : ∀ a b : Int, zin a → (b = 0 ∨ b = 1) → OpW I 344 5 180 291 (fun v => v = 0 ∨ v = 1) [zi a, zi b]) {L : Nat} {xs : Nat → Int32} (hL : L ≤ 3072) {D : Nat} (hD : 800 ≤ D) {x4 : Int} (g0 : 0 ≤ x4) (g1 : x4 ≤ (L : Int) - 6) {J : zJ} {K : zK} {Q : zR → Nat → zJ → zK → Prop} (hI : I J K) (hnx : ∀ J K, I J K → ∀ m, m ≤ 1 → zGo L xs (D + 1 + 1) 353 2542 [some (zr 1000000), some (zr 0), some (zr 142), some (zr 561), some (zi x4), none, none] [] J K (fun q e => Q q (e + m))) : zGo L xs (D + 1 + 1) 353 1232 [some (zr 1000000), some (zr 0), some (zr 142), some (zr 561), some (zi x4), none, none] [] J K Q := by
  refine z353_1232 hL ?_
  refine ⟨by omega, by omega, by omega, by omega, zin_xs _, fun hb => ?_, fun hb => ?_⟩
  · refine z344 hL ?_
    refine zCall_mono (h19 ((xs (x4 + 1).toNat).toInt) 0 (zin_xs _) (Or.inl rfl) L xs D (D + 1) J K hL (by omega) (by omega) hI) ?_
    rintro r e J1 K1 (⟨v, rfl, rfl, hv, h2⟩ | ⟨E, cc, rfl, rfl, hz, hc0, hc1, h2⟩)
    · refine zaI_of ⟨by rcases hv with q | q <;> rw [q] <;> first | exact zin_0 | exact zin_1, fun q => ⟨by decide, by decide, zaW_of ?_⟩, fun q => ⟨by decide, by decide, zaW_of ?_⟩⟩
      · refine ⟨by omega, by omega, by omega, by omega, zin_xs _, fun _ => ?_, fun n => absurd hb n⟩
        refine zCall_mono (h2 0) ?_
        rintro r2 e2 J2 K2 ⟨rfl, rfl, ht, hk, hI2⟩
        have q2 : v = 0 := q
        exact zaI_of (lt_bool hL (by omega) zin_0 (by rw [q2]; first | exact zin_0 | exact zin_1) ht (fun _ => ⟨by rw [hk, q2], hv⟩) (hnx J2 K2 hI2 0 (by omega)))
      · refine ⟨by omega, by omega, by omega, by omega, zin_xs _, fun _ => ?_, fun n => absurd hb n⟩
        refine zCall_mono (h2 1) ?_
        rintro r2 e2 J2 K2 ⟨rfl, rfl, ht, hk, hI2⟩
        have q2 : v = 1 := by omega
        exact zaI_of (lt_bool hL (by omega) zin_0 (by rw [q2]; first | exact zin_0 | exact zin_1) ht (fun _ => ⟨by rw [hk, q2], hv⟩) (hnx J2 K2 hI2 0 (by omega)))
    · refine zaIE hz ?_
      refine zaW_of ?_
      refine ⟨by omega, by omega, by omega, by omega, zin_xs _, fun _ => ?_, fun n => absurd hb n⟩
      refine zCall_mono h2 ?_
      rintro r2 e2 J2 K2 ⟨⟨v2, rfl, hv2⟩, rfl, ht, hI2⟩
      exact zaI_of (lt_bool hL (by omega) ⟨by omega, by omega⟩ hv2 ht (fun q => absurd q (by omega)) (hnx J2 K2 hI2 1 (by omega)))
  · refine z344 hL ?_
    refine zCall_mono (h19 ((xs (x4 + 1).toNat).toInt) 1 (zin_xs _) (Or.inr rfl) L xs D (D + 1) J K hL (by omega) (by omega) hI) ?_
    rintro r e J1 K1 (⟨v, rfl, rfl, hv, h2⟩ | ⟨E, cc, rfl, rfl, hz, hc0, hc1, h2⟩)
    · refine zaI_of ⟨by rcases hv with q | q <;> rw [q] <;> first | exact zin_0 | exact zin_1, fun q => ⟨by decide, by decide, zaW_of ?_⟩, fun q => ⟨by decide, by decide, zaW_of ?_⟩⟩
      · refine ⟨by omega, by omega, by omega, by omega, zin_xs _, fun n => absurd n hb, fun _ => ?_⟩
        refine zCall_mono (h2 0) ?_
        rintro r2 e2 J2 K2 ⟨rfl, rfl, ht, hk, hI2⟩
        have q2 : v = 0 := q
        exact zaI_of (lt_bool hL (by omega) zin_0 (by rw [q2]; first | exact zin_0 | exact zin_1) ht (fun _ => ⟨by rw [hk, q2], hv⟩) (hnx J2 K2 hI2 0 (by omega)))
      · refine ⟨by omega, by omega, by omega, by omega, zin_xs _, fun n => absurd n hb, fun _ => ?_⟩
        refine zCall_mono (h2 1) ?_
        rintro r2 e2 J2 K2 ⟨rfl, rfl, ht, hk, hI2⟩
        have q2 : v = 1 := by omega
        exact zaI_of (lt_bool hL (by omega) zin_0 (by rw [q2]; first | exact zin_0 | exact zin_1) ht (fun _ => ⟨by rw [hk, q2], hv⟩) (hnx J2 K2 hI2 0 (by omega)))
    · refine zaIE hz ?_
      refine zaW_of ?_
      refine ⟨by omega, by omega, by omega, by omega, zin_xs _, fun n => absurd n hb, fun _ => ?_⟩
      refine zCall_mono h2 ?_
      rintro r2 e2 J2 K2 ⟨⟨v2, rfl, hv2⟩, rfl, ht, hI2⟩
      exact zaI_of (lt_bool hL (by omega) ⟨by omega, by omega⟩ hv2 ht (fun q => absurd q (by omega)) (hnx J2 K2 hI2 1 (by omega)))
set_option maxRecDepth 20000 in
theorem law_20 {I : zJ → zK → Prop} (h20 : ∀ a b : Int, zin a → zin b → OpW I 331 5 151 219 zin [zi a, zi b]) {L : Nat} {xs : Nat → Int32} (hL : L ≤ 3072) {D : Nat} (hD : 800 ≤ D) {x4 : Int} (g0 : 0 ≤ x4) (g1 : x4 ≤ (L : Int) - 6) {J : zJ} {K : zK} {Q : zR → Nat → zJ → zK → Prop} (hI : I J K) (hnx : ∀ J K, I J K → ∀ m, m ≤ 1 → zGo L xs (D + 1 + 1) 353 2542 [some (zr 1000000), some (zr 0), some (zr 142), some (zr 561), some (zi x4), none, none] [] J K (fun q e => Q q (e + m))) : zGo L xs (D + 1 + 1) 353 1323 [some (zr 1000000), some (zr 0), some (zr 142), some (zr 561), some (zi x4), none, none] [] J K Q := by
  refine z353_1323 hL ?_
  refine ⟨by omega, by omega, by omega, by omega, ?_⟩
  refine z331 hL ?_
  refine zCall_mono (h20 ((xs (x4 + 1).toNat).toInt) ((xs (x4 + 2).toNat).toInt) (zin_xs _) (zin_xs _) L xs D (D + 1) J K hL (by omega) (by omega) hI) ?_
  rintro r e J1 K1 (⟨v, rfl, rfl, hv, h2⟩ | ⟨E, cc, rfl, rfl, hz, hc0, hc1, h2⟩)
  · refine zaI_of ⟨hv, by decide, by decide, zaW_of ?_⟩
    refine ⟨by omega, by omega, by omega, by omega, ?_⟩
    refine zCall_mono (h2 v) ?_
    rintro r2 e2 J2 K2 ⟨rfl, rfl, ht, hk, hI2⟩
    exact zaI_of (lt_int hL (by omega) zin_0 hv ht (fun _ => hk) (hnx J2 K2 hI2 0 (by omega)))
  · refine zaIE hz ?_
    refine zaW_of ?_
    refine ⟨by omega, by omega, by omega, by omega, ?_⟩
    refine zCall_mono h2 ?_
    rintro r2 e2 J2 K2 ⟨⟨v2, rfl, hv2⟩, rfl, ht, hI2⟩
    exact zaI_of (lt_int hL (by omega) ⟨by omega, by omega⟩ hv2 ht (fun q => absurd q (by omega)) (hnx J2 K2 hI2 1 (by omega)))
set_option maxRecDepth 20000 in
theorem law_21 {I : zJ → zK → Prop} (h21 : ∀ a b : Int, zin a → zin b → OpW I 334 5 158 238 zin [zi a, zi b]) {L : Nat} {xs : Nat → Int32} (hL : L ≤ 3072) {D : Nat} (hD : 800 ≤ D) {x4 : Int} (g0 : 0 ≤ x4) (g1 : x4 ≤ (L : Int) - 6) {J : zJ} {K : zK} {Q : zR → Nat → zJ → zK → Prop} (hI : I J K) (hnx : ∀ J K, I J K → ∀ m, m ≤ 1 → zGo L xs (D + 1 + 1) 353 2542 [some (zr 1000000), some (zr 0), some (zr 142), some (zr 561), some (zi x4), none, none] [] J K (fun q e => Q q (e + m))) : zGo L xs (D + 1 + 1) 353 1391 [some (zr 1000000), some (zr 0), some (zr 142), some (zr 561), some (zi x4), none, none] [] J K Q := by
  refine z353_1391 hL ?_
  refine ⟨by omega, by omega, by omega, by omega, ?_⟩
  refine z334 hL ?_
  refine zCall_mono (h21 ((xs (x4 + 1).toNat).toInt) ((xs (x4 + 2).toNat).toInt) (zin_xs _) (zin_xs _) L xs D (D + 1) J K hL (by omega) (by omega) hI) ?_
  rintro r e J1 K1 (⟨v, rfl, rfl, hv, h2⟩ | ⟨E, cc, rfl, rfl, hz, hc0, hc1, h2⟩)
  · refine zaI_of ⟨hv, by decide, by decide, zaW_of ?_⟩
    refine ⟨by omega, by omega, by omega, by omega, ?_⟩
    refine zCall_mono (h2 v) ?_
    rintro r2 e2 J2 K2 ⟨rfl, rfl, ht, hk, hI2⟩
    exact zaI_of (lt_int hL (by omega) zin_0 hv ht (fun _ => hk) (hnx J2 K2 hI2 0 (by omega)))
  · refine zaIE hz ?_
    refine zaW_of ?_
    refine ⟨by omega, by omega, by omega, by omega, ?_⟩
    refine zCall_mono h2 ?_
    rintro r2 e2 J2 K2 ⟨⟨v2, rfl, hv2⟩, rfl, ht, hI2⟩
    exact zaI_of (lt_int hL (by omega) ⟨by omega, by omega⟩ hv2 ht (fun q => absurd q (by omega)) (hnx J2 K2 hI2 1 (by omega)))
set_option maxRecDepth 20000 in
theorem law_22 {I : zJ → zK → Prop} (h22 : ∀ a b : Int, zin a → zin b → OpW I 340 5 174 281 zin [zi a, zi b]) {L : Nat} {xs : Nat → Int32} (hL : L ≤ 3072) {D : Nat} (hD : 800 ≤ D) {x4 : Int} (g0 : 0 ≤ x4) (g1 : x4 ≤ (L : Int) - 6) {J : zJ} {K : zK} {Q : zR → Nat → zJ → zK → Prop} (hI : I J K) (hnx : ∀ J K, I J K → ∀ m, m ≤ 1 → zGo L xs (D + 1 + 1) 353 2542 [some (zr 1000000), some (zr 0), some (zr 142), some (zr 561), some (zi x4), none, none] [] J K (fun q e => Q q (e + m))) : zGo L xs (D + 1 + 1) 353 1459 [some (zr 1000000), some (zr 0), some (zr 142), some (zr 561), some (zi x4), none, none] [] J K Q := by
  refine z353_1459 hL ?_
  refine ⟨by omega, by omega, by omega, by omega, ?_⟩
  refine z340 hL ?_
  refine zCall_mono (h22 ((xs (x4 + 1).toNat).toInt) ((xs (x4 + 2).toNat).toInt) (zin_xs _) (zin_xs _) L xs D (D + 1) J K hL (by omega) (by omega) hI) ?_
  rintro r e J1 K1 (⟨v, rfl, rfl, hv, h2⟩ | ⟨E, cc, rfl, rfl, hz, hc0, hc1, h2⟩)
  · refine zaI_of ⟨hv, by decide, by decide, zaW_of ?_⟩
    refine ⟨by omega, by omega, by omega, by omega, ?_⟩
    refine zCall_mono (h2 v) ?_
    rintro r2 e2 J2 K2 ⟨rfl, rfl, ht, hk, hI2⟩
    exact zaI_of (lt_int hL (by omega) zin_0 hv ht (fun _ => hk) (hnx J2 K2 hI2 0 (by omega)))
  · refine zaIE hz ?_
    refine zaW_of ?_
    refine ⟨by omega, by omega, by omega, by omega, ?_⟩
    refine zCall_mono h2 ?_
    rintro r2 e2 J2 K2 ⟨⟨v2, rfl, hv2⟩, rfl, ht, hI2⟩
    exact zaI_of (lt_int hL (by omega) ⟨by omega, by omega⟩ hv2 ht (fun q => absurd q (by omega)) (hnx J2 K2 hI2 1 (by omega)))
set_option maxRecDepth 20000 in
theorem law_23 {I : zJ → zK → Prop} (h23 : ∀ a : Int, zin a → OpW I 342 4 177 285 zin [zi a]) {L : Nat} {xs : Nat → Int32} (hL : L ≤ 3072) {D : Nat} (hD : 800 ≤ D) {x4 : Int} (g0 : 0 ≤ x4) (g1 : x4 ≤ (L : Int) - 6) {J : zJ} {K : zK} {Q : zR → Nat → zJ → zK → Prop} (hI : I J K) (hnx : ∀ J K, I J K → ∀ m, m ≤ 1 → zGo L xs (D + 1 + 1) 353 2542 [some (zr 1000000), some (zr 0), some (zr 142), some (zr 561), some (zi x4), none, none] [] J K (fun q e => Q q (e + m))) : zGo L xs (D + 1 + 1) 353 1527 [some (zr 1000000), some (zr 0), some (zr 142), some (zr 561), some (zi x4), none, none] [] J K Q := by
  refine z353_1527 hL ?_
  refine ⟨by omega, by omega, ?_⟩
  refine z342 hL ?_
  refine zCall_mono (h23 ((xs (x4 + 1).toNat).toInt) (zin_xs _) L xs D (D + 1) J K hL (by omega) (by omega) hI) ?_
  rintro r e J1 K1 (⟨v, rfl, rfl, hv, h2⟩ | ⟨E, cc, rfl, rfl, hz, hc0, hc1, h2⟩)
  · refine zaI_of ⟨hv, by decide, by decide, zaW_of ?_⟩
    refine ⟨by omega, by omega, ?_⟩
    refine zCall_mono (h2 v) ?_
    rintro r2 e2 J2 K2 ⟨rfl, rfl, ht, hk, hI2⟩
    exact zaI_of (lt_int hL (by omega) zin_0 hv ht (fun _ => hk) (hnx J2 K2 hI2 0 (by omega)))
  · refine zaIE hz ?_
    refine zaW_of ?_
    refine ⟨by omega, by omega, ?_⟩
    refine zCall_mono h2 ?_
    rintro r2 e2 J2 K2 ⟨⟨v2, rfl, hv2⟩, rfl, ht, hI2⟩
    exact zaI_of (lt_int hL (by omega) ⟨by omega, by omega⟩ hv2 ht (fun q => absurd q (by omega)) (hnx J2 K2 hI2 1 (by omega)))
set_option maxRecDepth 20000 in
theorem law_24 {I : zJ → zK → Prop} (h24 : ∀ a : Int, zin a → OpW I 333 4 157 235 zin [zi a]) {L : Nat} {xs : Nat → Int32} (hL : L ≤ 3072) {D : Nat} (hD : 800 ≤ D) {x4 : Int} (g0 : 0 ≤ x4) (g1 : x4 ≤ (L : Int) - 6) {J : zJ} {K : zK} {Q : zR → Nat → zJ → zK → Prop} (hI : I J K) (hnx : ∀ J K, I J K → ∀ m, m ≤ 1 → zGo L xs (D + 1 + 1) 353 2542 [some (zr 1000000), some (zr 0), some (zr 142), some (zr 561), some (zi x4), none, none] [] J K (fun q e => Q q (e + m))) : zGo L xs (D + 1 + 1) 353 1583 [some (zr 1000000), some (zr 0), some (zr 142), some (zr 561), some (zi x4), none, none] [] J K Q := by
  refine z353_1583 hL ?_
  refine ⟨by omega, by omega, ?_⟩
  refine z333 hL ?_
  refine zCall_mono (h24 ((xs (x4 + 1).toNat).toInt) (zin_xs _) L xs D (D + 1) J K hL (by omega) (by omega) hI) ?_
  rintro r e J1 K1 (⟨v, rfl, rfl, hv, h2⟩ | ⟨E, cc, rfl, rfl, hz, hc0, hc1, h2⟩)
  · refine zaI_of ⟨hv, by decide, by decide, zaW_of ?_⟩
    refine ⟨by omega, by omega, ?_⟩
    refine zCall_mono (h2 v) ?_
    rintro r2 e2 J2 K2 ⟨rfl, rfl, ht, hk, hI2⟩
    exact zaI_of (lt_int hL (by omega) zin_0 hv ht (fun _ => hk) (hnx J2 K2 hI2 0 (by omega)))
  · refine zaIE hz ?_
    refine zaW_of ?_
    refine ⟨by omega, by omega, ?_⟩
    refine zCall_mono h2 ?_
    rintro r2 e2 J2 K2 ⟨⟨v2, rfl, hv2⟩, rfl, ht, hI2⟩
    exact zaI_of (lt_int hL (by omega) ⟨by omega, by omega⟩ hv2 ht (fun q => absurd q (by omega)) (hnx J2 K2 hI2 1 (by omega)))
set_option maxRecDepth 20000 in
theorem law_25 {I : zJ → zK → Prop} (h25 : OpL I 163 266) {L : Nat} {xs : Nat → Int32} (hL : L ≤ 3072) {D : Nat} (hD : 800 ≤ D) {x4 : Int} (g0 : 0 ≤ x4) (g1 : x4 ≤ (L : Int) - 6) {J : zJ} {K : zK} {Q : zR → Nat → zJ → zK → Prop} (hI : I J K) (hnx : ∀ J K, I J K → ∀ m, m ≤ 1 → zGo L xs (D + 1 + 1) 353 2542 [some (zr 1000000), some (zr 0), some (zr 142), some (zr 561), some (zi x4), none, none] [] J K (fun q e => Q q (e + m))) : zGo L xs (D + 1 + 1) 353 1639 [some (zr 1000000), some (zr 0), some (zr 142), some (zr 561), some (zi x4), none, none] [] J K Q := by
  refine z353_1639 hL ?_
  refine zCall_mono (h25   L xs (D + 1) J K hL (by omega) hI) ?_
  rintro r e J1 K1 ⟨v, rfl, rfl, h2⟩
  refine zaL_of ?_
  refine zCall_mono h2 ?_
  rintro r2 e2 J2 K2 ⟨rfl, rfl, hI2⟩
  refine zaL_of ?_
  rw [zcmp_self]
  exact ⟨zin_0, fun _ => hnx J2 K2 hI2 0 (by omega), fun n => absurd rfl n⟩
set_option maxRecDepth 20000 in
theorem law_26 {I : zJ → zK → Prop} (h26 : ∀ a : Int, zin a → OpW I 325 4 141 199 zin [zi a]) {L : Nat} {xs : Nat → Int32} (hL : L ≤ 3072) {D : Nat} (hD : 800 ≤ D) {x4 : Int} (g0 : 0 ≤ x4) (g1 : x4 ≤ (L : Int) - 6) {J : zJ} {K : zK} {Q : zR → Nat → zJ → zK → Prop} (hI : I J K) (hnx : ∀ J K, I J K → ∀ m, m ≤ 1 → zGo L xs (D + 1 + 1) 353 2542 [some (zr 1000000), some (zr 0), some (zr 142), some (zr 561), some (zi x4), none, none] [] J K (fun q e => Q q (e + m))) : zGo L xs (D + 1 + 1) 353 1653 [some (zr 1000000), some (zr 0), some (zr 142), some (zr 561), some (zi x4), none, none] [] J K Q := by
  refine z353_1653 hL ?_
  refine ⟨by omega, by omega, ?_⟩
  refine z325 hL ?_
  refine zCall_mono (h26 ((xs (x4 + 1).toNat).toInt) (zin_xs _) L xs D (D + 1) J K hL (by omega) (by omega) hI) ?_
  rintro r e J1 K1 (⟨v, rfl, rfl, hv, h2⟩ | ⟨E, cc, rfl, rfl, hz, hc0, hc1, h2⟩)
  · refine zaI_of ⟨hv, by decide, by decide, zaW_of ?_⟩
    refine ⟨by omega, by omega, ?_⟩
    refine zCall_mono (h2 v) ?_
    rintro r2 e2 J2 K2 ⟨rfl, rfl, ht, hk, hI2⟩
    exact zaI_of (lt_int hL (by omega) zin_0 hv ht (fun _ => hk) (hnx J2 K2 hI2 0 (by omega)))
  · refine zaIE hz ?_
    refine zaW_of ?_
    refine ⟨by omega, by omega, ?_⟩
    refine zCall_mono h2 ?_
    rintro r2 e2 J2 K2 ⟨⟨v2, rfl, hv2⟩, rfl, ht, hI2⟩
    exact zaI_of (lt_int hL (by omega) ⟨by omega, by omega⟩ hv2 ht (fun q => absurd q (by omega)) (hnx J2 K2 hI2 1 (by omega)))
set_option maxRecDepth 20000 in
theorem law_27 {I : zJ → zK → Prop} (h27 : OpD I 179 290 []) {L : Nat} {xs : Nat → Int32} (hL : L ≤ 3072) {D : Nat} (hD : 800 ≤ D) {x4 : Int} (g0 : 0 ≤ x4) (g1 : x4 ≤ (L : Int) - 6) {J : zJ} {K : zK} {Q : zR → Nat → zJ → zK → Prop} (hI : I J K) (hnx : ∀ J K, I J K → ∀ m, m ≤ 1 → zGo L xs (D + 1 + 1) 353 2542 [some (zr 1000000), some (zr 0), some (zr 142), some (zr 561), some (zi x4), none, none] [] J K (fun q e => Q q (e + m))) : zGo L xs (D + 1 + 1) 353 1709 [some (zr 1000000), some (zr 0), some (zr 142), some (zr 561), some (zi x4), none, none] [] J K Q := by
  refine z353_1709 hL ?_
  refine zCall_mono (h27   L xs (D + 1) J K hL (by omega) hI) ?_
  rintro r e J1 K1 ⟨v, rfl, rfl, hv, h2⟩
  refine zaI_of ?_
  refine zCall_mono h2 ?_
  rintro r2 e2 J2 K2 ⟨rfl, rfl, hI2⟩
  exact zaI_of ⟨hv, hv, fun _ => hnx J2 K2 hI2 0 (by omega), fun n => absurd rfl n⟩
set_option maxRecDepth 20000 in
theorem law_28 {I : zJ → zK → Prop} (h28 : ∀ a b c : Int, zin a → zin b → zin c → OpW I 346 7 182 295 zin [zi a, zi b, zi c]) {L : Nat} {xs : Nat → Int32} (hL : L ≤ 3072) {D : Nat} (hD : 800 ≤ D) {x4 : Int} (g0 : 0 ≤ x4) (g1 : x4 ≤ (L : Int) - 6) {J : zJ} {K : zK} {Q : zR → Nat → zJ → zK → Prop} (hI : I J K) (hnx : ∀ J K, I J K → ∀ m, m ≤ 1 → zGo L xs (D + 1 + 1) 353 2542 [some (zr 1000000), some (zr 0), some (zr 142), some (zr 561), some (zi x4), none, none] [] J K (fun q e => Q q (e + m))) : zGo L xs (D + 1 + 1) 353 1722 [some (zr 1000000), some (zr 0), some (zr 142), some (zr 561), some (zi x4), none, none] [] J K Q := by
  refine z353_1722 hL ?_
  refine ⟨by omega, by omega, by omega, by omega, by omega, by omega, ?_⟩
  refine z346 hL ?_
  refine zCall_mono (h28 ((xs (x4 + 1).toNat).toInt) ((xs (x4 + 2).toNat).toInt) ((xs (x4 + 3).toNat).toInt) (zin_xs _) (zin_xs _) (zin_xs _) L xs D (D + 1) J K hL (by omega) (by omega) hI) ?_
  rintro r e J1 K1 (⟨v, rfl, rfl, hv, h2⟩ | ⟨E, cc, rfl, rfl, hz, hc0, hc1, h2⟩)
  · refine zaI_of ⟨hv, by decide, by decide, zaW_of ?_⟩
    refine ⟨by omega, by omega, by omega, by omega, by omega, by omega, ?_⟩
    refine zCall_mono (h2 v) ?_
    rintro r2 e2 J2 K2 ⟨rfl, rfl, ht, hk, hI2⟩
    exact zaI_of (lt_int hL (by omega) zin_0 hv ht (fun _ => hk) (hnx J2 K2 hI2 0 (by omega)))
  · refine zaIE hz ?_
    refine zaW_of ?_
    refine ⟨by omega, by omega, by omega, by omega, by omega, by omega, ?_⟩
    refine zCall_mono h2 ?_
    rintro r2 e2 J2 K2 ⟨⟨v2, rfl, hv2⟩, rfl, ht, hI2⟩
    exact zaI_of (lt_int hL (by omega) ⟨by omega, by omega⟩ hv2 ht (fun q => absurd q (by omega)) (hnx J2 K2 hI2 1 (by omega)))
set_option maxRecDepth 20000 in
theorem law_29 {I : zJ → zK → Prop} (h29 : ∀ a : Int, zin a → OpW I 321 4 137 191 (fun v => v = 0 ∨ v = 1) [zi a]) {L : Nat} {xs : Nat → Int32} (hL : L ≤ 3072) {D : Nat} (hD : 800 ≤ D) {x4 : Int} (g0 : 0 ≤ x4) (g1 : x4 ≤ (L : Int) - 6) {J : zJ} {K : zK} {Q : zR → Nat → zJ → zK → Prop} (hI : I J K) (hnx : ∀ J K, I J K → ∀ m, m ≤ 1 → zGo L xs (D + 1 + 1) 353 2542 [some (zr 1000000), some (zr 0), some (zr 142), some (zr 561), some (zi x4), none, none] [] J K (fun q e => Q q (e + m))) : zGo L xs (D + 1 + 1) 353 1802 [some (zr 1000000), some (zr 0), some (zr 142), some (zr 561), some (zi x4), none, none] [] J K Q := by
  refine z353_1802 hL ?_
  refine ⟨by omega, by omega, ?_⟩
  refine z321 hL ?_
  refine zCall_mono (h29 ((xs (x4 + 1).toNat).toInt) (zin_xs _) L xs D (D + 1) J K hL (by omega) (by omega) hI) ?_
  rintro r e J1 K1 (⟨v, rfl, rfl, hv, h2⟩ | ⟨E, cc, rfl, rfl, hz, hc0, hc1, h2⟩)
  · refine zaI_of ⟨by rcases hv with q | q <;> rw [q] <;> first | exact zin_0 | exact zin_1, fun q => ⟨by decide, by decide, zaW_of ?_⟩, fun q => ⟨by decide, by decide, zaW_of ?_⟩⟩
    · refine ⟨by omega, by omega, ?_⟩
      refine zCall_mono (h2 0) ?_
      rintro r2 e2 J2 K2 ⟨rfl, rfl, ht, hk, hI2⟩
      have q2 : v = 0 := q
      exact zaI_of (lt_bool hL (by omega) zin_0 (by rw [q2]; first | exact zin_0 | exact zin_1) ht (fun _ => ⟨by rw [hk, q2], hv⟩) (hnx J2 K2 hI2 0 (by omega)))
    · refine ⟨by omega, by omega, ?_⟩
      refine zCall_mono (h2 1) ?_
      rintro r2 e2 J2 K2 ⟨rfl, rfl, ht, hk, hI2⟩
      have q2 : v = 1 := by omega
      exact zaI_of (lt_bool hL (by omega) zin_0 (by rw [q2]; first | exact zin_0 | exact zin_1) ht (fun _ => ⟨by rw [hk, q2], hv⟩) (hnx J2 K2 hI2 0 (by omega)))
  · refine zaIE hz ?_
    refine zaW_of ?_
    refine ⟨by omega, by omega, ?_⟩
    refine zCall_mono h2 ?_
    rintro r2 e2 J2 K2 ⟨⟨v2, rfl, hv2⟩, rfl, ht, hI2⟩
    exact zaI_of (lt_bool hL (by omega) ⟨by omega, by omega⟩ hv2 ht (fun q => absurd q (by omega)) (hnx J2 K2 hI2 1 (by omega)))
set_option maxRecDepth 20000 in
theorem law_30 {I : zJ → zK → Prop} (h30 : ∀ a b : Int, zin a → zin b → OpW I 352 5 189 313 zin [zi a, zi b]) {L : Nat} {xs : Nat → Int32} (hL : L ≤ 3072) {D : Nat} (hD : 800 ≤ D) {x4 : Int} (g0 : 0 ≤ x4) (g1 : x4 ≤ (L : Int) - 6) {J : zJ} {K : zK} {Q : zR → Nat → zJ → zK → Prop} (hI : I J K) (hnx : ∀ J K, I J K → ∀ m, m ≤ 1 → zGo L xs (D + 1 + 1) 353 2542 [some (zr 1000000), some (zr 0), some (zr 142), some (zr 561), some (zi x4), none, none] [] J K (fun q e => Q q (e + m))) : zGo L xs (D + 1 + 1) 353 1865 [some (zr 1000000), some (zr 0), some (zr 142), some (zr 561), some (zi x4), none, none] [] J K Q := by
  refine z353_1865 hL ?_
  refine ⟨by omega, by omega, by omega, by omega, ?_⟩
  refine z352 hL ?_
  refine zCall_mono (h30 ((xs (x4 + 1).toNat).toInt) ((xs (x4 + 2).toNat).toInt) (zin_xs _) (zin_xs _) L xs D (D + 1) J K hL (by omega) (by omega) hI) ?_
  rintro r e J1 K1 (⟨v, rfl, rfl, hv, h2⟩ | ⟨E, cc, rfl, rfl, hz, hc0, hc1, h2⟩)
  · refine zaI_of ⟨hv, by decide, by decide, zaW_of ?_⟩
    refine ⟨by omega, by omega, by omega, by omega, ?_⟩
    refine zCall_mono (h2 v) ?_
    rintro r2 e2 J2 K2 ⟨rfl, rfl, ht, hk, hI2⟩
    exact zaI_of (lt_int hL (by omega) zin_0 hv ht (fun _ => hk) (hnx J2 K2 hI2 0 (by omega)))
  · refine zaIE hz ?_
    refine zaW_of ?_
    refine ⟨by omega, by omega, by omega, by omega, ?_⟩
    refine zCall_mono h2 ?_
    rintro r2 e2 J2 K2 ⟨⟨v2, rfl, hv2⟩, rfl, ht, hI2⟩
    exact zaI_of (lt_int hL (by omega) ⟨by omega, by omega⟩ hv2 ht (fun q => absurd q (by omega)) (hnx J2 K2 hI2 1 (by omega)))
set_option maxRecDepth 20000 in
theorem law_31 {I : zJ → zK → Prop} (h31 : ∀ a b c d : Int, zin a → zin b → zin c → zin d → OpW I 335 9 160 254 zin [zi a, zi b, zi c, zi d]) {L : Nat} {xs : Nat → Int32} (hL : L ≤ 3072) {D : Nat} (hD : 800 ≤ D) {x4 : Int} (g0 : 0 ≤ x4) (g1 : x4 ≤ (L : Int) - 6) {J : zJ} {K : zK} {Q : zR → Nat → zJ → zK → Prop} (hI : I J K) (hnx : ∀ J K, I J K → ∀ m, m ≤ 1 → zGo L xs (D + 1 + 1) 353 2542 [some (zr 1000000), some (zr 0), some (zr 142), some (zr 561), some (zi x4), none, none] [] J K (fun q e => Q q (e + m))) : zGo L xs (D + 1 + 1) 353 1933 [some (zr 1000000), some (zr 0), some (zr 142), some (zr 561), some (zi x4), none, none] [] J K Q := by
  refine z353_1933 hL ?_
  refine ⟨by omega, by omega, by omega, by omega, by omega, by omega, by omega, by omega, ?_⟩
  refine z335 hL ?_
  refine zCall_mono (h31 ((xs (x4 + 1).toNat).toInt) ((xs (x4 + 2).toNat).toInt) ((xs (x4 + 3).toNat).toInt) ((xs (x4 + 4).toNat).toInt) (zin_xs _) (zin_xs _) (zin_xs _) (zin_xs _) L xs D (D + 1) J K hL (by omega) (by omega) hI) ?_
  rintro r e J1 K1 (⟨v, rfl, rfl, hv, h2⟩ | ⟨E, cc, rfl, rfl, hz, hc0, hc1, h2⟩)
  · refine zaI_of ⟨hv, by decide, by decide, zaW_of ?_⟩
    refine ⟨by omega, by omega, by omega, by omega, by omega, by omega, by omega, by omega, ?_⟩
    refine zCall_mono (h2 v) ?_
    rintro r2 e2 J2 K2 ⟨rfl, rfl, ht, hk, hI2⟩
    exact zaI_of (lt_int hL (by omega) zin_0 hv ht (fun _ => hk) (hnx J2 K2 hI2 0 (by omega)))
  · refine zaIE hz ?_
    refine zaW_of ?_
    refine ⟨by omega, by omega, by omega, by omega, by omega, by omega, by omega, by omega, ?_⟩
    refine zCall_mono h2 ?_
    rintro r2 e2 J2 K2 ⟨⟨v2, rfl, hv2⟩, rfl, ht, hI2⟩
    exact zaI_of (lt_int hL (by omega) ⟨by omega, by omega⟩ hv2 ht (fun q => absurd q (by omega)) (hnx J2 K2 hI2 1 (by omega)))
set_option maxRecDepth 20000 in
theorem law_32 {I : zJ → zK → Prop} (h32 : ∀ a b : Int, zin a → zin b → OpW I 323 5 139 197 (fun v => v = 0 ∨ v = 1) [zi a, zi b]) {L : Nat} {xs : Nat → Int32} (hL : L ≤ 3072) {D : Nat} (hD : 800 ≤ D) {x4 : Int} (g0 : 0 ≤ x4) (g1 : x4 ≤ (L : Int) - 6) {J : zJ} {K : zK} {Q : zR → Nat → zJ → zK → Prop} (hI : I J K) (hnx : ∀ J K, I J K → ∀ m, m ≤ 1 → zGo L xs (D + 1 + 1) 353 2542 [some (zr 1000000), some (zr 0), some (zr 142), some (zr 561), some (zi x4), none, none] [] J K (fun q e => Q q (e + m))) : zGo L xs (D + 1 + 1) 353 2025 [some (zr 1000000), some (zr 0), some (zr 142), some (zr 561), some (zi x4), none, none] [] J K Q := by
  refine z353_2025 hL ?_
  refine ⟨by omega, by omega, by omega, by omega, ?_⟩
  refine z323 hL ?_
  refine zCall_mono (h32 ((xs (x4 + 1).toNat).toInt) ((xs (x4 + 2).toNat).toInt) (zin_xs _) (zin_xs _) L xs D (D + 1) J K hL (by omega) (by omega) hI) ?_
  rintro r e J1 K1 (⟨v, rfl, rfl, hv, h2⟩ | ⟨E, cc, rfl, rfl, hz, hc0, hc1, h2⟩)
  · refine zaI_of ⟨by rcases hv with q | q <;> rw [q] <;> first | exact zin_0 | exact zin_1, fun q => ⟨by decide, by decide, zaW_of ?_⟩, fun q => ⟨by decide, by decide, zaW_of ?_⟩⟩
    · refine ⟨by omega, by omega, by omega, by omega, ?_⟩
      refine zCall_mono (h2 0) ?_
      rintro r2 e2 J2 K2 ⟨rfl, rfl, ht, hk, hI2⟩
      have q2 : v = 0 := q
      exact zaI_of (lt_bool hL (by omega) zin_0 (by rw [q2]; first | exact zin_0 | exact zin_1) ht (fun _ => ⟨by rw [hk, q2], hv⟩) (hnx J2 K2 hI2 0 (by omega)))
    · refine ⟨by omega, by omega, by omega, by omega, ?_⟩
      refine zCall_mono (h2 1) ?_
      rintro r2 e2 J2 K2 ⟨rfl, rfl, ht, hk, hI2⟩
      have q2 : v = 1 := by omega
      exact zaI_of (lt_bool hL (by omega) zin_0 (by rw [q2]; first | exact zin_0 | exact zin_1) ht (fun _ => ⟨by rw [hk, q2], hv⟩) (hnx J2 K2 hI2 0 (by omega)))
  · refine zaIE hz ?_
    refine zaW_of ?_
    refine ⟨by omega, by omega, by omega, by omega, ?_⟩
    refine zCall_mono h2 ?_
    rintro r2 e2 J2 K2 ⟨⟨v2, rfl, hv2⟩, rfl, ht, hI2⟩
    exact zaI_of (lt_bool hL (by omega) ⟨by omega, by omega⟩ hv2 ht (fun q => absurd q (by omega)) (hnx J2 K2 hI2 1 (by omega)))
set_option maxRecDepth 20000 in
theorem law_33 {I : zJ → zK → Prop} (h33 : OpD I 154 222 []) {L : Nat} {xs : Nat → Int32} (hL : L ≤ 3072) {D : Nat} (hD : 800 ≤ D) {x4 : Int} (g0 : 0 ≤ x4) (g1 : x4 ≤ (L : Int) - 6) {J : zJ} {K : zK} {Q : zR → Nat → zJ → zK → Prop} (hI : I J K) (hnx : ∀ J K, I J K → ∀ m, m ≤ 1 → zGo L xs (D + 1 + 1) 353 2542 [some (zr 1000000), some (zr 0), some (zr 142), some (zr 561), some (zi x4), none, none] [] J K (fun q e => Q q (e + m))) : zGo L xs (D + 1 + 1) 353 2100 [some (zr 1000000), some (zr 0), some (zr 142), some (zr 561), some (zi x4), none, none] [] J K Q := by
  refine z353_2100 hL ?_
  refine zCall_mono (h33   L xs (D + 1) J K hL (by omega) hI) ?_
  rintro r e J1 K1 ⟨v, rfl, rfl, hv, h2⟩
  refine zaI_of ?_
  refine zCall_mono h2 ?_
  rintro r2 e2 J2 K2 ⟨rfl, rfl, hI2⟩
  exact zaI_of ⟨hv, hv, fun _ => hnx J2 K2 hI2 0 (by omega), fun n => absurd rfl n⟩
set_option maxRecDepth 20000 in
theorem law_34 {I : zJ → zK → Prop} (h34 : OpD I 171 278 []) {L : Nat} {xs : Nat → Int32} (hL : L ≤ 3072) {D : Nat} (hD : 800 ≤ D) {x4 : Int} (g0 : 0 ≤ x4) (g1 : x4 ≤ (L : Int) - 6) {J : zJ} {K : zK} {Q : zR → Nat → zJ → zK → Prop} (hI : I J K) (hnx : ∀ J K, I J K → ∀ m, m ≤ 1 → zGo L xs (D + 1 + 1) 353 2542 [some (zr 1000000), some (zr 0), some (zr 142), some (zr 561), some (zi x4), none, none] [] J K (fun q e => Q q (e + m))) : zGo L xs (D + 1 + 1) 353 2113 [some (zr 1000000), some (zr 0), some (zr 142), some (zr 561), some (zi x4), none, none] [] J K Q := by
  refine z353_2113 hL ?_
  refine zCall_mono (h34   L xs (D + 1) J K hL (by omega) hI) ?_
  rintro r e J1 K1 ⟨v, rfl, rfl, hv, h2⟩
  refine zaI_of ?_
  refine zCall_mono h2 ?_
  rintro r2 e2 J2 K2 ⟨rfl, rfl, hI2⟩
  exact zaI_of ⟨hv, hv, fun _ => hnx J2 K2 hI2 0 (by omega), fun n => absurd rfl n⟩
set_option maxRecDepth 20000 in
theorem law_35 {I : zJ → zK → Prop} (h35 : ∀ a b : Int, zin a → zin b → OpW I 337 5 162 262 zin [zi a, zi b]) {L : Nat} {xs : Nat → Int32} (hL : L ≤ 3072) {D : Nat} (hD : 800 ≤ D) {x4 : Int} (g0 : 0 ≤ x4) (g1 : x4 ≤ (L : Int) - 6) {J : zJ} {K : zK} {Q : zR → Nat → zJ → zK → Prop} (hI : I J K) (hnx : ∀ J K, I J K → ∀ m, m ≤ 1 → zGo L xs (D + 1 + 1) 353 2542 [some (zr 1000000), some (zr 0), some (zr 142), some (zr 561), some (zi x4), none, none] [] J K (fun q e => Q q (e + m))) : zGo L xs (D + 1 + 1) 353 2126 [some (zr 1000000), some (zr 0), some (zr 142), some (zr 561), some (zi x4), none, none] [] J K Q := by
  refine z353_2126 hL ?_
  refine ⟨by omega, by omega, by omega, by omega, ?_⟩
  refine z337 hL ?_
  refine zCall_mono (h35 ((xs (x4 + 1).toNat).toInt) ((xs (x4 + 2).toNat).toInt) (zin_xs _) (zin_xs _) L xs D (D + 1) J K hL (by omega) (by omega) hI) ?_
  rintro r e J1 K1 (⟨v, rfl, rfl, hv, h2⟩ | ⟨E, cc, rfl, rfl, hz, hc0, hc1, h2⟩)
  · refine zaI_of ⟨hv, by decide, by decide, zaW_of ?_⟩
    refine ⟨by omega, by omega, by omega, by omega, ?_⟩
    refine zCall_mono (h2 v) ?_
    rintro r2 e2 J2 K2 ⟨rfl, rfl, ht, hk, hI2⟩
    exact zaI_of (lt_int hL (by omega) zin_0 hv ht (fun _ => hk) (hnx J2 K2 hI2 0 (by omega)))
  · refine zaIE hz ?_
    refine zaW_of ?_
    refine ⟨by omega, by omega, by omega, by omega, ?_⟩
    refine zCall_mono h2 ?_
    rintro r2 e2 J2 K2 ⟨⟨v2, rfl, hv2⟩, rfl, ht, hI2⟩
    exact zaI_of (lt_int hL (by omega) ⟨by omega, by omega⟩ hv2 ht (fun q => absurd q (by omega)) (hnx J2 K2 hI2 1 (by omega)))
set_option maxRecDepth 20000 in
theorem law_36 {I : zJ → zK → Prop} (h36 : ∀ a b : Int, zin a → zin b → OpW I 328 5 148 214 zin [zi a, zi b]) {L : Nat} {xs : Nat → Int32} (hL : L ≤ 3072) {D : Nat} (hD : 800 ≤ D) {x4 : Int} (g0 : 0 ≤ x4) (g1 : x4 ≤ (L : Int) - 6) {J : zJ} {K : zK} {Q : zR → Nat → zJ → zK → Prop} (hI : I J K) (hnx : ∀ J K, I J K → ∀ m, m ≤ 1 → zGo L xs (D + 1 + 1) 353 2542 [some (zr 1000000), some (zr 0), some (zr 142), some (zr 561), some (zi x4), none, none] [] J K (fun q e => Q q (e + m))) : zGo L xs (D + 1 + 1) 353 2194 [some (zr 1000000), some (zr 0), some (zr 142), some (zr 561), some (zi x4), none, none] [] J K Q := by
  refine z353_2194 hL ?_
  refine ⟨by omega, by omega, by omega, by omega, ?_⟩
  refine z328 hL ?_
  refine zCall_mono (h36 ((xs (x4 + 1).toNat).toInt) ((xs (x4 + 2).toNat).toInt) (zin_xs _) (zin_xs _) L xs D (D + 1) J K hL (by omega) (by omega) hI) ?_
  rintro r e J1 K1 (⟨v, rfl, rfl, hv, h2⟩ | ⟨E, cc, rfl, rfl, hz, hc0, hc1, h2⟩)
  · refine zaI_of ⟨hv, by decide, by decide, zaW_of ?_⟩
    refine ⟨by omega, by omega, by omega, by omega, ?_⟩
    refine zCall_mono (h2 v) ?_
    rintro r2 e2 J2 K2 ⟨rfl, rfl, ht, hk, hI2⟩
    exact zaI_of (lt_int hL (by omega) zin_0 hv ht (fun _ => hk) (hnx J2 K2 hI2 0 (by omega)))
  · refine zaIE hz ?_
    refine zaW_of ?_
    refine ⟨by omega, by omega, by omega, by omega, ?_⟩
    refine zCall_mono h2 ?_
    rintro r2 e2 J2 K2 ⟨⟨v2, rfl, hv2⟩, rfl, ht, hI2⟩
    exact zaI_of (lt_int hL (by omega) ⟨by omega, by omega⟩ hv2 ht (fun q => absurd q (by omega)) (hnx J2 K2 hI2 1 (by omega)))
set_option maxRecDepth 20000 in
theorem law_37 {I : zJ → zK → Prop} (h37 : ∀ a b : Int, zin a → zin b → OpW I 327 5 146 209 zin [zi a, zi b]) {L : Nat} {xs : Nat → Int32} (hL : L ≤ 3072) {D : Nat} (hD : 800 ≤ D) {x4 : Int} (g0 : 0 ≤ x4) (g1 : x4 ≤ (L : Int) - 6) {J : zJ} {K : zK} {Q : zR → Nat → zJ → zK → Prop} (hI : I J K) (hnx : ∀ J K, I J K → ∀ m, m ≤ 1 → zGo L xs (D + 1 + 1) 353 2542 [some (zr 1000000), some (zr 0), some (zr 142), some (zr 561), some (zi x4), none, none] [] J K (fun q e => Q q (e + m))) : zGo L xs (D + 1 + 1) 353 2262 [some (zr 1000000), some (zr 0), some (zr 142), some (zr 561), some (zi x4), none, none] [] J K Q := by
  refine z353_2262 hL ?_
  refine ⟨by omega, by omega, by omega, by omega, ?_⟩
  refine z327 hL ?_
  refine zCall_mono (h37 ((xs (x4 + 1).toNat).toInt) ((xs (x4 + 2).toNat).toInt) (zin_xs _) (zin_xs _) L xs D (D + 1) J K hL (by omega) (by omega) hI) ?_
  rintro r e J1 K1 (⟨v, rfl, rfl, hv, h2⟩ | ⟨E, cc, rfl, rfl, hz, hc0, hc1, h2⟩)
  · refine zaI_of ⟨hv, by decide, by decide, zaW_of ?_⟩
    refine ⟨by omega, by omega, by omega, by omega, ?_⟩
    refine zCall_mono (h2 v) ?_
    rintro r2 e2 J2 K2 ⟨rfl, rfl, ht, hk, hI2⟩
    exact zaI_of (lt_int hL (by omega) zin_0 hv ht (fun _ => hk) (hnx J2 K2 hI2 0 (by omega)))
  · refine zaIE hz ?_
    refine zaW_of ?_
    refine ⟨by omega, by omega, by omega, by omega, ?_⟩
    refine zCall_mono h2 ?_
    rintro r2 e2 J2 K2 ⟨⟨v2, rfl, hv2⟩, rfl, ht, hI2⟩
    exact zaI_of (lt_int hL (by omega) ⟨by omega, by omega⟩ hv2 ht (fun q => absurd q (by omega)) (hnx J2 K2 hI2 1 (by omega)))
set_option maxRecDepth 20000 in
theorem law_38 {I : zJ → zK → Prop} (h38 : ∀ a b : Int, zin a → zin b → OpW I 350 5 187 305 zin [zi a, zi b]) {L : Nat} {xs : Nat → Int32} (hL : L ≤ 3072) {D : Nat} (hD : 800 ≤ D) {x4 : Int} (g0 : 0 ≤ x4) (g1 : x4 ≤ (L : Int) - 6) {J : zJ} {K : zK} {Q : zR → Nat → zJ → zK → Prop} (hI : I J K) (hnx : ∀ J K, I J K → ∀ m, m ≤ 1 → zGo L xs (D + 1 + 1) 353 2542 [some (zr 1000000), some (zr 0), some (zr 142), some (zr 561), some (zi x4), none, none] [] J K (fun q e => Q q (e + m))) : zGo L xs (D + 1 + 1) 353 2330 [some (zr 1000000), some (zr 0), some (zr 142), some (zr 561), some (zi x4), none, none] [] J K Q := by
  refine z353_2330 hL ?_
  refine ⟨by omega, by omega, by omega, by omega, ?_⟩
  refine z350 hL ?_
  refine zCall_mono (h38 ((xs (x4 + 1).toNat).toInt) ((xs (x4 + 2).toNat).toInt) (zin_xs _) (zin_xs _) L xs D (D + 1) J K hL (by omega) (by omega) hI) ?_
  rintro r e J1 K1 (⟨v, rfl, rfl, hv, h2⟩ | ⟨E, cc, rfl, rfl, hz, hc0, hc1, h2⟩)
  · refine zaI_of ⟨hv, by decide, by decide, zaW_of ?_⟩
    refine ⟨by omega, by omega, by omega, by omega, ?_⟩
    refine zCall_mono (h2 v) ?_
    rintro r2 e2 J2 K2 ⟨rfl, rfl, ht, hk, hI2⟩
    exact zaI_of (lt_int hL (by omega) zin_0 hv ht (fun _ => hk) (hnx J2 K2 hI2 0 (by omega)))
  · refine zaIE hz ?_
    refine zaW_of ?_
    refine ⟨by omega, by omega, by omega, by omega, ?_⟩
    refine zCall_mono h2 ?_
    rintro r2 e2 J2 K2 ⟨⟨v2, rfl, hv2⟩, rfl, ht, hI2⟩
    exact zaI_of (lt_int hL (by omega) ⟨by omega, by omega⟩ hv2 ht (fun q => absurd q (by omega)) (hnx J2 K2 hI2 1 (by omega)))
set_option maxRecDepth 20000 in
theorem law_39 {I : zJ → zK → Prop} (h39 : ∀ a : Int, zin a → OpD I 147 212 [zi a]) {L : Nat} {xs : Nat → Int32} (hL : L ≤ 3072) {D : Nat} (hD : 800 ≤ D) {x4 : Int} (g0 : 0 ≤ x4) (g1 : x4 ≤ (L : Int) - 6) {J : zJ} {K : zK} {Q : zR → Nat → zJ → zK → Prop} (hI : I J K) (hnx : ∀ J K, I J K → ∀ m, m ≤ 1 → zGo L xs (D + 1 + 1) 353 2542 [some (zr 1000000), some (zr 0), some (zr 142), some (zr 561), some (zi x4), none, none] [] J K (fun q e => Q q (e + m))) : zGo L xs (D + 1 + 1) 353 2398 [some (zr 1000000), some (zr 0), some (zr 142), some (zr 561), some (zi x4), none, none] [] J K Q := by
  refine z353_2398 hL ?_
  refine ⟨by omega, by omega, ?_⟩
  refine zCall_mono (h39 ((xs (x4 + 1).toNat).toInt) (zin_xs _) L xs (D + 1) J K hL (by omega) hI) ?_
  rintro r e J1 K1 ⟨v, rfl, rfl, hv, h2⟩
  refine zaI_of ?_
  refine ⟨by omega, by omega, ?_⟩
  refine zCall_mono h2 ?_
  rintro r2 e2 J2 K2 ⟨rfl, rfl, hI2⟩
  exact zaI_of ⟨hv, hv, fun _ => hnx J2 K2 hI2 0 (by omega), fun n => absurd rfl n⟩
set_option maxRecDepth 20000 in
theorem law_40 {I : zJ → zK → Prop} (h40 : ∀ a b : Int, zin a → zin b → OpW I 343 5 178 287 zin [zi a, zi b]) {L : Nat} {xs : Nat → Int32} (hL : L ≤ 3072) {D : Nat} (hD : 800 ≤ D) {x4 : Int} (g0 : 0 ≤ x4) (g1 : x4 ≤ (L : Int) - 6) {J : zJ} {K : zK} {Q : zR → Nat → zJ → zK → Prop} (hI : I J K) (hnx : ∀ J K, I J K → ∀ m, m ≤ 1 → zGo L xs (D + 1 + 1) 353 2542 [some (zr 1000000), some (zr 0), some (zr 142), some (zr 561), some (zi x4), none, none] [] J K (fun q e => Q q (e + m))) : zGo L xs (D + 1 + 1) 353 2423 [some (zr 1000000), some (zr 0), some (zr 142), some (zr 561), some (zi x4), none, none] [] J K Q := by
  refine z353_2423 hL ?_
  refine ⟨by omega, by omega, by omega, by omega, ?_⟩
  refine z343 hL ?_
  refine zCall_mono (h40 ((xs (x4 + 1).toNat).toInt) ((xs (x4 + 2).toNat).toInt) (zin_xs _) (zin_xs _) L xs D (D + 1) J K hL (by omega) (by omega) hI) ?_
  rintro r e J1 K1 (⟨v, rfl, rfl, hv, h2⟩ | ⟨E, cc, rfl, rfl, hz, hc0, hc1, h2⟩)
  · refine zaI_of ⟨hv, by decide, by decide, zaW_of ?_⟩
    refine ⟨by omega, by omega, by omega, by omega, ?_⟩
    refine zCall_mono (h2 v) ?_
    rintro r2 e2 J2 K2 ⟨rfl, rfl, ht, hk, hI2⟩
    exact zaI_of (lt_int hL (by omega) zin_0 hv ht (fun _ => hk) (hnx J2 K2 hI2 0 (by omega)))
  · refine zaIE hz ?_
    refine zaW_of ?_
    refine ⟨by omega, by omega, by omega, by omega, ?_⟩
    refine zCall_mono h2 ?_
    rintro r2 e2 J2 K2 ⟨⟨v2, rfl, hv2⟩, rfl, ht, hI2⟩
    exact zaI_of (lt_int hL (by omega) ⟨by omega, by omega⟩ hv2 ht (fun q => absurd q (by omega)) (hnx J2 K2 hI2 1 (by omega)))
set_option maxRecDepth 20000 in
theorem law_41 {I : zJ → zK → Prop} (h41 : OpD I 159 239 []) {L : Nat} {xs : Nat → Int32} (hL : L ≤ 3072) {D : Nat} (hD : 800 ≤ D) {x4 : Int} (g0 : 0 ≤ x4) (g1 : x4 ≤ (L : Int) - 6) {J : zJ} {K : zK} {Q : zR → Nat → zJ → zK → Prop} (hI : I J K) (hnx : ∀ J K, I J K → ∀ m, m ≤ 1 → zGo L xs (D + 1 + 1) 353 2542 [some (zr 1000000), some (zr 0), some (zr 142), some (zr 561), some (zi x4), none, none] [] J K (fun q e => Q q (e + m))) : zGo L xs (D + 1 + 1) 353 2491 [some (zr 1000000), some (zr 0), some (zr 142), some (zr 561), some (zi x4), none, none] [] J K Q := by
  refine z353_2491 hL ?_
  refine zCall_mono (h41   L xs (D + 1) J K hL (by omega) hI) ?_
  rintro r e J1 K1 ⟨v, rfl, rfl, hv, h2⟩
  refine zaI_of ?_
  refine zCall_mono h2 ?_
  rintro r2 e2 J2 K2 ⟨rfl, rfl, hI2⟩
  exact zaI_of ⟨hv, hv, fun _ => hnx J2 K2 hI2 0 (by omega), fun n => absurd rfl n⟩
set_option maxRecDepth 20000 in
theorem law_42 {I : zJ → zK → Prop} (h42 : OpD I 175 282 []) {L : Nat} {xs : Nat → Int32} (hL : L ≤ 3072) {D : Nat} (hD : 800 ≤ D) {x4 : Int} (g0 : 0 ≤ x4) (g1 : x4 ≤ (L : Int) - 6) {J : zJ} {K : zK} {Q : zR → Nat → zJ → zK → Prop} (hI : I J K) (hnx : ∀ J K, I J K → ∀ m, m ≤ 1 → zGo L xs (D + 1 + 1) 353 2542 [some (zr 1000000), some (zr 0), some (zr 142), some (zr 561), some (zi x4), none, none] [] J K (fun q e => Q q (e + m))) : zGo L xs (D + 1 + 1) 353 2504 [some (zr 1000000), some (zr 0), some (zr 142), some (zr 561), some (zi x4), none, none] [] J K Q := by
  refine z353_2504 hL ?_
  refine zCall_mono (h42   L xs (D + 1) J K hL (by omega) hI) ?_
  rintro r e J1 K1 ⟨v, rfl, rfl, hv, h2⟩
  refine zaI_of ?_
  refine zCall_mono h2 ?_
  rintro r2 e2 J2 K2 ⟨rfl, rfl, hI2⟩
  exact zaI_of ⟨hv, hv, fun _ => hnx J2 K2 hI2 0 (by omega), fun n => absurd rfl n⟩
set_option maxRecDepth 20000 in
theorem law_43 {I : zJ → zK → Prop} (h43 : ∀ a : Int, zin a → OpD I 145 208 [zi a]) {L : Nat} {xs : Nat → Int32} (hL : L ≤ 3072) {D : Nat} (hD : 800 ≤ D) {x4 : Int} (g0 : 0 ≤ x4) (g1 : x4 ≤ (L : Int) - 6) {J : zJ} {K : zK} {Q : zR → Nat → zJ → zK → Prop} (hI : I J K) (hnx : ∀ J K, I J K → ∀ m, m ≤ 1 → zGo L xs (D + 1 + 1) 353 2542 [some (zr 1000000), some (zr 0), some (zr 142), some (zr 561), some (zi x4), none, none] [] J K (fun q e => Q q (e + m))) : zGo L xs (D + 1 + 1) 353 2517 [some (zr 1000000), some (zr 0), some (zr 142), some (zr 561), some (zi x4), none, none] [] J K Q := by
  refine z353_2517 hL ?_
  refine ⟨by omega, by omega, ?_⟩
  refine zCall_mono (h43 ((xs (x4 + 1).toNat).toInt) (zin_xs _) L xs (D + 1) J K hL (by omega) hI) ?_
  rintro r e J1 K1 ⟨v, rfl, rfl, hv, h2⟩
  refine zaI_of ?_
  refine ⟨by omega, by omega, ?_⟩
  refine zCall_mono h2 ?_
  rintro r2 e2 J2 K2 ⟨rfl, rfl, hI2⟩
  exact zaI_of ⟨hv, hv, fun _ => hnx J2 K2 hI2 0 (by omega), fun n => absurd rfl n⟩
theorem law_loop {I : zJ → zK → Prop} (h0 : ∀ a b c d e : Int, zin a → zin b → zin c → zin d → zin e → OpD I 153 221 [zi a, zi b, zi c, zi d, zi e]) (h1 : ∀ a : Int, zin a → OpW I 336 4 161 258 zin [zi a]) (h2 : OpD I 152 220 []) (h3 : ∀ a : Int, zin a → OpW I 347 4 184 299 zin [zi a]) (h4 : ∀ a b : Int, zin a → zin b → OpW I 349 5 186 303 zin [zi a, zi b]) (h5 : ∀ a : Int, zin a → OpW I 338 4 170 275 zin [zi a]) (h6 : ∀ a b : Int, zin a → zin b → OpW I 332 5 155 226 zin [zi a, zi b]) (h7 : ∀ a : Int, zin a → OpW I 348 4 185 301 zin [zi a]) (h8 : ∀ a b : Int, zin a → zin b → OpW I 339 5 172 280 zin [zi a, zi b]) (h9 : ∀ a : Int, zin a → OpW I 345 4 181 294 zin [zi a]) (h10 : ∀ a : Int, zin a → OpW I 326 4 144 207 zin [zi a]) (h11 : ∀ a b : Int, zin a → zin b → OpW I 341 5 176 284 zin [zi a, zi b]) (h12 : ∀ a : Int, zin a → OpW I 330 4 150 218 zin [zi a]) (h13 : ∀ a : Int, zin a → OpW I 329 4 149 217 zin [zi a]) (h14 : ∀ a : Int, zin a → OpW I 322 4 138 194 zin [zi a]) (h15 : ∀ a : Int, zin a → OpW I 351 4 188 308 zin [zi a]) (h16 : ∀ a : Int, zin a → OpW I 324 4 140 198 zin [zi a]) (h17 : OpD I 142 203 []) (h18 : OpD I 156 231 []) (h19 : ∀ a b : Int, zin a → (b = 0 ∨ b = 1) → OpW I 344 5 180 291 (fun v => v = 0 ∨ v = 1) [zi a, zi b]) (h20 : ∀ a b : Int, zin a → zin b → OpW I 331 5 151 219 zin [zi a, zi b]) (h21 : ∀ a b : Int, zin a → zin b → OpW I 334 5 158 238 zin [zi a, zi b]) (h22 : ∀ a b : Int, zin a → zin b → OpW I 340 5 174 281 zin [zi a, zi b]) (h23 : ∀ a : Int, zin a → OpW I 342 4 177 285 zin [zi a]) (h24 : ∀ a : Int, zin a → OpW I 333 4 157 235 zin [zi a]) (h25 : OpL I 163 266) (h26 : ∀ a : Int, zin a → OpW I 325 4 141 199 zin [zi a]) (h27 : OpD I 179 290 []) (h28 : ∀ a b c : Int, zin a → zin b → zin c → OpW I 346 7 182 295 zin [zi a, zi b, zi c]) (h29 : ∀ a : Int, zin a → OpW I 321 4 137 191 (fun v => v = 0 ∨ v = 1) [zi a]) (h30 : ∀ a b : Int, zin a → zin b → OpW I 352 5 189 313 zin [zi a, zi b]) (h31 : ∀ a b c d : Int, zin a → zin b → zin c → zin d → OpW I 335 9 160 254 zin [zi a, zi b, zi c, zi d]) (h32 : ∀ a b : Int, zin a → zin b → OpW I 323 5 139 197 (fun v => v = 0 ∨ v = 1) [zi a, zi b]) (h33 : OpD I 154 222 []) (h34 : OpD I 171 278 []) (h35 : ∀ a b : Int, zin a → zin b → OpW I 337 5 162 262 zin [zi a, zi b]) (h36 : ∀ a b : Int, zin a → zin b → OpW I 328 5 148 214 zin [zi a, zi b]) (h37 : ∀ a b : Int, zin a → zin b → OpW I 327 5 146 209 zin [zi a, zi b]) (h38 : ∀ a b : Int, zin a → zin b → OpW I 350 5 187 305 zin [zi a, zi b]) (h39 : ∀ a : Int, zin a → OpD I 147 212 [zi a]) (h40 : ∀ a b : Int, zin a → zin b → OpW I 343 5 178 287 zin [zi a, zi b]) (h41 : OpD I 159 239 []) (h42 : OpD I 175 282 []) (h43 : ∀ a : Int, zin a → OpD I 145 208 [zi a]) {L : Nat} {xs : Nat → Int32} (hL : L ≤ 3072) {D : Nat} (hD : 800 ≤ D) : ∀ (n : Nat) (x4 : Int) (J : zJ) (K : zK) (Q : zR → Nat → zJ → zK → Prop), n = ((L : Int) - x4).toNat → 0 ≤ x4 → x4 ≤ (L : Int) + 6 → I J K → (∀ e J K, e ≤ n → Q (.inl (some (zi 1))) e J K) → zGo L xs (D + 1 + 1) 353 23 [some (zr 1000000), some (zr 0), some (zr 142), some (zr 561), some (zi x4), none, none] [] J K Q := by
  intro n
  induction n using Nat.strongRecOn with
  | _ n ih =>
  intro x4 J K Q hn h00 h01 hI hQ
  have hnx : x4 ≤ (L : Int) - 6 → ∀ J K, I J K → ∀ m, m ≤ 1 → zGo L xs (D + 1 + 1) 353 2542 [some (zr 1000000), some (zr 0), some (zr 142), some (zr 561), some (zi x4), none, none] [] J K (fun q e => Q q (e + m)) := by
    intro hx J K hI m hm
    refine z353_2542 hL ?_
    exact ih _ (by omega) (x4 + 6) J K _ rfl (by omega) (by omega) hI (fun e J K he => hQ _ J K (by omega))
  have hz : zin (zand ((xs x4.toNat).toInt) 63) := zin_xs _
  refine z353_23 hL ?_
  refine ⟨⟨by omega, by omega⟩, ⟨by omega, by omega⟩, fun _ => ⟨Or.inr rfl, hQ 0 J K (by omega)⟩, fun hx => ⟨h00, by omega, hz, fun _ => hnx hx J K hI 0 (by omega), rfl, fun _ => law_0 h0 hL hD h00 hx hI (hnx hx), fun _ => law_1 h1 hL hD h00 hx hI (hnx hx), fun _ => law_2 h2 hL hD h00 hx hI (hnx hx), fun _ => law_3 h3 hL hD h00 hx hI (hnx hx), fun _ => law_4 h4 hL hD h00 hx hI (hnx hx), fun _ => law_5 h5 hL hD h00 hx hI (hnx hx), fun _ => law_6 h6 hL hD h00 hx hI (hnx hx), fun _ => law_7 h7 hL hD h00 hx hI (hnx hx), fun _ => law_8 h8 hL hD h00 hx hI (hnx hx), fun _ => law_9 h9 hL hD h00 hx hI (hnx hx), fun _ => law_10 h10 hL hD h00 hx hI (hnx hx), fun _ => law_11 h11 hL hD h00 hx hI (hnx hx), fun _ => law_12 h12 hL hD h00 hx hI (hnx hx), fun _ => law_13 h13 hL hD h00 hx hI (hnx hx), fun _ => law_14 h14 hL hD h00 hx hI (hnx hx), fun _ => law_15 h15 hL hD h00 hx hI (hnx hx), fun _ => law_16 h16 hL hD h00 hx hI (hnx hx), fun _ => law_17 h17 hL hD h00 hx hI (hnx hx), fun _ => law_18 h18 hL hD h00 hx hI (hnx hx), fun _ => law_19 h19 hL hD h00 hx hI (hnx hx), fun _ => law_20 h20 hL hD h00 hx hI (hnx hx), fun _ => law_21 h21 hL hD h00 hx hI (hnx hx), fun _ => law_22 h22 hL hD h00 hx hI (hnx hx), fun _ => law_23 h23 hL hD h00 hx hI (hnx hx), fun _ => law_24 h24 hL hD h00 hx hI (hnx hx), fun _ => law_25 h25 hL hD h00 hx hI (hnx hx), fun _ => law_26 h26 hL hD h00 hx hI (hnx hx), fun _ => law_27 h27 hL hD h00 hx hI (hnx hx), fun _ => law_28 h28 hL hD h00 hx hI (hnx hx), fun _ => law_29 h29 hL hD h00 hx hI (hnx hx), fun _ => law_30 h30 hL hD h00 hx hI (hnx hx), fun _ => law_31 h31 hL hD h00 hx hI (hnx hx), fun _ => law_32 h32 hL hD h00 hx hI (hnx hx), fun _ => law_33 h33 hL hD h00 hx hI (hnx hx), fun _ => law_34 h34 hL hD h00 hx hI (hnx hx), fun _ => law_35 h35 hL hD h00 hx hI (hnx hx), fun _ => law_36 h36 hL hD h00 hx hI (hnx hx), fun _ => law_37 h37 hL hD h00 hx hI (hnx hx), fun _ => law_38 h38 hL hD h00 hx hI (hnx hx), fun _ => law_39 h39 hL hD h00 hx hI (hnx hx), fun _ => law_40 h40 hL hD h00 hx hI (hnx hx), fun _ => law_41 h41 hL hD h00 hx hI (hnx hx), fun _ => law_42 h42 hL hD h00 hx hI (hnx hx), fun _ => law_43 h43 hL hD h00 hx hI (hnx hx), True.intro⟩⟩
