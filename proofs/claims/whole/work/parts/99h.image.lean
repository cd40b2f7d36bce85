/-! IMAGES in the model -/
/-- the model's plan, in the order in which it is kept -/
def rd (J : zJ) (k : Int) : Int := if k = 0 then J 142 0 15 else if k = 1 then J 142 0 16 else if k < 6 then J 234 0 (k - 2) else if k < 10 then J 235 0 (k - 6) else if k < 22 then J 236 0 (k - 10) else if k < 34 then J 237 0 (k - 22) else if k < 42 then J 238 0 (k - 34) else if k < 50 then J 239 0 (k - 42) else if k < 82 then J 229 ((k - 50) / 8) ((k - 50) % 8) else J 240 ((k - 82) / 4) ((k - 82) % 4)
theorem rd_eq {J J' : zJ} (e15 : J' 142 0 15 = J 142 0 15) (e16 : J' 142 0 16 = J 142 0 16) (e : ∀ b : Nat, b = 229 ∨ (234 ≤ b ∧ b ≤ 240) → J' b = J b) (k : Int) : rd J' k = rd J k := by
  unfold rd
  rw [e15, e16, e 234 (by decide), e 235 (by decide), e 236 (by decide), e 237 (by decide), e 238 (by decide), e 239 (by decide), e 229 (by decide), e 240 (by decide)]
theorem rd_52 (J : zJ) (v k : Int) : rd (zup J 142 0 52 v) k = rd J k := rd_eq (zup_nk _ _ (by decide)) (zup_nk _ _ (by decide)) (fun b hb => zup_ne _ _ _ _ (by omega)) k
theorem rd_15 (J : zJ) (v k : Int) : rd (zup J 142 0 15 v) k = if k = 0 then v else rd J k := by
  unfold rd
  simp only [zup_at, Nat.reduceEqDiff, Int.reduceEq, eq_self, true_and, and_true, false_and, and_false, if_true, if_false]
  split <;> rfl
theorem rd_16 (J : zJ) (v k : Int) : rd (zup J 142 0 16 v) k = if k = 1 then v else rd J k := by
  unfold rd
  simp only [zup_at, Nat.reduceEqDiff, Int.reduceEq, eq_self, true_and, and_true, false_and, and_false, if_true, if_false]
  split
  · rw [if_neg (by omega)]
  · split <;> rfl
/-- being kept -/
def Kp (J0 : zJ) (x : Int) (J : zJ) (sp : Int) : Prop := (∀ b : Nat, b ≠ 142 → b ≠ 557 → J b = J0 b) ∧ (∀ k : Int, k ≠ 52 → J 142 0 k = J0 142 0 k) ∧ J 142 0 52 = sp ∧ (∀ y k : Int, y ≠ x → J 557 y k = J0 557 y k) ∧ ∀ k : Int, 0 ≤ k → k < sp → J 557 x k = rd J0 k
/-- being put back -/
def Rs (J0 : zJ) (x : Int) (J : zJ) (sp : Int) : Prop := (∀ b : Nat, b ≠ 142 → b < 229 ∨ (229 < b ∧ b < 234) ∨ 240 < b → J b = J0 b) ∧ (∀ k : Int, k ≠ 52 → k ≠ 15 → k ≠ 16 → J 142 0 k = J0 142 0 k) ∧ J 142 0 52 = sp ∧ ∀ k : Int, 0 ≤ k → k < sp → rd J k = J0 557 x k
theorem c269_0 {L : Nat} {xs : Nat → Int32} (hL : L ≤ 3072) {D : Nat} {J : zJ} {K : zK} {Q : zR → Nat → zJ → zK → Prop} {J0 : zJ} {x sp v : Int} (hK : Kp J0 x J sp) (x0 : 0 ≤ x) (x1 : x < 3) (s0 : 0 ≤ sp) (s1 : sp < 220) (hv : v = rd J0 sp) (hD : 1 ≤ D) (hQ : ∀ J' : zJ, Kp J0 x J' (sp + 1) → Q (.inl (some (zi (v)))) 0 J' K) : zCall L xs D 269 [zr 142, zi x, zi v, zi 0] J K Q := by
  obtain ⟨D, rfl⟩ : ∃ d, D = d + 1 := ⟨D - 1, by omega⟩
  obtain ⟨h1, h2, h3, h4, h5⟩ := hK
  have e : sp + 1 - 1 = sp := by omega
  refine z269 hL ⟨zin_0, fun q => absurd rfl q, fun _ => ?_⟩
  rw [h3, e, zup_eq]
  refine ⟨x0, x1, x0, x1, s0, s1, x0, x1, x0, x1, s0, s1, hQ _ ⟨fun b p q => ?_, fun k hk => ?_, zup_eq _ _ _ _ _, fun y k hy => ?_, fun k k0 k1 => ?_⟩⟩
  · rw [zup_ne _ _ _ _ p, zup_ne _ _ _ _ q]
    exact h1 b p q
  · rw [zup_nk _ _ hk, zup_ne _ _ _ _ (by decide)]
    exact h2 k hk
  · rw [zup_ne _ _ _ _ (by decide), zup_at, if_neg (fun z => hy z.2.1)]
    exact h4 y k hy
  · rw [zup_ne _ _ _ _ (by decide), zup_at]
    by_cases q : k = sp
    · rw [if_pos ⟨rfl, rfl, q⟩, hv, q]
    · rw [if_neg (fun z => q z.2.2)]
      exact h5 k k0 (by omega)
theorem c269_1 {L : Nat} {xs : Nat → Int32} (hL : L ≤ 3072) {D : Nat} {J : zJ} {K : zK} {Q : zR → Nat → zJ → zK → Prop} {J0 : zJ} {x sp v : Int} (hK : Rs J0 x J sp) (x0 : 0 ≤ x) (x1 : x < 3) (s0 : 0 ≤ sp) (s1 : sp < 220) (hD : 1 ≤ D) (hQ : Q (.inl (some (zi (J0 557 x sp)))) 0 (zup J 142 0 52 (sp + 1)) K) : zCall L xs D 269 [zr 142, zi x, zi v, zi 1] J K Q := by
  obtain ⟨D, rfl⟩ : ∃ d, D = d + 1 := ⟨D - 1, by omega⟩
  obtain ⟨h1, h2, h3, h4⟩ := hK
  have e : sp + 1 - 1 = sp := by omega
  refine z269 hL ⟨zin_1, fun _ => ?_, fun q => absurd q (by decide)⟩
  rw [h3, e, h1 557 (by decide) (by decide)]
  exact ⟨x0, x1, x0, x1, s0, s1, hQ⟩
theorem rdr234 (J : zJ) {i : Int} (i0 : 0 ≤ i) (i1 : i < 4) : rd J (2 + i) = J 234 0 i := by
  unfold rd
  have e1 : 2 + i - 2 = i := by omega
  rw [e1]
  repeat' split
  all_goals first | rfl | omega
theorem rdw234 (J : zJ) {i : Int} (i0 : 0 ≤ i) (i1 : i < 4) (v : Int) {k : Int} (k0 : 0 ≤ k) (k1 : k < 138) : rd (zup J 234 0 i v) k = if k = 2 + i then v else rd J k := by
  unfold rd
  simp only [zup_at, Nat.reduceEqDiff, eq_self, true_and, false_and, if_false]
  repeat' split
  all_goals first | rfl | omega
theorem c271_0 {L : Nat} {xs : Nat → Int32} (hL : L ≤ 3072) {D : Nat} {J : zJ} {K : zK} {Q : zR → Nat → zJ → zK → Prop} {J0 : zJ} {x : Int} (x0 : 0 ≤ x) (x1 : x < 3) (hK : Kp J0 x J (2)) (hD : 2 ≤ D) (hQ : ∀ J' : zJ, Kp J0 x J' (2 + 4) → Q (.inl none) 0 J' K) : zCall L xs D 271 [zr 142, zi x, zr 234, zi 0] J K Q := by
  obtain ⟨D, rfl⟩ : ∃ d, D = d + 1 := ⟨D - 1, by omega⟩
  refine z271 hL ?_
  have key : ∀ (n : Nat) (i : Int) (J1 : zJ), n = (4 - i).toNat → 0 ≤ i → i ≤ 4 → Kp J0 x J1 (2 + i) → zGo L xs (D + 1) 271 3 [some (zr 142), some (zi x), some (zr 234), some (zi 0), some (zi i)] [] J1 K Q := by
    intro n; induction n using Nat.strongRecOn with
    | _ n ih =>
    intro i J1 hm h0 h1 hK1
    refine z271_3 hL ?_
    by_cases hc : i < 4
    · have hr := rdr234 J0 h0 hc
      have e1 : J1 234 0 i = J0 234 0 i := by rw [hK1.1 234 (by decide) (by decide)]
      refine ⟨⟨by omega, by omega⟩, ⟨by omega, by omega⟩, fun _ => by omega, fun _ => ⟨by omega, by omega, ?_⟩⟩
      refine c269_0 hL hK1 x0 x1 (by omega) (by omega) (e1.trans hr.symm) (by omega) fun J2 hK2 => zaI_of ⟨by omega, by omega, ?_⟩
      rw [zup_self J2 234 0 i _ (by rw [e1, hK2.1 234 (by decide) (by decide)])]
      refine ih _ (by omega) (i + 1) J2 rfl (by omega) (by omega) ?_
      rw [Int.add_assoc] at hK2
      exact hK2
    · have e : i = 4 := by omega
      subst e
      exact ⟨⟨by omega, by omega⟩, ⟨by omega, by omega⟩, fun _ => hQ J1 hK1, fun q => by omega⟩
  refine key _ 0 J rfl (by decide) (by decide) ?_
  rw [Int.add_zero]
  exact hK
theorem c271_1 {L : Nat} {xs : Nat → Int32} (hL : L ≤ 3072) {D : Nat} {J : zJ} {K : zK} {Q : zR → Nat → zJ → zK → Prop} {J0 : zJ} {x : Int} (x0 : 0 ≤ x) (x1 : x < 3) (hK : Rs J0 x J (2)) (hD : 2 ≤ D) (hQ : ∀ J' : zJ, Rs J0 x J' (2 + 4) → Q (.inl none) 0 J' K) : zCall L xs D 271 [zr 142, zi x, zr 234, zi 1] J K Q := by
  obtain ⟨D, rfl⟩ : ∃ d, D = d + 1 := ⟨D - 1, by omega⟩
  refine z271 hL ?_
  have key : ∀ (n : Nat) (i : Int) (J1 : zJ), n = (4 - i).toNat → 0 ≤ i → i ≤ 4 → Rs J0 x J1 (2 + i) → zGo L xs (D + 1) 271 3 [some (zr 142), some (zi x), some (zr 234), some (zi 1), some (zi i)] [] J1 K Q := by
    intro n; induction n using Nat.strongRecOn with
    | _ n ih =>
    intro i J1 hm h0 h1 hK1
    refine z271_3 hL ?_
    by_cases hc : i < 4
    · refine ⟨⟨by omega, by omega⟩, ⟨by omega, by omega⟩, fun _ => by omega, fun _ => ⟨by omega, by omega, ?_⟩⟩
      refine c269_1 hL hK1 x0 x1 (by omega) (by omega) (by omega) (zaI_of ⟨by omega, by omega, ?_⟩)
      obtain ⟨k1, k2, k3, k4⟩ := hK1
      refine ih _ (by omega) (i + 1) _ rfl (by omega) (by omega) ⟨fun b p q => ?_, fun k q1 q2 q3 => ?_, ?_, fun k q1 q2 => ?_⟩
      · rw [zup_ne _ _ _ _ (by omega), zup_ne _ _ _ _ p]
        exact k1 b p q
      · rw [zup_ne _ _ _ _ (by decide), zup_nk _ _ q1]
        exact k2 k q1 q2 q3
      · rw [zup_ne _ _ _ _ (by decide), zup_eq, Int.add_assoc]
      · rw [rdw234 _ h0 hc _ q1 (by omega), rd_52]
        split
        · rename_i e
          rw [e]
        · exact k4 k q1 (by omega)
    · have e : i = 4 := by omega
      subst e
      exact ⟨⟨by omega, by omega⟩, ⟨by omega, by omega⟩, fun _ => hQ J1 hK1, fun q => by omega⟩
  refine key _ 0 J rfl (by decide) (by decide) ?_
  rw [Int.add_zero]
  exact hK
theorem rdr235 (J : zJ) {i : Int} (i0 : 0 ≤ i) (i1 : i < 4) : rd J (6 + i) = J 235 0 i := by
  unfold rd
  have e1 : 6 + i - 6 = i := by omega
  rw [e1]
  repeat' split
  all_goals first | rfl | omega
theorem rdw235 (J : zJ) {i : Int} (i0 : 0 ≤ i) (i1 : i < 4) (v : Int) {k : Int} (k0 : 0 ≤ k) (k1 : k < 138) : rd (zup J 235 0 i v) k = if k = 6 + i then v else rd J k := by
  unfold rd
  simp only [zup_at, Nat.reduceEqDiff, eq_self, true_and, false_and, if_false]
  repeat' split
  all_goals first | rfl | omega
theorem c271a_0 {L : Nat} {xs : Nat → Int32} (hL : L ≤ 3072) {D : Nat} {J : zJ} {K : zK} {Q : zR → Nat → zJ → zK → Prop} {J0 : zJ} {x : Int} (x0 : 0 ≤ x) (x1 : x < 3) (hK : Kp J0 x J (6)) (hD : 2 ≤ D) (hQ : ∀ J' : zJ, Kp J0 x J' (6 + 4) → Q (.inl none) 0 J' K) : zCall L xs D 271 [zr 142, zi x, zr 235, zi 0] J K Q := by
  obtain ⟨D, rfl⟩ : ∃ d, D = d + 1 := ⟨D - 1, by omega⟩
  refine z271a hL ?_
  have key : ∀ (n : Nat) (i : Int) (J1 : zJ), n = (4 - i).toNat → 0 ≤ i → i ≤ 4 → Kp J0 x J1 (6 + i) → zGo L xs (D + 1) 271 3 [some (zr 142), some (zi x), some (zr 235), some (zi 0), some (zi i)] [] J1 K Q := by
    intro n; induction n using Nat.strongRecOn with
    | _ n ih =>
    intro i J1 hm h0 h1 hK1
    refine z271a_3 hL ?_
    by_cases hc : i < 4
    · have hr := rdr235 J0 h0 hc
      have e1 : J1 235 0 i = J0 235 0 i := by rw [hK1.1 235 (by decide) (by decide)]
      refine ⟨⟨by omega, by omega⟩, ⟨by omega, by omega⟩, fun _ => by omega, fun _ => ⟨by omega, by omega, ?_⟩⟩
      refine c269_0 hL hK1 x0 x1 (by omega) (by omega) (e1.trans hr.symm) (by omega) fun J2 hK2 => zaI_of ⟨by omega, by omega, ?_⟩
      rw [zup_self J2 235 0 i _ (by rw [e1, hK2.1 235 (by decide) (by decide)])]
      refine ih _ (by omega) (i + 1) J2 rfl (by omega) (by omega) ?_
      rw [Int.add_assoc] at hK2
      exact hK2
    · have e : i = 4 := by omega
      subst e
      exact ⟨⟨by omega, by omega⟩, ⟨by omega, by omega⟩, fun _ => hQ J1 hK1, fun q => by omega⟩
  refine key _ 0 J rfl (by decide) (by decide) ?_
  rw [Int.add_zero]
  exact hK
theorem c271a_1 {L : Nat} {xs : Nat → Int32} (hL : L ≤ 3072) {D : Nat} {J : zJ} {K : zK} {Q : zR → Nat → zJ → zK → Prop} {J0 : zJ} {x : Int} (x0 : 0 ≤ x) (x1 : x < 3) (hK : Rs J0 x J (6)) (hD : 2 ≤ D) (hQ : ∀ J' : zJ, Rs J0 x J' (6 + 4) → Q (.inl none) 0 J' K) : zCall L xs D 271 [zr 142, zi x, zr 235, zi 1] J K Q := by
  obtain ⟨D, rfl⟩ : ∃ d, D = d + 1 := ⟨D - 1, by omega⟩
  refine z271a hL ?_
  have key : ∀ (n : Nat) (i : Int) (J1 : zJ), n = (4 - i).toNat → 0 ≤ i → i ≤ 4 → Rs J0 x J1 (6 + i) → zGo L xs (D + 1) 271 3 [some (zr 142), some (zi x), some (zr 235), some (zi 1), some (zi i)] [] J1 K Q := by
    intro n; induction n using Nat.strongRecOn with
    | _ n ih =>
    intro i J1 hm h0 h1 hK1
    refine z271a_3 hL ?_
    by_cases hc : i < 4
    · refine ⟨⟨by omega, by omega⟩, ⟨by omega, by omega⟩, fun _ => by omega, fun _ => ⟨by omega, by omega, ?_⟩⟩
      refine c269_1 hL hK1 x0 x1 (by omega) (by omega) (by omega) (zaI_of ⟨by omega, by omega, ?_⟩)
      obtain ⟨k1, k2, k3, k4⟩ := hK1
      refine ih _ (by omega) (i + 1) _ rfl (by omega) (by omega) ⟨fun b p q => ?_, fun k q1 q2 q3 => ?_, ?_, fun k q1 q2 => ?_⟩
      · rw [zup_ne _ _ _ _ (by omega), zup_ne _ _ _ _ p]
        exact k1 b p q
      · rw [zup_ne _ _ _ _ (by decide), zup_nk _ _ q1]
        exact k2 k q1 q2 q3
      · rw [zup_ne _ _ _ _ (by decide), zup_eq, Int.add_assoc]
      · rw [rdw235 _ h0 hc _ q1 (by omega), rd_52]
        split
        · rename_i e
          rw [e]
        · exact k4 k q1 (by omega)
    · have e : i = 4 := by omega
      subst e
      exact ⟨⟨by omega, by omega⟩, ⟨by omega, by omega⟩, fun _ => hQ J1 hK1, fun q => by omega⟩
  refine key _ 0 J rfl (by decide) (by decide) ?_
  rw [Int.add_zero]
  exact hK
theorem rdr236 (J : zJ) {i : Int} (i0 : 0 ≤ i) (i1 : i < 12) : rd J (10 + i) = J 236 0 i := by
  unfold rd
  have e1 : 10 + i - 10 = i := by omega
  rw [e1]
  repeat' split
  all_goals first | rfl | omega
theorem rdw236 (J : zJ) {i : Int} (i0 : 0 ≤ i) (i1 : i < 12) (v : Int) {k : Int} (k0 : 0 ≤ k) (k1 : k < 138) : rd (zup J 236 0 i v) k = if k = 10 + i then v else rd J k := by
  unfold rd
  simp only [zup_at, Nat.reduceEqDiff, eq_self, true_and, false_and, if_false]
  repeat' split
  all_goals first | rfl | omega
theorem c271b_0 {L : Nat} {xs : Nat → Int32} (hL : L ≤ 3072) {D : Nat} {J : zJ} {K : zK} {Q : zR → Nat → zJ → zK → Prop} {J0 : zJ} {x : Int} (x0 : 0 ≤ x) (x1 : x < 3) (hK : Kp J0 x J (10)) (hD : 2 ≤ D) (hQ : ∀ J' : zJ, Kp J0 x J' (10 + 12) → Q (.inl none) 0 J' K) : zCall L xs D 271 [zr 142, zi x, zr 236, zi 0] J K Q := by
  obtain ⟨D, rfl⟩ : ∃ d, D = d + 1 := ⟨D - 1, by omega⟩
  refine z271b hL ?_
  have key : ∀ (n : Nat) (i : Int) (J1 : zJ), n = (12 - i).toNat → 0 ≤ i → i ≤ 12 → Kp J0 x J1 (10 + i) → zGo L xs (D + 1) 271 3 [some (zr 142), some (zi x), some (zr 236), some (zi 0), some (zi i)] [] J1 K Q := by
    intro n; induction n using Nat.strongRecOn with
    | _ n ih =>
    intro i J1 hm h0 h1 hK1
    refine z271b_3 hL ?_
    by_cases hc : i < 12
    · have hr := rdr236 J0 h0 hc
      have e1 : J1 236 0 i = J0 236 0 i := by rw [hK1.1 236 (by decide) (by decide)]
      refine ⟨⟨by omega, by omega⟩, ⟨by omega, by omega⟩, fun _ => by omega, fun _ => ⟨by omega, by omega, ?_⟩⟩
      refine c269_0 hL hK1 x0 x1 (by omega) (by omega) (e1.trans hr.symm) (by omega) fun J2 hK2 => zaI_of ⟨by omega, by omega, ?_⟩
      rw [zup_self J2 236 0 i _ (by rw [e1, hK2.1 236 (by decide) (by decide)])]
      refine ih _ (by omega) (i + 1) J2 rfl (by omega) (by omega) ?_
      rw [Int.add_assoc] at hK2
      exact hK2
    · have e : i = 12 := by omega
      subst e
      exact ⟨⟨by omega, by omega⟩, ⟨by omega, by omega⟩, fun _ => hQ J1 hK1, fun q => by omega⟩
  refine key _ 0 J rfl (by decide) (by decide) ?_
  rw [Int.add_zero]
  exact hK
theorem c271b_1 {L : Nat} {xs : Nat → Int32} (hL : L ≤ 3072) {D : Nat} {J : zJ} {K : zK} {Q : zR → Nat → zJ → zK → Prop} {J0 : zJ} {x : Int} (x0 : 0 ≤ x) (x1 : x < 3) (hK : Rs J0 x J (10)) (hD : 2 ≤ D) (hQ : ∀ J' : zJ, Rs J0 x J' (10 + 12) → Q (.inl none) 0 J' K) : zCall L xs D 271 [zr 142, zi x, zr 236, zi 1] J K Q := by
  obtain ⟨D, rfl⟩ : ∃ d, D = d + 1 := ⟨D - 1, by omega⟩
  refine z271b hL ?_
  have key : ∀ (n : Nat) (i : Int) (J1 : zJ), n = (12 - i).toNat → 0 ≤ i → i ≤ 12 → Rs J0 x J1 (10 + i) → zGo L xs (D + 1) 271 3 [some (zr 142), some (zi x), some (zr 236), some (zi 1), some (zi i)] [] J1 K Q := by
    intro n; induction n using Nat.strongRecOn with
    | _ n ih =>
    intro i J1 hm h0 h1 hK1
    refine z271b_3 hL ?_
    by_cases hc : i < 12
    · refine ⟨⟨by omega, by omega⟩, ⟨by omega, by omega⟩, fun _ => by omega, fun _ => ⟨by omega, by omega, ?_⟩⟩
      refine c269_1 hL hK1 x0 x1 (by omega) (by omega) (by omega) (zaI_of ⟨by omega, by omega, ?_⟩)
      obtain ⟨k1, k2, k3, k4⟩ := hK1
      refine ih _ (by omega) (i + 1) _ rfl (by omega) (by omega) ⟨fun b p q => ?_, fun k q1 q2 q3 => ?_, ?_, fun k q1 q2 => ?_⟩
      · rw [zup_ne _ _ _ _ (by omega), zup_ne _ _ _ _ p]
        exact k1 b p q
      · rw [zup_ne _ _ _ _ (by decide), zup_nk _ _ q1]
        exact k2 k q1 q2 q3
      · rw [zup_ne _ _ _ _ (by decide), zup_eq, Int.add_assoc]
      · rw [rdw236 _ h0 hc _ q1 (by omega), rd_52]
        split
        · rename_i e
          rw [e]
        · exact k4 k q1 (by omega)
    · have e : i = 12 := by omega
      subst e
      exact ⟨⟨by omega, by omega⟩, ⟨by omega, by omega⟩, fun _ => hQ J1 hK1, fun q => by omega⟩
  refine key _ 0 J rfl (by decide) (by decide) ?_
  rw [Int.add_zero]
  exact hK
theorem rdr237 (J : zJ) {i : Int} (i0 : 0 ≤ i) (i1 : i < 12) : rd J (22 + i) = J 237 0 i := by
  unfold rd
  have e1 : 22 + i - 22 = i := by omega
  rw [e1]
  repeat' split
  all_goals first | rfl | omega
theorem rdw237 (J : zJ) {i : Int} (i0 : 0 ≤ i) (i1 : i < 12) (v : Int) {k : Int} (k0 : 0 ≤ k) (k1 : k < 138) : rd (zup J 237 0 i v) k = if k = 22 + i then v else rd J k := by
  unfold rd
  simp only [zup_at, Nat.reduceEqDiff, eq_self, true_and, false_and, if_false]
  repeat' split
  all_goals first | rfl | omega
theorem c271c_0 {L : Nat} {xs : Nat → Int32} (hL : L ≤ 3072) {D : Nat} {J : zJ} {K : zK} {Q : zR → Nat → zJ → zK → Prop} {J0 : zJ} {x : Int} (x0 : 0 ≤ x) (x1 : x < 3) (hK : Kp J0 x J (22)) (hD : 2 ≤ D) (hQ : ∀ J' : zJ, Kp J0 x J' (22 + 12) → Q (.inl none) 0 J' K) : zCall L xs D 271 [zr 142, zi x, zr 237, zi 0] J K Q := by
  obtain ⟨D, rfl⟩ : ∃ d, D = d + 1 := ⟨D - 1, by omega⟩
  refine z271c hL ?_
  have key : ∀ (n : Nat) (i : Int) (J1 : zJ), n = (12 - i).toNat → 0 ≤ i → i ≤ 12 → Kp J0 x J1 (22 + i) → zGo L xs (D + 1) 271 3 [some (zr 142), some (zi x), some (zr 237), some (zi 0), some (zi i)] [] J1 K Q := by
    intro n; induction n using Nat.strongRecOn with
    | _ n ih =>
    intro i J1 hm h0 h1 hK1
    refine z271c_3 hL ?_
    by_cases hc : i < 12
    · have hr := rdr237 J0 h0 hc
      have e1 : J1 237 0 i = J0 237 0 i := by rw [hK1.1 237 (by decide) (by decide)]
      refine ⟨⟨by omega, by omega⟩, ⟨by omega, by omega⟩, fun _ => by omega, fun _ => ⟨by omega, by omega, ?_⟩⟩
      refine c269_0 hL hK1 x0 x1 (by omega) (by omega) (e1.trans hr.symm) (by omega) fun J2 hK2 => zaI_of ⟨by omega, by omega, ?_⟩
      rw [zup_self J2 237 0 i _ (by rw [e1, hK2.1 237 (by decide) (by decide)])]
      refine ih _ (by omega) (i + 1) J2 rfl (by omega) (by omega) ?_
      rw [Int.add_assoc] at hK2
      exact hK2
    · have e : i = 12 := by omega
      subst e
      exact ⟨⟨by omega, by omega⟩, ⟨by omega, by omega⟩, fun _ => hQ J1 hK1, fun q => by omega⟩
  refine key _ 0 J rfl (by decide) (by decide) ?_
  rw [Int.add_zero]
  exact hK
theorem c271c_1 {L : Nat} {xs : Nat → Int32} (hL : L ≤ 3072) {D : Nat} {J : zJ} {K : zK} {Q : zR → Nat → zJ → zK → Prop} {J0 : zJ} {x : Int} (x0 : 0 ≤ x) (x1 : x < 3) (hK : Rs J0 x J (22)) (hD : 2 ≤ D) (hQ : ∀ J' : zJ, Rs J0 x J' (22 + 12) → Q (.inl none) 0 J' K) : zCall L xs D 271 [zr 142, zi x, zr 237, zi 1] J K Q := by
  obtain ⟨D, rfl⟩ : ∃ d, D = d + 1 := ⟨D - 1, by omega⟩
  refine z271c hL ?_
  have key : ∀ (n : Nat) (i : Int) (J1 : zJ), n = (12 - i).toNat → 0 ≤ i → i ≤ 12 → Rs J0 x J1 (22 + i) → zGo L xs (D + 1) 271 3 [some (zr 142), some (zi x), some (zr 237), some (zi 1), some (zi i)] [] J1 K Q := by
    intro n; induction n using Nat.strongRecOn with
    | _ n ih =>
    intro i J1 hm h0 h1 hK1
    refine z271c_3 hL ?_
    by_cases hc : i < 12
    · refine ⟨⟨by omega, by omega⟩, ⟨by omega, by omega⟩, fun _ => by omega, fun _ => ⟨by omega, by omega, ?_⟩⟩
      refine c269_1 hL hK1 x0 x1 (by omega) (by omega) (by omega) (zaI_of ⟨by omega, by omega, ?_⟩)
      obtain ⟨k1, k2, k3, k4⟩ := hK1
      refine ih _ (by omega) (i + 1) _ rfl (by omega) (by omega) ⟨fun b p q => ?_, fun k q1 q2 q3 => ?_, ?_, fun k q1 q2 => ?_⟩
      · rw [zup_ne _ _ _ _ (by omega), zup_ne _ _ _ _ p]
        exact k1 b p q
      · rw [zup_ne _ _ _ _ (by decide), zup_nk _ _ q1]
        exact k2 k q1 q2 q3
      · rw [zup_ne _ _ _ _ (by decide), zup_eq, Int.add_assoc]
      · rw [rdw237 _ h0 hc _ q1 (by omega), rd_52]
        split
        · rename_i e
          rw [e]
        · exact k4 k q1 (by omega)
    · have e : i = 12 := by omega
      subst e
      exact ⟨⟨by omega, by omega⟩, ⟨by omega, by omega⟩, fun _ => hQ J1 hK1, fun q => by omega⟩
  refine key _ 0 J rfl (by decide) (by decide) ?_
  rw [Int.add_zero]
  exact hK
theorem rdr238 (J : zJ) {i : Int} (i0 : 0 ≤ i) (i1 : i < 8) : rd J (34 + i) = J 238 0 i := by
  unfold rd
  have e1 : 34 + i - 34 = i := by omega
  rw [e1]
  repeat' split
  all_goals first | rfl | omega
theorem rdw238 (J : zJ) {i : Int} (i0 : 0 ≤ i) (i1 : i < 8) (v : Int) {k : Int} (k0 : 0 ≤ k) (k1 : k < 138) : rd (zup J 238 0 i v) k = if k = 34 + i then v else rd J k := by
  unfold rd
  simp only [zup_at, Nat.reduceEqDiff, eq_self, true_and, false_and, if_false]
  repeat' split
  all_goals first | rfl | omega
theorem c271d_0 {L : Nat} {xs : Nat → Int32} (hL : L ≤ 3072) {D : Nat} {J : zJ} {K : zK} {Q : zR → Nat → zJ → zK → Prop} {J0 : zJ} {x : Int} (x0 : 0 ≤ x) (x1 : x < 3) (hK : Kp J0 x J (34)) (hD : 2 ≤ D) (hQ : ∀ J' : zJ, Kp J0 x J' (34 + 8) → Q (.inl none) 0 J' K) : zCall L xs D 271 [zr 142, zi x, zr 238, zi 0] J K Q := by
  obtain ⟨D, rfl⟩ : ∃ d, D = d + 1 := ⟨D - 1, by omega⟩
  refine z271d hL ?_
  have key : ∀ (n : Nat) (i : Int) (J1 : zJ), n = (8 - i).toNat → 0 ≤ i → i ≤ 8 → Kp J0 x J1 (34 + i) → zGo L xs (D + 1) 271 3 [some (zr 142), some (zi x), some (zr 238), some (zi 0), some (zi i)] [] J1 K Q := by
    intro n; induction n using Nat.strongRecOn with
    | _ n ih =>
    intro i J1 hm h0 h1 hK1
    refine z271d_3 hL ?_
    by_cases hc : i < 8
    · have hr := rdr238 J0 h0 hc
      have e1 : J1 238 0 i = J0 238 0 i := by rw [hK1.1 238 (by decide) (by decide)]
      refine ⟨⟨by omega, by omega⟩, ⟨by omega, by omega⟩, fun _ => by omega, fun _ => ⟨by omega, by omega, ?_⟩⟩
      refine c269_0 hL hK1 x0 x1 (by omega) (by omega) (e1.trans hr.symm) (by omega) fun J2 hK2 => zaI_of ⟨by omega, by omega, ?_⟩
      rw [zup_self J2 238 0 i _ (by rw [e1, hK2.1 238 (by decide) (by decide)])]
      refine ih _ (by omega) (i + 1) J2 rfl (by omega) (by omega) ?_
      rw [Int.add_assoc] at hK2
      exact hK2
    · have e : i = 8 := by omega
      subst e
      exact ⟨⟨by omega, by omega⟩, ⟨by omega, by omega⟩, fun _ => hQ J1 hK1, fun q => by omega⟩
  refine key _ 0 J rfl (by decide) (by decide) ?_
  rw [Int.add_zero]
  exact hK
theorem c271d_1 {L : Nat} {xs : Nat → Int32} (hL : L ≤ 3072) {D : Nat} {J : zJ} {K : zK} {Q : zR → Nat → zJ → zK → Prop} {J0 : zJ} {x : Int} (x0 : 0 ≤ x) (x1 : x < 3) (hK : Rs J0 x J (34)) (hD : 2 ≤ D) (hQ : ∀ J' : zJ, Rs J0 x J' (34 + 8) → Q (.inl none) 0 J' K) : zCall L xs D 271 [zr 142, zi x, zr 238, zi 1] J K Q := by
  obtain ⟨D, rfl⟩ : ∃ d, D = d + 1 := ⟨D - 1, by omega⟩
  refine z271d hL ?_
  have key : ∀ (n : Nat) (i : Int) (J1 : zJ), n = (8 - i).toNat → 0 ≤ i → i ≤ 8 → Rs J0 x J1 (34 + i) → zGo L xs (D + 1) 271 3 [some (zr 142), some (zi x), some (zr 238), some (zi 1), some (zi i)] [] J1 K Q := by
    intro n; induction n using Nat.strongRecOn with
    | _ n ih =>
    intro i J1 hm h0 h1 hK1
    refine z271d_3 hL ?_
    by_cases hc : i < 8
    · refine ⟨⟨by omega, by omega⟩, ⟨by omega, by omega⟩, fun _ => by omega, fun _ => ⟨by omega, by omega, ?_⟩⟩
      refine c269_1 hL hK1 x0 x1 (by omega) (by omega) (by omega) (zaI_of ⟨by omega, by omega, ?_⟩)
      obtain ⟨k1, k2, k3, k4⟩ := hK1
      refine ih _ (by omega) (i + 1) _ rfl (by omega) (by omega) ⟨fun b p q => ?_, fun k q1 q2 q3 => ?_, ?_, fun k q1 q2 => ?_⟩
      · rw [zup_ne _ _ _ _ (by omega), zup_ne _ _ _ _ p]
        exact k1 b p q
      · rw [zup_ne _ _ _ _ (by decide), zup_nk _ _ q1]
        exact k2 k q1 q2 q3
      · rw [zup_ne _ _ _ _ (by decide), zup_eq, Int.add_assoc]
      · rw [rdw238 _ h0 hc _ q1 (by omega), rd_52]
        split
        · rename_i e
          rw [e]
        · exact k4 k q1 (by omega)
    · have e : i = 8 := by omega
      subst e
      exact ⟨⟨by omega, by omega⟩, ⟨by omega, by omega⟩, fun _ => hQ J1 hK1, fun q => by omega⟩
  refine key _ 0 J rfl (by decide) (by decide) ?_
  rw [Int.add_zero]
  exact hK
theorem rdr239 (J : zJ) {i : Int} (i0 : 0 ≤ i) (i1 : i < 8) : rd J (42 + i) = J 239 0 i := by
  unfold rd
  have e1 : 42 + i - 42 = i := by omega
  rw [e1]
  repeat' split
  all_goals first | rfl | omega
theorem rdw239 (J : zJ) {i : Int} (i0 : 0 ≤ i) (i1 : i < 8) (v : Int) {k : Int} (k0 : 0 ≤ k) (k1 : k < 138) : rd (zup J 239 0 i v) k = if k = 42 + i then v else rd J k := by
  unfold rd
  simp only [zup_at, Nat.reduceEqDiff, eq_self, true_and, false_and, if_false]
  repeat' split
  all_goals first | rfl | omega
theorem c271e_0 {L : Nat} {xs : Nat → Int32} (hL : L ≤ 3072) {D : Nat} {J : zJ} {K : zK} {Q : zR → Nat → zJ → zK → Prop} {J0 : zJ} {x : Int} (x0 : 0 ≤ x) (x1 : x < 3) (hK : Kp J0 x J (42)) (hD : 2 ≤ D) (hQ : ∀ J' : zJ, Kp J0 x J' (42 + 8) → Q (.inl none) 0 J' K) : zCall L xs D 271 [zr 142, zi x, zr 239, zi 0] J K Q := by
  obtain ⟨D, rfl⟩ : ∃ d, D = d + 1 := ⟨D - 1, by omega⟩
  refine z271e hL ?_
  have key : ∀ (n : Nat) (i : Int) (J1 : zJ), n = (8 - i).toNat → 0 ≤ i → i ≤ 8 → Kp J0 x J1 (42 + i) → zGo L xs (D + 1) 271 3 [some (zr 142), some (zi x), some (zr 239), some (zi 0), some (zi i)] [] J1 K Q := by
    intro n; induction n using Nat.strongRecOn with
    | _ n ih =>
    intro i J1 hm h0 h1 hK1
    refine z271e_3 hL ?_
    by_cases hc : i < 8
    · have hr := rdr239 J0 h0 hc
      have e1 : J1 239 0 i = J0 239 0 i := by rw [hK1.1 239 (by decide) (by decide)]
      refine ⟨⟨by omega, by omega⟩, ⟨by omega, by omega⟩, fun _ => by omega, fun _ => ⟨by omega, by omega, ?_⟩⟩
      refine c269_0 hL hK1 x0 x1 (by omega) (by omega) (e1.trans hr.symm) (by omega) fun J2 hK2 => zaI_of ⟨by omega, by omega, ?_⟩
      rw [zup_self J2 239 0 i _ (by rw [e1, hK2.1 239 (by decide) (by decide)])]
      refine ih _ (by omega) (i + 1) J2 rfl (by omega) (by omega) ?_
      rw [Int.add_assoc] at hK2
      exact hK2
    · have e : i = 8 := by omega
      subst e
      exact ⟨⟨by omega, by omega⟩, ⟨by omega, by omega⟩, fun _ => hQ J1 hK1, fun q => by omega⟩
  refine key _ 0 J rfl (by decide) (by decide) ?_
  rw [Int.add_zero]
  exact hK
theorem c271e_1 {L : Nat} {xs : Nat → Int32} (hL : L ≤ 3072) {D : Nat} {J : zJ} {K : zK} {Q : zR → Nat → zJ → zK → Prop} {J0 : zJ} {x : Int} (x0 : 0 ≤ x) (x1 : x < 3) (hK : Rs J0 x J (42)) (hD : 2 ≤ D) (hQ : ∀ J' : zJ, Rs J0 x J' (42 + 8) → Q (.inl none) 0 J' K) : zCall L xs D 271 [zr 142, zi x, zr 239, zi 1] J K Q := by
  obtain ⟨D, rfl⟩ : ∃ d, D = d + 1 := ⟨D - 1, by omega⟩
  refine z271e hL ?_
  have key : ∀ (n : Nat) (i : Int) (J1 : zJ), n = (8 - i).toNat → 0 ≤ i → i ≤ 8 → Rs J0 x J1 (42 + i) → zGo L xs (D + 1) 271 3 [some (zr 142), some (zi x), some (zr 239), some (zi 1), some (zi i)] [] J1 K Q := by
    intro n; induction n using Nat.strongRecOn with
    | _ n ih =>
    intro i J1 hm h0 h1 hK1
    refine z271e_3 hL ?_
    by_cases hc : i < 8
    · refine ⟨⟨by omega, by omega⟩, ⟨by omega, by omega⟩, fun _ => by omega, fun _ => ⟨by omega, by omega, ?_⟩⟩
      refine c269_1 hL hK1 x0 x1 (by omega) (by omega) (by omega) (zaI_of ⟨by omega, by omega, ?_⟩)
      obtain ⟨k1, k2, k3, k4⟩ := hK1
      refine ih _ (by omega) (i + 1) _ rfl (by omega) (by omega) ⟨fun b p q => ?_, fun k q1 q2 q3 => ?_, ?_, fun k q1 q2 => ?_⟩
      · rw [zup_ne _ _ _ _ (by omega), zup_ne _ _ _ _ p]
        exact k1 b p q
      · rw [zup_ne _ _ _ _ (by decide), zup_nk _ _ q1]
        exact k2 k q1 q2 q3
      · rw [zup_ne _ _ _ _ (by decide), zup_eq, Int.add_assoc]
      · rw [rdw239 _ h0 hc _ q1 (by omega), rd_52]
        split
        · rename_i e
          rw [e]
        · exact k4 k q1 (by omega)
    · have e : i = 8 := by omega
      subst e
      exact ⟨⟨by omega, by omega⟩, ⟨by omega, by omega⟩, fun _ => hQ J1 hK1, fun q => by omega⟩
  refine key _ 0 J rfl (by decide) (by decide) ?_
  rw [Int.add_zero]
  exact hK
theorem rdr229 (J : zJ) {t i : Int} (t0 : 0 ≤ t) (t1 : t < 4) (i0 : 0 ≤ i) (i1 : i < 8) : rd J (50 + 8 * t + i) = J 229 t i := by
  unfold rd
  have e1 : (50 + 8 * t + i - 50) / 8 = t := by omega
  have e2 : (50 + 8 * t + i - 50) % 8 = i := by omega
  rw [e1, e2]
  repeat' split
  all_goals first | rfl | omega
theorem rdw229 (J : zJ) {t i : Int} (t0 : 0 ≤ t) (t1 : t < 4) (i0 : 0 ≤ i) (i1 : i < 8) (v : Int) {k : Int} (k0 : 0 ≤ k) (k1 : k < 138) : rd (zup J 229 t i v) k = if k = 50 + 8 * t + i then v else rd J k := by
  unfold rd
  simp only [zup_at, Nat.reduceEqDiff, eq_self, true_and, false_and, if_false]
  repeat' split
  all_goals first | rfl | omega
theorem c271f_0 {L : Nat} {xs : Nat → Int32} (hL : L ≤ 3072) {D : Nat} {J : zJ} {K : zK} {Q : zR → Nat → zJ → zK → Prop} {J0 : zJ} {x t : Int} (t0 : 0 ≤ t) (t1 : t < 4) (x0 : 0 ≤ x) (x1 : x < 3) (hK : Kp J0 x J (50 + 8 * t)) (hD : 2 ≤ D) (hQ : ∀ J' : zJ, Kp J0 x J' (50 + 8 * t + 8) → Q (.inl none) 0 J' K) : zCall L xs D 271 [zr 142, zi x, zw 229 t, zi 0] J K Q := by
  obtain ⟨D, rfl⟩ : ∃ d, D = d + 1 := ⟨D - 1, by omega⟩
  refine z271f hL ?_
  have key : ∀ (n : Nat) (i : Int) (J1 : zJ), n = (8 - i).toNat → 0 ≤ i → i ≤ 8 → Kp J0 x J1 (50 + 8 * t + i) → zGo L xs (D + 1) 271 3 [some (zr 142), some (zi x), some (zw 229 t), some (zi 0), some (zi i)] [] J1 K Q := by
    intro n; induction n using Nat.strongRecOn with
    | _ n ih =>
    intro i J1 hm h0 h1 hK1
    refine z271f_3 hL ?_
    by_cases hc : i < 8
    · have hr := rdr229 J0 t0 t1 h0 hc
      have e1 : J1 229 t i = J0 229 t i := by rw [hK1.1 229 (by decide) (by decide)]
      refine ⟨by omega, by omega, ⟨by omega, by omega⟩, ⟨by omega, by omega⟩, fun _ => by omega, fun _ => ⟨by omega, by omega, by omega, by omega, ?_⟩⟩
      refine c269_0 hL hK1 x0 x1 (by omega) (by omega) (e1.trans hr.symm) (by omega) fun J2 hK2 => zaI_of ⟨by omega, by omega, by omega, by omega, ?_⟩
      rw [zup_self J2 229 t i _ (by rw [e1, hK2.1 229 (by decide) (by decide)])]
      refine ih _ (by omega) (i + 1) J2 rfl (by omega) (by omega) ?_
      rw [Int.add_assoc] at hK2
      exact hK2
    · have e : i = 8 := by omega
      subst e
      exact ⟨by omega, by omega, ⟨by omega, by omega⟩, ⟨by omega, by omega⟩, fun _ => hQ J1 hK1, fun q => by omega⟩
  refine key _ 0 J rfl (by decide) (by decide) ?_
  rw [Int.add_zero]
  exact hK
theorem c271f_1 {L : Nat} {xs : Nat → Int32} (hL : L ≤ 3072) {D : Nat} {J : zJ} {K : zK} {Q : zR → Nat → zJ → zK → Prop} {J0 : zJ} {x t : Int} (t0 : 0 ≤ t) (t1 : t < 4) (x0 : 0 ≤ x) (x1 : x < 3) (hK : Rs J0 x J (50 + 8 * t)) (hD : 2 ≤ D) (hQ : ∀ J' : zJ, Rs J0 x J' (50 + 8 * t + 8) → Q (.inl none) 0 J' K) : zCall L xs D 271 [zr 142, zi x, zw 229 t, zi 1] J K Q := by
  obtain ⟨D, rfl⟩ : ∃ d, D = d + 1 := ⟨D - 1, by omega⟩
  refine z271f hL ?_
  have key : ∀ (n : Nat) (i : Int) (J1 : zJ), n = (8 - i).toNat → 0 ≤ i → i ≤ 8 → Rs J0 x J1 (50 + 8 * t + i) → zGo L xs (D + 1) 271 3 [some (zr 142), some (zi x), some (zw 229 t), some (zi 1), some (zi i)] [] J1 K Q := by
    intro n; induction n using Nat.strongRecOn with
    | _ n ih =>
    intro i J1 hm h0 h1 hK1
    refine z271f_3 hL ?_
    by_cases hc : i < 8
    · refine ⟨by omega, by omega, ⟨by omega, by omega⟩, ⟨by omega, by omega⟩, fun _ => by omega, fun _ => ⟨by omega, by omega, by omega, by omega, ?_⟩⟩
      refine c269_1 hL hK1 x0 x1 (by omega) (by omega) (by omega) (zaI_of ⟨by omega, by omega, by omega, by omega, ?_⟩)
      obtain ⟨k1, k2, k3, k4⟩ := hK1
      refine ih _ (by omega) (i + 1) _ rfl (by omega) (by omega) ⟨fun b p q => ?_, fun k q1 q2 q3 => ?_, ?_, fun k q1 q2 => ?_⟩
      · rw [zup_ne _ _ _ _ (by omega), zup_ne _ _ _ _ p]
        exact k1 b p q
      · rw [zup_ne _ _ _ _ (by decide), zup_nk _ _ q1]
        exact k2 k q1 q2 q3
      · rw [zup_ne _ _ _ _ (by decide), zup_eq, Int.add_assoc]
      · rw [rdw229 _ t0 t1 h0 hc _ q1 (by omega), rd_52]
        split
        · rename_i e
          rw [e]
        · exact k4 k q1 (by omega)
    · have e : i = 8 := by omega
      subst e
      exact ⟨by omega, by omega, ⟨by omega, by omega⟩, ⟨by omega, by omega⟩, fun _ => hQ J1 hK1, fun q => by omega⟩
  refine key _ 0 J rfl (by decide) (by decide) ?_
  rw [Int.add_zero]
  exact hK
theorem rdr240 (J : zJ) {t i : Int} (t0 : 0 ≤ t) (t1 : t < 14) (i0 : 0 ≤ i) (i1 : i < 4) : rd J (82 + 4 * t + i) = J 240 t i := by
  unfold rd
  have e1 : (82 + 4 * t + i - 82) / 4 = t := by omega
  have e2 : (82 + 4 * t + i - 82) % 4 = i := by omega
  rw [e1, e2]
  repeat' split
  all_goals first | rfl | omega
theorem rdw240 (J : zJ) {t i : Int} (t0 : 0 ≤ t) (t1 : t < 14) (i0 : 0 ≤ i) (i1 : i < 4) (v : Int) {k : Int} (k0 : 0 ≤ k) (k1 : k < 138) : rd (zup J 240 t i v) k = if k = 82 + 4 * t + i then v else rd J k := by
  unfold rd
  simp only [zup_at, Nat.reduceEqDiff, eq_self, true_and, false_and, if_false]
  repeat' split
  all_goals first | rfl | omega
theorem c271g_0 {L : Nat} {xs : Nat → Int32} (hL : L ≤ 3072) {D : Nat} {J : zJ} {K : zK} {Q : zR → Nat → zJ → zK → Prop} {J0 : zJ} {x t : Int} (t0 : 0 ≤ t) (t1 : t < 14) (x0 : 0 ≤ x) (x1 : x < 3) (hK : Kp J0 x J (82 + 4 * t)) (hD : 2 ≤ D) (hQ : ∀ J' : zJ, Kp J0 x J' (82 + 4 * t + 4) → Q (.inl none) 0 J' K) : zCall L xs D 271 [zr 142, zi x, zw 240 t, zi 0] J K Q := by
  obtain ⟨D, rfl⟩ : ∃ d, D = d + 1 := ⟨D - 1, by omega⟩
  refine z271g hL ?_
  have key : ∀ (n : Nat) (i : Int) (J1 : zJ), n = (4 - i).toNat → 0 ≤ i → i ≤ 4 → Kp J0 x J1 (82 + 4 * t + i) → zGo L xs (D + 1) 271 3 [some (zr 142), some (zi x), some (zw 240 t), some (zi 0), some (zi i)] [] J1 K Q := by
    intro n; induction n using Nat.strongRecOn with
    | _ n ih =>
    intro i J1 hm h0 h1 hK1
    refine z271g_3 hL ?_
    by_cases hc : i < 4
    · have hr := rdr240 J0 t0 t1 h0 hc
      have e1 : J1 240 t i = J0 240 t i := by rw [hK1.1 240 (by decide) (by decide)]
      refine ⟨by omega, by omega, ⟨by omega, by omega⟩, ⟨by omega, by omega⟩, fun _ => by omega, fun _ => ⟨by omega, by omega, by omega, by omega, ?_⟩⟩
      refine c269_0 hL hK1 x0 x1 (by omega) (by omega) (e1.trans hr.symm) (by omega) fun J2 hK2 => zaI_of ⟨by omega, by omega, by omega, by omega, ?_⟩
      rw [zup_self J2 240 t i _ (by rw [e1, hK2.1 240 (by decide) (by decide)])]
      refine ih _ (by omega) (i + 1) J2 rfl (by omega) (by omega) ?_
      rw [Int.add_assoc] at hK2
      exact hK2
    · have e : i = 4 := by omega
      subst e
      exact ⟨by omega, by omega, ⟨by omega, by omega⟩, ⟨by omega, by omega⟩, fun _ => hQ J1 hK1, fun q => by omega⟩
  refine key _ 0 J rfl (by decide) (by decide) ?_
  rw [Int.add_zero]
  exact hK
theorem c271g_1 {L : Nat} {xs : Nat → Int32} (hL : L ≤ 3072) {D : Nat} {J : zJ} {K : zK} {Q : zR → Nat → zJ → zK → Prop} {J0 : zJ} {x t : Int} (t0 : 0 ≤ t) (t1 : t < 14) (x0 : 0 ≤ x) (x1 : x < 3) (hK : Rs J0 x J (82 + 4 * t)) (hD : 2 ≤ D) (hQ : ∀ J' : zJ, Rs J0 x J' (82 + 4 * t + 4) → Q (.inl none) 0 J' K) : zCall L xs D 271 [zr 142, zi x, zw 240 t, zi 1] J K Q := by
  obtain ⟨D, rfl⟩ : ∃ d, D = d + 1 := ⟨D - 1, by omega⟩
  refine z271g hL ?_
  have key : ∀ (n : Nat) (i : Int) (J1 : zJ), n = (4 - i).toNat → 0 ≤ i → i ≤ 4 → Rs J0 x J1 (82 + 4 * t + i) → zGo L xs (D + 1) 271 3 [some (zr 142), some (zi x), some (zw 240 t), some (zi 1), some (zi i)] [] J1 K Q := by
    intro n; induction n using Nat.strongRecOn with
    | _ n ih =>
    intro i J1 hm h0 h1 hK1
    refine z271g_3 hL ?_
    by_cases hc : i < 4
    · refine ⟨by omega, by omega, ⟨by omega, by omega⟩, ⟨by omega, by omega⟩, fun _ => by omega, fun _ => ⟨by omega, by omega, by omega, by omega, ?_⟩⟩
      refine c269_1 hL hK1 x0 x1 (by omega) (by omega) (by omega) (zaI_of ⟨by omega, by omega, by omega, by omega, ?_⟩)
      obtain ⟨k1, k2, k3, k4⟩ := hK1
      refine ih _ (by omega) (i + 1) _ rfl (by omega) (by omega) ⟨fun b p q => ?_, fun k q1 q2 q3 => ?_, ?_, fun k q1 q2 => ?_⟩
      · rw [zup_ne _ _ _ _ (by omega), zup_ne _ _ _ _ p]
        exact k1 b p q
      · rw [zup_ne _ _ _ _ (by decide), zup_nk _ _ q1]
        exact k2 k q1 q2 q3
      · rw [zup_ne _ _ _ _ (by decide), zup_eq, Int.add_assoc]
      · rw [rdw240 _ t0 t1 h0 hc _ q1 (by omega), rd_52]
        split
        · rename_i e
          rw [e]
        · exact k4 k q1 (by omega)
    · have e : i = 4 := by omega
      subst e
      exact ⟨by omega, by omega, ⟨by omega, by omega⟩, ⟨by omega, by omega⟩, fun _ => hQ J1 hK1, fun q => by omega⟩
  refine key _ 0 J rfl (by decide) (by decide) ?_
  rw [Int.add_zero]
  exact hK
