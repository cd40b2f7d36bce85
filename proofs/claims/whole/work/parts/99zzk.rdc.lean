/-! READING by the class: cells filled, the draft forgotten, all clauses (printed by tools/gen_rdc.py) -/
theorem cf42 {L : Nat} {xs : Nat → Int32} (hL : L ≤ 3072) {D : Nat} {J : zJ} {K : zK} {Q : zR → Nat → zJ → zK → Prop} {v : Int} (hD : 1 ≤ D) (hQ : ∀ J' : zJ, (∀ b : Nat, b ≠ 42 → J' b = J b) → (∀ i : Int, 0 ≤ i → i < 4 → J' 42 0 i = v) → Q (.inl none) 0 J' K) : zCall L xs D 315 [zr 42, zi v] J K Q := by
  obtain ⟨D, rfl⟩ : ∃ d, D = d + 1 := ⟨D - 1, by omega⟩
  refine z315b hL ?_
  have key : ∀ (n : Nat) (i : Int) (J1 : zJ), n = (4 - i).toNat → 0 ≤ i → i ≤ 4 → (∀ b : Nat, b ≠ 42 → J1 b = J b) → (∀ j : Int, 0 ≤ j → j < i → J1 42 0 j = v) → zGo L xs (D + 1) 315 5 [some (zr 42), some (zi v), some (zi i), some (zi 4)] [] J1 K Q := by
    intro n; induction n using Nat.strongRecOn with
  | _ n ih =>
    intro i J1 hm h0 h1 f g
    refine z315b_5 hL ⟨⟨by omega, by omega⟩, ⟨by omega, by omega⟩, fun q => hQ J1 f fun j a b => g j a (by omega), fun q => ⟨h0, by omega, ?_⟩⟩
    refine ih _ (by omega) (i + 1) _ rfl (by omega) (by omega) (fun b hb => by rw [zup_ne _ _ _ _ hb]; exact f b hb) fun j a b => ?_
    by_cases e : j = i
    · rw [e, zup_eq]
    · rw [zup_nk _ _ e]
      exact g j a (by omega)
  exact key _ 0 J rfl (by first | decide | simp) (by first | decide | simp) (fun _ _ => rfl) fun j a b => by omega
theorem cf44 {L : Nat} {xs : Nat → Int32} (hL : L ≤ 3072) {D : Nat} {J : zJ} {K : zK} {Q : zR → Nat → zJ → zK → Prop} {v : Int} (hD : 1 ≤ D) (hQ : ∀ J' : zJ, (∀ b : Nat, b ≠ 44 → J' b = J b) → (∀ i : Int, 0 ≤ i → i < 7 → J' 44 0 i = v) → Q (.inl none) 0 J' K) : zCall L xs D 315 [zr 44, zi v] J K Q := by
  obtain ⟨D, rfl⟩ : ∃ d, D = d + 1 := ⟨D - 1, by omega⟩
  refine z315c hL ?_
  have key : ∀ (n : Nat) (i : Int) (J1 : zJ), n = (7 - i).toNat → 0 ≤ i → i ≤ 7 → (∀ b : Nat, b ≠ 44 → J1 b = J b) → (∀ j : Int, 0 ≤ j → j < i → J1 44 0 j = v) → zGo L xs (D + 1) 315 5 [some (zr 44), some (zi v), some (zi i), some (zi 7)] [] J1 K Q := by
    intro n; induction n using Nat.strongRecOn with
  | _ n ih =>
    intro i J1 hm h0 h1 f g
    refine z315c_5 hL ⟨⟨by omega, by omega⟩, ⟨by omega, by omega⟩, fun q => hQ J1 f fun j a b => g j a (by omega), fun q => ⟨h0, by omega, ?_⟩⟩
    refine ih _ (by omega) (i + 1) _ rfl (by omega) (by omega) (fun b hb => by rw [zup_ne _ _ _ _ hb]; exact f b hb) fun j a b => ?_
    by_cases e : j = i
    · rw [e, zup_eq]
    · rw [zup_nk _ _ e]
      exact g j a (by omega)
  exact key _ 0 J rfl (by first | decide | simp) (by first | decide | simp) (fun _ _ => rfl) fun j a b => by omega
theorem cf49 {L : Nat} {xs : Nat → Int32} (hL : L ≤ 3072) {D : Nat} {J : zJ} {K : zK} {Q : zR → Nat → zJ → zK → Prop} {v : Int} (hD : 1 ≤ D) (hQ : ∀ J' : zJ, (∀ b : Nat, b ≠ 49 → J' b = J b) → (∀ i : Int, 0 ≤ i → i < 12 → J' 49 0 i = v) → Q (.inl none) 0 J' K) : zCall L xs D 315 [zr 49, zi v] J K Q := by
  obtain ⟨D, rfl⟩ : ∃ d, D = d + 1 := ⟨D - 1, by omega⟩
  refine z315d hL ?_
  have key : ∀ (n : Nat) (i : Int) (J1 : zJ), n = (12 - i).toNat → 0 ≤ i → i ≤ 12 → (∀ b : Nat, b ≠ 49 → J1 b = J b) → (∀ j : Int, 0 ≤ j → j < i → J1 49 0 j = v) → zGo L xs (D + 1) 315 5 [some (zr 49), some (zi v), some (zi i), some (zi 12)] [] J1 K Q := by
    intro n; induction n using Nat.strongRecOn with
  | _ n ih =>
    intro i J1 hm h0 h1 f g
    refine z315d_5 hL ⟨⟨by omega, by omega⟩, ⟨by omega, by omega⟩, fun q => hQ J1 f fun j a b => g j a (by omega), fun q => ⟨h0, by omega, ?_⟩⟩
    refine ih _ (by omega) (i + 1) _ rfl (by omega) (by omega) (fun b hb => by rw [zup_ne _ _ _ _ hb]; exact f b hb) fun j a b => ?_
    by_cases e : j = i
    · rw [e, zup_eq]
    · rw [zup_nk _ _ e]
      exact g j a (by omega)
  exact key _ 0 J rfl (by first | decide | simp) (by first | decide | simp) (fun _ _ => rfl) fun j a b => by omega
theorem cf50 {L : Nat} {xs : Nat → Int32} (hL : L ≤ 3072) {D : Nat} {J : zJ} {K : zK} {Q : zR → Nat → zJ → zK → Prop} {v : Int} (hD : 1 ≤ D) (hQ : ∀ J' : zJ, (∀ b : Nat, b ≠ 50 → J' b = J b) → (∀ i : Int, 0 ≤ i → i < 7 → J' 50 0 i = v) → Q (.inl none) 0 J' K) : zCall L xs D 315 [zr 50, zi v] J K Q := by
  obtain ⟨D, rfl⟩ : ∃ d, D = d + 1 := ⟨D - 1, by omega⟩
  refine z315e hL ?_
  have key : ∀ (n : Nat) (i : Int) (J1 : zJ), n = (7 - i).toNat → 0 ≤ i → i ≤ 7 → (∀ b : Nat, b ≠ 50 → J1 b = J b) → (∀ j : Int, 0 ≤ j → j < i → J1 50 0 j = v) → zGo L xs (D + 1) 315 5 [some (zr 50), some (zi v), some (zi i), some (zi 7)] [] J1 K Q := by
    intro n; induction n using Nat.strongRecOn with
  | _ n ih =>
    intro i J1 hm h0 h1 f g
    refine z315e_5 hL ⟨⟨by omega, by omega⟩, ⟨by omega, by omega⟩, fun q => hQ J1 f fun j a b => g j a (by omega), fun q => ⟨h0, by omega, ?_⟩⟩
    refine ih _ (by omega) (i + 1) _ rfl (by omega) (by omega) (fun b hb => by rw [zup_ne _ _ _ _ hb]; exact f b hb) fun j a b => ?_
    by_cases e : j = i
    · rw [e, zup_eq]
    · rw [zup_nk _ _ e]
      exact g j a (by omega)
  exact key _ 0 J rfl (by first | decide | simp) (by first | decide | simp) (fun _ _ => rfl) fun j a b => by omega
theorem cf51 {L : Nat} {xs : Nat → Int32} (hL : L ≤ 3072) {D : Nat} {J : zJ} {K : zK} {Q : zR → Nat → zJ → zK → Prop} {v : Int} (hD : 1 ≤ D) (hQ : ∀ J' : zJ, (∀ b : Nat, b ≠ 51 → J' b = J b) → (∀ i : Int, 0 ≤ i → i < 7 → J' 51 0 i = v) → Q (.inl none) 0 J' K) : zCall L xs D 315 [zr 51, zi v] J K Q := by
  obtain ⟨D, rfl⟩ : ∃ d, D = d + 1 := ⟨D - 1, by omega⟩
  refine z315f hL ?_
  have key : ∀ (n : Nat) (i : Int) (J1 : zJ), n = (7 - i).toNat → 0 ≤ i → i ≤ 7 → (∀ b : Nat, b ≠ 51 → J1 b = J b) → (∀ j : Int, 0 ≤ j → j < i → J1 51 0 j = v) → zGo L xs (D + 1) 315 5 [some (zr 51), some (zi v), some (zi i), some (zi 7)] [] J1 K Q := by
    intro n; induction n using Nat.strongRecOn with
  | _ n ih =>
    intro i J1 hm h0 h1 f g
    refine z315f_5 hL ⟨⟨by omega, by omega⟩, ⟨by omega, by omega⟩, fun q => hQ J1 f fun j a b => g j a (by omega), fun q => ⟨h0, by omega, ?_⟩⟩
    refine ih _ (by omega) (i + 1) _ rfl (by omega) (by omega) (fun b hb => by rw [zup_ne _ _ _ _ hb]; exact f b hb) fun j a b => ?_
    by_cases e : j = i
    · rw [e, zup_eq]
    · rw [zup_nk _ _ e]
      exact g j a (by omega)
  exact key _ 0 J rfl (by first | decide | simp) (by first | decide | simp) (fun _ _ => rfl) fun j a b => by omega
theorem cf7 {L : Nat} {xs : Nat → Int32} (hL : L ≤ 3072) {D : Nat} {J : zJ} {K : zK} {Q : zR → Nat → zJ → zK → Prop} {v : Int} (hD : 1 ≤ D) (hQ : ∀ J' : zJ, (∀ b : Nat, b ≠ 7 → J' b = J b) → (∀ i : Int, 0 ≤ i → i < 12 → J' 7 0 i = v) → Q (.inl none) 0 J' K) : zCall L xs D 315 [zr 7, zi v] J K Q := by
  obtain ⟨D, rfl⟩ : ∃ d, D = d + 1 := ⟨D - 1, by omega⟩
  refine z315k hL ?_
  have key : ∀ (n : Nat) (i : Int) (J1 : zJ), n = (12 - i).toNat → 0 ≤ i → i ≤ 12 → (∀ b : Nat, b ≠ 7 → J1 b = J b) → (∀ j : Int, 0 ≤ j → j < i → J1 7 0 j = v) → zGo L xs (D + 1) 315 5 [some (zr 7), some (zi v), some (zi i), some (zi 12)] [] J1 K Q := by
    intro n; induction n using Nat.strongRecOn with
  | _ n ih =>
    intro i J1 hm h0 h1 f g
    refine z315k_5 hL ⟨⟨by omega, by omega⟩, ⟨by omega, by omega⟩, fun q => hQ J1 f fun j a b => g j a (by omega), fun q => ⟨h0, by omega, ?_⟩⟩
    refine ih _ (by omega) (i + 1) _ rfl (by omega) (by omega) (fun b hb => by rw [zup_ne _ _ _ _ hb]; exact f b hb) fun j a b => ?_
    by_cases e : j = i
    · rw [e, zup_eq]
    · rw [zup_nk _ _ e]
      exact g j a (by omega)
  exact key _ 0 J rfl (by first | decide | simp) (by first | decide | simp) (fun _ _ => rfl) fun j a b => by omega
theorem cf8 {L : Nat} {xs : Nat → Int32} (hL : L ≤ 3072) {D : Nat} {J : zJ} {K : zK} {Q : zR → Nat → zJ → zK → Prop} {v : Int} (hD : 1 ≤ D) (hQ : ∀ J' : zJ, (∀ b : Nat, b ≠ 8 → J' b = J b) → (∀ i : Int, 0 ≤ i → i < 12 → J' 8 0 i = v) → Q (.inl none) 0 J' K) : zCall L xs D 315 [zr 8, zi v] J K Q := by
  obtain ⟨D, rfl⟩ : ∃ d, D = d + 1 := ⟨D - 1, by omega⟩
  refine z315l hL ?_
  have key : ∀ (n : Nat) (i : Int) (J1 : zJ), n = (12 - i).toNat → 0 ≤ i → i ≤ 12 → (∀ b : Nat, b ≠ 8 → J1 b = J b) → (∀ j : Int, 0 ≤ j → j < i → J1 8 0 j = v) → zGo L xs (D + 1) 315 5 [some (zr 8), some (zi v), some (zi i), some (zi 12)] [] J1 K Q := by
    intro n; induction n using Nat.strongRecOn with
  | _ n ih =>
    intro i J1 hm h0 h1 f g
    refine z315l_5 hL ⟨⟨by omega, by omega⟩, ⟨by omega, by omega⟩, fun q => hQ J1 f fun j a b => g j a (by omega), fun q => ⟨h0, by omega, ?_⟩⟩
    refine ih _ (by omega) (i + 1) _ rfl (by omega) (by omega) (fun b hb => by rw [zup_ne _ _ _ _ hb]; exact f b hb) fun j a b => ?_
    by_cases e : j = i
    · rw [e, zup_eq]
    · rw [zup_nk _ _ e]
      exact g j a (by omega)
  exact key _ 0 J rfl (by first | decide | simp) (by first | decide | simp) (fun _ _ => rfl) fun j a b => by omega
theorem cf11 {L : Nat} {xs : Nat → Int32} (hL : L ≤ 3072) {D : Nat} {J : zJ} {K : zK} {Q : zR → Nat → zJ → zK → Prop} {v : Int} (hD : 1 ≤ D) (hQ : ∀ J' : zJ, (∀ b : Nat, b ≠ 11 → J' b = J b) → (∀ i : Int, 0 ≤ i → i < 7 → J' 11 0 i = v) → Q (.inl none) 0 J' K) : zCall L xs D 315 [zr 11, zi v] J K Q := by
  obtain ⟨D, rfl⟩ : ∃ d, D = d + 1 := ⟨D - 1, by omega⟩
  refine z315m hL ?_
  have key : ∀ (n : Nat) (i : Int) (J1 : zJ), n = (7 - i).toNat → 0 ≤ i → i ≤ 7 → (∀ b : Nat, b ≠ 11 → J1 b = J b) → (∀ j : Int, 0 ≤ j → j < i → J1 11 0 j = v) → zGo L xs (D + 1) 315 5 [some (zr 11), some (zi v), some (zi i), some (zi 7)] [] J1 K Q := by
    intro n; induction n using Nat.strongRecOn with
  | _ n ih =>
    intro i J1 hm h0 h1 f g
    refine z315m_5 hL ⟨⟨by omega, by omega⟩, ⟨by omega, by omega⟩, fun q => hQ J1 f fun j a b => g j a (by omega), fun q => ⟨h0, by omega, ?_⟩⟩
    refine ih _ (by omega) (i + 1) _ rfl (by omega) (by omega) (fun b hb => by rw [zup_ne _ _ _ _ hb]; exact f b hb) fun j a b => ?_
    by_cases e : j = i
    · rw [e, zup_eq]
    · rw [zup_nk _ _ e]
      exact g j a (by omega)
  exact key _ 0 J rfl (by first | decide | simp) (by first | decide | simp) (fun _ _ => rfl) fun j a b => by omega
theorem cf12 {L : Nat} {xs : Nat → Int32} (hL : L ≤ 3072) {D : Nat} {J : zJ} {K : zK} {Q : zR → Nat → zJ → zK → Prop} {v : Int} (hD : 1 ≤ D) (hQ : ∀ J' : zJ, (∀ b : Nat, b ≠ 12 → J' b = J b) → (∀ i : Int, 0 ≤ i → i < 7 → J' 12 0 i = v) → Q (.inl none) 0 J' K) : zCall L xs D 315 [zr 12, zi v] J K Q := by
  obtain ⟨D, rfl⟩ : ∃ d, D = d + 1 := ⟨D - 1, by omega⟩
  refine z315n hL ?_
  have key : ∀ (n : Nat) (i : Int) (J1 : zJ), n = (7 - i).toNat → 0 ≤ i → i ≤ 7 → (∀ b : Nat, b ≠ 12 → J1 b = J b) → (∀ j : Int, 0 ≤ j → j < i → J1 12 0 j = v) → zGo L xs (D + 1) 315 5 [some (zr 12), some (zi v), some (zi i), some (zi 7)] [] J1 K Q := by
    intro n; induction n using Nat.strongRecOn with
  | _ n ih =>
    intro i J1 hm h0 h1 f g
    refine z315n_5 hL ⟨⟨by omega, by omega⟩, ⟨by omega, by omega⟩, fun q => hQ J1 f fun j a b => g j a (by omega), fun q => ⟨h0, by omega, ?_⟩⟩
    refine ih _ (by omega) (i + 1) _ rfl (by omega) (by omega) (fun b hb => by rw [zup_ne _ _ _ _ hb]; exact f b hb) fun j a b => ?_
    by_cases e : j = i
    · rw [e, zup_eq]
    · rw [zup_nk _ _ e]
      exact g j a (by omega)
  exact key _ 0 J rfl (by first | decide | simp) (by first | decide | simp) (fun _ _ => rfl) fun j a b => by omega
theorem c57 {L : Nat} {xs : Nat → Int32} (hL : L ≤ 3072) {D : Nat} {J : zJ} {K : zK} {Q : zR → Nat → zJ → zK → Prop} (hD : 2 ≤ D) (hQ : ∀ (J' d : zJ), (∀ b : Nat, b < 3 ∨ 17 < b → J' b = J b) → DC d J' → D0 d → Q (.inl none) 0 J' K) : zCall L xs D 57 [zr 3] J K Q := by
  obtain ⟨D, rfl⟩ : ∃ d, D = d + 1 := ⟨D - 1, by omega⟩
  refine z57 hL ?_
  refine cf7 hL (by omega) fun J1 f1 v1 => zaV_of ?_
  refine cf8 hL (by omega) fun J2 f2 v2 => zaV_of ?_
  refine cf11 hL (by omega) fun J3 f3 v3 => zaV_of ?_
  refine cf12 hL (by omega) fun J4 f4 v4 => zaV_of ?_
  have e3 : J4 3 = (zup (zup (zup (zup J 3 0 0 0) 3 0 6 0) 3 0 11 0) 3 0 14 0) 3 := (f4 3 (by first | decide | simp)).trans ((f3 3 (by first | decide | simp)).trans ((f2 3 (by first | decide | simp)).trans (f1 3 (by first | decide | simp))))
  refine hQ J4 (fun b => J4 (b - 15)) (fun b hb => ?_) (fun b _ _ => rfl) ⟨⟨?_, ?_, ?_, ?_⟩, fun p p0 p1 => ⟨?_, ?_⟩, fun k k0 k1 => ⟨?_, ?_⟩⟩
  · rw [f4 b (by omega), f3 b (by omega), f2 b (by omega), f1 b (by omega), zup_ne _ _ _ _ (by omega), zup_ne _ _ _ _ (by omega), zup_ne _ _ _ _ (by omega), zup_ne _ _ _ _ (by omega)]
  · show J4 3 0 0 = 0
    rw [e3, zup_nk _ _ (by first | decide | simp), zup_nk _ _ (by first | decide | simp), zup_nk _ _ (by first | decide | simp), zup_eq]
  · show J4 3 0 6 = 0
    rw [e3, zup_nk _ _ (by first | decide | simp), zup_nk _ _ (by first | decide | simp), zup_eq]
  · show J4 3 0 11 = 0
    rw [e3, zup_nk _ _ (by first | decide | simp), zup_eq]
  · show J4 3 0 14 = 0
    rw [e3, zup_eq]
  · show J4 7 0 p = 0
    rw [f4 7 (by first | decide | simp), f3 7 (by first | decide | simp), f2 7 (by first | decide | simp)]
    exact v1 p p0 p1
  · show J4 8 0 p = 0
    rw [f4 8 (by first | decide | simp), f3 8 (by first | decide | simp)]
    exact v2 p p0 p1
  · show J4 11 0 k = 0
    rw [f4 11 (by first | decide | simp)]
    exact v3 k k0 k1
  · show J4 12 0 k = 0
    exact v4 k k0 k1
theorem c89 {L : Nat} {xs : Nat → Int32} (hL : L ≤ 3072) {D : Nat} {J : zJ} {K : zK} {Q : zR → Nat → zJ → zK → Prop} {f : Int → Int} {N : Int} (hN : 0 ≤ N ∧ N ≤ 500) (hT : ∀ k : Int, 0 ≤ k → k < N → 0 ≤ f k ∧ f k < 256 ∧ J 1 0 k = sg (f k)) (hD : 17 ≤ D) (hQ : ∀ (J' d0 : zJ), D0 d0 → (∀ b : Nat, b < 2 ∨ 17 < b → J' b = J b) → RC f N (rdl f N d0).1 J' → ((rdl f N d0).1.2.1 = 0 → DC (rdl f N d0).2 J' ∧ WD (rdl f N d0).2) → Q (.inl (some (zi ((rdl f N d0).1.2.1)))) 0 J' K) : zCall L xs D 89 [zr 2, zi N] J K Q := by
  obtain ⟨D, rfl⟩ : ∃ d, D = d + 1 := ⟨D - 1, by omega⟩
  refine z89 hL ?_
  refine c57 hL (by omega) fun J1 d0 f1 hd1 h0 => zaV_of ?_
  have hq := fun J' => hQ J' d0 h0
  have f1b : ∀ b : Nat, b < 2 ∨ 17 < b → J1 b = J b := fun b hb => by
    rw [f1 b (by omega), zup_ne _ _ _ _ (by omega), zup_ne _ _ _ _ (by omega), zup_ne _ _ _ _ (by omega), zup_ne _ _ _ _ (by omega)]
  have e2 : J1 2 = (zup (zup (zup (zup J 2 0 2 N) 2 0 3 0) 2 0 5 0) 2 0 6 (-1)) 2 := f1 2 (by first | decide | simp)
  have n2 : J1 2 0 2 = N := by rw [e2, zup_nk _ _ (by first | decide | simp), zup_nk _ _ (by first | decide | simp), zup_nk _ _ (by first | decide | simp), zup_eq]
  have n3 : J1 2 0 3 = 0 := by rw [e2, zup_nk _ _ (by first | decide | simp), zup_nk _ _ (by first | decide | simp), zup_eq]
  have n5 : J1 2 0 5 = 0 := by rw [e2, zup_nk _ _ (by first | decide | simp), zup_eq]
  have n6 : J1 2 0 6 = -1 := by rw [e2, zup_eq]
  have hr1 : RC f N (0, 0, -1) J1 := ⟨⟨n2, hN, fun k k0 k1 => by rw [f1b 1 (by first | decide | simp)]; exact hT k k0 k1⟩, ⟨n5, n6⟩, fun _ => n3, by omega, ⟨by first | decide | simp, by first | decide | simp⟩, ⟨by first | decide | simp, by simp only; omega⟩⟩
  have key : ∀ (m : Nat) (c : Int) (t : Int × Int × Int) (d J2 : zJ), c + m = 41 → 1 ≤ c → (m = 0 → t.2.1 ≠ 0) → RC f N t J2 → (t.2.1 = 0 → DC d J2 ∧ WD d) → (∀ b : Nat, b < 2 ∨ 17 < b → J2 b = J b) → (∀ J' : zJ, (∀ b : Nat, b < 2 ∨ 17 < b → J' b = J b) → RC f N (lpR f N m c t d).1 J' → ((lpR f N m c t d).1.2.1 = 0 → DC (lpR f N m c t d).2 J' ∧ WD (lpR f N m c t d).2) → Q (.inl (some (zi ((lpR f N m c t d).1.2.1)))) 0 J' K) → zGo L xs (D + 1) 89 37 [some (zr 2), none, some (zi c)] [] J2 K Q := by
    intro m
    induction m with
    | zero =>
      intro c t d J2 hc c1 hm hr hdw fr hq
      have h5 := hr.2.1.1
      have hm := hm rfl
      have hf := hr.2.2.2.2.1
      refine z89_37 hL ⟨⟨by omega, by omega⟩, fun _ => ?_, fun z => absurd (h5.symm.trans z) hm⟩
      have := hq J2 fr hr (fun z => absurd z hm)
      rw [h5]
      exact this
    | succ m ih =>
      intro c t d J2 hc c1 hm hr hdw fr hq
      obtain ⟨hT2, ⟨h5, h6⟩, h3, hrr, hf, hp⟩ := id hr
      have hN2 := hT2.1
      by_cases q : t.2.1 = 0
      · obtain ⟨hd2, hw2⟩ := hdw q
        have e3 := h3 q
        by_cases q2 : t.1 < N
        · have el : lpR f N (m + 1) c t d = lpR f N m (c + 1) (skt f N (cst f N (decide (c = 40)) d t)) (csd f N (decide (c = 40)) d t) := by
            rw [lpR, if_pos ⟨q, q2⟩]
          rw [el] at hq
          have step : zCall L xs D 90 [zr 2, zi (zb (decide (c = 40)))] J2 K fun r1 e1 J1 K1 => zaV r1 e1 (zCall L xs D 101 [zr 2] J1 K1 fun r2 e2 J2 K2 => zaV r2 e2 (zGo L xs (D + 1) 89 37 [some (zr 2), none, some (zi (c + 1))] [] J2 K2 Q) (fun E => Q (.inr E) e2 J2 K2)) (fun E => Q (.inr E) e1 J1 K1) := by
            refine c90 hL hr q hd2 hw2 (by omega) fun J3 g3 hr3 hd3 => zaV_of ?_
            refine u101 hL hr3 (by omega) fun J4 g4 hr4 => zaV_of ?_
            refine ih (c + 1) _ _ J4 (by omega) (by omega) (fun z => ?_) hr4 (fun z => ?_) (fun b hb => (g4 b (by omega)).trans ((g3 b hb).trans (fr b hb))) hq
            · intro y
              have := (cl_wd hw2 (show (clT f N d (kdw f (skp isB f N t.1) (skp isL f N (skp isB f N t.1))) (wd1 f (decide (c = 40)) d (skp isB f N t.1) (skp isL f N (skp isB f N t.1)) t.2.2)).2.1 = 0 from y)).2.1
              rw [decide_eq_true (show c = 40 by omega), fll_t] at this
              exact absurd this (by first | decide | simp)
            · exact ⟨dc_fr (hd3 z) fun b b1 b2 => g4 b (by omega), (cl_wd hw2 z).2.2.2⟩
          refine z89_37 hL ⟨⟨by omega, by omega⟩, fun z => absurd (h5.trans q) z, fun _ => ⟨⟨by omega, by omega⟩, ⟨by omega, by omega⟩, fun z => by omega, fun _ => ⟨⟨by omega, by omega⟩, ⟨by first | decide | simp, by first | decide | simp⟩, fun z => by omega, fun _ => ⟨⟨by omega, by omega⟩, ⟨by first | decide | simp, by first | decide | simp⟩, fun z => ?_, fun z => ?_⟩⟩⟩⟩
          · rw [decide_eq_false z] at step
            exact step
          · rw [decide_eq_true z] at step
            exact step
        · have el : lpR f N (m + 1) c t d = (t, d) := by
            rw [lpR, if_neg (fun z => q2 z.2)]
          rw [el] at hq
          have fin := hq J2 fr hr hdw
          refine z89_37 hL ⟨⟨by omega, by omega⟩, fun z => absurd (h5.trans q) z, fun _ => ⟨⟨by omega, by omega⟩, ⟨by omega, by omega⟩, fun z => ?_, fun _ => by omega⟩⟩
          rw [h5]
          exact fin
      · have el : lpR f N (m + 1) c t d = (t, d) := by
          rw [lpR, if_neg (fun z => q z.1)]
        rw [el] at hq
        have fin := hq J2 fr hr hdw
        refine z89_37 hL ⟨⟨by omega, by omega⟩, fun z => ?_, fun z => absurd (h5.symm.trans z) q⟩
        rw [h5]
        exact fin
  refine c97 hL hr1 hd1 (by omega) fun J2 g2 hr2 hd2 => zaV_of ?_
  refine u101 hL hr2 (by omega) fun J3 g3 hr3 => zaV_of ?_
  refine key 40 1 _ (rtD f N d0) J3 rfl (by first | decide | simp) (fun z => absurd z (by first | decide | simp)) hr3 (fun z => ⟨dc_fr (hd2 z) fun b b1 b2 => g3 b (by omega), rt_wd h0 z⟩) (fun b hb => (g3 b (by omega)).trans ((g2 b hb).trans (f1b b hb))) hq
