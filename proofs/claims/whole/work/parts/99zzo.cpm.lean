/-! THE MODEL takes the draft over (printed by tools/gen_cpm.py) -/
theorem cp144 {L : Nat} {xs : Nat → Int32} (hL : L ≤ 3072) {D : Nat} {J : zJ} {K : zK} {Q : zR → Nat → zJ → zK → Prop} (hQ : ∀ J' : zJ, (∀ b : Nat, b ≠ 144 → J' b = J b) → (∀ k : Int, 0 ≤ k → k < 4 → J' 144 0 k = J 144 0 (4 + k)) → zGo L xs (D + 1) 258 146 [some (zr 142), none, some (zi 0), none] [] J' K Q) : zGo L xs (D + 1) 258 119 [some (zr 142), none, some (zi 0), none] [] J K Q := by
  have key : ∀ (n : Nat) (i : Int) (J1 : zJ), n = (4 - i).toNat → 0 ≤ i → i ≤ 4 → (∀ b : Nat, b ≠ 144 → J1 b = J b) → (∀ k : Int, 4 ≤ k → J1 144 0 k = J 144 0 k) → (∀ k : Int, 0 ≤ k → k < i → J1 144 0 k = J 144 0 (4 + k)) → zGo L xs (D + 1) 258 119 [some (zr 142), none, some (zi i), none] [] J1 K Q := by
    intro n; induction n using Nat.strongRecOn with
  | _ n ih =>
    intro i J1 hm i0 i1 f g v
    refine z258_119 hL ⟨⟨by omega, by omega⟩, ⟨by decide, by decide⟩, fun q => hQ J1 f fun k k0 k1 => v k k0 (by omega), fun q => ⟨by omega, by omega, i0, by omega, ?_⟩⟩
    refine ih _ (by omega) (i + 1) _ rfl (by omega) (by omega) (fun b hb => by rw [zup_ne _ _ _ _ hb]; exact f b hb) (fun k hk => by rw [zup_nk _ _ (by omega)]; exact g k hk) fun k k0 k1 => ?_
    by_cases e : k = i
    · rw [e, zup_eq]
      exact g _ (by omega)
    · rw [zup_nk _ _ e]
      exact v k k0 (by omega)
  exact key _ 0 J rfl (by decide) (by decide) (fun _ _ => rfl) (fun _ _ => rfl) fun k k0 k1 => by omega
theorem cp145 {L : Nat} {xs : Nat → Int32} (hL : L ≤ 3072) {D : Nat} {J : zJ} {K : zK} {Q : zR → Nat → zJ → zK → Prop} (hQ : ∀ J' : zJ, (∀ b : Nat, b ≠ 145 → J' b = J b) → (∀ i k : Int, 0 ≤ i → i < 12 → 0 ≤ k → k < 5 → J' 145 i k = J 145 (12 + i) k) → zGo L xs (D + 1) 258 192 [some (zr 142), none, some (zi 0), none] [] J' K Q) : zGo L xs (D + 1) 258 146 [some (zr 142), none, some (zi 0), none] [] J K Q := by
  have key : ∀ (n : Nat) (i : Int) (J1 : zJ), n = (12 - i).toNat → 0 ≤ i → i ≤ 12 → (∀ b : Nat, b ≠ 145 → J1 b = J b) → (∀ j k : Int, 12 ≤ j → J1 145 j k = J 145 j k) → (∀ j k : Int, 0 ≤ j → j < i → 0 ≤ k → k < 5 → J1 145 j k = J 145 (12 + j) k) → zGo L xs (D + 1) 258 146 [some (zr 142), none, some (zi i), none] [] J1 K Q := by
    intro n; induction n using Nat.strongRecOn with
  | _ n ih =>
    intro i J1 hm i0 i1 f g v
    refine z258_146 hL ⟨⟨by omega, by omega⟩, ⟨by decide, by decide⟩, fun q => hQ J1 f fun j k j0 j1 k0 k1 => v j k j0 (by omega) k0 k1, fun q => ?_⟩
    have key2 : ∀ (m : Nat) (y : Int) (J2 : zJ), m = (5 - y).toNat → 0 ≤ y → y ≤ 5 → (∀ b : Nat, b ≠ 145 → J2 b = J b) → (∀ j k : Int, 12 ≤ j → J2 145 j k = J 145 j k) → (∀ j k : Int, 0 ≤ j → j < i → 0 ≤ k → k < 5 → J2 145 j k = J 145 (12 + j) k) → (∀ k : Int, 0 ≤ k → k < y → J2 145 i k = J 145 (12 + i) k) → zGo L xs (D + 1) 258 154 [some (zr 142), none, some (zi i), some (zi y)] [] J2 K Q := by
      intro m
      induction m using Nat.strongRecOn with
      | _ m ih2 =>
      intro y J2 hm2 y0 y1 f2 g2 v2 v3
      refine z258_154 hL ⟨⟨by omega, by omega⟩, ⟨by decide, by decide⟩, fun q2 => ih _ (by omega) (i + 1) J2 rfl (by omega) (by omega) f2 g2 fun j k j0 j1 k0 k1 => ?_, fun q2 => ⟨i0, by omega, by omega, by omega, by omega, by omega, y0, q2, i0, by omega, y0, q2, ?_⟩⟩
      · by_cases e : j = i
        · subst e
          exact v3 k k0 (by omega)
        · exact v2 j k j0 (by omega) k0 k1
      · refine ih2 _ (by omega) (y + 1) _ rfl (by omega) (by omega) (fun b hb => by rw [zup_ne _ _ _ _ hb]; exact f2 b hb) (fun j k hj => by rw [zup_nj _ _ (by omega)]; exact g2 j k hj) (fun j k j0 j1 k0 k1 => by rw [zup_nj _ _ (by omega)]; exact v2 j k j0 j1 k0 k1) fun k k0 k1 => ?_
        by_cases e : k = y
        · subst e
          rw [zup_eq]
          exact g2 _ _ (by omega)
        · rw [zup_nk _ _ e]
          exact v3 k k0 (by omega)
    exact key2 _ 0 J1 rfl (by decide) (by decide) f g v fun k k0 k1 => by omega
  exact key _ 0 J rfl (by decide) (by decide) (fun _ _ => rfl) (fun _ _ _ => rfl) fun j k j0 j1 => by omega
theorem cp170 {L : Nat} {xs : Nat → Int32} (hL : L ≤ 3072) {D : Nat} {J : zJ} {K : zK} {Q : zR → Nat → zJ → zK → Prop} (hQ : ∀ J' : zJ, (∀ b : Nat, b ≠ 170 → J' b = J b) → (∀ i k : Int, 0 ≤ i → i < 8 → 0 ≤ k → k < 4 → J' 170 i k = J 170 (8 + i) k) → zGo L xs (D + 1) 258 238 [some (zr 142), none, some (zi 0), none] [] J' K Q) : zGo L xs (D + 1) 258 192 [some (zr 142), none, some (zi 0), none] [] J K Q := by
  have key : ∀ (n : Nat) (i : Int) (J1 : zJ), n = (8 - i).toNat → 0 ≤ i → i ≤ 8 → (∀ b : Nat, b ≠ 170 → J1 b = J b) → (∀ j k : Int, 8 ≤ j → J1 170 j k = J 170 j k) → (∀ j k : Int, 0 ≤ j → j < i → 0 ≤ k → k < 4 → J1 170 j k = J 170 (8 + j) k) → zGo L xs (D + 1) 258 192 [some (zr 142), none, some (zi i), none] [] J1 K Q := by
    intro n; induction n using Nat.strongRecOn with
  | _ n ih =>
    intro i J1 hm i0 i1 f g v
    refine z258_192 hL ⟨⟨by omega, by omega⟩, ⟨by decide, by decide⟩, fun q => hQ J1 f fun j k j0 j1 k0 k1 => v j k j0 (by omega) k0 k1, fun q => ?_⟩
    have key2 : ∀ (m : Nat) (y : Int) (J2 : zJ), m = (4 - y).toNat → 0 ≤ y → y ≤ 4 → (∀ b : Nat, b ≠ 170 → J2 b = J b) → (∀ j k : Int, 8 ≤ j → J2 170 j k = J 170 j k) → (∀ j k : Int, 0 ≤ j → j < i → 0 ≤ k → k < 4 → J2 170 j k = J 170 (8 + j) k) → (∀ k : Int, 0 ≤ k → k < y → J2 170 i k = J 170 (8 + i) k) → zGo L xs (D + 1) 258 200 [some (zr 142), none, some (zi i), some (zi y)] [] J2 K Q := by
      intro m
      induction m using Nat.strongRecOn with
      | _ m ih2 =>
      intro y J2 hm2 y0 y1 f2 g2 v2 v3
      refine z258_200 hL ⟨⟨by omega, by omega⟩, ⟨by decide, by decide⟩, fun q2 => ih _ (by omega) (i + 1) J2 rfl (by omega) (by omega) f2 g2 fun j k j0 j1 k0 k1 => ?_, fun q2 => ⟨i0, by omega, by omega, by omega, by omega, by omega, y0, q2, i0, by omega, y0, q2, ?_⟩⟩
      · by_cases e : j = i
        · subst e
          exact v3 k k0 (by omega)
        · exact v2 j k j0 (by omega) k0 k1
      · refine ih2 _ (by omega) (y + 1) _ rfl (by omega) (by omega) (fun b hb => by rw [zup_ne _ _ _ _ hb]; exact f2 b hb) (fun j k hj => by rw [zup_nj _ _ (by omega)]; exact g2 j k hj) (fun j k j0 j1 k0 k1 => by rw [zup_nj _ _ (by omega)]; exact v2 j k j0 j1 k0 k1) fun k k0 k1 => ?_
        by_cases e : k = y
        · subst e
          rw [zup_eq]
          exact g2 _ _ (by omega)
        · rw [zup_nk _ _ e]
          exact v3 k k0 (by omega)
    exact key2 _ 0 J1 rfl (by decide) (by decide) f g v fun k k0 k1 => by omega
  exact key _ 0 J rfl (by decide) (by decide) (fun _ _ => rfl) (fun _ _ _ => rfl) fun j k j0 j1 => by omega
theorem cp187 {L : Nat} {xs : Nat → Int32} (hL : L ≤ 3072) {D : Nat} {J : zJ} {K : zK} {Q : zR → Nat → zJ → zK → Prop} (hQ : ∀ J' : zJ, (∀ b : Nat, b ≠ 187 → J' b = J b) → (∀ i k : Int, 0 ≤ i → i < 8 → 0 ≤ k → k < 2 → J' 187 i k = J 187 (8 + i) k) → zGo L xs (D + 1) 258 284 [some (zr 142), none, some (zi 0), none] [] J' K Q) : zGo L xs (D + 1) 258 238 [some (zr 142), none, some (zi 0), none] [] J K Q := by
  have key : ∀ (n : Nat) (i : Int) (J1 : zJ), n = (8 - i).toNat → 0 ≤ i → i ≤ 8 → (∀ b : Nat, b ≠ 187 → J1 b = J b) → (∀ j k : Int, 8 ≤ j → J1 187 j k = J 187 j k) → (∀ j k : Int, 0 ≤ j → j < i → 0 ≤ k → k < 2 → J1 187 j k = J 187 (8 + j) k) → zGo L xs (D + 1) 258 238 [some (zr 142), none, some (zi i), none] [] J1 K Q := by
    intro n; induction n using Nat.strongRecOn with
  | _ n ih =>
    intro i J1 hm i0 i1 f g v
    refine z258_238 hL ⟨⟨by omega, by omega⟩, ⟨by decide, by decide⟩, fun q => hQ J1 f fun j k j0 j1 k0 k1 => v j k j0 (by omega) k0 k1, fun q => ?_⟩
    have key2 : ∀ (m : Nat) (y : Int) (J2 : zJ), m = (2 - y).toNat → 0 ≤ y → y ≤ 2 → (∀ b : Nat, b ≠ 187 → J2 b = J b) → (∀ j k : Int, 8 ≤ j → J2 187 j k = J 187 j k) → (∀ j k : Int, 0 ≤ j → j < i → 0 ≤ k → k < 2 → J2 187 j k = J 187 (8 + j) k) → (∀ k : Int, 0 ≤ k → k < y → J2 187 i k = J 187 (8 + i) k) → zGo L xs (D + 1) 258 246 [some (zr 142), none, some (zi i), some (zi y)] [] J2 K Q := by
      intro m
      induction m using Nat.strongRecOn with
      | _ m ih2 =>
      intro y J2 hm2 y0 y1 f2 g2 v2 v3
      refine z258_246 hL ⟨⟨by omega, by omega⟩, ⟨by decide, by decide⟩, fun q2 => ih _ (by omega) (i + 1) J2 rfl (by omega) (by omega) f2 g2 fun j k j0 j1 k0 k1 => ?_, fun q2 => ⟨i0, by omega, by omega, by omega, by omega, by omega, y0, q2, i0, by omega, y0, q2, ?_⟩⟩
      · by_cases e : j = i
        · subst e
          exact v3 k k0 (by omega)
        · exact v2 j k j0 (by omega) k0 k1
      · refine ih2 _ (by omega) (y + 1) _ rfl (by omega) (by omega) (fun b hb => by rw [zup_ne _ _ _ _ hb]; exact f2 b hb) (fun j k hj => by rw [zup_nj _ _ (by omega)]; exact g2 j k hj) (fun j k j0 j1 k0 k1 => by rw [zup_nj _ _ (by omega)]; exact v2 j k j0 j1 k0 k1) fun k k0 k1 => ?_
        by_cases e : k = y
        · subst e
          rw [zup_eq]
          exact g2 _ _ (by omega)
        · rw [zup_nk _ _ e]
          exact v3 k k0 (by omega)
    exact key2 _ 0 J1 rfl (by decide) (by decide) f g v fun k k0 k1 => by omega
  exact key _ 0 J rfl (by decide) (by decide) (fun _ _ => rfl) (fun _ _ _ => rfl) fun j k j0 j1 => by omega
theorem cp204 {L : Nat} {xs : Nat → Int32} (hL : L ≤ 3072) {D : Nat} {J : zJ} {K : zK} {Q : zR → Nat → zJ → zK → Prop} (hQ : ∀ J' : zJ, (∀ b : Nat, b ≠ 204 → J' b = J b) → (∀ i k : Int, 0 ≤ i → i < 12 → 0 ≤ k → k < 3 → J' 204 i k = J 204 (12 + i) k) → zGo L xs (D + 1) 258 350 [some (zr 142), none, some (zi 0), none] [] (zup (zup (zup (zup J' 142 0 14 1) 142 0 15 0) 142 0 16 0) 142 0 17 0) K Q) : zGo L xs (D + 1) 258 284 [some (zr 142), none, some (zi 0), none] [] J K Q := by
  have key : ∀ (n : Nat) (i : Int) (J1 : zJ), n = (12 - i).toNat → 0 ≤ i → i ≤ 12 → (∀ b : Nat, b ≠ 204 → J1 b = J b) → (∀ j k : Int, 12 ≤ j → J1 204 j k = J 204 j k) → (∀ j k : Int, 0 ≤ j → j < i → 0 ≤ k → k < 3 → J1 204 j k = J 204 (12 + j) k) → zGo L xs (D + 1) 258 284 [some (zr 142), none, some (zi i), none] [] J1 K Q := by
    intro n; induction n using Nat.strongRecOn with
  | _ n ih =>
    intro i J1 hm i0 i1 f g v
    refine z258_284 hL ⟨⟨by omega, by omega⟩, ⟨by decide, by decide⟩, fun q => ⟨Or.inr rfl, hQ J1 f fun j k j0 j1 k0 k1 => v j k j0 (by omega) k0 k1⟩, fun q => ?_⟩
    have key2 : ∀ (m : Nat) (y : Int) (J2 : zJ), m = (3 - y).toNat → 0 ≤ y → y ≤ 3 → (∀ b : Nat, b ≠ 204 → J2 b = J b) → (∀ j k : Int, 12 ≤ j → J2 204 j k = J 204 j k) → (∀ j k : Int, 0 ≤ j → j < i → 0 ≤ k → k < 3 → J2 204 j k = J 204 (12 + j) k) → (∀ k : Int, 0 ≤ k → k < y → J2 204 i k = J 204 (12 + i) k) → zGo L xs (D + 1) 258 292 [some (zr 142), none, some (zi i), some (zi y)] [] J2 K Q := by
      intro m
      induction m using Nat.strongRecOn with
      | _ m ih2 =>
      intro y J2 hm2 y0 y1 f2 g2 v2 v3
      refine z258_292 hL ⟨⟨by omega, by omega⟩, ⟨by decide, by decide⟩, fun q2 => ih _ (by omega) (i + 1) J2 rfl (by omega) (by omega) f2 g2 fun j k j0 j1 k0 k1 => ?_, fun q2 => ⟨i0, by omega, by omega, by omega, by omega, by omega, y0, q2, i0, by omega, y0, q2, ?_⟩⟩
      · by_cases e : j = i
        · subst e
          exact v3 k k0 (by omega)
        · exact v2 j k j0 (by omega) k0 k1
      · refine ih2 _ (by omega) (y + 1) _ rfl (by omega) (by omega) (fun b hb => by rw [zup_ne _ _ _ _ hb]; exact f2 b hb) (fun j k hj => by rw [zup_nj _ _ (by omega)]; exact g2 j k hj) (fun j k j0 j1 k0 k1 => by rw [zup_nj _ _ (by omega)]; exact v2 j k j0 j1 k0 k1) fun k k0 k1 => ?_
        by_cases e : k = y
        · subst e
          rw [zup_eq]
          exact g2 _ _ (by omega)
        · rw [zup_nk _ _ e]
          exact v3 k k0 (by omega)
    exact key2 _ 0 J1 rfl (by decide) (by decide) f g v fun k k0 k1 => by omega
  exact key _ 0 J rfl (by decide) (by decide) (fun _ _ => rfl) (fun _ _ _ => rfl) fun j k j0 j1 => by omega
theorem cp350 {L : Nat} {xs : Nat → Int32} (hL : L ≤ 3072) {D : Nat} {J : zJ} {K : zK} {Q : zR → Nat → zJ → zK → Prop} (hQ : ∀ J' : zJ, (∀ b : Nat, b ≠ 236 → b ≠ 237 → J' b = J b) → (∀ k : Int, 0 ≤ k → k < 12 → J' 236 0 k = 0 ∧ J' 237 0 k = 0) → zGo L xs (D + 1) 258 378 [some (zr 142), none, some (zi 0), none] [] J' K Q) : zGo L xs (D + 1) 258 350 [some (zr 142), none, some (zi 0), none] [] J K Q := by
  have key : ∀ (n : Nat) (i : Int) (J1 : zJ), n = (12 - i).toNat → 0 ≤ i → i ≤ 12 → (∀ b : Nat, b ≠ 236 → b ≠ 237 → J1 b = J b) → (∀ k : Int, 0 ≤ k → k < i → J1 236 0 k = 0 ∧ J1 237 0 k = 0) → zGo L xs (D + 1) 258 350 [some (zr 142), none, some (zi i), none] [] J1 K Q := by
    intro n; induction n using Nat.strongRecOn with
  | _ n ih =>
    intro i J1 hm i0 i1 f v
    refine z258_350 hL ⟨⟨by omega, by omega⟩, ⟨by decide, by decide⟩, fun q => hQ J1 f fun k k0 k1 => v k k0 (by omega), fun q => ⟨by omega, by omega, i0, by omega, ?_⟩⟩
    refine ih _ (by omega) (i + 1) _ rfl (by omega) (by omega) (fun b hb hb2 => by rw [zup_ne _ _ _ _ hb2, zup_ne _ _ _ _ hb]; exact f b hb hb2) fun k k0 k1 => ?_
    by_cases e : k = i
    · subst e
      exact ⟨by rw [zup_ne _ _ _ _ (by decide), zup_eq], by rw [zup_eq]⟩
    · have := v k k0 (by omega)
      exact ⟨by rw [zup_ne _ _ _ _ (by decide), zup_nk _ _ e]; exact this.1, by rw [zup_nk _ _ e, zup_ne _ _ _ _ (by decide)]; exact this.2⟩
  exact key _ 0 J rfl (by decide) (by decide) (fun _ _ _ => rfl) fun k k0 k1 => by omega
theorem cp378 {L : Nat} {xs : Nat → Int32} (hL : L ≤ 3072) {D : Nat} {J : zJ} {K : zK} {Q : zR → Nat → zJ → zK → Prop} (hQ : ∀ J' : zJ, (∀ b : Nat, b ≠ 238 → b ≠ 239 → J' b = J b) → (∀ k : Int, 0 ≤ k → k < 8 → J' 238 0 k = 1080 ∧ J' 239 0 k = 127) → Q (.inl (some (zi (J' 144 0 0)))) 0 J' K) : zGo L xs (D + 1) 258 378 [some (zr 142), none, some (zi 0), none] [] J K Q := by
  have key : ∀ (n : Nat) (i : Int) (J1 : zJ), n = (8 - i).toNat → 0 ≤ i → i ≤ 8 → (∀ b : Nat, b ≠ 238 → b ≠ 239 → J1 b = J b) → (∀ k : Int, 0 ≤ k → k < i → J1 238 0 k = 1080 ∧ J1 239 0 k = 127) → zGo L xs (D + 1) 258 378 [some (zr 142), none, some (zi i), none] [] J1 K Q := by
    intro n; induction n using Nat.strongRecOn with
  | _ n ih =>
    intro i J1 hm i0 i1 f v
    refine z258_378 hL ⟨⟨by omega, by omega⟩, ⟨by decide, by decide⟩, fun q => ⟨by decide, by decide, hQ J1 f fun k k0 k1 => v k k0 (by omega)⟩, fun q => ⟨by omega, by omega, i0, by omega, ?_⟩⟩
    refine ih _ (by omega) (i + 1) _ rfl (by omega) (by omega) (fun b hb hb2 => by rw [zup_ne _ _ _ _ hb2, zup_ne _ _ _ _ hb]; exact f b hb hb2) fun k k0 k1 => ?_
    by_cases e : k = i
    · subst e
      exact ⟨by rw [zup_ne _ _ _ _ (by decide), zup_eq], by rw [zup_eq]⟩
    · have := v k k0 (by omega)
      exact ⟨by rw [zup_ne _ _ _ _ (by decide), zup_nk _ _ e]; exact this.1, by rw [zup_nk _ _ e, zup_ne _ _ _ _ (by decide)]; exact this.2⟩
  exact key _ 0 J rfl (by decide) (by decide) (fun _ _ _ => rfl) fun k k0 k1 => by omega
/-- the land that the model has taken over -/
theorem m119 {L : Nat} {xs : Nat → Int32} (hL : L ≤ 3072) {D : Nat} {J : zJ} {K : zK} {Q : zR → Nat → zJ → zK → Prop} {d : zJ} (hd : DM d J) (hw : LW d) (hQ : ∀ J' : zJ, ML d J' → (∀ b : Nat, b ≠ 142 → b ≠ 144 → b ≠ 145 → b ≠ 170 → b ≠ 187 → b ≠ 204 → b ≠ 236 → b ≠ 237 → b ≠ 238 → b ≠ 239 → J' b = J b) → (∀ k : Int, k ≠ 14 → k ≠ 15 → k ≠ 16 → k ≠ 17 → J' 142 0 k = J 142 0 k) → (J' 142 0 14 = 1 ∧ J' 142 0 15 = 0 ∧ J' 142 0 16 = 0 ∧ J' 142 0 17 = 0) → (∀ k : Int, 0 ≤ k → k < 12 → J' 236 0 k = 0 ∧ J' 237 0 k = 0) → (∀ k : Int, 0 ≤ k → k < 8 → J' 238 0 k = 1080 ∧ J' 239 0 k = 127) → Q (.inl (some (zi (d 18 0 0)))) 0 J' K) : zGo L xs (D + 1) 258 119 [some (zr 142), none, some (zi 0), none] [] J K Q := by
  obtain ⟨⟨m0, m1, m2, m3⟩, mp, mk, me, mw⟩ := hd
  have hl := lw_n hw
  refine cp144 hL fun J1 f1 v1 => ?_
  refine cp145 hL fun J2 f2 v2 => ?_
  refine cp170 hL fun J3 f3 v3 => ?_
  refine cp187 hL fun J4 f4 v4 => ?_
  refine cp204 hL fun J5 f5 v5 => ?_
  refine cp350 hL fun J6 f6 v6 => ?_
  refine cp378 hL fun J7 f7 v7 => ?_
  have b5 : ∀ b : Nat, b ≠ 142 → b ≠ 236 → b ≠ 237 → b ≠ 238 → b ≠ 239 → J7 b = J5 b := by
    intro b h1 h2 h3 h4 h5
    rw [f7 b h4 h5, f6 b h2 h3, zup_ne _ _ _ _ h1, zup_ne _ _ _ _ h1, zup_ne _ _ _ _ h1, zup_ne _ _ _ _ h1]
  have e142 : J7 142 = (zup (zup (zup (zup J5 142 0 14 1) 142 0 15 0) 142 0 16 0) 142 0 17 0) 142 := (f7 142 (by decide) (by decide)).trans (f6 142 (by decide) (by decide))
  have a144 : J7 144 = J1 144 := by rw [b5 144 (by decide) (by decide) (by decide) (by decide) (by decide), f5 144 (by decide), f4 144 (by decide), f3 144 (by decide), f2 144 (by decide)]
  have n0 : J7 144 0 0 = d 18 0 0 := by
    rw [a144, v1 0 (by decide) (by decide)]
    exact m0
  rw [n0]
  refine hQ J7 ⟨⟨n0, ?_, ?_, ?_⟩, fun p p0 p1 => ?_, fun p p0 p1 => ?_, fun p p0 p1 => ?_, fun p p0 p1 => ?_⟩ (fun b h1 h2 h3 h4 h5 h6 h7 h8 h9 h10 => ?_) (fun k k1 k2 k3 k4 => ?_) ⟨?_, ?_, ?_, ?_⟩ (fun k k0 k1 => ?_) v7
  · rw [a144, v1 1 (by decide) (by decide)]
    exact m1
  · rw [a144, v1 2 (by decide) (by decide)]
    exact m2
  · rw [a144, v1 3 (by decide) (by decide)]
    exact m3
  · have e : J7 145 = J2 145 := by rw [b5 145 (by decide) (by decide) (by decide) (by decide) (by decide), f5 145 (by decide), f4 145 (by decide), f3 145 (by decide)]
    have e1 : J1 145 = J 145 := f1 145 (by decide)
    rw [e, v2 p 0 p0 (by omega) (by decide) (by decide), v2 p 1 p0 (by omega) (by decide) (by decide), v2 p 2 p0 (by omega) (by decide) (by decide), v2 p 3 p0 (by omega) (by decide) (by decide), v2 p 4 p0 (by omega) (by decide) (by decide), e1]
    exact mp p p0 p1
  · have e : J7 170 = J3 170 := by rw [b5 170 (by decide) (by decide) (by decide) (by decide) (by decide), f5 170 (by decide), f4 170 (by decide)]
    have e1 : J2 170 = J 170 := (f2 170 (by decide)).trans (f1 170 (by decide))
    rw [e, v3 p 0 p0 (by omega) (by decide) (by decide), v3 p 1 p0 (by omega) (by decide) (by decide), v3 p 2 p0 (by omega) (by decide) (by decide), v3 p 3 p0 (by omega) (by decide) (by decide), e1]
    exact mk p p0 p1
  · have e : J7 187 = J4 187 := by rw [b5 187 (by decide) (by decide) (by decide) (by decide) (by decide), f5 187 (by decide)]
    have e1 : J3 187 = J 187 := (f3 187 (by decide)).trans ((f2 187 (by decide)).trans (f1 187 (by decide)))
    rw [e, v4 p 0 p0 (by omega) (by decide) (by decide), v4 p 1 p0 (by omega) (by decide) (by decide), e1]
    exact me p p0 p1
  · have e : J7 204 = J5 204 := b5 204 (by decide) (by decide) (by decide) (by decide) (by decide)
    have e1 : J4 204 = J 204 := (f4 204 (by decide)).trans ((f3 204 (by decide)).trans ((f2 204 (by decide)).trans (f1 204 (by decide))))
    rw [e, v5 p 0 p0 (by omega) (by decide) (by decide), v5 p 1 p0 (by omega) (by decide) (by decide), v5 p 2 p0 (by omega) (by decide) (by decide), e1]
    exact mw p p0 p1
  · rw [b5 b h1 h7 h8 h9 h10, f5 b h6, f4 b h5, f3 b h4, f2 b h3, f1 b h2]
  · rw [e142, zup_nk _ _ k4, zup_nk _ _ k3, zup_nk _ _ k2, zup_nk _ _ k1, f5 142 (by decide), f4 142 (by decide), f3 142 (by decide), f2 142 (by decide), f1 142 (by decide)]
  · rw [e142, zup_nk _ _ (by decide), zup_nk _ _ (by decide), zup_nk _ _ (by decide), zup_eq]
  · rw [e142, zup_nk _ _ (by decide), zup_nk _ _ (by decide), zup_eq]
  · rw [e142, zup_nk _ _ (by decide), zup_eq]
  · rw [e142, zup_eq]
  · rw [f7 236 (by decide) (by decide), f7 237 (by decide) (by decide)]
    exact v6 k k0 k1
