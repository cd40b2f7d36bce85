/-! LIGHT ENGINES: picking places -/
theorem c110 {L : Nat} {xs : Nat → Int32} (hL : L ≤ 3072) {D : Nat} {J : zJ} {K : zK} {Q : zR → Nat → zJ → zK → Prop} {k : Int} (k1 : 1 ≤ k) (k3 : k ≤ 3) (hp : ∀ i : Int, 0 ≤ i → i < k → 0 ≤ J 140 0 i ∧ J 140 0 i < 12) (hD : 1 ≤ D) (hQ : ∀ y : Int, 0 ≤ y → y < 4096 → (∀ p : Int, 0 ≤ p → (bt y p = true ↔ ∃ i : Int, 0 ≤ i ∧ i < k ∧ J 140 0 i = p)) → Q (.inl (some (zi (y)))) 0 J K) : zCall L xs D 110 [zr 136, zi k] J K Q := by
  obtain ⟨D, rfl⟩ : ∃ d, D = d + 1 := ⟨D - 1, by omega⟩
  refine z110 hL ?_
  have key : ∀ (n : Nat) (i y : Int), n = (k - i).toNat → 0 ≤ i → i ≤ k → 0 ≤ y → y < 4096 → (∀ p : Int, 0 ≤ p → (bt y p = true ↔ ∃ j : Int, 0 ≤ j ∧ j < i ∧ J 140 0 j = p)) → zGo L xs (D + 1) 110 4 [some (zr 136), some (zi k), some (zi y), some (zi i)] [] J K Q := by
    intro n; induction n using Nat.strongRecOn with
    | _ n ih =>
    intro i y hm h0 h1 y0 y1 hy
    refine z110_4 hL ?_
    by_cases hc : i < k
    · have hpi := hp i h0 hc
      have hpp : (2 : Int) ^ (J 140 0 i).toNat ≤ 2 ^ 11 := pw_le (by omega)
      have hp0 := pw_pos (J 140 0 i).toNat
      have hz := zor_lt (x := y) (y := 2 ^ (J 140 0 i).toNat) (n := 12) (by decide) y0 (by omega) (by omega) (by omega)
      refine ⟨⟨by omega, by omega⟩, ⟨by omega, by omega⟩, fun _ => by omega, fun _ => ⟨by omega, by omega, by omega, by omega, ?_⟩⟩
      rw [Int.one_mul]
      refine ih _ (by omega) (i + 1) _ rfl (by omega) (by omega) hz.1 (by omega) fun p p0 => ?_
      rw [bt_or y0 (by omega) (by omega) (by omega), bt_pow hpi.1 p0, Bool.or_eq_true, hy p p0, decide_eq_true_iff]
      constructor
      · rintro (⟨j, a, b, c⟩ | e)
        · exact ⟨j, a, by omega, c⟩
        · exact ⟨i, h0, by omega, e⟩
      · rintro ⟨j, a, b, c⟩
        by_cases e : j = i
        · right
          rw [← e]
          exact c
        · exact Or.inl ⟨j, a, by omega, c⟩
    · have e : i = k := by omega
      subst e
      exact ⟨⟨by omega, by omega⟩, ⟨by omega, by omega⟩, fun _ => hQ y y0 y1 hy, fun q => by omega⟩
  refine key _ 0 0 rfl (by decide) (by omega) (by decide) (by decide) fun p p0 => ?_
  rw [bt_z]
  constructor
  · intro q
    cases q
  · rintro ⟨j, a, b, _⟩
    omega
theorem c111 {L : Nat} {xs : Nat → Int32} (hL : L ≤ 3072) {D : Nat} {J : zJ} {K : zK} {Q : zR → Nat → zJ → zK → Prop} {s : zJ} (hE : EqS s J) (h : LW s) {k : Int} (k1 : 1 ≤ k) (k3 : k ≤ 3) (hp : ∀ i : Int, 0 ≤ i → i < k → 0 ≤ J 140 0 i ∧ J 140 0 i < 12) (hD : 1 ≤ D) (h0 : (∀ j : Int, 0 ≤ j → j < k → s 18 0 0 - k + j ≤ J 140 0 j) → Q (.inl (some (zi (0)))) 0 J K) (hQ : ∀ (J' : zJ) (i : Int), 0 ≤ i → i < k → J 140 0 i < s 18 0 0 - k + i → (∀ j : Int, i < j → j < k → s 18 0 0 - k + j ≤ J 140 0 j) → (∀ b : Nat, b ≠ 140 → J' b = J b) → (∀ j : Int, 0 ≤ j → j < i → J' 140 0 j = J 140 0 j) → (∀ j : Int, i ≤ j → j < k → J' 140 0 j = J 140 0 i + 1 + (j - i)) → Q (.inl (some (zi (1)))) 0 J' K) : zCall L xs D 111 [zr 136, zi k] J K Q := by
  obtain ⟨D, rfl⟩ : ∃ d, D = d + 1 := ⟨D - 1, by omega⟩
  have hn := lw_n h
  have e18 := hE 18 (by decide) (by decide)
  refine z111 hL ?_
  have key : ∀ (n : Nat) (x2 : Int), n = (x2 + 1).toNat → -1 ≤ x2 → x2 < k → (∀ j : Int, x2 < j → j < k → s 18 0 0 - k + j ≤ J 140 0 j) → zGo L xs (D + 1) 111 4 [some (zr 136), some (zi k), some (zi x2), none] [] J K Q := by
    intro n; induction n using Nat.strongRecOn with
    | _ n ih =>
    intro x2 hm a0 a1 hmax
    refine z111_4 hL ?_
    rw [e18]
    by_cases hc : 0 ≤ x2
    · have hpx := hp x2 hc a1
      refine ⟨⟨by omega, by omega⟩, fun q => by omega, fun _ => ⟨by omega, by omega, ⟨by omega, by omega⟩, ⟨by omega, by omega⟩, fun q => ?_, fun q => ⟨by omega, by omega, by omega, by omega, ?_⟩⟩⟩
      · refine ih _ (by omega) (x2 + (-1)) rfl (by omega) (by omega) fun j b0 b1 => ?_
        by_cases e : j = x2
        · rw [e]
          exact q
        · exact hmax j (by omega) b1
      · have inner : ∀ (m : Nat) (x3 : Int) (J1 : zJ), m = (k - x3).toNat → x2 < x3 → x3 ≤ k → (∀ b : Nat, b ≠ 140 → J1 b = J b) → (∀ j : Int, 0 ≤ j → j < x2 → J1 140 0 j = J 140 0 j) → (∀ j : Int, x2 ≤ j → j < x3 → J1 140 0 j = J 140 0 x2 + 1 + (j - x2)) → zGo L xs (D + 1) 111 42 [some (zr 136), some (zi k), none, some (zi x3)] [] J1 K Q := by
          intro m; induction m using Nat.strongRecOn with
          | _ m ihm =>
          intro x3 J1 hm3 b0 b1 c1 c2 c3
          refine z111_42 hL ?_
          by_cases hc3 : x3 < k
          · refine ⟨⟨by omega, by omega⟩, ⟨by omega, by omega⟩, fun _ => by omega, fun _ => ⟨by omega, by omega, by omega, by omega, ?_⟩⟩
            refine ihm _ (by omega) (x3 + 1) _ rfl (by omega) (by omega) (fun b hb => by rw [zup_ne _ _ _ _ hb]; exact c1 b hb) (fun j d0 d1 => by rw [zup_nk _ _ (by omega)]; exact c2 j d0 d1) fun j d0 d1 => ?_
            by_cases e : j = x3
            · rw [e, zup_eq, c3 (x3 - 1) (by omega) (by omega)]
              omega
            · rw [zup_nk _ _ e]
              exact c3 j d0 (by omega)
          · have e : x3 = k := by omega
            subst e
            exact ⟨⟨by omega, by omega⟩, ⟨by omega, by omega⟩, fun _ => ⟨Or.inr rfl, hQ J1 x2 hc a1 q hmax c1 c2 c3⟩, fun z => by omega⟩
        refine inner _ (x2 + 1) _ rfl (by omega) (by omega) (fun b hb => zup_ne _ _ _ _ hb) (fun j d0 d1 => zup_nk _ _ (by omega)) fun j d0 d1 => ?_
        have e : j = x2 := by omega
        rw [e, zup_eq]
        omega
    · have e : x2 = -1 := by omega
      subst e
      exact ⟨⟨by decide, by decide⟩, fun _ => ⟨Or.inl rfl, h0 fun j b0 b1 => hmax j (by omega) b1⟩, fun q => absurd q (by decide)⟩
  exact key _ (k - 1) rfl (by omega) (by omega) fun j b0 b1 => by omega
/-- the row of places a lies ahead of b's: the least place that only one has is a's -/
def ahb (x y : Int) : Prop := ∃ p : Int, 0 ≤ p ∧ bt x p = true ∧ bt y p = false ∧ ∀ q : Int, 0 ≤ q → q < p → bt x q = bt y q
theorem ahb_asym {x y : Int} (h : ahb x y) : ¬ ahb y x := by
  rintro ⟨q, q0, q1, q2, q3⟩
  obtain ⟨p, p0, p1, p2, p3⟩ := h
  rcases Int.lt_trichotomy p q with z | z | z
  · have := q3 p p0 z
    rw [p1, p2] at this
    cases this
  · subst z
    rw [p1] at q2
    cases q2
  · have := p3 q q0 z
    rw [q1, q2] at this
    cases this
theorem ahb_trans {x y z : Int} (h1 : ahb x y) (h2 : ahb y z) : ahb x z := by
  obtain ⟨p, p0, p1, p2, p3⟩ := h1
  obtain ⟨q, q0, q1, q2, q3⟩ := h2
  rcases Int.lt_trichotomy p q with w | w | w
  · exact ⟨p, p0, p1, by rw [← q3 p p0 w]; exact p2, fun r r0 r1 => (p3 r r0 r1).trans (q3 r r0 (by omega))⟩
  · subst w
    rw [p2] at q1
    cases q1
  · exact ⟨q, q0, by rw [p3 q q0 w]; exact q1, q2, fun r r0 r1 => (p3 r r0 (by omega)).trans (q3 r r0 r1)⟩
