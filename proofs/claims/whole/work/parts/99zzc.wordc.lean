/-! WORDS of the tape: the model's constants -/
theorem c306p {L : Nat} {xs : Nat → Int32} (hL : L ≤ 3072) {D : Nat} {J : zJ} {K : zK} {Q : zR → Nat → zJ → zK → Prop} (hD : 1 ≤ D) (hQ : Q (.inl (some (zl 8740067))) 0 J K) : zCall L xs D 306 [zi 16, zi 12, zi 1, zi 3, zi 5, zi 0, zi 0] J K Q := by
  obtain ⟨D, rfl⟩ : ∃ d, D = d + 1 := ⟨D - 1, by omega⟩
  refine z306 hL ?_
  refine z306_6 hL ?_
  (repeat' (first | (with_reducible apply And.intro) | (with_reducible intro _)))
  all_goals (try first | omega | (unfold zin; omega))
  refine z306_6 hL ?_
  (repeat' (first | (with_reducible apply And.intro) | (with_reducible intro _)))
  all_goals (try first | omega | (unfold zin; omega))
  refine z306_6 hL ?_
  (repeat' (first | (with_reducible apply And.intro) | (with_reducible intro _)))
  all_goals (try first | omega | (unfold zin; omega))
  refine z306_6 hL ?_
  (repeat' (first | (with_reducible apply And.intro) | (with_reducible intro _)))
  all_goals (try first | omega | (unfold zin; omega))
  refine z306_6 hL ?_
  (repeat' (first | (with_reducible apply And.intro) | (with_reducible intro _)))
  all_goals (try first | omega | (unfold zin; omega))
  refine z306_6 hL ?_
  (repeat' (first | (with_reducible apply And.intro) | (with_reducible intro _)))
  all_goals (try first | omega | (unfold zin; omega))
  refine z306_6 hL ?_
  (repeat' (first | (with_reducible apply And.intro) | (with_reducible intro _)))
  all_goals (try first | omega | (unfold zin; omega))
  refine z306_6 hL ?_
  (repeat' (first | (with_reducible apply And.intro) | (with_reducible intro _)))
  all_goals (try first | omega | (unfold zin; omega))
  exact hQ
theorem c306o {L : Nat} {xs : Nat → Int32} (hL : L ≤ 3072) {D : Nat} {J : zJ} {K : zK} {Q : zR → Nat → zJ → zK → Prop} (hD : 1 ≤ D) (hQ : Q (.inl (some (zl 129530))) 0 J K) : zCall L xs D 306 [zi 6, zi 15, zi 18, zi 11, zi 0, zi 0, zi 0] J K Q := by
  obtain ⟨D, rfl⟩ : ∃ d, D = d + 1 := ⟨D - 1, by omega⟩
  refine z306 hL ?_
  refine z306_6 hL ?_
  (repeat' (first | (with_reducible apply And.intro) | (with_reducible intro _)))
  all_goals (try first | omega | (unfold zin; omega))
  refine z306_6 hL ?_
  (repeat' (first | (with_reducible apply And.intro) | (with_reducible intro _)))
  all_goals (try first | omega | (unfold zin; omega))
  refine z306_6 hL ?_
  (repeat' (first | (with_reducible apply And.intro) | (with_reducible intro _)))
  all_goals (try first | omega | (unfold zin; omega))
  refine z306_6 hL ?_
  (repeat' (first | (with_reducible apply And.intro) | (with_reducible intro _)))
  all_goals (try first | omega | (unfold zin; omega))
  refine z306_6 hL ?_
  (repeat' (first | (with_reducible apply And.intro) | (with_reducible intro _)))
  all_goals (try first | omega | (unfold zin; omega))
  refine z306_6 hL ?_
  (repeat' (first | (with_reducible apply And.intro) | (with_reducible intro _)))
  all_goals (try first | omega | (unfold zin; omega))
  refine z306_6 hL ?_
  (repeat' (first | (with_reducible apply And.intro) | (with_reducible intro _)))
  all_goals (try first | omega | (unfold zin; omega))
  refine z306_6 hL ?_
  (repeat' (first | (with_reducible apply And.intro) | (with_reducible intro _)))
  all_goals (try first | omega | (unfold zin; omega))
  exact hQ
theorem c306n {L : Nat} {xs : Nat → Int32} (hL : L ≤ 3072) {D : Nat} {J : zJ} {K : zK} {Q : zR → Nat → zJ → zK → Prop} (hD : 1 ≤ D) (hQ : Q (.inl (some (zl 6423928007))) 0 J K) : zCall L xs D 306 [zi 16, zi 15, zi 18, zi 20, zi 9, zi 15, zi 14] J K Q := by
  obtain ⟨D, rfl⟩ : ∃ d, D = d + 1 := ⟨D - 1, by omega⟩
  refine z306 hL ?_
  refine z306_6 hL ?_
  (repeat' (first | (with_reducible apply And.intro) | (with_reducible intro _)))
  all_goals (try first | omega | (unfold zin; omega))
  refine z306_6 hL ?_
  (repeat' (first | (with_reducible apply And.intro) | (with_reducible intro _)))
  all_goals (try first | omega | (unfold zin; omega))
  refine z306_6 hL ?_
  (repeat' (first | (with_reducible apply And.intro) | (with_reducible intro _)))
  all_goals (try first | omega | (unfold zin; omega))
  refine z306_6 hL ?_
  (repeat' (first | (with_reducible apply And.intro) | (with_reducible intro _)))
  all_goals (try first | omega | (unfold zin; omega))
  refine z306_6 hL ?_
  (repeat' (first | (with_reducible apply And.intro) | (with_reducible intro _)))
  all_goals (try first | omega | (unfold zin; omega))
  refine z306_6 hL ?_
  (repeat' (first | (with_reducible apply And.intro) | (with_reducible intro _)))
  all_goals (try first | omega | (unfold zin; omega))
  refine z306_6 hL ?_
  (repeat' (first | (with_reducible apply And.intro) | (with_reducible intro _)))
  all_goals (try first | omega | (unfold zin; omega))
  refine z306_6 hL ?_
  (repeat' (first | (with_reducible apply And.intro) | (with_reducible intro _)))
  all_goals (try first | omega | (unfold zin; omega))
  exact hQ
theorem c306l {L : Nat} {xs : Nat → Int32} (hL : L ≤ 3072) {D : Nat} {J : zJ} {K : zK} {Q : zR → Nat → zJ → zK → Prop} (hD : 1 ≤ D) (hQ : Q (.inl (some (zl 237470))) 0 J K) : zCall L xs D 306 [zi 12, zi 1, zi 20, zi 5, zi 0, zi 0, zi 0] J K Q := by
  obtain ⟨D, rfl⟩ : ∃ d, D = d + 1 := ⟨D - 1, by omega⟩
  refine z306 hL ?_
  refine z306_6 hL ?_
  (repeat' (first | (with_reducible apply And.intro) | (with_reducible intro _)))
  all_goals (try first | omega | (unfold zin; omega))
  refine z306_6 hL ?_
  (repeat' (first | (with_reducible apply And.intro) | (with_reducible intro _)))
  all_goals (try first | omega | (unfold zin; omega))
  refine z306_6 hL ?_
  (repeat' (first | (with_reducible apply And.intro) | (with_reducible intro _)))
  all_goals (try first | omega | (unfold zin; omega))
  refine z306_6 hL ?_
  (repeat' (first | (with_reducible apply And.intro) | (with_reducible intro _)))
  all_goals (try first | omega | (unfold zin; omega))
  refine z306_6 hL ?_
  (repeat' (first | (with_reducible apply And.intro) | (with_reducible intro _)))
  all_goals (try first | omega | (unfold zin; omega))
  refine z306_6 hL ?_
  (repeat' (first | (with_reducible apply And.intro) | (with_reducible intro _)))
  all_goals (try first | omega | (unfold zin; omega))
  refine z306_6 hL ?_
  (repeat' (first | (with_reducible apply And.intro) | (with_reducible intro _)))
  all_goals (try first | omega | (unfold zin; omega))
  refine z306_6 hL ?_
  (repeat' (first | (with_reducible apply And.intro) | (with_reducible intro _)))
  all_goals (try first | omega | (unfold zin; omega))
  exact hQ
theorem c306g {L : Nat} {xs : Nat → Int32} (hL : L ≤ 3072) {D : Nat} {J : zJ} {K : zK} {Q : zR → Nat → zJ → zK → Prop} (hD : 1 ≤ D) (hQ : Q (.inl (some (zl 79329434))) 0 J K) : zCall L xs D 306 [zi 5, zi 14, zi 7, zi 9, zi 14, zi 5, zi 0] J K Q := by
  obtain ⟨D, rfl⟩ : ∃ d, D = d + 1 := ⟨D - 1, by omega⟩
  refine z306 hL ?_
  refine z306_6 hL ?_
  (repeat' (first | (with_reducible apply And.intro) | (with_reducible intro _)))
  all_goals (try first | omega | (unfold zin; omega))
  refine z306_6 hL ?_
  (repeat' (first | (with_reducible apply And.intro) | (with_reducible intro _)))
  all_goals (try first | omega | (unfold zin; omega))
  refine z306_6 hL ?_
  (repeat' (first | (with_reducible apply And.intro) | (with_reducible intro _)))
  all_goals (try first | omega | (unfold zin; omega))
  refine z306_6 hL ?_
  (repeat' (first | (with_reducible apply And.intro) | (with_reducible intro _)))
  all_goals (try first | omega | (unfold zin; omega))
  refine z306_6 hL ?_
  (repeat' (first | (with_reducible apply And.intro) | (with_reducible intro _)))
  all_goals (try first | omega | (unfold zin; omega))
  refine z306_6 hL ?_
  (repeat' (first | (with_reducible apply And.intro) | (with_reducible intro _)))
  all_goals (try first | omega | (unfold zin; omega))
  refine z306_6 hL ?_
  (repeat' (first | (with_reducible apply And.intro) | (with_reducible intro _)))
  all_goals (try first | omega | (unfold zin; omega))
  refine z306_6 hL ?_
  (repeat' (first | (with_reducible apply And.intro) | (with_reducible intro _)))
  all_goals (try first | omega | (unfold zin; omega))
  exact hQ
theorem c306w {L : Nat} {xs : Nat → Int32} (hL : L ≤ 3072) {D : Nat} {J : zJ} {K : zK} {Q : zR → Nat → zJ → zK → Prop} (hD : 1 ≤ D) (hQ : Q (.inl (some (zl 453836))) 0 J K) : zCall L xs D 306 [zi 23, zi 1, zi 14, zi 20, zi 0, zi 0, zi 0] J K Q := by
  obtain ⟨D, rfl⟩ : ∃ d, D = d + 1 := ⟨D - 1, by omega⟩
  refine z306 hL ?_
  refine z306_6 hL ?_
  (repeat' (first | (with_reducible apply And.intro) | (with_reducible intro _)))
  all_goals (try first | omega | (unfold zin; omega))
  refine z306_6 hL ?_
  (repeat' (first | (with_reducible apply And.intro) | (with_reducible intro _)))
  all_goals (try first | omega | (unfold zin; omega))
  refine z306_6 hL ?_
  (repeat' (first | (with_reducible apply And.intro) | (with_reducible intro _)))
  all_goals (try first | omega | (unfold zin; omega))
  refine z306_6 hL ?_
  (repeat' (first | (with_reducible apply And.intro) | (with_reducible intro _)))
  all_goals (try first | omega | (unfold zin; omega))
  refine z306_6 hL ?_
  (repeat' (first | (with_reducible apply And.intro) | (with_reducible intro _)))
  all_goals (try first | omega | (unfold zin; omega))
  refine z306_6 hL ?_
  (repeat' (first | (with_reducible apply And.intro) | (with_reducible intro _)))
  all_goals (try first | omega | (unfold zin; omega))
  refine z306_6 hL ?_
  (repeat' (first | (with_reducible apply And.intro) | (with_reducible intro _)))
  all_goals (try first | omega | (unfold zin; omega))
  refine z306_6 hL ?_
  (repeat' (first | (with_reducible apply And.intro) | (with_reducible intro _)))
  all_goals (try first | omega | (unfold zin; omega))
  exact hQ
theorem c306r {L : Nat} {xs : Nat → Int32} (hL : L ≤ 3072) {D : Nat} {J : zJ} {K : zK} {Q : zR → Nat → zJ → zK → Prop} (hD : 1 ≤ D) (hQ : Q (.inl (some (zl 365654))) 0 J K) : zCall L xs D 306 [zi 18, zi 15, zi 15, zi 20, zi 0, zi 0, zi 0] J K Q := by
  obtain ⟨D, rfl⟩ : ∃ d, D = d + 1 := ⟨D - 1, by omega⟩
  refine z306 hL ?_
  refine z306_6 hL ?_
  (repeat' (first | (with_reducible apply And.intro) | (with_reducible intro _)))
  all_goals (try first | omega | (unfold zin; omega))
  refine z306_6 hL ?_
  (repeat' (first | (with_reducible apply And.intro) | (with_reducible intro _)))
  all_goals (try first | omega | (unfold zin; omega))
  refine z306_6 hL ?_
  (repeat' (first | (with_reducible apply And.intro) | (with_reducible intro _)))
  all_goals (try first | omega | (unfold zin; omega))
  refine z306_6 hL ?_
  (repeat' (first | (with_reducible apply And.intro) | (with_reducible intro _)))
  all_goals (try first | omega | (unfold zin; omega))
  refine z306_6 hL ?_
  (repeat' (first | (with_reducible apply And.intro) | (with_reducible intro _)))
  all_goals (try first | omega | (unfold zin; omega))
  refine z306_6 hL ?_
  (repeat' (first | (with_reducible apply And.intro) | (with_reducible intro _)))
  all_goals (try first | omega | (unfold zin; omega))
  refine z306_6 hL ?_
  (repeat' (first | (with_reducible apply And.intro) | (with_reducible intro _)))
  all_goals (try first | omega | (unfold zin; omega))
  refine z306_6 hL ?_
  (repeat' (first | (with_reducible apply And.intro) | (with_reducible intro _)))
  all_goals (try first | omega | (unfold zin; omega))
  exact hQ
