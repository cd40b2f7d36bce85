/-! WORDS of the tape: the model's isWord -/
theorem c253p {L : Nat} {xs : Nat → Int32} (hL : L ≤ 3072) {D : Nat} {J : zJ} {K : zK} {Q : zR → Nat → zJ → zK → Prop} {f : Int → Int} {N i : Int} (hT : Tpm f N J) (hi : J 142 0 4 = i) (i0 : 0 ≤ i) (i1 : i ≤ N) (h5 : J 142 0 5 = 0) (hD : 4 ≤ D) (hQ : ∀ J' : zJ, (∀ b : Nat, b ≠ 142 → J' b = J b) → (∀ k : Int, k ≠ 4 → J' 142 0 k = J 142 0 k) → J' 142 0 4 = skp isB f N i → Q (.inl (some (zi (zb (wdb [112, 108, 97, 99, 101] f (skp isB f N i) (skp isL f N (skp isB f N i))))))) 0 J' K) : zCall L xs D 253 [zr 142, zi 16, zi 12, zi 1, zi 3, zi 5, zi 0, zi 0] J K Q := by
  obtain ⟨D, rfl⟩ : ∃ d, D = d + 1 := ⟨D - 1, by omega⟩
  obtain ⟨a1, a2, a3, _⟩ := skp_rng (P := isL) (f := f) (n := N) _ (skp isB f N i) rfl
  refine z253 hL ⟨by rw [h5]; exact zin_0, fun z => absurd h5 z, fun _ => ?_⟩
  refine c307 hL hT hi i0 i1 (by omega) fun J1 f1 k1 v1 => zaL_of ?_
  refine c306p hL (by omega) (zaL_of ?_)
  have hq := hQ J1 f1 k1 v1
  have hw := wnv_wdb (w := [112, 108, 97, 99, 101]) (f := f) (s := skp isB f N i) (e := skp isL f N (skp isB f N i)) (W := 8740067) (by decide) (fun j j0 j1 => by
    have j1' : j < 5 := j1
    have hj : j = 0 ∨ j = 1 ∨ j = 2 ∨ j = 3 ∨ j = 4 := by omega
    rcases hj with y | y | y | y | y <;> (rw [y]; decide)) (by decide) a1 (fun j j0 j1 => isL_t.mp (a3 j j0 j1))
  refine ⟨zin_xs _, fun z => ⟨Or.inl rfl, ?_⟩, fun z => ⟨Or.inr rfl, ?_⟩⟩
  · have e : wdb [112, 108, 97, 99, 101] f (skp isB f N i) (skp isL f N (skp isB f N i)) = false := by
      rw [← Bool.not_eq_true]
      exact fun y => z (hw.mpr y)
    rw [e] at hq
    exact hq
  · rw [hw.mp z] at hq
    exact hq
theorem c253o {L : Nat} {xs : Nat → Int32} (hL : L ≤ 3072) {D : Nat} {J : zJ} {K : zK} {Q : zR → Nat → zJ → zK → Prop} {f : Int → Int} {N i : Int} (hT : Tpm f N J) (hi : J 142 0 4 = i) (i0 : 0 ≤ i) (i1 : i ≤ N) (h5 : J 142 0 5 = 0) (hD : 4 ≤ D) (hQ : ∀ J' : zJ, (∀ b : Nat, b ≠ 142 → J' b = J b) → (∀ k : Int, k ≠ 4 → J' 142 0 k = J 142 0 k) → J' 142 0 4 = skp isB f N i → Q (.inl (some (zi (zb (wdb [102, 111, 114, 107] f (skp isB f N i) (skp isL f N (skp isB f N i))))))) 0 J' K) : zCall L xs D 253 [zr 142, zi 6, zi 15, zi 18, zi 11, zi 0, zi 0, zi 0] J K Q := by
  obtain ⟨D, rfl⟩ : ∃ d, D = d + 1 := ⟨D - 1, by omega⟩
  obtain ⟨a1, a2, a3, _⟩ := skp_rng (P := isL) (f := f) (n := N) _ (skp isB f N i) rfl
  refine z253 hL ⟨by rw [h5]; exact zin_0, fun z => absurd h5 z, fun _ => ?_⟩
  refine c307 hL hT hi i0 i1 (by omega) fun J1 f1 k1 v1 => zaL_of ?_
  refine c306o hL (by omega) (zaL_of ?_)
  have hq := hQ J1 f1 k1 v1
  have hw := wnv_wdb (w := [102, 111, 114, 107]) (f := f) (s := skp isB f N i) (e := skp isL f N (skp isB f N i)) (W := 129530) (by decide) (fun j j0 j1 => by
    have j1' : j < 4 := j1
    have hj : j = 0 ∨ j = 1 ∨ j = 2 ∨ j = 3 := by omega
    rcases hj with y | y | y | y <;> (rw [y]; decide)) (by decide) a1 (fun j j0 j1 => isL_t.mp (a3 j j0 j1))
  refine ⟨zin_xs _, fun z => ⟨Or.inl rfl, ?_⟩, fun z => ⟨Or.inr rfl, ?_⟩⟩
  · have e : wdb [102, 111, 114, 107] f (skp isB f N i) (skp isL f N (skp isB f N i)) = false := by
      rw [← Bool.not_eq_true]
      exact fun y => z (hw.mpr y)
    rw [e] at hq
    exact hq
  · rw [hw.mp z] at hq
    exact hq
theorem c253n {L : Nat} {xs : Nat → Int32} (hL : L ≤ 3072) {D : Nat} {J : zJ} {K : zK} {Q : zR → Nat → zJ → zK → Prop} {f : Int → Int} {N i : Int} (hT : Tpm f N J) (hi : J 142 0 4 = i) (i0 : 0 ≤ i) (i1 : i ≤ N) (h5 : J 142 0 5 = 0) (hD : 4 ≤ D) (hQ : ∀ J' : zJ, (∀ b : Nat, b ≠ 142 → J' b = J b) → (∀ k : Int, k ≠ 4 → J' 142 0 k = J 142 0 k) → J' 142 0 4 = skp isB f N i → Q (.inl (some (zi (zb (wdb [112, 111, 114, 116, 105, 111, 110] f (skp isB f N i) (skp isL f N (skp isB f N i))))))) 0 J' K) : zCall L xs D 253 [zr 142, zi 16, zi 15, zi 18, zi 20, zi 9, zi 15, zi 14] J K Q := by
  obtain ⟨D, rfl⟩ : ∃ d, D = d + 1 := ⟨D - 1, by omega⟩
  obtain ⟨a1, a2, a3, _⟩ := skp_rng (P := isL) (f := f) (n := N) _ (skp isB f N i) rfl
  refine z253 hL ⟨by rw [h5]; exact zin_0, fun z => absurd h5 z, fun _ => ?_⟩
  refine c307 hL hT hi i0 i1 (by omega) fun J1 f1 k1 v1 => zaL_of ?_
  refine c306n hL (by omega) (zaL_of ?_)
  have hq := hQ J1 f1 k1 v1
  have hw := wnv_wdb (w := [112, 111, 114, 116, 105, 111, 110]) (f := f) (s := skp isB f N i) (e := skp isL f N (skp isB f N i)) (W := 6423928007) (by decide) (fun j j0 j1 => by
    have j1' : j < 7 := j1
    have hj : j = 0 ∨ j = 1 ∨ j = 2 ∨ j = 3 ∨ j = 4 ∨ j = 5 ∨ j = 6 := by omega
    rcases hj with y | y | y | y | y | y | y <;> (rw [y]; decide)) (by decide) a1 (fun j j0 j1 => isL_t.mp (a3 j j0 j1))
  refine ⟨zin_xs _, fun z => ⟨Or.inl rfl, ?_⟩, fun z => ⟨Or.inr rfl, ?_⟩⟩
  · have e : wdb [112, 111, 114, 116, 105, 111, 110] f (skp isB f N i) (skp isL f N (skp isB f N i)) = false := by
      rw [← Bool.not_eq_true]
      exact fun y => z (hw.mpr y)
    rw [e] at hq
    exact hq
  · rw [hw.mp z] at hq
    exact hq
theorem c253l {L : Nat} {xs : Nat → Int32} (hL : L ≤ 3072) {D : Nat} {J : zJ} {K : zK} {Q : zR → Nat → zJ → zK → Prop} {f : Int → Int} {N i : Int} (hT : Tpm f N J) (hi : J 142 0 4 = i) (i0 : 0 ≤ i) (i1 : i ≤ N) (h5 : J 142 0 5 = 0) (hD : 4 ≤ D) (hQ : ∀ J' : zJ, (∀ b : Nat, b ≠ 142 → J' b = J b) → (∀ k : Int, k ≠ 4 → J' 142 0 k = J 142 0 k) → J' 142 0 4 = skp isB f N i → Q (.inl (some (zi (zb (wdb [108, 97, 116, 101] f (skp isB f N i) (skp isL f N (skp isB f N i))))))) 0 J' K) : zCall L xs D 253 [zr 142, zi 12, zi 1, zi 20, zi 5, zi 0, zi 0, zi 0] J K Q := by
  obtain ⟨D, rfl⟩ : ∃ d, D = d + 1 := ⟨D - 1, by omega⟩
  obtain ⟨a1, a2, a3, _⟩ := skp_rng (P := isL) (f := f) (n := N) _ (skp isB f N i) rfl
  refine z253 hL ⟨by rw [h5]; exact zin_0, fun z => absurd h5 z, fun _ => ?_⟩
  refine c307 hL hT hi i0 i1 (by omega) fun J1 f1 k1 v1 => zaL_of ?_
  refine c306l hL (by omega) (zaL_of ?_)
  have hq := hQ J1 f1 k1 v1
  have hw := wnv_wdb (w := [108, 97, 116, 101]) (f := f) (s := skp isB f N i) (e := skp isL f N (skp isB f N i)) (W := 237470) (by decide) (fun j j0 j1 => by
    have j1' : j < 4 := j1
    have hj : j = 0 ∨ j = 1 ∨ j = 2 ∨ j = 3 := by omega
    rcases hj with y | y | y | y <;> (rw [y]; decide)) (by decide) a1 (fun j j0 j1 => isL_t.mp (a3 j j0 j1))
  refine ⟨zin_xs _, fun z => ⟨Or.inl rfl, ?_⟩, fun z => ⟨Or.inr rfl, ?_⟩⟩
  · have e : wdb [108, 97, 116, 101] f (skp isB f N i) (skp isL f N (skp isB f N i)) = false := by
      rw [← Bool.not_eq_true]
      exact fun y => z (hw.mpr y)
    rw [e] at hq
    exact hq
  · rw [hw.mp z] at hq
    exact hq
theorem c253g {L : Nat} {xs : Nat → Int32} (hL : L ≤ 3072) {D : Nat} {J : zJ} {K : zK} {Q : zR → Nat → zJ → zK → Prop} {f : Int → Int} {N i : Int} (hT : Tpm f N J) (hi : J 142 0 4 = i) (i0 : 0 ≤ i) (i1 : i ≤ N) (h5 : J 142 0 5 = 0) (hD : 4 ≤ D) (hQ : ∀ J' : zJ, (∀ b : Nat, b ≠ 142 → J' b = J b) → (∀ k : Int, k ≠ 4 → J' 142 0 k = J 142 0 k) → J' 142 0 4 = skp isB f N i → Q (.inl (some (zi (zb (wdb [101, 110, 103, 105, 110, 101] f (skp isB f N i) (skp isL f N (skp isB f N i))))))) 0 J' K) : zCall L xs D 253 [zr 142, zi 5, zi 14, zi 7, zi 9, zi 14, zi 5, zi 0] J K Q := by
  obtain ⟨D, rfl⟩ : ∃ d, D = d + 1 := ⟨D - 1, by omega⟩
  obtain ⟨a1, a2, a3, _⟩ := skp_rng (P := isL) (f := f) (n := N) _ (skp isB f N i) rfl
  refine z253 hL ⟨by rw [h5]; exact zin_0, fun z => absurd h5 z, fun _ => ?_⟩
  refine c307 hL hT hi i0 i1 (by omega) fun J1 f1 k1 v1 => zaL_of ?_
  refine c306g hL (by omega) (zaL_of ?_)
  have hq := hQ J1 f1 k1 v1
  have hw := wnv_wdb (w := [101, 110, 103, 105, 110, 101]) (f := f) (s := skp isB f N i) (e := skp isL f N (skp isB f N i)) (W := 79329434) (by decide) (fun j j0 j1 => by
    have j1' : j < 6 := j1
    have hj : j = 0 ∨ j = 1 ∨ j = 2 ∨ j = 3 ∨ j = 4 ∨ j = 5 := by omega
    rcases hj with y | y | y | y | y | y <;> (rw [y]; decide)) (by decide) a1 (fun j j0 j1 => isL_t.mp (a3 j j0 j1))
  refine ⟨zin_xs _, fun z => ⟨Or.inl rfl, ?_⟩, fun z => ⟨Or.inr rfl, ?_⟩⟩
  · have e : wdb [101, 110, 103, 105, 110, 101] f (skp isB f N i) (skp isL f N (skp isB f N i)) = false := by
      rw [← Bool.not_eq_true]
      exact fun y => z (hw.mpr y)
    rw [e] at hq
    exact hq
  · rw [hw.mp z] at hq
    exact hq
theorem c253w {L : Nat} {xs : Nat → Int32} (hL : L ≤ 3072) {D : Nat} {J : zJ} {K : zK} {Q : zR → Nat → zJ → zK → Prop} {f : Int → Int} {N i : Int} (hT : Tpm f N J) (hi : J 142 0 4 = i) (i0 : 0 ≤ i) (i1 : i ≤ N) (h5 : J 142 0 5 = 0) (hD : 4 ≤ D) (hQ : ∀ J' : zJ, (∀ b : Nat, b ≠ 142 → J' b = J b) → (∀ k : Int, k ≠ 4 → J' 142 0 k = J 142 0 k) → J' 142 0 4 = skp isB f N i → Q (.inl (some (zi (zb (wdb [119, 97, 110, 116] f (skp isB f N i) (skp isL f N (skp isB f N i))))))) 0 J' K) : zCall L xs D 253 [zr 142, zi 23, zi 1, zi 14, zi 20, zi 0, zi 0, zi 0] J K Q := by
  obtain ⟨D, rfl⟩ : ∃ d, D = d + 1 := ⟨D - 1, by omega⟩
  obtain ⟨a1, a2, a3, _⟩ := skp_rng (P := isL) (f := f) (n := N) _ (skp isB f N i) rfl
  refine z253 hL ⟨by rw [h5]; exact zin_0, fun z => absurd h5 z, fun _ => ?_⟩
  refine c307 hL hT hi i0 i1 (by omega) fun J1 f1 k1 v1 => zaL_of ?_
  refine c306w hL (by omega) (zaL_of ?_)
  have hq := hQ J1 f1 k1 v1
  have hw := wnv_wdb (w := [119, 97, 110, 116]) (f := f) (s := skp isB f N i) (e := skp isL f N (skp isB f N i)) (W := 453836) (by decide) (fun j j0 j1 => by
    have j1' : j < 4 := j1
    have hj : j = 0 ∨ j = 1 ∨ j = 2 ∨ j = 3 := by omega
    rcases hj with y | y | y | y <;> (rw [y]; decide)) (by decide) a1 (fun j j0 j1 => isL_t.mp (a3 j j0 j1))
  refine ⟨zin_xs _, fun z => ⟨Or.inl rfl, ?_⟩, fun z => ⟨Or.inr rfl, ?_⟩⟩
  · have e : wdb [119, 97, 110, 116] f (skp isB f N i) (skp isL f N (skp isB f N i)) = false := by
      rw [← Bool.not_eq_true]
      exact fun y => z (hw.mpr y)
    rw [e] at hq
    exact hq
  · rw [hw.mp z] at hq
    exact hq
theorem c253r {L : Nat} {xs : Nat → Int32} (hL : L ≤ 3072) {D : Nat} {J : zJ} {K : zK} {Q : zR → Nat → zJ → zK → Prop} {f : Int → Int} {N i : Int} (hT : Tpm f N J) (hi : J 142 0 4 = i) (i0 : 0 ≤ i) (i1 : i ≤ N) (h5 : J 142 0 5 = 0) (hD : 4 ≤ D) (hQ : ∀ J' : zJ, (∀ b : Nat, b ≠ 142 → J' b = J b) → (∀ k : Int, k ≠ 4 → J' 142 0 k = J 142 0 k) → J' 142 0 4 = skp isB f N i → Q (.inl (some (zi (zb (wdb [114, 111, 111, 116] f (skp isB f N i) (skp isL f N (skp isB f N i))))))) 0 J' K) : zCall L xs D 253 [zr 142, zi 18, zi 15, zi 15, zi 20, zi 0, zi 0, zi 0] J K Q := by
  obtain ⟨D, rfl⟩ : ∃ d, D = d + 1 := ⟨D - 1, by omega⟩
  obtain ⟨a1, a2, a3, _⟩ := skp_rng (P := isL) (f := f) (n := N) _ (skp isB f N i) rfl
  refine z253 hL ⟨by rw [h5]; exact zin_0, fun z => absurd h5 z, fun _ => ?_⟩
  refine c307 hL hT hi i0 i1 (by omega) fun J1 f1 k1 v1 => zaL_of ?_
  refine c306r hL (by omega) (zaL_of ?_)
  have hq := hQ J1 f1 k1 v1
  have hw := wnv_wdb (w := [114, 111, 111, 116]) (f := f) (s := skp isB f N i) (e := skp isL f N (skp isB f N i)) (W := 365654) (by decide) (fun j j0 j1 => by
    have j1' : j < 4 := j1
    have hj : j = 0 ∨ j = 1 ∨ j = 2 ∨ j = 3 := by omega
    rcases hj with y | y | y | y <;> (rw [y]; decide)) (by decide) a1 (fun j j0 j1 => isL_t.mp (a3 j j0 j1))
  refine ⟨zin_xs _, fun z => ⟨Or.inl rfl, ?_⟩, fun z => ⟨Or.inr rfl, ?_⟩⟩
  · have e : wdb [114, 111, 111, 116] f (skp isB f N i) (skp isL f N (skp isB f N i)) = false := by
      rw [← Bool.not_eq_true]
      exact fun y => z (hw.mpr y)
    rw [e] at hq
    exact hq
  · rw [hw.mp z] at hq
    exact hq
