/-! WORDS of the tape; the end of a clause -/
def wdb (w : List Nat) (f : Int → Int) (s e : Int) : Bool := decide (e - s = w.length) && decide (cnt (fun k => !decide (f (s + k) = ((w.getD k.toNat 0 : Nat) : Int))) w.length = 0)
theorem c293 {L : Nat} {xs : Nat → Int32} (hL : L ≤ 3072) {D : Nat} {J : zJ} {K : zK} {Q : zR → Nat → zJ → zK → Prop} {f : Int → Int} {N i : Int} (hT : Tpm f N J) (hi : J 142 0 4 = i) (i0 : 0 ≤ i) (i1 : i ≤ N) (hD : 2 ≤ D) (hQ : ∀ J' : zJ, (∀ b : Nat, b ≠ 142 → J' b = J b) → (∀ k : Int, k ≠ 4 → J' 142 0 k = J 142 0 k) → J' 142 0 4 = skp isL f N i → Q (.inl none) 0 J' K) : zCall L xs D 293 [zr 142] J K Q := by
  obtain ⟨D, rfl⟩ : ∃ d, D = d + 1 := ⟨D - 1, by omega⟩
  have key : ∀ (m : Nat) (j : Int) (J1 : zJ), m = (N - j).toNat → 0 ≤ j → j ≤ N → (∀ b : Nat, b ≠ 142 → J1 b = J b) → (∀ k : Int, k ≠ 4 → J1 142 0 k = J 142 0 k) → J1 142 0 4 = j → skp isL f N i = skp isL f N j → zGo L xs (D + 1) 293 0 [some (zr 142)] [] J1 K Q := by
    intro n; induction n using Nat.strongRecOn with
  | _ n ih =>
    intro j J1 hm j0 j1 f1 k1 v4 hs
    have hT1 := tpm_eq hT (f1 143 (by decide)) (k1 2 (by decide))
    have t2 := hT1.2.1
    refine z293_0 hL ?_
    rw [v4]
    refine c204 hL hT1 j0 (by omega) (by omega) (zaI_of ?_)
    rw [v4]
    by_cases q : j < N
    · obtain ⟨c0, c1, c2⟩ := hT1.2.2 j j0 q
      rw [if_pos q]
      refine ⟨⟨by omega, by omega⟩, ⟨by decide, by decide⟩, fun z => ?_, fun z => ?_⟩
      · have hno : ¬ (j < N ∧ isL (f j) = true) := by
          rintro ⟨_, y⟩
          rw [isL_t] at y
          omega
        exact hQ J1 f1 k1 (by rw [v4, hs, skp_no hno])
      · refine c204 hL hT1 j0 (by omega) (by omega) (zaI_of ?_)
        rw [if_pos q, v4]
        refine ⟨⟨by omega, by omega⟩, ⟨by decide, by decide⟩, fun z2 => ?_, fun z2 => ?_⟩
        · have hno : ¬ (j < N ∧ isL (f j) = true) := by
            rintro ⟨_, y⟩
            rw [isL_t] at y
            omega
          exact hQ J1 f1 k1 (by rw [v4, hs, skp_no hno])
        · exact ih _ (by omega) (j + 1) (zup J1 142 0 4 (j + 1)) rfl (by omega) (by omega) (fun b hb => by rw [zup_ne _ _ _ _ hb]; exact f1 b hb) (fun k hk => by rw [zup_nk _ _ hk]; exact k1 k hk) (zup_eq _ _ _ _ _) (by rw [hs, skp_go q (isL_t.mpr ⟨z, z2⟩)])
    · rw [if_neg q]
      refine ⟨⟨by decide, by decide⟩, ⟨by decide, by decide⟩, fun z => ?_, fun z => absurd z (by decide)⟩
      exact hQ J1 f1 k1 (by rw [v4, hs, skp_no fun y => q y.1])
  have h0 := key _ i J rfl i0 i1 (fun _ _ => rfl) (fun _ _ => rfl) hi rfl
  exact h0
/-- the end of a clause: the class -/
theorem c87 {L : Nat} {xs : Nat → Int32} (hL : L ≤ 3072) {D : Nat} {J : zJ} {K : zK} {Q : zR → Nat → zJ → zK → Prop} {f : Int → Int} {N i : Int} (hT : Tpc f N J) (hi : J 2 0 3 = i) (i0 : 0 ≤ i) (i1 : i ≤ N) (h5 : J 2 0 5 = 0) (hD : 2 ≤ D) (hQ : ∀ J' : zJ, (∀ b : Nat, b ≠ 2 → J' b = J b) → (∀ k : Int, k ≠ 3 → k ≠ 5 → k ≠ 6 → J' 2 0 k = J 2 0 k) → ((skp isB f N i < N ∧ f (skp isB f N i) = 59) → J' 2 0 3 = skp isB f N i + 1 → J' 2 0 5 = 0 → J' 2 0 6 = J 2 0 6 → Q (.inl (some (zi (1)))) 0 J' K) ∧ (¬ (skp isB f N i < N ∧ f (skp isB f N i) = 59) → J' 2 0 3 = skp isB f N i → J' 2 0 5 = 1 → J' 2 0 6 = skp isB f N i → Q (.inl (some (zi (0)))) 0 J' K)) : zCall L xs D 87 [zr 2] J K Q := by
  obtain ⟨D, rfl⟩ : ∃ d, D = d + 1 := ⟨D - 1, by omega⟩
  obtain ⟨b1, b2, _, _⟩ := skp_rng (P := isB) (f := f) (n := N) _ i rfl
  have hb2 := b2 i1
  refine z87 hL ⟨by rw [h5]; exact zin_0, fun _ => ?_, fun z => absurd h5 z⟩
  refine c101 hL hT hi i0 i1 (by omega) fun J1 f1 k1 v1 => zaV_of ?_
  have hT1 := tpc_eq hT (f1 1 (by decide)) (k1 2 (by decide))
  obtain ⟨t1, t2, t3⟩ := hT1
  have e5 : J1 2 0 5 = 0 := by rw [k1 5 (by decide)]; exact h5
  generalize skp isB f N i = s at *
  have bad : ¬ (s < N ∧ f s = 59) → zCall L xs D 86 [zr 2, zi 1, zi s] J1 K fun r2 e2 J2 K2 => zaV r2 e2 (((0 : Int) = 0 ∨ (0 : Int) = 1) ∧ Q (.inl (some (zi 0))) 0 J2 K2) (fun E => Q (.inr E) e2 J2 K2) := by
    intro hn
    refine c86 hL (by rw [e5]; exact zin_0) (by omega) (fun z => absurd e5 z) fun _ => zaV_of ⟨Or.inl rfl, ?_⟩
    refine (hQ _ (fun b hb => by rw [zup_ne _ _ _ _ hb, zup_ne _ _ _ _ hb]; exact f1 b hb) (fun k x y z => by rw [zup_nk _ _ z, zup_nk _ _ y]; exact k1 k x)).2 hn ?_ ?_ (zup_eq _ _ _ _ _)
    · rw [zup_nk _ _ (by decide), zup_nk _ _ (by decide), v1]
    · rw [zup_nk _ _ (by decide), zup_eq]
  rw [v1, t1]
  refine ⟨⟨by omega, by omega⟩, ⟨by omega, by omega⟩, fun q => bad fun z => by omega, fun q => ?_⟩
  obtain ⟨c0, c1, c2⟩ := t3 s (by omega) q
  have hg := sg_rng c0 c1
  rw [c2]
  refine ⟨by omega, by omega, ⟨by omega, by omega⟩, ⟨by decide, by decide⟩, fun z => ⟨Or.inr rfl, ?_⟩, fun z => bad fun y => ?_⟩
  · refine (hQ _ (fun b hb => by rw [zup_ne _ _ _ _ hb]; exact f1 b hb) (fun k x y w => by rw [zup_nk _ _ x]; exact k1 k x)).1 ⟨q, by omega⟩ (zup_eq _ _ _ _ _) ?_ ?_
    · rw [zup_nk _ _ (by decide)]
      exact e5
    · rw [zup_nk _ _ (by decide)]
      exact k1 6 (by decide)
  · omega
/-- the end of a clause: the model -/
theorem c292 {L : Nat} {xs : Nat → Int32} (hL : L ≤ 3072) {D : Nat} {J : zJ} {K : zK} {Q : zR → Nat → zJ → zK → Prop} {f : Int → Int} {N i : Int} (hT : Tpm f N J) (hi : J 142 0 4 = i) (i0 : 0 ≤ i) (i1 : i ≤ N) (h5 : J 142 0 5 = 0) (hD : 3 ≤ D) (hQ : ∀ J' : zJ, (∀ b : Nat, b ≠ 142 → J' b = J b) → (∀ k : Int, k ≠ 4 → k ≠ 5 → k ≠ 6 → J' 142 0 k = J 142 0 k) → ((skp isB f N i < N ∧ f (skp isB f N i) = 59) → J' 142 0 4 = skp isB f N i + 1 → J' 142 0 5 = 0 → J' 142 0 6 = J 142 0 6 → Q (.inl none) 0 J' K) ∧ (¬ (skp isB f N i < N ∧ f (skp isB f N i) = 59) → J' 142 0 4 = skp isB f N i → J' 142 0 5 = 1 → J' 142 0 6 = skp isB f N i → Q (.inl none) 0 J' K)) : zCall L xs D 292 [zr 142, zi 59] J K Q := by
  obtain ⟨D, rfl⟩ : ∃ d, D = d + 1 := ⟨D - 1, by omega⟩
  obtain ⟨b1, b2, _, _⟩ := skp_rng (P := isB) (f := f) (n := N) _ i rfl
  have hb2 := b2 i1
  have tN := hT.2.1
  refine z292 hL ⟨by rw [h5]; exact zin_0, fun _ => ?_, fun z => absurd h5 z⟩
  refine c202 hL hT hi i0 i1 (by omega) fun J1 f1 k1 v1 => zaV_of ?_
  have hT1 := tpm_eq hT (f1 143 (by decide)) (k1 2 (by decide))
  have e5 : J1 142 0 5 = 0 := by rw [k1 5 (by decide)]; exact h5
  generalize skp isB f N i = s at *
  rw [v1]
  have hcj : zin (if s < N then f s else -1) := by
    split
    · rename_i q
      have := hT1.2.2 s (by omega) q
      exact ⟨by omega, by omega⟩
    · exact ⟨by decide, by decide⟩
  refine c204 hL hT1 (by omega) (by omega) (by omega) (zaI_of ⟨hcj, ⟨by decide, by decide⟩, fun z => ?_, fun z => ?_⟩)
  · rw [v1]
    refine c314 hL (by rw [e5]; exact zin_0) (by omega) (fun y => absurd e5 y) fun _ => zaV_of ?_
    refine (hQ _ (fun b hb => by rw [zup_ne _ _ _ _ hb, zup_ne _ _ _ _ hb]; exact f1 b hb) (fun k x y w => by rw [zup_nk _ _ w, zup_nk _ _ y]; exact k1 k x)).2 (fun y => z (by rw [if_pos y.1]; exact y.2)) ?_ ?_ (zup_eq _ _ _ _ _)
    · rw [zup_nk _ _ (by decide), zup_nk _ _ (by decide), v1]
    · rw [zup_nk _ _ (by decide), zup_eq]
  · have q : s < N := by
      by_cases q : s < N
      · exact q
      · rw [if_neg q] at z
        exact absurd z (by decide)
    rw [if_pos q] at z
    rw [v1]
    refine (hQ _ (fun b hb => by rw [zup_ne _ _ _ _ hb]; exact f1 b hb) (fun k x y w => by rw [zup_nk _ _ x]; exact k1 k x)).1 ⟨q, z⟩ (zup_eq _ _ _ _ _) ?_ ?_
    · rw [zup_nk _ _ (by decide)]
      exact e5
    · rw [zup_nk _ _ (by decide)]
      exact k1 6 (by decide)
theorem c88 {L : Nat} {xs : Nat → Int32} (hL : L ≤ 3072) {D : Nat} {J : zJ} {K : zK} {Q : zR → Nat → zJ → zK → Prop} {f : Int → Int} {N s e : Int} (hT : Tpc f N J) (h4 : J 2 0 4 = s) (h3 : J 2 0 3 = e) (s0 : 0 ≤ s) (se : s ≤ e) (e1 : e ≤ N) (hD : 9 ≤ D) (hQ : Q (.inl (some (zi (zb (wdb [114, 111, 111, 116] f s e))))) 0 J K) : zCall L xs D 88 [zr 2, zr 1000023] J K Q := by
  obtain ⟨D, rfl⟩ : ∃ d, D = d + 1 := ⟨D - 1, by omega⟩
  obtain ⟨t1, t2, t3⟩ := hT
  have key : ∀ (m : Nat) (k : Int), m = (4 - k).toNat → 0 ≤ k → k ≤ 4 → e - s = 4 → cnt (fun k => !decide (f (s + k) = ((([114, 111, 111, 116] : List Nat).getD k.toNat 0 : Nat) : Int))) k.toNat = 0 → zGo L xs (D + 1) 88 20 [some (zr 2), some (zr 1000023), some (zi k)] [] J K Q := by
    intro n; induction n using Nat.strongRecOn with
  | _ n ih =>
    intro k hm k0 k1 he hc
    refine z88_20 hL ?_
    rw [h4]
    refine ⟨by omega, ⟨by omega, by omega⟩, ⟨by decide, by decide⟩, fun q => ⟨Or.inr rfl, ?_⟩, fun q => ?_⟩
    · have ek : k = 4 := by omega
      rw [ek] at hc
      have : wdb [114, 111, 111, 116] f s e = true := by
        unfold wdb
        rw [Bool.and_eq_true, decide_eq_true_iff, decide_eq_true_iff]
        exact ⟨he, hc⟩
      rw [this] at hQ
      exact hQ
    · obtain ⟨c0, c1, c2⟩ := t3 (s + k) (by omega) (by omega)
      have hg := sg_rng c0 c1
      have hw : ∀ j : Int, 0 ≤ j → j < 4 → 97 ≤ ((([114, 111, 111, 116] : List Nat).getD j.toNat 0 : Nat) : Int) ∧ ((([114, 111, 111, 116] : List Nat).getD j.toNat 0 : Nat) : Int) ≤ 122 := fun j j0 j1 => by
        have hj : j = 0 ∨ j = 1 ∨ j = 2 ∨ j = 3 := by omega
        rcases hj with y | y | y | y <;> (rw [y]; decide)
      have hwk := hw k k0 q
      rw [c2]
      refine ⟨by omega, by omega, by omega, k0, q, ⟨by omega, by omega⟩, ⟨by omega, by omega⟩, fun z => ?_, fun z => ⟨Or.inl rfl, ?_⟩⟩
      · refine ih _ (by omega) (k + 1) rfl (by omega) (by omega) he ?_
        rw [cnt_next k0, hc, decide_eq_true (by omega)]
        rfl
      · have : wdb [114, 111, 111, 116] f s e = false := by
          unfold wdb
          rw [Bool.and_eq_false_iff, decide_eq_false_iff_not, decide_eq_false_iff_not]
          right
          intro y
          have h1 : 0 < cnt (fun k => !decide (f (s + k) = ((([114, 111, 111, 116] : List Nat).getD k.toNat 0 : Nat) : Int))) ([114, 111, 111, 116] : List Nat).length := cnt_pos.mpr ⟨k, k0, q, by rw [decide_eq_false (by omega)]; rfl⟩
          omega
        rw [this] at hQ
        exact hQ
  refine z88 hL ?_
  rw [h3, h4]
  refine ⟨by omega, ⟨by omega, by omega⟩, ⟨by decide, by decide⟩, fun q => key _ 0 rfl (Int.le_refl 0) (by decide) q rfl, fun q => ⟨Or.inl rfl, ?_⟩⟩
  have : wdb [114, 111, 111, 116] f s e = false := by
    unfold wdb
    rw [Bool.and_eq_false_iff, decide_eq_false_iff_not]
    exact Or.inl q
  rw [this] at hQ
  exact hQ
theorem c88a {L : Nat} {xs : Nat → Int32} (hL : L ≤ 3072) {D : Nat} {J : zJ} {K : zK} {Q : zR → Nat → zJ → zK → Prop} {f : Int → Int} {N s e : Int} (hT : Tpc f N J) (h4 : J 2 0 4 = s) (h3 : J 2 0 3 = e) (s0 : 0 ≤ s) (se : s ≤ e) (e1 : e ≤ N) (hD : 9 ≤ D) (hQ : Q (.inl (some (zi (zb (wdb [112, 108, 97, 99, 101] f s e))))) 0 J K) : zCall L xs D 88 [zr 2, zr 1000024] J K Q := by
  obtain ⟨D, rfl⟩ : ∃ d, D = d + 1 := ⟨D - 1, by omega⟩
  obtain ⟨t1, t2, t3⟩ := hT
  have key : ∀ (m : Nat) (k : Int), m = (5 - k).toNat → 0 ≤ k → k ≤ 5 → e - s = 5 → cnt (fun k => !decide (f (s + k) = ((([112, 108, 97, 99, 101] : List Nat).getD k.toNat 0 : Nat) : Int))) k.toNat = 0 → zGo L xs (D + 1) 88 20 [some (zr 2), some (zr 1000024), some (zi k)] [] J K Q := by
    intro n; induction n using Nat.strongRecOn with
  | _ n ih =>
    intro k hm k0 k1 he hc
    refine z88a_20 hL ?_
    rw [h4]
    refine ⟨by omega, ⟨by omega, by omega⟩, ⟨by decide, by decide⟩, fun q => ⟨Or.inr rfl, ?_⟩, fun q => ?_⟩
    · have ek : k = 5 := by omega
      rw [ek] at hc
      have : wdb [112, 108, 97, 99, 101] f s e = true := by
        unfold wdb
        rw [Bool.and_eq_true, decide_eq_true_iff, decide_eq_true_iff]
        exact ⟨he, hc⟩
      rw [this] at hQ
      exact hQ
    · obtain ⟨c0, c1, c2⟩ := t3 (s + k) (by omega) (by omega)
      have hg := sg_rng c0 c1
      have hw : ∀ j : Int, 0 ≤ j → j < 5 → 97 ≤ ((([112, 108, 97, 99, 101] : List Nat).getD j.toNat 0 : Nat) : Int) ∧ ((([112, 108, 97, 99, 101] : List Nat).getD j.toNat 0 : Nat) : Int) ≤ 122 := fun j j0 j1 => by
        have hj : j = 0 ∨ j = 1 ∨ j = 2 ∨ j = 3 ∨ j = 4 := by omega
        rcases hj with y | y | y | y | y <;> (rw [y]; decide)
      have hwk := hw k k0 q
      rw [c2]
      refine ⟨by omega, by omega, by omega, k0, q, ⟨by omega, by omega⟩, ⟨by omega, by omega⟩, fun z => ?_, fun z => ⟨Or.inl rfl, ?_⟩⟩
      · refine ih _ (by omega) (k + 1) rfl (by omega) (by omega) he ?_
        rw [cnt_next k0, hc, decide_eq_true (by omega)]
        rfl
      · have : wdb [112, 108, 97, 99, 101] f s e = false := by
          unfold wdb
          rw [Bool.and_eq_false_iff, decide_eq_false_iff_not, decide_eq_false_iff_not]
          right
          intro y
          have h1 : 0 < cnt (fun k => !decide (f (s + k) = ((([112, 108, 97, 99, 101] : List Nat).getD k.toNat 0 : Nat) : Int))) ([112, 108, 97, 99, 101] : List Nat).length := cnt_pos.mpr ⟨k, k0, q, by rw [decide_eq_false (by omega)]; rfl⟩
          omega
        rw [this] at hQ
        exact hQ
  refine z88a hL ?_
  rw [h3, h4]
  refine ⟨by omega, ⟨by omega, by omega⟩, ⟨by decide, by decide⟩, fun q => key _ 0 rfl (Int.le_refl 0) (by decide) q rfl, fun q => ⟨Or.inl rfl, ?_⟩⟩
  have : wdb [112, 108, 97, 99, 101] f s e = false := by
    unfold wdb
    rw [Bool.and_eq_false_iff, decide_eq_false_iff_not]
    exact Or.inl q
  rw [this] at hQ
  exact hQ
theorem c88b {L : Nat} {xs : Nat → Int32} (hL : L ≤ 3072) {D : Nat} {J : zJ} {K : zK} {Q : zR → Nat → zJ → zK → Prop} {f : Int → Int} {N s e : Int} (hT : Tpc f N J) (h4 : J 2 0 4 = s) (h3 : J 2 0 3 = e) (s0 : 0 ≤ s) (se : s ≤ e) (e1 : e ≤ N) (hD : 9 ≤ D) (hQ : Q (.inl (some (zi (zb (wdb [102, 111, 114, 107] f s e))))) 0 J K) : zCall L xs D 88 [zr 2, zr 1000025] J K Q := by
  obtain ⟨D, rfl⟩ : ∃ d, D = d + 1 := ⟨D - 1, by omega⟩
  obtain ⟨t1, t2, t3⟩ := hT
  have key : ∀ (m : Nat) (k : Int), m = (4 - k).toNat → 0 ≤ k → k ≤ 4 → e - s = 4 → cnt (fun k => !decide (f (s + k) = ((([102, 111, 114, 107] : List Nat).getD k.toNat 0 : Nat) : Int))) k.toNat = 0 → zGo L xs (D + 1) 88 20 [some (zr 2), some (zr 1000025), some (zi k)] [] J K Q := by
    intro n; induction n using Nat.strongRecOn with
  | _ n ih =>
    intro k hm k0 k1 he hc
    refine z88b_20 hL ?_
    rw [h4]
    refine ⟨by omega, ⟨by omega, by omega⟩, ⟨by decide, by decide⟩, fun q => ⟨Or.inr rfl, ?_⟩, fun q => ?_⟩
    · have ek : k = 4 := by omega
      rw [ek] at hc
      have : wdb [102, 111, 114, 107] f s e = true := by
        unfold wdb
        rw [Bool.and_eq_true, decide_eq_true_iff, decide_eq_true_iff]
        exact ⟨he, hc⟩
      rw [this] at hQ
      exact hQ
    · obtain ⟨c0, c1, c2⟩ := t3 (s + k) (by omega) (by omega)
      have hg := sg_rng c0 c1
      have hw : ∀ j : Int, 0 ≤ j → j < 4 → 97 ≤ ((([102, 111, 114, 107] : List Nat).getD j.toNat 0 : Nat) : Int) ∧ ((([102, 111, 114, 107] : List Nat).getD j.toNat 0 : Nat) : Int) ≤ 122 := fun j j0 j1 => by
        have hj : j = 0 ∨ j = 1 ∨ j = 2 ∨ j = 3 := by omega
        rcases hj with y | y | y | y <;> (rw [y]; decide)
      have hwk := hw k k0 q
      rw [c2]
      refine ⟨by omega, by omega, by omega, k0, q, ⟨by omega, by omega⟩, ⟨by omega, by omega⟩, fun z => ?_, fun z => ⟨Or.inl rfl, ?_⟩⟩
      · refine ih _ (by omega) (k + 1) rfl (by omega) (by omega) he ?_
        rw [cnt_next k0, hc, decide_eq_true (by omega)]
        rfl
      · have : wdb [102, 111, 114, 107] f s e = false := by
          unfold wdb
          rw [Bool.and_eq_false_iff, decide_eq_false_iff_not, decide_eq_false_iff_not]
          right
          intro y
          have h1 : 0 < cnt (fun k => !decide (f (s + k) = ((([102, 111, 114, 107] : List Nat).getD k.toNat 0 : Nat) : Int))) ([102, 111, 114, 107] : List Nat).length := cnt_pos.mpr ⟨k, k0, q, by rw [decide_eq_false (by omega)]; rfl⟩
          omega
        rw [this] at hQ
        exact hQ
  refine z88b hL ?_
  rw [h3, h4]
  refine ⟨by omega, ⟨by omega, by omega⟩, ⟨by decide, by decide⟩, fun q => key _ 0 rfl (Int.le_refl 0) (by decide) q rfl, fun q => ⟨Or.inl rfl, ?_⟩⟩
  have : wdb [102, 111, 114, 107] f s e = false := by
    unfold wdb
    rw [Bool.and_eq_false_iff, decide_eq_false_iff_not]
    exact Or.inl q
  rw [this] at hQ
  exact hQ
theorem c88c {L : Nat} {xs : Nat → Int32} (hL : L ≤ 3072) {D : Nat} {J : zJ} {K : zK} {Q : zR → Nat → zJ → zK → Prop} {f : Int → Int} {N s e : Int} (hT : Tpc f N J) (h4 : J 2 0 4 = s) (h3 : J 2 0 3 = e) (s0 : 0 ≤ s) (se : s ≤ e) (e1 : e ≤ N) (hD : 9 ≤ D) (hQ : Q (.inl (some (zi (zb (wdb [112, 111, 114, 116, 105, 111, 110] f s e))))) 0 J K) : zCall L xs D 88 [zr 2, zr 1000026] J K Q := by
  obtain ⟨D, rfl⟩ : ∃ d, D = d + 1 := ⟨D - 1, by omega⟩
  obtain ⟨t1, t2, t3⟩ := hT
  have key : ∀ (m : Nat) (k : Int), m = (7 - k).toNat → 0 ≤ k → k ≤ 7 → e - s = 7 → cnt (fun k => !decide (f (s + k) = ((([112, 111, 114, 116, 105, 111, 110] : List Nat).getD k.toNat 0 : Nat) : Int))) k.toNat = 0 → zGo L xs (D + 1) 88 20 [some (zr 2), some (zr 1000026), some (zi k)] [] J K Q := by
    intro n; induction n using Nat.strongRecOn with
  | _ n ih =>
    intro k hm k0 k1 he hc
    refine z88c_20 hL ?_
    rw [h4]
    refine ⟨by omega, ⟨by omega, by omega⟩, ⟨by decide, by decide⟩, fun q => ⟨Or.inr rfl, ?_⟩, fun q => ?_⟩
    · have ek : k = 7 := by omega
      rw [ek] at hc
      have : wdb [112, 111, 114, 116, 105, 111, 110] f s e = true := by
        unfold wdb
        rw [Bool.and_eq_true, decide_eq_true_iff, decide_eq_true_iff]
        exact ⟨he, hc⟩
      rw [this] at hQ
      exact hQ
    · obtain ⟨c0, c1, c2⟩ := t3 (s + k) (by omega) (by omega)
      have hg := sg_rng c0 c1
      have hw : ∀ j : Int, 0 ≤ j → j < 7 → 97 ≤ ((([112, 111, 114, 116, 105, 111, 110] : List Nat).getD j.toNat 0 : Nat) : Int) ∧ ((([112, 111, 114, 116, 105, 111, 110] : List Nat).getD j.toNat 0 : Nat) : Int) ≤ 122 := fun j j0 j1 => by
        have hj : j = 0 ∨ j = 1 ∨ j = 2 ∨ j = 3 ∨ j = 4 ∨ j = 5 ∨ j = 6 := by omega
        rcases hj with y | y | y | y | y | y | y <;> (rw [y]; decide)
      have hwk := hw k k0 q
      rw [c2]
      refine ⟨by omega, by omega, by omega, k0, q, ⟨by omega, by omega⟩, ⟨by omega, by omega⟩, fun z => ?_, fun z => ⟨Or.inl rfl, ?_⟩⟩
      · refine ih _ (by omega) (k + 1) rfl (by omega) (by omega) he ?_
        rw [cnt_next k0, hc, decide_eq_true (by omega)]
        rfl
      · have : wdb [112, 111, 114, 116, 105, 111, 110] f s e = false := by
          unfold wdb
          rw [Bool.and_eq_false_iff, decide_eq_false_iff_not, decide_eq_false_iff_not]
          right
          intro y
          have h1 : 0 < cnt (fun k => !decide (f (s + k) = ((([112, 111, 114, 116, 105, 111, 110] : List Nat).getD k.toNat 0 : Nat) : Int))) ([112, 111, 114, 116, 105, 111, 110] : List Nat).length := cnt_pos.mpr ⟨k, k0, q, by rw [decide_eq_false (by omega)]; rfl⟩
          omega
        rw [this] at hQ
        exact hQ
  refine z88c hL ?_
  rw [h3, h4]
  refine ⟨by omega, ⟨by omega, by omega⟩, ⟨by decide, by decide⟩, fun q => key _ 0 rfl (Int.le_refl 0) (by decide) q rfl, fun q => ⟨Or.inl rfl, ?_⟩⟩
  have : wdb [112, 111, 114, 116, 105, 111, 110] f s e = false := by
    unfold wdb
    rw [Bool.and_eq_false_iff, decide_eq_false_iff_not]
    exact Or.inl q
  rw [this] at hQ
  exact hQ
theorem c88d {L : Nat} {xs : Nat → Int32} (hL : L ≤ 3072) {D : Nat} {J : zJ} {K : zK} {Q : zR → Nat → zJ → zK → Prop} {f : Int → Int} {N s e : Int} (hT : Tpc f N J) (h4 : J 2 0 4 = s) (h3 : J 2 0 3 = e) (s0 : 0 ≤ s) (se : s ≤ e) (e1 : e ≤ N) (hD : 9 ≤ D) (hQ : Q (.inl (some (zi (zb (wdb [108, 97, 116, 101] f s e))))) 0 J K) : zCall L xs D 88 [zr 2, zr 1000027] J K Q := by
  obtain ⟨D, rfl⟩ : ∃ d, D = d + 1 := ⟨D - 1, by omega⟩
  obtain ⟨t1, t2, t3⟩ := hT
  have key : ∀ (m : Nat) (k : Int), m = (4 - k).toNat → 0 ≤ k → k ≤ 4 → e - s = 4 → cnt (fun k => !decide (f (s + k) = ((([108, 97, 116, 101] : List Nat).getD k.toNat 0 : Nat) : Int))) k.toNat = 0 → zGo L xs (D + 1) 88 20 [some (zr 2), some (zr 1000027), some (zi k)] [] J K Q := by
    intro n; induction n using Nat.strongRecOn with
  | _ n ih =>
    intro k hm k0 k1 he hc
    refine z88d_20 hL ?_
    rw [h4]
    refine ⟨by omega, ⟨by omega, by omega⟩, ⟨by decide, by decide⟩, fun q => ⟨Or.inr rfl, ?_⟩, fun q => ?_⟩
    · have ek : k = 4 := by omega
      rw [ek] at hc
      have : wdb [108, 97, 116, 101] f s e = true := by
        unfold wdb
        rw [Bool.and_eq_true, decide_eq_true_iff, decide_eq_true_iff]
        exact ⟨he, hc⟩
      rw [this] at hQ
      exact hQ
    · obtain ⟨c0, c1, c2⟩ := t3 (s + k) (by omega) (by omega)
      have hg := sg_rng c0 c1
      have hw : ∀ j : Int, 0 ≤ j → j < 4 → 97 ≤ ((([108, 97, 116, 101] : List Nat).getD j.toNat 0 : Nat) : Int) ∧ ((([108, 97, 116, 101] : List Nat).getD j.toNat 0 : Nat) : Int) ≤ 122 := fun j j0 j1 => by
        have hj : j = 0 ∨ j = 1 ∨ j = 2 ∨ j = 3 := by omega
        rcases hj with y | y | y | y <;> (rw [y]; decide)
      have hwk := hw k k0 q
      rw [c2]
      refine ⟨by omega, by omega, by omega, k0, q, ⟨by omega, by omega⟩, ⟨by omega, by omega⟩, fun z => ?_, fun z => ⟨Or.inl rfl, ?_⟩⟩
      · refine ih _ (by omega) (k + 1) rfl (by omega) (by omega) he ?_
        rw [cnt_next k0, hc, decide_eq_true (by omega)]
        rfl
      · have : wdb [108, 97, 116, 101] f s e = false := by
          unfold wdb
          rw [Bool.and_eq_false_iff, decide_eq_false_iff_not, decide_eq_false_iff_not]
          right
          intro y
          have h1 : 0 < cnt (fun k => !decide (f (s + k) = ((([108, 97, 116, 101] : List Nat).getD k.toNat 0 : Nat) : Int))) ([108, 97, 116, 101] : List Nat).length := cnt_pos.mpr ⟨k, k0, q, by rw [decide_eq_false (by omega)]; rfl⟩
          omega
        rw [this] at hQ
        exact hQ
  refine z88d hL ?_
  rw [h3, h4]
  refine ⟨by omega, ⟨by omega, by omega⟩, ⟨by decide, by decide⟩, fun q => key _ 0 rfl (Int.le_refl 0) (by decide) q rfl, fun q => ⟨Or.inl rfl, ?_⟩⟩
  have : wdb [108, 97, 116, 101] f s e = false := by
    unfold wdb
    rw [Bool.and_eq_false_iff, decide_eq_false_iff_not]
    exact Or.inl q
  rw [this] at hQ
  exact hQ
theorem c88e {L : Nat} {xs : Nat → Int32} (hL : L ≤ 3072) {D : Nat} {J : zJ} {K : zK} {Q : zR → Nat → zJ → zK → Prop} {f : Int → Int} {N s e : Int} (hT : Tpc f N J) (h4 : J 2 0 4 = s) (h3 : J 2 0 3 = e) (s0 : 0 ≤ s) (se : s ≤ e) (e1 : e ≤ N) (hD : 9 ≤ D) (hQ : Q (.inl (some (zi (zb (wdb [101, 110, 103, 105, 110, 101] f s e))))) 0 J K) : zCall L xs D 88 [zr 2, zr 1000028] J K Q := by
  obtain ⟨D, rfl⟩ : ∃ d, D = d + 1 := ⟨D - 1, by omega⟩
  obtain ⟨t1, t2, t3⟩ := hT
  have key : ∀ (m : Nat) (k : Int), m = (6 - k).toNat → 0 ≤ k → k ≤ 6 → e - s = 6 → cnt (fun k => !decide (f (s + k) = ((([101, 110, 103, 105, 110, 101] : List Nat).getD k.toNat 0 : Nat) : Int))) k.toNat = 0 → zGo L xs (D + 1) 88 20 [some (zr 2), some (zr 1000028), some (zi k)] [] J K Q := by
    intro n; induction n using Nat.strongRecOn with
  | _ n ih =>
    intro k hm k0 k1 he hc
    refine z88e_20 hL ?_
    rw [h4]
    refine ⟨by omega, ⟨by omega, by omega⟩, ⟨by decide, by decide⟩, fun q => ⟨Or.inr rfl, ?_⟩, fun q => ?_⟩
    · have ek : k = 6 := by omega
      rw [ek] at hc
      have : wdb [101, 110, 103, 105, 110, 101] f s e = true := by
        unfold wdb
        rw [Bool.and_eq_true, decide_eq_true_iff, decide_eq_true_iff]
        exact ⟨he, hc⟩
      rw [this] at hQ
      exact hQ
    · obtain ⟨c0, c1, c2⟩ := t3 (s + k) (by omega) (by omega)
      have hg := sg_rng c0 c1
      have hw : ∀ j : Int, 0 ≤ j → j < 6 → 97 ≤ ((([101, 110, 103, 105, 110, 101] : List Nat).getD j.toNat 0 : Nat) : Int) ∧ ((([101, 110, 103, 105, 110, 101] : List Nat).getD j.toNat 0 : Nat) : Int) ≤ 122 := fun j j0 j1 => by
        have hj : j = 0 ∨ j = 1 ∨ j = 2 ∨ j = 3 ∨ j = 4 ∨ j = 5 := by omega
        rcases hj with y | y | y | y | y | y <;> (rw [y]; decide)
      have hwk := hw k k0 q
      rw [c2]
      refine ⟨by omega, by omega, by omega, k0, q, ⟨by omega, by omega⟩, ⟨by omega, by omega⟩, fun z => ?_, fun z => ⟨Or.inl rfl, ?_⟩⟩
      · refine ih _ (by omega) (k + 1) rfl (by omega) (by omega) he ?_
        rw [cnt_next k0, hc, decide_eq_true (by omega)]
        rfl
      · have : wdb [101, 110, 103, 105, 110, 101] f s e = false := by
          unfold wdb
          rw [Bool.and_eq_false_iff, decide_eq_false_iff_not, decide_eq_false_iff_not]
          right
          intro y
          have h1 : 0 < cnt (fun k => !decide (f (s + k) = ((([101, 110, 103, 105, 110, 101] : List Nat).getD k.toNat 0 : Nat) : Int))) ([101, 110, 103, 105, 110, 101] : List Nat).length := cnt_pos.mpr ⟨k, k0, q, by rw [decide_eq_false (by omega)]; rfl⟩
          omega
        rw [this] at hQ
        exact hQ
  refine z88e hL ?_
  rw [h3, h4]
  refine ⟨by omega, ⟨by omega, by omega⟩, ⟨by decide, by decide⟩, fun q => key _ 0 rfl (Int.le_refl 0) (by decide) q rfl, fun q => ⟨Or.inl rfl, ?_⟩⟩
  have : wdb [101, 110, 103, 105, 110, 101] f s e = false := by
    unfold wdb
    rw [Bool.and_eq_false_iff, decide_eq_false_iff_not]
    exact Or.inl q
  rw [this] at hQ
  exact hQ
theorem c88f {L : Nat} {xs : Nat → Int32} (hL : L ≤ 3072) {D : Nat} {J : zJ} {K : zK} {Q : zR → Nat → zJ → zK → Prop} {f : Int → Int} {N s e : Int} (hT : Tpc f N J) (h4 : J 2 0 4 = s) (h3 : J 2 0 3 = e) (s0 : 0 ≤ s) (se : s ≤ e) (e1 : e ≤ N) (hD : 9 ≤ D) (hQ : Q (.inl (some (zi (zb (wdb [119, 97, 110, 116] f s e))))) 0 J K) : zCall L xs D 88 [zr 2, zr 1000029] J K Q := by
  obtain ⟨D, rfl⟩ : ∃ d, D = d + 1 := ⟨D - 1, by omega⟩
  obtain ⟨t1, t2, t3⟩ := hT
  have key : ∀ (m : Nat) (k : Int), m = (4 - k).toNat → 0 ≤ k → k ≤ 4 → e - s = 4 → cnt (fun k => !decide (f (s + k) = ((([119, 97, 110, 116] : List Nat).getD k.toNat 0 : Nat) : Int))) k.toNat = 0 → zGo L xs (D + 1) 88 20 [some (zr 2), some (zr 1000029), some (zi k)] [] J K Q := by
    intro n; induction n using Nat.strongRecOn with
  | _ n ih =>
    intro k hm k0 k1 he hc
    refine z88f_20 hL ?_
    rw [h4]
    refine ⟨by omega, ⟨by omega, by omega⟩, ⟨by decide, by decide⟩, fun q => ⟨Or.inr rfl, ?_⟩, fun q => ?_⟩
    · have ek : k = 4 := by omega
      rw [ek] at hc
      have : wdb [119, 97, 110, 116] f s e = true := by
        unfold wdb
        rw [Bool.and_eq_true, decide_eq_true_iff, decide_eq_true_iff]
        exact ⟨he, hc⟩
      rw [this] at hQ
      exact hQ
    · obtain ⟨c0, c1, c2⟩ := t3 (s + k) (by omega) (by omega)
      have hg := sg_rng c0 c1
      have hw : ∀ j : Int, 0 ≤ j → j < 4 → 97 ≤ ((([119, 97, 110, 116] : List Nat).getD j.toNat 0 : Nat) : Int) ∧ ((([119, 97, 110, 116] : List Nat).getD j.toNat 0 : Nat) : Int) ≤ 122 := fun j j0 j1 => by
        have hj : j = 0 ∨ j = 1 ∨ j = 2 ∨ j = 3 := by omega
        rcases hj with y | y | y | y <;> (rw [y]; decide)
      have hwk := hw k k0 q
      rw [c2]
      refine ⟨by omega, by omega, by omega, k0, q, ⟨by omega, by omega⟩, ⟨by omega, by omega⟩, fun z => ?_, fun z => ⟨Or.inl rfl, ?_⟩⟩
      · refine ih _ (by omega) (k + 1) rfl (by omega) (by omega) he ?_
        rw [cnt_next k0, hc, decide_eq_true (by omega)]
        rfl
      · have : wdb [119, 97, 110, 116] f s e = false := by
          unfold wdb
          rw [Bool.and_eq_false_iff, decide_eq_false_iff_not, decide_eq_false_iff_not]
          right
          intro y
          have h1 : 0 < cnt (fun k => !decide (f (s + k) = ((([119, 97, 110, 116] : List Nat).getD k.toNat 0 : Nat) : Int))) ([119, 97, 110, 116] : List Nat).length := cnt_pos.mpr ⟨k, k0, q, by rw [decide_eq_false (by omega)]; rfl⟩
          omega
        rw [this] at hQ
        exact hQ
  refine z88f hL ?_
  rw [h3, h4]
  refine ⟨by omega, ⟨by omega, by omega⟩, ⟨by decide, by decide⟩, fun q => key _ 0 rfl (Int.le_refl 0) (by decide) q rfl, fun q => ⟨Or.inl rfl, ?_⟩⟩
  have : wdb [119, 97, 110, 116] f s e = false := by
    unfold wdb
    rw [Bool.and_eq_false_iff, decide_eq_false_iff_not]
    exact Or.inl q
  rw [this] at hQ
  exact hQ
