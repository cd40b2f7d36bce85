/-! WHICH CLAUSE stands next: the model -/
def kdw (f : Int → Int) (s e : Int) : Int := if wdb [112, 108, 97, 99, 101] f s e = true then 0 else if wdb [102, 111, 114, 107] f s e = true then 1 else if wdb [112, 111, 114, 116, 105, 111, 110] f s e = true then 2 else if wdb [108, 97, 116, 101] f s e = true then 3 else if wdb [101, 110, 103, 105, 110, 101] f s e = true then 4 else if wdb [119, 97, 110, 116] f s e = true then 5 else -1
theorem skp_idem (P : Int → Bool) (f : Int → Int) (n i : Int) : skp P f n (skp P f n i) = skp P f n i := skp_no (skp_rng (P := P) (f := f) (n := n) _ i rfl).2.2.2
theorem c257 {L : Nat} {xs : Nat → Int32} (hL : L ≤ 3072) {D : Nat} {J : zJ} {K : zK} {Q : zR → Nat → zJ → zK → Prop} {f : Int → Int} {N i : Int} (hT : Tpm f N J) (hi : J 142 0 4 = i) (i0 : 0 ≤ i) (i1 : i ≤ N) (h5 : J 142 0 5 = 0) (hD : 5 ≤ D) (hQ : ∀ J' : zJ, (∀ b : Nat, b ≠ 142 → J' b = J b) → (∀ k : Int, k ≠ 4 → J' 142 0 k = J 142 0 k) → J' 142 0 4 = skp isB f N i → Q (.inl (some (zi (kdw f (skp isB f N i) (skp isL f N (skp isB f N i)))))) 0 J' K) : zCall L xs D 257 [zr 142] J K Q := by
  obtain ⟨D, rfl⟩ : ∃ d, D = d + 1 := ⟨D - 1, by omega⟩
  obtain ⟨b1, b2, _, _⟩ := skp_rng (P := isB) (f := f) (n := N) _ i rfl
  have hb2 := b2 i1
  have hid := skp_idem isB f N i
  refine z257 hL ?_
  refine c253p hL hT hi i0 i1 h5 (by omega) fun J1 f1 k1 v1 => ?_
  unfold kdw at hQ
  generalize skp isB f N i = s at *
  cases g1 : wdb [112, 108, 97, 99, 101] f s (skp isL f N s) with
  | true =>
    refine zaI_of ⟨zin_1, fun z => absurd z (by decide), fun _ => ?_⟩
    have hq := hQ J1 f1 k1 v1
    simp only [g1, if_true, if_false, Bool.false_eq_true] at hq
    exact hq
  | false =>
  refine zaI_of ⟨zin_0, fun _ => ?_, fun z => absurd rfl z⟩
  have t1 := tpm_eq hT (f1 143 (by decide)) (k1 2 (by decide))
  refine c253o hL t1 v1 (by omega) hb2 (by rw [k1 5 (by decide)]; exact h5) (by omega) fun J2 f2' k2' v2 => ?_
  rw [hid] at v2 ⊢
  have f2 : ∀ b : Nat, b ≠ 142 → J2 b = J b := fun b hb => (f2' b hb).trans (f1 b hb)
  have k2 : ∀ k : Int, k ≠ 4 → J2 142 0 k = J 142 0 k := fun k hk => (k2' k hk).trans (k1 k hk)
  cases g2 : wdb [102, 111, 114, 107] f s (skp isL f N s) with
  | true =>
    refine zaI_of ⟨zin_1, fun z => absurd z (by decide), fun _ => ?_⟩
    have hq := hQ J2 f2 k2 v2
    simp only [g1, g2, if_true, if_false, Bool.false_eq_true] at hq
    exact hq
  | false =>
  refine zaI_of ⟨zin_0, fun _ => ?_, fun z => absurd rfl z⟩
  have t2 := tpm_eq hT (f2 143 (by decide)) (k2 2 (by decide))
  refine c253n hL t2 v2 (by omega) hb2 (by rw [k2 5 (by decide)]; exact h5) (by omega) fun J3 f3' k3' v3 => ?_
  rw [hid] at v3 ⊢
  have f3 : ∀ b : Nat, b ≠ 142 → J3 b = J b := fun b hb => (f3' b hb).trans (f2 b hb)
  have k3 : ∀ k : Int, k ≠ 4 → J3 142 0 k = J 142 0 k := fun k hk => (k3' k hk).trans (k2 k hk)
  cases g3 : wdb [112, 111, 114, 116, 105, 111, 110] f s (skp isL f N s) with
  | true =>
    refine zaI_of ⟨zin_1, fun z => absurd z (by decide), fun _ => ?_⟩
    have hq := hQ J3 f3 k3 v3
    simp only [g1, g2, g3, if_true, if_false, Bool.false_eq_true] at hq
    exact hq
  | false =>
  refine zaI_of ⟨zin_0, fun _ => ?_, fun z => absurd rfl z⟩
  have t3 := tpm_eq hT (f3 143 (by decide)) (k3 2 (by decide))
  refine c253l hL t3 v3 (by omega) hb2 (by rw [k3 5 (by decide)]; exact h5) (by omega) fun J4 f4' k4' v4 => ?_
  rw [hid] at v4 ⊢
  have f4 : ∀ b : Nat, b ≠ 142 → J4 b = J b := fun b hb => (f4' b hb).trans (f3 b hb)
  have k4 : ∀ k : Int, k ≠ 4 → J4 142 0 k = J 142 0 k := fun k hk => (k4' k hk).trans (k3 k hk)
  cases g4 : wdb [108, 97, 116, 101] f s (skp isL f N s) with
  | true =>
    refine zaI_of ⟨zin_1, fun z => absurd z (by decide), fun _ => ?_⟩
    have hq := hQ J4 f4 k4 v4
    simp only [g1, g2, g3, g4, if_true, if_false, Bool.false_eq_true] at hq
    exact hq
  | false =>
  refine zaI_of ⟨zin_0, fun _ => ?_, fun z => absurd rfl z⟩
  have t4 := tpm_eq hT (f4 143 (by decide)) (k4 2 (by decide))
  refine c253g hL t4 v4 (by omega) hb2 (by rw [k4 5 (by decide)]; exact h5) (by omega) fun J5 f5' k5' v5 => ?_
  rw [hid] at v5 ⊢
  have f5 : ∀ b : Nat, b ≠ 142 → J5 b = J b := fun b hb => (f5' b hb).trans (f4 b hb)
  have k5 : ∀ k : Int, k ≠ 4 → J5 142 0 k = J 142 0 k := fun k hk => (k5' k hk).trans (k4 k hk)
  cases g5 : wdb [101, 110, 103, 105, 110, 101] f s (skp isL f N s) with
  | true =>
    refine zaI_of ⟨zin_1, fun z => absurd z (by decide), fun _ => ?_⟩
    have hq := hQ J5 f5 k5 v5
    simp only [g1, g2, g3, g4, g5, if_true, if_false, Bool.false_eq_true] at hq
    exact hq
  | false =>
  refine zaI_of ⟨zin_0, fun _ => ?_, fun z => absurd rfl z⟩
  have t5 := tpm_eq hT (f5 143 (by decide)) (k5 2 (by decide))
  refine c253w hL t5 v5 (by omega) hb2 (by rw [k5 5 (by decide)]; exact h5) (by omega) fun J6 f6' k6' v6 => ?_
  rw [hid] at v6 ⊢
  have f6 : ∀ b : Nat, b ≠ 142 → J6 b = J b := fun b hb => (f6' b hb).trans (f5 b hb)
  have k6 : ∀ k : Int, k ≠ 4 → J6 142 0 k = J 142 0 k := fun k hk => (k6' k hk).trans (k5 k hk)
  cases g6 : wdb [119, 97, 110, 116] f s (skp isL f N s) with
  | true =>
    refine zaI_of ⟨zin_1, fun z => absurd z (by decide), fun _ => ?_⟩
    have hq := hQ J6 f6 k6 v6
    simp only [g1, g2, g3, g4, g5, g6, if_true, if_false, Bool.false_eq_true] at hq
    exact hq
  | false =>
  refine zaI_of ⟨zin_0, fun _ => ?_, fun z => absurd rfl z⟩
  have hq := hQ J6 f6 k6 v6
  simp only [g1, g2, g3, g4, g5, g6, if_false, Bool.false_eq_true] at hq
  exact hq
