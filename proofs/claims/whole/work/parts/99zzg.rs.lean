/-! READING: where the reading stands, which fault there is (0: none) and where it is -/
def nmR (f : Int → Int) (N lo hi : Int) (t : Int × Int × Int) : Int × Int × Int :=
  if t.2.1 = 0 then (if skp isD f N (skp isB f N t.1) = skp isB f N t.1 then (skp isD f N (skp isB f N t.1), 1, skp isB f N t.1) else if lo ≤ nvs f N (skp isB f N t.1) 0 ∧ nvs f N (skp isB f N t.1) 0 ≤ hi then (skp isD f N (skp isB f N t.1), 0, t.2.2) else (skp isD f N (skp isB f N t.1), 2, skp isB f N t.1)) else t
def nmV (f : Int → Int) (N : Int) (t : Int × Int × Int) : Int := nvs f N (skp isB f N t.1) 0
def smR (f : Int → Int) (N : Int) (t : Int × Int × Int) : Int × Int × Int :=
  if t.2.1 = 0 then (if skp isB f N t.1 < N ∧ f (skp isB f N t.1) = 59 then (skp isB f N t.1 + 1, 0, t.2.2) else (skp isB f N t.1, 1, skp isB f N t.1)) else t
/-- the class's reader stands so -/
def RC (f : Int → Int) (N : Int) (t : Int × Int × Int) (J : zJ) : Prop := Tpc f N J ∧ (J 2 0 5 = t.2.1 ∧ J 2 0 6 = t.2.2) ∧ (t.2.1 = 0 → J 2 0 3 = t.1) ∧ (0 ≤ J 2 0 3 ∧ J 2 0 3 ≤ N) ∧ (0 ≤ t.2.1 ∧ t.2.1 ≤ 3) ∧ (-1 ≤ t.2.2 ∧ t.2.2 ≤ N)
/-- the model's -/
def RM (f : Int → Int) (N : Int) (t : Int × Int × Int) (J : zJ) : Prop := Tpm f N J ∧ (J 142 0 5 = t.2.1 ∧ J 142 0 6 = t.2.2) ∧ (t.2.1 = 0 → J 142 0 4 = t.1) ∧ (0 ≤ J 142 0 4 ∧ J 142 0 4 ≤ N) ∧ (0 ≤ t.2.1 ∧ t.2.1 ≤ 3) ∧ (-1 ≤ t.2.2 ∧ t.2.2 ≤ N)
theorem rc_eq {f : Int → Int} {N : Int} {t : Int × Int × Int} {J J' : zJ} (h : RC f N t J) (e1 : J' 1 = J 1) (e2 : J' 2 = J 2) : RC f N t J' := by
  unfold RC at h ⊢
  rw [e2]
  exact ⟨tpc_eq h.1 e1 (by rw [e2]), h.2⟩
theorem rm_eq {f : Int → Int} {N : Int} {t : Int × Int × Int} {J J' : zJ} (h : RM f N t J) (e1 : J' 143 = J 143) (e2 : J' 142 0 2 = J 142 0 2) (e4 : J' 142 0 4 = J 142 0 4) (e5 : J' 142 0 5 = J 142 0 5) (e6 : J' 142 0 6 = J 142 0 6) : RM f N t J' := by
  unfold RM at h ⊢
  rw [e4, e5, e6]
  exact ⟨tpm_eq h.1 e1 e2, h.2⟩
theorem nmR_f {f : Int → Int} {N lo hi : Int} {t : Int × Int × Int} (q : t.2.1 ≠ 0) : nmR f N lo hi t = t := by
  unfold nmR
  rw [if_neg q]
theorem smR_f {f : Int → Int} {N : Int} {t : Int × Int × Int} (q : t.2.1 ≠ 0) : smR f N t = t := by
  unfold smR
  rw [if_neg q]
theorem nmR_ok {f : Int → Int} {N lo hi : Int} {t : Int × Int × Int} (q : (nmR f N lo hi t).2.1 = 0) : t.2.1 = 0 ∧ lo ≤ nmV f N t ∧ nmV f N t ≤ hi ∧ (nmR f N lo hi t).2.2 = t.2.2 := by
  unfold nmR at q ⊢
  unfold nmV
  by_cases h : t.2.1 = 0
  · rw [if_pos h] at q ⊢
    by_cases a : skp isD f N (skp isB f N t.1) = skp isB f N t.1
    · rw [if_pos a] at q
      exact absurd q (by first | decide | simp)
    · rw [if_neg a] at q ⊢
      by_cases b : lo ≤ nvs f N (skp isB f N t.1) 0 ∧ nvs f N (skp isB f N t.1) 0 ≤ hi
      · rw [if_pos b]
        exact ⟨h, b.1, b.2, rfl⟩
      · rw [if_neg b] at q
        exact absurd q (by first | decide | simp)
  · rw [if_neg h] at q
    exact absurd q h
theorem smR_ok {f : Int → Int} {N : Int} {t : Int × Int × Int} (q : (smR f N t).2.1 = 0) : t.2.1 = 0 ∧ (smR f N t).2.2 = t.2.2 := by
  unfold smR at q ⊢
  by_cases h : t.2.1 = 0
  · rw [if_pos h] at q ⊢
    by_cases a : skp isB f N t.1 < N ∧ f (skp isB f N t.1) = 59
    · rw [if_pos a]
      exact ⟨h, rfl⟩
    · rw [if_neg a] at q
      exact absurd q (by first | decide | simp)
  · rw [if_neg h] at q
    exact absurd q h
theorem skp_in {P : Int → Bool} {f : Int → Int} {N i : Int} (i0 : 0 ≤ i) (i1 : i ≤ N) : 0 ≤ skp P f N i ∧ i ≤ skp P f N i ∧ skp P f N i ≤ N := by
  obtain ⟨a, b, -⟩ := skp_rng (P := P) (f := f) (n := N) _ i rfl
  have := b i1
  omega
theorem u94 {L : Nat} {xs : Nat → Int32} (hL : L ≤ 3072) {D : Nat} {J : zJ} {K : zK} {Q : zR → Nat → zJ → zK → Prop} {f : Int → Int} {N lo hi : Int} {t : Int × Int × Int} (h : RC f N t J) (l0 : 0 ≤ lo) (l1 : lo ≤ 1) (h1 : -1 ≤ hi) (h2 : hi ≤ 2000) (hD : 2 ≤ D) (hQ : ∀ J' : zJ, (∀ b : Nat, b ≠ 2 → J' b = J b) → J' 2 0 4 = J 2 0 4 → RC f N (nmR f N lo hi t) J' → ∀ r : Int, ((nmR f N lo hi t).2.1 = 0 → r = nmV f N t) → Q (.inl (some (zi (r)))) 0 J' K) : zCall L xs D 94 [zr 2, zi lo, zi hi] J K Q := by
  obtain ⟨hT, ⟨h5, h6⟩, h3, hr, hf, hp⟩ := h
  by_cases q : t.2.1 = 0
  · have e3 := h3 q
    have r1 := skp_in (P := isB) (f := f) (N := N) (i := t.1) (by omega) (by omega)
    have r2 := skp_in (P := isD) (f := f) (N := N) (i := skp isB f N t.1) (by omega) (by omega)
    refine c94 hL hT e3 (by omega) (by omega) (by omega) l0 l1 h1 h2 hD fun J' g1 g2 g3 => ⟨fun a b c => ?_, fun a a2 b c => ?_, fun a a2 b c => ?_⟩
    · have e : nmR f N lo hi t = (skp isD f N (skp isB f N t.1), 1, skp isB f N t.1) := by
        unfold nmR
        rw [if_pos q, if_pos a]
      rw [e] at hQ
      exact hQ J' g1 (g2 4 (by first | decide | simp) (by first | decide | simp) (by first | decide | simp)) ⟨tpc_eq hT (g1 1 (by first | decide | simp)) (g2 2 (by first | decide | simp) (by first | decide | simp) (by first | decide | simp)), ⟨b, c⟩, fun _ => g3, by omega, ⟨by first | decide | simp, by first | decide | simp⟩, ⟨by simp only; omega, by simp only; omega⟩⟩ lo (fun x => absurd x (by first | decide | simp))
    · have e : nmR f N lo hi t = (skp isD f N (skp isB f N t.1), 2, skp isB f N t.1) := by
        unfold nmR
        rw [if_pos q, if_neg a, if_neg a2]
      rw [e] at hQ
      exact hQ J' g1 (g2 4 (by first | decide | simp) (by first | decide | simp) (by first | decide | simp)) ⟨tpc_eq hT (g1 1 (by first | decide | simp)) (g2 2 (by first | decide | simp) (by first | decide | simp) (by first | decide | simp)), ⟨b, c⟩, fun _ => g3, by omega, ⟨by first | decide | simp, by first | decide | simp⟩, ⟨by simp only; omega, by simp only; omega⟩⟩ lo (fun x => absurd x (by first | decide | simp))
    · have e : nmR f N lo hi t = (skp isD f N (skp isB f N t.1), 0, t.2.2) := by
        unfold nmR
        rw [if_pos q, if_neg a, if_pos a2]
      rw [e] at hQ
      exact hQ J' g1 (g2 4 (by first | decide | simp) (by first | decide | simp) (by first | decide | simp)) ⟨tpc_eq hT (g1 1 (by first | decide | simp)) (g2 2 (by first | decide | simp) (by first | decide | simp) (by first | decide | simp)), ⟨b, c.trans h6⟩, fun _ => g3, by omega, ⟨by first | decide | simp, by first | decide | simp⟩, hp⟩ _ (fun _ => rfl)
  · obtain ⟨D, rfl⟩ : ∃ d, D = d + 1 := ⟨D - 1, by omega⟩
    rw [nmR_f q] at hQ
    exact z94 hL ⟨⟨by omega, by omega⟩, fun z => absurd (h5.symm.trans z) q, fun _ => hQ J (fun _ _ => rfl) rfl ⟨hT, ⟨h5, h6⟩, h3, hr, hf, hp⟩ lo (fun x => absurd x q)⟩
theorem u87 {L : Nat} {xs : Nat → Int32} (hL : L ≤ 3072) {D : Nat} {J : zJ} {K : zK} {Q : zR → Nat → zJ → zK → Prop} {f : Int → Int} {N : Int} {t : Int × Int × Int} (h : RC f N t J) (hD : 2 ≤ D) (hQ : ∀ J' : zJ, (∀ b : Nat, b ≠ 2 → J' b = J b) → RC f N (smR f N t) J' → ((smR f N t).2.1 = 0 → Q (.inl (some (zi (1)))) 0 J' K) ∧ ((smR f N t).2.1 ≠ 0 → Q (.inl (some (zi (0)))) 0 J' K)) : zCall L xs D 87 [zr 2] J K Q := by
  obtain ⟨hT, ⟨h5, h6⟩, h3, hr, hf, hp⟩ := h
  by_cases q : t.2.1 = 0
  · have e3 := h3 q
    have r1 := skp_in (P := isB) (f := f) (N := N) (i := t.1) (by omega) (by omega)
    refine c87 hL hT e3 (by omega) (by omega) (by omega) hD fun J' g1 g2 => ⟨fun a b c d => ?_, fun a b c d => ?_⟩
    · have e : smR f N t = (skp isB f N t.1 + 1, 0, t.2.2) := by
        unfold smR
        rw [if_pos q, if_pos a]
      rw [e] at hQ
      exact (hQ J' g1 ⟨tpc_eq hT (g1 1 (by first | decide | simp)) (g2 2 (by first | decide | simp) (by first | decide | simp) (by first | decide | simp)), ⟨c, d.trans h6⟩, fun _ => b, by omega, ⟨by first | decide | simp, by first | decide | simp⟩, hp⟩).1 rfl
    · have e : smR f N t = (skp isB f N t.1, 1, skp isB f N t.1) := by
        unfold smR
        rw [if_pos q, if_neg a]
      rw [e] at hQ
      exact (hQ J' g1 ⟨tpc_eq hT (g1 1 (by first | decide | simp)) (g2 2 (by first | decide | simp) (by first | decide | simp) (by first | decide | simp)), ⟨c, d⟩, fun _ => b, by omega, ⟨by first | decide | simp, by first | decide | simp⟩, ⟨by simp only; omega, by simp only; omega⟩⟩).2 (by first | decide | simp)
  · obtain ⟨D, rfl⟩ : ∃ d, D = d + 1 := ⟨D - 1, by omega⟩
    rw [smR_f q] at hQ
    exact z87 hL ⟨⟨by omega, by omega⟩, fun z => absurd (h5.symm.trans z) q, fun _ => ⟨Or.inl rfl, (hQ J (fun _ _ => rfl) ⟨hT, ⟨h5, h6⟩, h3, hr, hf, hp⟩).2 q⟩⟩
theorem u273 {L : Nat} {xs : Nat → Int32} (hL : L ≤ 3072) {D : Nat} {J : zJ} {K : zK} {Q : zR → Nat → zJ → zK → Prop} {f : Int → Int} {N lo hi : Int} {t : Int × Int × Int} (h : RM f N t J) (l0 : 0 ≤ lo) (l1 : lo ≤ 1) (h1 : -1 ≤ hi) (h2 : hi ≤ 2000) (hD : 3 ≤ D) (hQ : ∀ J' : zJ, (∀ b : Nat, b ≠ 142 → J' b = J b) → (∀ k : Int, k ≠ 4 → k ≠ 5 → k ≠ 6 → J' 142 0 k = J 142 0 k) → RM f N (nmR f N lo hi t) J' → ∀ r : Int, zin r → ((nmR f N lo hi t).2.1 = 0 → r = nmV f N t) → Q (.inl (some (zi (r)))) 0 J' K) : zCall L xs D 273 [zr 142, zi lo, zi hi] J K Q := by
  obtain ⟨hT, ⟨h5, h6⟩, h3, hr, hf, hp⟩ := h
  by_cases q : t.2.1 = 0
  · have e3 := h3 q
    have r1 := skp_in (P := isB) (f := f) (N := N) (i := t.1) (by omega) (by omega)
    have r2 := skp_in (P := isD) (f := f) (N := N) (i := skp isB f N t.1) (by omega) (by omega)
    refine c273 hL hT e3 (by omega) (by omega) (by omega) l0 l1 h1 h2 hD fun J' g1 g2 g3 => ⟨fun a b c r zr => ?_, fun a a2 b c r zr => ?_, fun a a2 b c => ?_⟩
    · have e : nmR f N lo hi t = (skp isD f N (skp isB f N t.1), 1, skp isB f N t.1) := by
        unfold nmR
        rw [if_pos q, if_pos a]
      rw [e] at hQ
      exact hQ J' g1 g2 ⟨tpm_eq hT (g1 143 (by first | decide | simp)) (g2 2 (by first | decide | simp) (by first | decide | simp) (by first | decide | simp)), ⟨b, c⟩, fun _ => g3, by omega, ⟨by first | decide | simp, by first | decide | simp⟩, ⟨by simp only; omega, by simp only; omega⟩⟩ r zr (fun x => absurd x (by first | decide | simp))
    · have e : nmR f N lo hi t = (skp isD f N (skp isB f N t.1), 2, skp isB f N t.1) := by
        unfold nmR
        rw [if_pos q, if_neg a, if_neg a2]
      rw [e] at hQ
      exact hQ J' g1 g2 ⟨tpm_eq hT (g1 143 (by first | decide | simp)) (g2 2 (by first | decide | simp) (by first | decide | simp) (by first | decide | simp)), ⟨b, c⟩, fun _ => g3, by omega, ⟨by first | decide | simp, by first | decide | simp⟩, ⟨by simp only; omega, by simp only; omega⟩⟩ r zr (fun x => absurd x (by first | decide | simp))
    · have e : nmR f N lo hi t = (skp isD f N (skp isB f N t.1), 0, t.2.2) := by
        unfold nmR
        rw [if_pos q, if_neg a, if_pos a2]
      rw [e] at hQ
      exact hQ J' g1 g2 ⟨tpm_eq hT (g1 143 (by first | decide | simp)) (g2 2 (by first | decide | simp) (by first | decide | simp) (by first | decide | simp)), ⟨b, c.trans h6⟩, fun _ => g3, by omega, ⟨by first | decide | simp, by first | decide | simp⟩, hp⟩ _ ⟨by omega, by omega⟩ (fun _ => rfl)
  · obtain ⟨D, rfl⟩ : ∃ d, D = d + 1 := ⟨D - 1, by omega⟩
    rw [nmR_f q] at hQ
    exact z273 hL ⟨⟨by omega, by omega⟩, fun z => absurd (h5.symm.trans z) q, fun _ => hQ J (fun _ _ => rfl) (fun _ _ _ _ => rfl) ⟨hT, ⟨h5, h6⟩, h3, hr, hf, hp⟩ 0 zin_0 (fun x => absurd x q)⟩
theorem u292 {L : Nat} {xs : Nat → Int32} (hL : L ≤ 3072) {D : Nat} {J : zJ} {K : zK} {Q : zR → Nat → zJ → zK → Prop} {f : Int → Int} {N : Int} {t : Int × Int × Int} (h : RM f N t J) (hD : 3 ≤ D) (hQ : ∀ J' : zJ, (∀ b : Nat, b ≠ 142 → J' b = J b) → (∀ k : Int, k ≠ 4 → k ≠ 5 → k ≠ 6 → J' 142 0 k = J 142 0 k) → RM f N (smR f N t) J' → Q (.inl none) 0 J' K) : zCall L xs D 292 [zr 142, zi 59] J K Q := by
  obtain ⟨hT, ⟨h5, h6⟩, h3, hr, hf, hp⟩ := h
  by_cases q : t.2.1 = 0
  · have e3 := h3 q
    have r1 := skp_in (P := isB) (f := f) (N := N) (i := t.1) (by omega) (by omega)
    refine c292 hL hT e3 (by omega) (by omega) (by omega) hD fun J' g1 g2 => ⟨fun a b c d => ?_, fun a b c d => ?_⟩
    · have e : smR f N t = (skp isB f N t.1 + 1, 0, t.2.2) := by
        unfold smR
        rw [if_pos q, if_pos a]
      rw [e] at hQ
      exact hQ J' g1 g2 ⟨tpm_eq hT (g1 143 (by first | decide | simp)) (g2 2 (by first | decide | simp) (by first | decide | simp) (by first | decide | simp)), ⟨c, d.trans h6⟩, fun _ => b, by omega, ⟨by first | decide | simp, by first | decide | simp⟩, hp⟩
    · have e : smR f N t = (skp isB f N t.1, 1, skp isB f N t.1) := by
        unfold smR
        rw [if_pos q, if_neg a]
      rw [e] at hQ
      exact hQ J' g1 g2 ⟨tpm_eq hT (g1 143 (by first | decide | simp)) (g2 2 (by first | decide | simp) (by first | decide | simp) (by first | decide | simp)), ⟨c, d⟩, fun _ => b, by omega, ⟨by first | decide | simp, by first | decide | simp⟩, ⟨by simp only; omega, by simp only; omega⟩⟩
  · obtain ⟨D, rfl⟩ : ∃ d, D = d + 1 := ⟨D - 1, by omega⟩
    rw [smR_f q] at hQ
    exact z292 hL ⟨⟨by omega, by omega⟩, fun z => absurd (h5.symm.trans z) q, fun _ => hQ J (fun _ _ => rfl) (fun _ _ _ _ => rfl) ⟨hT, ⟨h5, h6⟩, h3, hr, hf, hp⟩⟩
/-- the class refuses when there are too many -/
theorem u100 {L : Nat} {xs : Nat → Int32} (hL : L ≤ 3072) {D : Nat} {J : zJ} {K : zK} {Q : zR → Nat → zJ → zK → Prop} {f : Int → Int} {N x s e p : Int} (h : RC f N (e, 0, p) J) (h4 : J 2 0 4 = s) (s0 : 0 ≤ s) (s1 : s ≤ N) (hx : zin x) (hD : 2 ≤ D) (hQ : ∀ J' : zJ, (∀ b : Nat, b ≠ 2 → J' b = J b) → RC f N (if x = 0 then (e, 0, p) else (e, 3, s)) J' → Q (.inl none) 0 J' K) : zCall L xs D 100 [zr 2, zi x] J K Q := by
  obtain ⟨D, rfl⟩ : ∃ d, D = d + 1 := ⟨D - 1, by omega⟩
  refine z100 hL ⟨hx, fun q => ?_, fun q => ?_⟩
  · rw [if_pos q] at hQ
    exact hQ J (fun _ _ => rfl) h
  · rw [if_neg q] at hQ
    obtain ⟨hT, ⟨h5, h6⟩, h3, hr, hf, hp⟩ := h
    have h5 : J 2 0 5 = 0 := h5
    refine c86 hL (by rw [h5]; exact zin_0) (by omega) (fun z => absurd h5 z) fun _ => zaV_of ?_
    rw [h4]
    refine hQ _ (fun b hb => by rw [zup_ne _ _ _ _ hb, zup_ne _ _ _ _ hb]) ⟨tpc_eq hT (by rw [zup_ne _ _ _ _ (by first | decide | simp), zup_ne _ _ _ _ (by first | decide | simp)]) (by rw [zup_nk _ _ (by first | decide | simp), zup_nk _ _ (by first | decide | simp)]), ⟨?_, ?_⟩, fun z => absurd z (by first | decide | simp), ?_, ⟨by first | decide | simp, by first | decide | simp⟩, ⟨by simp only; omega, s1⟩⟩
    · rw [zup_nk _ _ (by first | decide | simp), zup_eq]
    · rw [zup_eq]
    · rw [zup_nk _ _ (by first | decide | simp), zup_nk _ _ (by first | decide | simp)]
      exact hr
