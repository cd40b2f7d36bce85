/-! READING A NUMBER, a sign, a word: the model; the end of a clause -/
theorem isD_n1 : isD (-1) = false := rfl
theorem c273 {L : Nat} {xs : Nat → Int32} (hL : L ≤ 3072) {D : Nat} {J : zJ} {K : zK} {Q : zR → Nat → zJ → zK → Prop} {f : Int → Int} {N i lo hi : Int} (hT : Tpm f N J) (hi' : J 142 0 4 = i) (i0 : 0 ≤ i) (i1 : i ≤ N) (h5 : J 142 0 5 = 0) (l0 : 0 ≤ lo) (l1 : lo ≤ 1) (h1 : -1 ≤ hi) (h2 : hi ≤ 2000) (hD : 3 ≤ D)
  (hQ : ∀ J' : zJ, (∀ b : Nat, b ≠ 142 → J' b = J b) → (∀ k : Int, k ≠ 4 → k ≠ 5 → k ≠ 6 → J' 142 0 k = J 142 0 k) → J' 142 0 4 = skp isD f N (skp isB f N i) → (skp isD f N (skp isB f N i) = skp isB f N i → J' 142 0 5 = 1 → J' 142 0 6 = skp isB f N i → ∀ r : Int, zin r → Q (.inl (some (zi (r)))) 0 J' K) ∧ (skp isD f N (skp isB f N i) ≠ skp isB f N i → ¬ (lo ≤ nvs f N (skp isB f N i) 0 ∧ nvs f N (skp isB f N i) 0 ≤ hi) → J' 142 0 5 = 2 → J' 142 0 6 = skp isB f N i → ∀ r : Int, zin r → Q (.inl (some (zi (r)))) 0 J' K) ∧ (skp isD f N (skp isB f N i) ≠ skp isB f N i → lo ≤ nvs f N (skp isB f N i) 0 ∧ nvs f N (skp isB f N i) 0 ≤ hi → J' 142 0 5 = 0 → J' 142 0 6 = J 142 0 6 → Q (.inl (some (zi (nvs f N (skp isB f N i) 0)))) 0 J' K)) : zCall L xs D 273 [zr 142, zi lo, zi hi] J K Q := by
  obtain ⟨D, rfl⟩ : ∃ d, D = d + 1 := ⟨D - 1, by omega⟩
  obtain ⟨b1, b2, _, _⟩ := skp_rng (P := isB) (f := f) (n := N) _ i rfl
  have hb2 := b2 i1
  have tN := hT.2.1
  generalize hse : skp isB f N i = s at *
  have key : ∀ (m : Nat) (j v : Int) (J1 : zJ), m = (N - j).toNat → s ≤ j → j ≤ N → (∀ b : Nat, b ≠ 142 → J1 b = J b) → (∀ k : Int, k ≠ 4 → k ≠ 5 → k ≠ 6 → J1 142 0 k = J 142 0 k) → J1 142 0 4 = j → 0 ≤ v → nvs f N s 0 = nvs f N j v → skp isD f N s = skp isD f N j → ((J1 142 0 5 = 0 ∧ J1 142 0 6 = J 142 0 6 ∧ (j = s → isD (if s < N then f s else -1) = true)) ∨ (J1 142 0 5 = 1 ∧ J1 142 0 6 = s ∧ skp isD f N s = s)) → zGo L xs (D + 1) 273 44 [some (zr 142), some (zi lo), some (zi hi), some (zi s), some (zi (cpd 100000 v))] [] J1 K Q := by
    intro n; induction n using Nat.strongRecOn with
  | _ n ih =>
    intro j v J1 hm j0 j1 f1 k1 v4 v0 hv hs hor
    have hT1 := tpm_eq hT (f1 143 (by decide)) (k1 2 (by decide) (by decide) (by decide))
    have hcr := cpd_rng (c := 100000) (by decide) v0
    have hcj : zin (if j < N then f j else -1) := by
      split
      · rename_i q
        have := hT1.2.2 j (by omega) q
        exact ⟨by omega, by omega⟩
      · exact ⟨by decide, by decide⟩
    refine z273_44 hL ?_
    rw [v4]
    refine c204 hL hT1 (by omega) (by omega) (by omega) (zaI_of ?_)
    refine c244 hL hcj (by omega) (zaI_of ⟨zin_zb _, fun z => ?_, fun z => ?_⟩)
    · rw [zb_0] at z
      have hno : ¬ (j < N ∧ isD (f j) = true) := fun y => by
        rw [if_pos y.1, y.2] at z
        cases z
      rw [nvs_no hno] at hv
      rw [skp_no hno] at hs
      refine c240 hL (by omega) ⟨by omega, by omega⟩ ⟨by omega, by omega⟩ ⟨by omega, by omega⟩ (zaI_of ⟨zin_zb _, fun q => ?_, fun q => ?_⟩)
      · rw [zb_1, decide_eq_true_iff] at q
        rcases hor with ⟨o1, o2, o3⟩ | ⟨o1, o2, o3⟩
        · have hjs : j ≠ s := fun y => by
            have := o3 y
            rw [y] at z
            rw [z] at this
            cases this
          have e : cpd 100000 v = v := by
            unfold cpd at q ⊢
            split at q <;> split <;> omega
          rw [e] at q ⊢
          rw [← hv]
          exact (hQ J1 f1 k1 (by rw [v4, hs])).2.2 (by rw [hs]; exact hjs) (by rw [hv]; exact q) o1 o2
        · exact (hQ J1 f1 k1 (by rw [v4, hs])).1 o3 o1 o2 _ ⟨by omega, by omega⟩
      · rw [zb_0, decide_eq_false_iff_not] at q
        rcases hor with ⟨o1, o2, o3⟩ | ⟨o1, o2, o3⟩
        · have hjs : j ≠ s := fun y => by
            have := o3 y
            rw [y] at z
            rw [z] at this
            cases this
          refine c314 hL (by rw [o1]; exact zin_0) (by omega) (fun y => absurd o1 y) fun _ => zaV_of ?_
          refine (hQ _ (fun b hb => by rw [zup_ne _ _ _ _ hb, zup_ne _ _ _ _ hb]; exact f1 b hb) (fun k x y w => by rw [zup_nk _ _ w, zup_nk _ _ y]; exact k1 k x y w) ?_).2.1 (by rw [hs]; exact hjs) (fun y => q ?_) ?_ (zup_eq _ _ _ _ _) _ ⟨by omega, by omega⟩
          · rw [zup_nk _ _ (by decide), zup_nk _ _ (by decide), v4, hs]
          · rw [hv] at y
            unfold cpd
            rw [if_pos (by omega)]
            exact y
          · rw [zup_nk _ _ (by decide), zup_eq]
        · refine c314 hL (by rw [o1]; exact zin_1) (by omega) (fun _ => zaV_of ?_) fun y => by omega
          exact (hQ J1 f1 k1 (by rw [v4, hs])).1 o3 o1 o2 _ ⟨by omega, by omega⟩
    · rw [zb_1] at z
      have q : j < N := by
        by_cases q : j < N
        · exact q
        · rw [if_neg q, isD_n1] at z
          cases z
      rw [if_pos q] at z
      have hd := isD_t.mp z
      rw [v4]
      refine c204 hL hT1 (by omega) (by omega) (by omega) (zaI_of ?_)
      rw [if_pos q, v4]
      have h3 := cpd_nx (c := 100000) (v := v) (d := f j - 48) (by decide) v0 (by omega)
      have e1 : cpd 100000 v * 10 + (f j - 48) = 10 * cpd 100000 v + f j - 48 := by omega
      have e2 : v * 10 + (f j - 48) = v * 10 + f j - 48 := by omega
      rw [e1, e2] at h3
      have hor2 : ((J1 142 0 5 = 0 ∧ J1 142 0 6 = J 142 0 6 ∧ (j + 1 = s → isD (if s < N then f s else -1) = true)) ∨ (J1 142 0 5 = 1 ∧ J1 142 0 6 = s ∧ skp isD f N s = s)) := by
        rcases hor with ⟨o1, o2, o3⟩ | o
        · exact Or.inl ⟨o1, o2, fun y => by omega⟩
        · exact Or.inr o
      have next : zGo L xs (D + 1) 273 44 [some (zr 142), some (zi lo), some (zi hi), some (zi s), some (zi (cpd 100000 (v * 10 + f j - 48)))] [] (zup J1 142 0 4 (j + 1)) K Q := by
        refine ih _ (by omega) (j + 1) _ _ rfl (by omega) (by omega) (fun b hb => by rw [zup_ne _ _ _ _ hb]; exact f1 b hb) (fun k x y w => by rw [zup_nk _ _ x]; exact k1 k x y w) (zup_eq _ _ _ _ _) (by omega) ?_ ?_ ?_
        · rw [hv, nvs_go q z]
        · rw [hs, skp_go q z]
        · rw [zup_nk _ _ (by decide), zup_nk _ _ (by decide)]
          exact hor2
      rw [← h3] at next
      refine ⟨⟨by omega, by omega⟩, ⟨by decide, by decide⟩, fun y => ?_, fun y => ?_⟩
      · have e : cpd 100000 (10 * cpd 100000 v + f j - 48) = 10 * cpd 100000 v + f j - 48 := if_pos y
        rw [e] at next
        exact next
      · have e : cpd 100000 (10 * cpd 100000 v + f j - 48) = 100000 := if_neg (by omega)
        rw [e] at next
        exact next
  have e0 : cpd 100000 0 = 0 := rfl
  refine z273 hL ⟨by rw [h5]; exact zin_0, fun _ => ?_, fun z => absurd h5 z⟩
  refine c202 hL hT hi' i0 i1 (by omega) fun J1 f1 k1 v1 => zaV_of ?_
  rw [hse] at v1
  have hT1 := tpm_eq hT (f1 143 (by decide)) (k1 2 (by decide))
  have hcj : zin (if s < N then f s else -1) := by
    split
    · rename_i q
      have := hT1.2.2 s (by omega) q
      exact ⟨by omega, by omega⟩
    · exact ⟨by decide, by decide⟩
  have e5 : J1 142 0 5 = 0 := by rw [k1 5 (by decide)]; exact h5
  rw [v1]
  refine c204 hL hT1 (by omega) (by omega) (by omega) (zaI_of ?_)
  refine c244 hL hcj (by omega) (zaI_of ⟨zin_zb _, fun z => ?_, fun z => ?_⟩)
  · rw [zb_1] at z
    have := key _ s 0 J1 rfl (Int.le_refl _) hb2 f1 (fun k x _ _ => k1 k x) v1 (Int.le_refl 0) rfl rfl (Or.inl ⟨e5, k1 6 (by decide), fun _ => z⟩)
    rw [e0] at this
    exact this
  · rw [zb_0] at z
    have hsk : skp isD f N s = s := skp_no fun y => by
      rw [if_pos y.1, y.2] at z
      cases z
    rw [v1]
    refine c314 hL (by rw [e5]; exact zin_0) (by omega) (fun y => absurd e5 y) fun _ => zaV_of ?_
    have := key _ s 0 (zup (zup J1 142 0 5 1) 142 0 6 s) rfl (Int.le_refl _) hb2 (fun b hb => by rw [zup_ne _ _ _ _ hb, zup_ne _ _ _ _ hb]; exact f1 b hb) (fun k x y w => by rw [zup_nk _ _ w, zup_nk _ _ y]; exact k1 k x) (by rw [zup_nk _ _ (by decide), zup_nk _ _ (by decide)]; exact v1) (Int.le_refl 0) rfl rfl (Or.inr ⟨by rw [zup_nk _ _ (by decide), zup_eq], zup_eq _ _ _ _ _, hsk⟩)
    rw [e0] at this
    exact this
