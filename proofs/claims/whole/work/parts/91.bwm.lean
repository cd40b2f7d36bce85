/-! BEST WAITS in the model -/
theorem c200 {L : Nat} {xs : Nat → Int32} (hL : L ≤ 3072) {D : Nat} {J : zJ} {K : zK} {Q : zR → Nat → zJ → zK → Prop} {s : zJ} (hM : ML s J) (h : LW s) (hP : PW s) (hC : MC s J) {p : Int} (hD : 14 ≤ D) (h0 : 0 ≤ p) (h1 : p < s 18 0 0) (hQ : ∀ J', FrM J J' → J' 142 0 0 = J 142 0 0 → Q (.inl (some (zi (bwv s p)))) 0 J' K) : zCall L xs D 200 [zr 142, zi p] J K Q := by
  obtain ⟨D, rfl⟩ : ∃ d, D = d + 1 := ⟨D - 1, by omega⟩
  have hn := lw_n h
  have hw0 := mc_p hC h0 (by omega)
  have key : ∀ (m i : Nat) (J1 : zJ), m = 13 - i → i ≤ 13 → (∀ b : Nat, b ≠ 142 → b ≠ 237 → b < 255 ∨ 556 < b → J1 b = J b) → (∀ k : Int, k ≠ 49 → k ≠ 50 → J1 142 0 k = J 142 0 k) → (∀ j q : Int, ¬ (j = 0 ∧ q = p) → J1 237 j q = J 237 j q) → ∀ x3 x4 : Int, (0 < i → x3 = 5 * (bwi (fun i => men s (wv s p (5 * i))) (i - 1) : Nat) ∧ x4 = men s (wv s p (5 * (bwi (fun i => men s (wv s p (5 * i))) (i - 1) : Nat)))) → zGo L xs (D + 1) 200 15 [some (zr 142), some (zi p), some (zi (J 237 0 p)), some (zi x3), some (zl x4), none, some (zi (5 * (i : Int))), none, none] [] J1 K Q := by
    intro m; induction m using Nat.strongRecOn with
    | _ m ih =>
    intro i J1 hm hi hF1 hf1 h237 x3 x4 hx
    refine z200_15 hL ?_
    by_cases hc : i ≤ 12
    · have hM1 : ML s (zup J1 237 0 p (5 * (i : Int))) := ml_eq hM (by rw [zup_ne _ _ _ _ (by decide)]; exact hF1 _ (by decide) (by decide) (by decide)) (by rw [zup_ne _ _ _ _ (by decide)]; exact hF1 _ (by decide) (by decide) (by decide)) (by rw [zup_ne _ _ _ _ (by decide)]; exact hF1 _ (by decide) (by decide) (by decide)) (by rw [zup_ne _ _ _ _ (by decide)]; exact hF1 _ (by decide) (by decide) (by decide)) (by rw [zup_ne _ _ _ _ (by decide)]; exact hF1 _ (by decide) (by decide) (by decide))
      have hC1 : ME s (zup J1 237 0 p (5 * (i : Int))) := by
        have := me_of hC
        unfold ME at this ⊢
        rw [zup_ne _ _ _ _ (by decide), zup_ne _ _ _ _ (by decide), hF1 238 (by decide) (by decide) (by decide), hF1 236 (by decide) (by decide) (by decide)]
        exact this
      have ei : 5 * (i : Int) + 5 = 5 * ((i + 1 : Nat) : Int) := by omega
      have hr := men_rng h hP (wv s p (5 * (i : Int)))
      refine ⟨⟨by omega, by omega⟩, ⟨by omega, by omega⟩, fun _ => by omega, fun _ => ⟨h0, by omega, ?_⟩⟩
      refine c267 hL hM1 h hP hC1 (w := wv s p (5 * (i : Int))) (by omega) (fun J2 hF2 => zaL_of ⟨⟨by omega, by omega⟩, fun q => ?_, fun q => ?_⟩) (fun q q0 q1 => ?_)
      · have e0 : i = 0 := by omega
        subst e0
        rw [ei]
        refine ih _ (by omega) (0 + 1) J2 rfl (by omega) (fun b a c d => by rw [hF2.1 b a (by omega), zup_ne _ _ _ _ c]; exact hF1 b a c d) (fun k a b => by rw [hF2.2 k a b, zup_ne _ _ _ _ (by decide)]; exact hf1 k a b) (fun j q hq => by rw [hF2.1 237 (by decide) (by decide), zup_at, if_neg (fun z => hq ⟨z.2.1, z.2.2⟩)]; exact h237 j q hq) _ _ fun _ => ?_
        exact ⟨rfl, rfl⟩
      · have hi0 : 0 < i := by omega
        obtain ⟨e3, e4⟩ := hx hi0
        have hr4 := men_rng h hP (wv s p (5 * (bwi (fun i => men s (wv s p (5 * i))) (i - 1) : Nat)))
        rw [← e4] at hr4
        have hcm := zcmp_lt (x := men s (wv s p (5 * (i : Int)))) (y := x4) ⟨by omega, by omega⟩ ⟨by omega, by omega⟩
        have ebw : bwi (fun i => men s (wv s p (5 * i))) (i + 1 - 1) = if men s (wv s p (5 * (i : Int))) < men s (wv s p (5 * (bwi (fun i => men s (wv s p (5 * i))) (i - 1) : Nat))) then i else bwi (fun i => men s (wv s p (5 * i))) (i - 1) := by
          have e9 : i + 1 - 1 = (i - 1) + 1 := by omega
          rw [e9, bwi]
          have e8 : i - 1 + 1 = i := by omega
          rw [e8]
        refine ⟨hcm.2, fun y => ?_, fun y => ?_⟩
        · rw [ei]
          refine ih _ (by omega) (i + 1) J2 rfl (by omega) (fun b a c d => by rw [hF2.1 b a (by omega), zup_ne _ _ _ _ c]; exact hF1 b a c d) (fun k a b => by rw [hF2.2 k a b, zup_ne _ _ _ _ (by decide)]; exact hf1 k a b) (fun j q hq => by rw [hF2.1 237 (by decide) (by decide), zup_at, if_neg (fun z => hq ⟨z.2.1, z.2.2⟩)]; exact h237 j q hq) _ _ fun _ => ?_
          have := hcm.1.mp y
          rw [e4] at this
          rw [ebw, if_pos this]
          exact ⟨rfl, rfl⟩
        · rw [ei]
          refine ih _ (by omega) (i + 1) J2 rfl (by omega) (fun b a c d => by rw [hF2.1 b a (by omega), zup_ne _ _ _ _ c]; exact hF1 b a c d) (fun k a b => by rw [hF2.2 k a b, zup_ne _ _ _ _ (by decide)]; exact hf1 k a b) (fun j q hq => by rw [hF2.1 237 (by decide) (by decide), zup_at, if_neg (fun z => hq ⟨z.2.1, z.2.2⟩)]; exact h237 j q hq) _ _ fun _ => ?_
          have hno : ¬ men s (wv s p (5 * (i : Int))) < men s (wv s p (5 * (bwi (fun i => men s (wv s p (5 * i))) (i - 1) : Nat))) := by
            intro z
            rw [← e4] at z
            have := hcm.1.mpr z
            omega
          rw [ebw, if_neg hno]
          exact ⟨e3, e4⟩
      · unfold wv
        by_cases e : q = p
        · rw [e, zup_eq, if_pos rfl]
          omega
        · rw [zup_nk _ _ e, if_neg e, h237 0 q (fun z => e z.2)]
          exact mw_ok h hP hC q q0 q1
    · have e : i = 13 := by omega
      subst e
      obtain ⟨e3, -⟩ := hx (by omega)
      refine ⟨⟨by omega, by omega⟩, ⟨by omega, by omega⟩, fun _ => ⟨h0, by omega, ?_⟩, fun q => by omega⟩
      rw [e3]
      refine hQ _ ⟨fun b a c => ?_, ?_, ?_, ?_, ?_, ?_, ?_⟩ ?_
      · by_cases eb : b = 237
        · subst eb
          funext j q
          rw [zup_at]
          split
          · next z => rw [z.2.1, z.2.2]
          · next z => exact h237 j q (fun y => z ⟨rfl, y.1, y.2⟩)
        · rw [zup_ne _ _ _ _ eb]
          exact hF1 b a eb c
      · rw [zup_ne _ _ _ _ (by decide)]; exact hf1 _ (by decide) (by decide)
      · rw [zup_ne _ _ _ _ (by decide)]; exact hf1 _ (by decide) (by decide)
      · rw [zup_ne _ _ _ _ (by decide)]; exact hf1 _ (by decide) (by decide)
      · rw [zup_ne _ _ _ _ (by decide)]; exact hf1 _ (by decide) (by decide)
      · rw [zup_ne _ _ _ _ (by decide)]; exact hf1 _ (by decide) (by decide)
      · rw [zup_ne _ _ _ _ (by decide)]; exact hf1 _ (by decide) (by decide)
      · rw [zup_ne _ _ _ _ (by decide)]; exact hf1 _ (by decide) (by decide)
  exact z200 hL ⟨h0, by omega, key _ 0 J rfl (by omega) (fun _ _ _ _ => rfl) (fun _ _ _ => rfl) (fun _ _ _ => rfl) 0 0 (fun q => by omega)⟩
