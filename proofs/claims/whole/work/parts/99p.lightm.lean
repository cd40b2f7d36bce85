/-! LIGHT ENGINES: the model's search -/
def Bst (s : zJ) (k n b : Int) : Prop := 0 < b ∧ b < n ∧ pct b 14 = k ∧ ∀ x : Int, 0 < x → x < n → pct x 14 = k → lgt s b < lgt s x ∨ (lgt s b = lgt s x ∧ (x = b ∨ ahb b x))
/-- there is but one -/
theorem bst_one {s : zJ} {k n b c : Int} (h1 : Bst s k n b) (h2 : Bst s k n c) : b = c := by
  have a := h1.2.2.2 c h2.1 h2.2.1 h2.2.2.1
  have d := h2.2.2.2 b h1.1 h1.2.1 h1.2.2.1
  rcases a with a | ⟨_, a | a⟩
  · rcases d with d | ⟨d, _⟩ <;> omega
  · exact a.symm
  · rcases d with d | ⟨_, d | d⟩
    · omega
    · exact d
    · exact absurd d (ahb_asym a)
theorem lgt_rng {s : zJ} (h : LW s) (x : Int) : -12 ≤ lgt s x ∧ lgt s x ≤ 63360 := by
  have hn := lw_n h
  have h1 := sm_mono (f := fun _ => -1) (g := fun f => if isF s f then mnb s x f (s 18 0 0).toNat else 0) (n := (s 18 0 0).toNat) fun f f0 f1 => by
    rcases mnb_ok h (x := x) f0 (by omega) (s 18 0 0).toNat (by omega) with ⟨g, _⟩ | ⟨g, _, _⟩ <;> split <;> omega
  have h2 := sm_mono (f := fun f => if isF s f then mnb s x f (s 18 0 0).toNat else 0) (g := fun _ => 5280) (n := (s 18 0 0).toNat) fun f f0 f1 => by
    rcases mnb_ok h (x := x) f0 (by omega) (s 18 0 0).toNat (by omega) with ⟨g, _⟩ | ⟨_, g, _⟩ <;> split <;> omega
  have e : ∀ (c : Int) (n : Nat), sm (fun _ => c) n = n * c := fun c n => by
    induction n with
    | zero => simp [sm]
    | succ n ih =>
      have e1 : ((n + 1 : Nat) : Int) = n + 1 := by omega
      rw [sm, ih, e1, Int.add_mul, Int.one_mul]
  rw [e] at h1 h2
  unfold lgt
  omega
theorem c262l {L : Nat} {xs : Nat → Int32} (hL : L ≤ 3072) {D : Nat} {J : zJ} {K : zK} {Q : zR → Nat → zJ → zK → Prop} {s : zJ} (hM : ML s J) (h : LW s) {k w : Int} (zk : zin k) (zw2 : zin w) (hD : 6 ≤ D) (hN : (∀ x : Int, 0 < x → x < 2 ^ (s 18 0 0).toNat → pct x 14 ≠ k) → Q (.inl (some (zi (-1)))) 0 J K) (hB : ∀ b : Int, Bst s k (2 ^ (s 18 0 0).toNat) b → Q (.inl (some (zi (if w = 0 then lgt s b else b)))) 0 J K) : zGo L xs D 262 46 [some (zr 142), some (zi k), some (zi w), some (zi (-1)), some (zi 0), some (zi 1), none] [] J K Q := by
  obtain ⟨D, rfl⟩ : ∃ d, D = d + 1 := ⟨D - 1, by omega⟩
  have hn := lw_n h
  obtain ⟨hm0, -, -, -⟩ := ml_n hM
  have hp12 : (2 : Int) ^ (s 18 0 0).toNat ≤ 2 ^ 12 := pw_le (by omega)
  have hp0 := pw_pos (s 18 0 0).toNat
  have key : ∀ (n : Nat) (x b l : Int), n = (2 ^ (s 18 0 0).toNat - x).toNat → 1 ≤ x → x ≤ 2 ^ (s 18 0 0).toNat → ((b = -1 ∧ l = 0 ∧ ∀ y : Int, 0 < y → y < x → pct y 14 ≠ k) ∨ (Bst s k x b ∧ l = lgt s b)) → zGo L xs (D + 1) 262 46 [some (zr 142), some (zi k), some (zi w), some (zi b), some (zi l), some (zi x), none] [] J K Q := by
    intro n; induction n using Nat.strongRecOn with
    | _ n ih =>
    intro x b l hm h0 h1 hI
    have zb' : zin b := by
      rcases hI with ⟨z, _⟩ | ⟨z, _⟩
      · rw [z]
        exact ⟨by decide, by decide⟩
      · have := z.1
        have := z.2.1
        exact ⟨by omega, by omega⟩
    have zl' : zin l := by
      rcases hI with ⟨_, z, _⟩ | ⟨_, z⟩
      · rw [z]
        exact zin_0
      · have := lgt_rng h b
        rw [z]
        exact ⟨by omega, by omega⟩
    refine z262_46 hL ?_
    rw [hm0, Int.one_mul]
    refine ⟨by decide, by decide, by omega, by omega, ⟨by omega, by omega⟩, ⟨by omega, by omega⟩, fun q => ⟨zb', ⟨by decide, by decide⟩, fun q2 => ⟨zw2, fun q3 => ?_, fun q3 => ?_⟩, fun q2 => ?_⟩, fun q => ?_⟩
    · have e : x = 2 ^ (s 18 0 0).toNat := by omega
      rcases hI with ⟨z, _⟩ | ⟨z, _⟩
      · exact absurd z q2
      · rw [e] at z
        have := hB b z
        rw [if_neg q3] at this
        exact this
    · have e : x = 2 ^ (s 18 0 0).toNat := by omega
      rcases hI with ⟨z, _⟩ | ⟨z, z2⟩
      · exact absurd z q2
      · rw [e] at z
        have := hB b z
        rw [if_pos q3, ← z2] at this
        exact this
    · have e : x = 2 ^ (s 18 0 0).toNat := by omega
      rcases hI with ⟨_, _, z⟩ | ⟨z, _⟩
      · rw [e] at z
        exact hN z
      · have := z.1
        omega
    · have hpr := cnt_rng (fun i => bt x i) 14
      refine c274 hL (by omega) ⟨by omega, by omega⟩ (zaI_of ⟨?_, zk, fun q1 => ?_, fun q1 => ?_⟩)
      · show zin (cnt (fun i => bt x i) 14)
        exact ⟨by omega, by omega⟩
      · have hlx := lgt_rng h x
        have other : (b = -1 → True) → ∀ y : Int, 0 < y → y < x + 1 → y ≠ x → y < x := fun _ y _ a2 a3 => by omega
        refine c263 hL hM h (by omega) (by omega) (by omega) (zaI_of ⟨zb', ⟨by decide, by decide⟩, fun q2 => ?_, fun q2 => ⟨⟨by omega, by omega⟩, zl', fun q3 => ?_, fun q3 => ⟨⟨by omega, by omega⟩, zl', fun q4 => ?_, fun q4 => ?_⟩⟩⟩)
        · rcases hI with ⟨_, _, z⟩ | ⟨z, _⟩
          · refine ih _ (by omega) (x + 1) x _ rfl (by omega) (by omega) (Or.inr ⟨⟨by omega, by omega, q1, fun y a1 a2 a3 => ?_⟩, rfl⟩)
            by_cases e : y = x
            · rw [e]
              exact Or.inr ⟨rfl, Or.inl rfl⟩
            · exact absurd a3 (z y a1 (by omega))
          · have := z.1
            omega
        · rcases hI with ⟨z, _⟩ | ⟨z, z2⟩
          · exact absurd z q2
          · refine ih _ (by omega) (x + 1) b l rfl (by omega) (by omega) (Or.inr ⟨⟨z.1, by have := z.2.1; omega, z.2.2.1, fun y a1 a2 a3 => ?_⟩, z2⟩)
            by_cases e : y = x
            · rw [e]
              exact Or.inl (by omega)
            · exact z.2.2.2 y a1 (by omega) a3
        · rcases hI with ⟨z, _⟩ | ⟨z, z2⟩
          · exact absurd z q2
          · refine ih _ (by omega) (x + 1) x _ rfl (by omega) (by omega) (Or.inr ⟨⟨by omega, by omega, q1, fun y a1 a2 a3 => ?_⟩, rfl⟩)
            by_cases e : y = x
            · rw [e]
              exact Or.inr ⟨rfl, Or.inl rfl⟩
            · rcases z.2.2.2 y a1 (by omega) a3 with u | u
              · exact Or.inl (by omega)
              · exact Or.inl (by omega)
        · rcases hI with ⟨z, _⟩ | ⟨z, z2⟩
          · exact absurd z q2
          · have hbx := z.2.1
            have hb0 := z.1
            refine c250 hL (x := x) (y := b) (by omega) (by omega) (by omega) (by omega) (by omega) (by omega) (fun ha => zaI_of ⟨zin_1, fun _ => ?_, fun u => absurd u (by decide)⟩) (fun ha => zaI_of ⟨zin_0, fun u => absurd rfl u, fun _ => ?_⟩)
            · refine ih _ (by omega) (x + 1) x _ rfl (by omega) (by omega) (Or.inr ⟨⟨by omega, by omega, q1, fun y a1 a2 a3 => ?_⟩, rfl⟩)
              by_cases e : y = x
              · rw [e]
                exact Or.inr ⟨rfl, Or.inl rfl⟩
              · rcases z.2.2.2 y a1 (by omega) a3 with u | ⟨u, u2 | u2⟩
                · exact Or.inl (by omega)
                · rw [u2]
                  exact Or.inr ⟨by omega, Or.inr ha⟩
                · exact Or.inr ⟨by omega, Or.inr (ahb_trans ha u2)⟩
            · refine ih _ (by omega) (x + 1) b l rfl (by omega) (by omega) (Or.inr ⟨⟨z.1, by omega, z.2.2.1, fun y a1 a2 a3 => ?_⟩, z2⟩)
              by_cases e : y = x
              · rw [e]
                exact Or.inr ⟨by omega, Or.inr ha⟩
              · exact z.2.2.2 y a1 (by omega) a3
      · refine ih _ (by omega) (x + 1) b l rfl (by omega) (by omega) ?_
        rcases hI with ⟨z, z2, z3⟩ | ⟨z, z2⟩
        · refine Or.inl ⟨z, z2, fun y a1 a2 => ?_⟩
          by_cases e : y = x
          · rw [e]
            exact q1
          · exact z3 y a1 (by omega)
        · refine Or.inr ⟨⟨z.1, by have := z.2.1; omega, z.2.2.1, fun y a1 a2 a3 => ?_⟩, z2⟩
          by_cases e : y = x
          · rw [e] at a3
            exact absurd a3 q1
          · exact z.2.2.2 y a1 (by omega) a3
  exact key _ 1 (-1) 0 rfl (by decide) (by omega) (Or.inl ⟨rfl, rfl, fun y a1 a2 => by omega⟩)
