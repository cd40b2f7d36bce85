/-! IMAGES: all of a plan -/
theorem c270_0 {L : Nat} {xs : Nat → Int32} (hL : L ≤ 3072) {D : Nat} {J : zJ} {K : zK} {Q : zR → Nat → zJ → zK → Prop} {x : Int} (x0 : 0 ≤ x) (x1 : x < 3) (hD : 3 ≤ D) (hQ : ∀ J' : zJ, Kp J x J' 138 → Q (.inl none) 0 J' K) : zCall L xs D 270 [zr 142, zi x, zi 0] J K Q := by
  obtain ⟨D, rfl⟩ : ∃ d, D = d + 1 := ⟨D - 1, by omega⟩
  refine z270 hL ?_
  have k0 : Kp J x (zup J 142 0 52 0) 0 := ⟨fun b p q => zup_ne _ _ _ _ p, fun k hk => zup_nk _ _ hk, zup_eq _ _ _ _ _, fun y k hy => by rw [zup_ne _ _ _ _ (by decide)], fun k a b => by omega⟩
  refine c269_0 hL k0 x0 x1 (by decide) (by decide) rfl (by omega) fun J1 h1 => zaI_of ?_
  rw [zup_self J1 142 0 15 _ (h1.2.1 15 (by decide)).symm]
  have e16 : J1 142 0 16 = rd J 1 := h1.2.1 16 (by decide)
  refine c269_0 hL h1 x0 x1 (by decide) (by decide) e16 (by omega) fun J2 h2 => zaI_of ?_
  rw [zup_self J2 142 0 16 _ (by rw [h1.2.1 16 (by decide), h2.2.1 16 (by decide)])]
  refine c271_0 hL x0 x1 h2 (by omega) fun J3 h3 => zaV_of ?_
  refine c271a_0 hL x0 x1 h3 (by omega) fun J4 h4 => zaV_of ?_
  refine c271b_0 hL x0 x1 h4 (by omega) fun J5 h5 => zaV_of ?_
  refine c271c_0 hL x0 x1 h5 (by omega) fun J6 h6 => zaV_of ?_
  refine c271d_0 hL x0 x1 h6 (by omega) fun J7 h7 => zaV_of ?_
  refine c271e_0 hL x0 x1 h7 (by omega) fun J8 h8 => zaV_of ?_
  have jobs : ∀ (n : Nat) (t : Int) (J9 : zJ), n = (14 - t).toNat → 0 ≤ t → t ≤ 14 → Kp J x J9 (82 + 4 * t) → zGo L xs (D + 1) 270 120 [some (zr 142), some (zi x), some (zi 0), some (zi t)] [] J9 K Q := by
    intro n; induction n using Nat.strongRecOn with
    | _ n ih =>
    intro t J9 hm t0 t1 h9
    refine z270_120 hL ?_
    by_cases hc : t < 14
    · refine ⟨⟨by omega, by omega⟩, ⟨by omega, by omega⟩, fun _ => by omega, fun _ => ⟨t0, hc, ?_⟩⟩
      refine c271g_0 hL t0 hc x0 x1 h9 (by omega) fun J10 h10 => zaV_of ?_
      refine ih _ (by omega) (t + 1) J10 rfl (by omega) (by omega) ?_
      have e : 82 + 4 * t + 4 = 82 + 4 * (t + 1) := by omega
      rw [e] at h10
      exact h10
    · have e : t = 14 := by omega
      subst e
      exact ⟨⟨by omega, by omega⟩, ⟨by omega, by omega⟩, fun _ => hQ J9 h9, fun q => by omega⟩
  have rows : ∀ (n : Nat) (t : Int) (J9 : zJ), n = (4 - t).toNat → 0 ≤ t → t ≤ 4 → Kp J x J9 (50 + 8 * t) → zGo L xs (D + 1) 270 95 [some (zr 142), some (zi x), some (zi 0), some (zi t)] [] J9 K Q := by
    intro n; induction n using Nat.strongRecOn with
    | _ n ih =>
    intro t J9 hm t0 t1 h9
    refine z270_95 hL ?_
    by_cases hc : t < 4
    · refine ⟨⟨by omega, by omega⟩, ⟨by omega, by omega⟩, fun _ => by omega, fun _ => ⟨t0, hc, ?_⟩⟩
      refine c271f_0 hL t0 hc x0 x1 h9 (by omega) fun J10 h10 => zaV_of ?_
      refine ih _ (by omega) (t + 1) J10 rfl (by omega) (by omega) ?_
      have e : 50 + 8 * t + 8 = 50 + 8 * (t + 1) := by omega
      rw [e] at h10
      exact h10
    · have e : t = 4 := by omega
      subst e
      exact ⟨⟨by omega, by omega⟩, ⟨by omega, by omega⟩, fun _ => jobs _ 0 J9 rfl (by decide) (by decide) h9, fun q => by omega⟩
  exact rows _ 0 J8 rfl (by decide) (by decide) h8
theorem c270_1 {L : Nat} {xs : Nat → Int32} (hL : L ≤ 3072) {D : Nat} {J : zJ} {K : zK} {Q : zR → Nat → zJ → zK → Prop} {x : Int} (x0 : 0 ≤ x) (x1 : x < 3) (hD : 3 ≤ D) (hQ : ∀ J' : zJ, Rs J x J' 138 → Q (.inl none) 0 J' K) : zCall L xs D 270 [zr 142, zi x, zi 1] J K Q := by
  obtain ⟨D, rfl⟩ : ∃ d, D = d + 1 := ⟨D - 1, by omega⟩
  refine z270 hL ?_
  have k0 : Rs J x (zup J 142 0 52 0) 0 := ⟨fun b p q => zup_ne _ _ _ _ p, fun k hk _ _ => zup_nk _ _ hk, zup_eq _ _ _ _ _, fun k a b => by omega⟩
  refine c269_1 hL k0 x0 x1 (by decide) (by decide) (by omega) (zaI_of ?_)
  have h1 : Rs J x (zup (zup (zup J 142 0 52 0) 142 0 52 (0 + 1)) 142 0 15 (J 557 x 0)) 1 := by
    refine ⟨fun b p q => by rw [zup_ne _ _ _ _ p, zup_ne _ _ _ _ p, zup_ne _ _ _ _ p], fun k q1 q2 q3 => by rw [zup_nk _ _ q2, zup_nk _ _ q1, zup_nk _ _ q1], by rw [zup_nk _ _ (by decide), zup_eq]; rfl, fun k a b => ?_⟩
    have : k = 0 := by omega
    rw [rd_15, if_pos this, this]
  refine c269_1 hL h1 x0 x1 (by decide) (by decide) (by omega) (zaI_of ?_)
  have h2 : Rs J x (zup (zup (zup (zup (zup J 142 0 52 0) 142 0 52 (0 + 1)) 142 0 15 (J 557 x 0)) 142 0 52 (1 + 1)) 142 0 16 (J 557 x 1)) 2 := by
    obtain ⟨g1, g2, g3, g4⟩ := h1
    refine ⟨fun b p q => by rw [zup_ne _ _ _ _ p, zup_ne _ _ _ _ p]; exact g1 b p q, fun k q1 q2 q3 => by rw [zup_nk _ _ q3, zup_nk _ _ q1]; exact g2 k q1 q2 q3, by rw [zup_nk _ _ (by decide), zup_eq]; rfl, fun k a b => ?_⟩
    rw [rd_16, rd_52]
    split
    · rename_i e
      rw [e]
    · exact g4 k a (by omega)
  generalize zup (zup (zup (zup (zup J 142 0 52 0) 142 0 52 (0 + 1)) 142 0 15 (J 557 x 0)) 142 0 52 (1 + 1)) 142 0 16 (J 557 x 1) = J2 at h2
  refine c271_1 hL x0 x1 h2 (by omega) fun J3 h3 => zaV_of ?_
  refine c271a_1 hL x0 x1 h3 (by omega) fun J4 h4 => zaV_of ?_
  refine c271b_1 hL x0 x1 h4 (by omega) fun J5 h5 => zaV_of ?_
  refine c271c_1 hL x0 x1 h5 (by omega) fun J6 h6 => zaV_of ?_
  refine c271d_1 hL x0 x1 h6 (by omega) fun J7 h7 => zaV_of ?_
  refine c271e_1 hL x0 x1 h7 (by omega) fun J8 h8 => zaV_of ?_
  have jobs : ∀ (n : Nat) (t : Int) (J9 : zJ), n = (14 - t).toNat → 0 ≤ t → t ≤ 14 → Rs J x J9 (82 + 4 * t) → zGo L xs (D + 1) 270 120 [some (zr 142), some (zi x), some (zi 1), some (zi t)] [] J9 K Q := by
    intro n; induction n using Nat.strongRecOn with
    | _ n ih =>
    intro t J9 hm t0 t1 h9
    refine z270_120 hL ?_
    by_cases hc : t < 14
    · refine ⟨⟨by omega, by omega⟩, ⟨by omega, by omega⟩, fun _ => by omega, fun _ => ⟨t0, hc, ?_⟩⟩
      refine c271g_1 hL t0 hc x0 x1 h9 (by omega) fun J10 h10 => zaV_of ?_
      refine ih _ (by omega) (t + 1) J10 rfl (by omega) (by omega) ?_
      have e : 82 + 4 * t + 4 = 82 + 4 * (t + 1) := by omega
      rw [e] at h10
      exact h10
    · have e : t = 14 := by omega
      subst e
      exact ⟨⟨by omega, by omega⟩, ⟨by omega, by omega⟩, fun _ => hQ J9 h9, fun q => by omega⟩
  have rows : ∀ (n : Nat) (t : Int) (J9 : zJ), n = (4 - t).toNat → 0 ≤ t → t ≤ 4 → Rs J x J9 (50 + 8 * t) → zGo L xs (D + 1) 270 95 [some (zr 142), some (zi x), some (zi 1), some (zi t)] [] J9 K Q := by
    intro n; induction n using Nat.strongRecOn with
    | _ n ih =>
    intro t J9 hm t0 t1 h9
    refine z270_95 hL ?_
    by_cases hc : t < 4
    · refine ⟨⟨by omega, by omega⟩, ⟨by omega, by omega⟩, fun _ => by omega, fun _ => ⟨t0, hc, ?_⟩⟩
      refine c271f_1 hL t0 hc x0 x1 h9 (by omega) fun J10 h10 => zaV_of ?_
      refine ih _ (by omega) (t + 1) J10 rfl (by omega) (by omega) ?_
      have e : 50 + 8 * t + 8 = 50 + 8 * (t + 1) := by omega
      rw [e] at h10
      exact h10
    · have e : t = 4 := by omega
      subst e
      exact ⟨⟨by omega, by omega⟩, ⟨by omega, by omega⟩, fun _ => jobs _ 0 J9 rfl (by decide) (by decide) h9, fun q => by omega⟩
  exact rows _ 0 J8 rfl (by decide) (by decide) h8
theorem c79 {L : Nat} {xs : Nat → Int32} (hL : L ≤ 3072) {D : Nat} {J : zJ} {K : zK} {Q : zR → Nat → zJ → zK → Prop} (hD : 1 ≤ D) (hQ : ∀ J' : zJ, (∀ b : Nat, b < 53 ∨ 64 < b → J' b = J b) → (J' 53 0 0 = J 40 0 0 ∧ J' 53 0 5 = J 40 0 5 ∧ J' 53 0 10 = J 40 0 10) → (∀ k : Int, 0 ≤ k → k < 4 → J' 54 0 k = J 41 0 k) → (∀ k : Int, 0 ≤ k → k < 4 → J' 55 0 k = J 42 0 k) → (∀ k : Int, 0 ≤ k → k < 28 → J' 56 0 k = J 43 0 k) → (∀ k : Int, 0 ≤ k → k < 7 → J' 57 0 k = J 44 0 k) → (∀ k : Int, 0 ≤ k → k < 14 → J' 58 0 k = J 45 0 k) → (∀ k : Int, 0 ≤ k → k < 14 → J' 59 0 k = J 46 0 k) → (∀ k : Int, 0 ≤ k → k < 14 → J' 60 0 k = J 47 0 k) → (∀ k : Int, 0 ≤ k → k < 14 → J' 61 0 k = J 48 0 k) → (∀ k : Int, 0 ≤ k → k < 12 → J' 62 0 k = J 49 0 k) → (∀ k : Int, 0 ≤ k → k < 7 → J' 63 0 k = J 50 0 k) → (∀ k : Int, 0 ≤ k → k < 7 → J' 64 0 k = J 51 0 k) → Q (.inl none) 0 J' K) : zCall L xs D 79 [zr 53, zr 40] J K Q := by
  obtain ⟨D, rfl⟩ : ∃ d, D = d + 1 := ⟨D - 1, by omega⟩
  refine z79 hL ?_
  refine ⟨by omega, by decide, by decide, by decide, by decide, by decide, by omega, by decide, by decide, by decide, by decide, by decide, by omega, by decide, by decide, by decide, by decide, by decide, by omega, by decide, by decide, by decide, by decide, by decide, by omega, by decide, by decide, by decide, by decide, by decide, by omega, by decide, by decide, by decide, by decide, by decide, by omega, by decide, by decide, by decide, by decide, by decide, by omega, by decide, by decide, by decide, by decide, by decide, by omega, by decide, by decide, by decide, by decide, by decide, by omega, by decide, by decide, by decide, by decide, by decide, by omega, by decide, by decide, by decide, by decide, by decide, ?_⟩
  refine hQ _ (fun b hb => ?_) ⟨?_, ?_, ?_⟩ (fun k k0 k1 => ?_) (fun k k0 k1 => ?_) (fun k k0 k1 => ?_) (fun k k0 k1 => ?_) (fun k k0 k1 => ?_) (fun k k0 k1 => ?_) (fun k k0 k1 => ?_) (fun k k0 k1 => ?_) (fun k k0 k1 => ?_) (fun k k0 k1 => ?_) (fun k k0 k1 => ?_)
  · rw [zcp_ne _ _ _ _ (by omega), zcp_ne _ _ _ _ (by omega), zcp_ne _ _ _ _ (by omega), zcp_ne _ _ _ _ (by omega), zcp_ne _ _ _ _ (by omega), zcp_ne _ _ _ _ (by omega), zcp_ne _ _ _ _ (by omega), zcp_ne _ _ _ _ (by omega), zcp_ne _ _ _ _ (by omega), zcp_ne _ _ _ _ (by omega), zcp_ne _ _ _ _ (by omega), zup_ne _ _ _ _ (by omega), zup_ne _ _ _ _ (by omega), zup_ne _ _ _ _ (by omega)]
  · rw [zcp_ne _ _ _ _ (by decide), zcp_ne _ _ _ _ (by decide), zcp_ne _ _ _ _ (by decide), zcp_ne _ _ _ _ (by decide), zcp_ne _ _ _ _ (by decide), zcp_ne _ _ _ _ (by decide), zcp_ne _ _ _ _ (by decide), zcp_ne _ _ _ _ (by decide), zcp_ne _ _ _ _ (by decide), zcp_ne _ _ _ _ (by decide), zcp_ne _ _ _ _ (by decide)]
    simp only [zup_at, Nat.reduceEqDiff, Int.reduceEq, eq_self, true_and, and_true, false_and, and_false, if_true, if_false]
  · rw [zcp_ne _ _ _ _ (by decide), zcp_ne _ _ _ _ (by decide), zcp_ne _ _ _ _ (by decide), zcp_ne _ _ _ _ (by decide), zcp_ne _ _ _ _ (by decide), zcp_ne _ _ _ _ (by decide), zcp_ne _ _ _ _ (by decide), zcp_ne _ _ _ _ (by decide), zcp_ne _ _ _ _ (by decide), zcp_ne _ _ _ _ (by decide), zcp_ne _ _ _ _ (by decide)]
    simp only [zup_at, Nat.reduceEqDiff, Int.reduceEq, eq_self, true_and, and_true, false_and, and_false, if_true, if_false]
  · rw [zcp_ne _ _ _ _ (by decide), zcp_ne _ _ _ _ (by decide), zcp_ne _ _ _ _ (by decide), zcp_ne _ _ _ _ (by decide), zcp_ne _ _ _ _ (by decide), zcp_ne _ _ _ _ (by decide), zcp_ne _ _ _ _ (by decide), zcp_ne _ _ _ _ (by decide), zcp_ne _ _ _ _ (by decide), zcp_ne _ _ _ _ (by decide), zcp_ne _ _ _ _ (by decide)]
    simp only [zup_at, Nat.reduceEqDiff, Int.reduceEq, eq_self, true_and, and_true, false_and, and_false, if_true, if_false]
  · have e : (0 : Int) + (k - 0) = k := by omega
    rw [zcp_ne _ _ _ _ (by decide), zcp_ne _ _ _ _ (by decide), zcp_ne _ _ _ _ (by decide), zcp_ne _ _ _ _ (by decide), zcp_ne _ _ _ _ (by decide), zcp_ne _ _ _ _ (by decide), zcp_ne _ _ _ _ (by decide), zcp_ne _ _ _ _ (by decide), zcp_ne _ _ _ _ (by decide), zcp_ne _ _ _ _ (by decide), zcp_at, if_pos ⟨rfl, rfl, k0, by omega⟩, e, zup_ne _ _ _ _ (by decide), zup_ne _ _ _ _ (by decide), zup_ne _ _ _ _ (by decide)]
  · have e : (0 : Int) + (k - 0) = k := by omega
    rw [zcp_ne _ _ _ _ (by decide), zcp_ne _ _ _ _ (by decide), zcp_ne _ _ _ _ (by decide), zcp_ne _ _ _ _ (by decide), zcp_ne _ _ _ _ (by decide), zcp_ne _ _ _ _ (by decide), zcp_ne _ _ _ _ (by decide), zcp_ne _ _ _ _ (by decide), zcp_ne _ _ _ _ (by decide), zcp_at, if_pos ⟨rfl, rfl, k0, by omega⟩, e, zcp_ne _ _ _ _ (by decide), zup_ne _ _ _ _ (by decide), zup_ne _ _ _ _ (by decide), zup_ne _ _ _ _ (by decide)]
  · have e : (0 : Int) + (k - 0) = k := by omega
    rw [zcp_ne _ _ _ _ (by decide), zcp_ne _ _ _ _ (by decide), zcp_ne _ _ _ _ (by decide), zcp_ne _ _ _ _ (by decide), zcp_ne _ _ _ _ (by decide), zcp_ne _ _ _ _ (by decide), zcp_ne _ _ _ _ (by decide), zcp_ne _ _ _ _ (by decide), zcp_at, if_pos ⟨rfl, rfl, k0, by omega⟩, e, zcp_ne _ _ _ _ (by decide), zcp_ne _ _ _ _ (by decide), zup_ne _ _ _ _ (by decide), zup_ne _ _ _ _ (by decide), zup_ne _ _ _ _ (by decide)]
  · have e : (0 : Int) + (k - 0) = k := by omega
    rw [zcp_ne _ _ _ _ (by decide), zcp_ne _ _ _ _ (by decide), zcp_ne _ _ _ _ (by decide), zcp_ne _ _ _ _ (by decide), zcp_ne _ _ _ _ (by decide), zcp_ne _ _ _ _ (by decide), zcp_ne _ _ _ _ (by decide), zcp_at, if_pos ⟨rfl, rfl, k0, by omega⟩, e, zcp_ne _ _ _ _ (by decide), zcp_ne _ _ _ _ (by decide), zcp_ne _ _ _ _ (by decide), zup_ne _ _ _ _ (by decide), zup_ne _ _ _ _ (by decide), zup_ne _ _ _ _ (by decide)]
  · have e : (0 : Int) + (k - 0) = k := by omega
    rw [zcp_ne _ _ _ _ (by decide), zcp_ne _ _ _ _ (by decide), zcp_ne _ _ _ _ (by decide), zcp_ne _ _ _ _ (by decide), zcp_ne _ _ _ _ (by decide), zcp_ne _ _ _ _ (by decide), zcp_at, if_pos ⟨rfl, rfl, k0, by omega⟩, e, zcp_ne _ _ _ _ (by decide), zcp_ne _ _ _ _ (by decide), zcp_ne _ _ _ _ (by decide), zcp_ne _ _ _ _ (by decide), zup_ne _ _ _ _ (by decide), zup_ne _ _ _ _ (by decide), zup_ne _ _ _ _ (by decide)]
  · have e : (0 : Int) + (k - 0) = k := by omega
    rw [zcp_ne _ _ _ _ (by decide), zcp_ne _ _ _ _ (by decide), zcp_ne _ _ _ _ (by decide), zcp_ne _ _ _ _ (by decide), zcp_ne _ _ _ _ (by decide), zcp_at, if_pos ⟨rfl, rfl, k0, by omega⟩, e, zcp_ne _ _ _ _ (by decide), zcp_ne _ _ _ _ (by decide), zcp_ne _ _ _ _ (by decide), zcp_ne _ _ _ _ (by decide), zcp_ne _ _ _ _ (by decide), zup_ne _ _ _ _ (by decide), zup_ne _ _ _ _ (by decide), zup_ne _ _ _ _ (by decide)]
  · have e : (0 : Int) + (k - 0) = k := by omega
    rw [zcp_ne _ _ _ _ (by decide), zcp_ne _ _ _ _ (by decide), zcp_ne _ _ _ _ (by decide), zcp_ne _ _ _ _ (by decide), zcp_at, if_pos ⟨rfl, rfl, k0, by omega⟩, e, zcp_ne _ _ _ _ (by decide), zcp_ne _ _ _ _ (by decide), zcp_ne _ _ _ _ (by decide), zcp_ne _ _ _ _ (by decide), zcp_ne _ _ _ _ (by decide), zcp_ne _ _ _ _ (by decide), zup_ne _ _ _ _ (by decide), zup_ne _ _ _ _ (by decide), zup_ne _ _ _ _ (by decide)]
  · have e : (0 : Int) + (k - 0) = k := by omega
    rw [zcp_ne _ _ _ _ (by decide), zcp_ne _ _ _ _ (by decide), zcp_ne _ _ _ _ (by decide), zcp_at, if_pos ⟨rfl, rfl, k0, by omega⟩, e, zcp_ne _ _ _ _ (by decide), zcp_ne _ _ _ _ (by decide), zcp_ne _ _ _ _ (by decide), zcp_ne _ _ _ _ (by decide), zcp_ne _ _ _ _ (by decide), zcp_ne _ _ _ _ (by decide), zcp_ne _ _ _ _ (by decide), zup_ne _ _ _ _ (by decide), zup_ne _ _ _ _ (by decide), zup_ne _ _ _ _ (by decide)]
  · have e : (0 : Int) + (k - 0) = k := by omega
    rw [zcp_ne _ _ _ _ (by decide), zcp_ne _ _ _ _ (by decide), zcp_at, if_pos ⟨rfl, rfl, k0, by omega⟩, e, zcp_ne _ _ _ _ (by decide), zcp_ne _ _ _ _ (by decide), zcp_ne _ _ _ _ (by decide), zcp_ne _ _ _ _ (by decide), zcp_ne _ _ _ _ (by decide), zcp_ne _ _ _ _ (by decide), zcp_ne _ _ _ _ (by decide), zcp_ne _ _ _ _ (by decide), zup_ne _ _ _ _ (by decide), zup_ne _ _ _ _ (by decide), zup_ne _ _ _ _ (by decide)]
  · have e : (0 : Int) + (k - 0) = k := by omega
    rw [zcp_ne _ _ _ _ (by decide), zcp_at, if_pos ⟨rfl, rfl, k0, by omega⟩, e, zcp_ne _ _ _ _ (by decide), zcp_ne _ _ _ _ (by decide), zcp_ne _ _ _ _ (by decide), zcp_ne _ _ _ _ (by decide), zcp_ne _ _ _ _ (by decide), zcp_ne _ _ _ _ (by decide), zcp_ne _ _ _ _ (by decide), zcp_ne _ _ _ _ (by decide), zcp_ne _ _ _ _ (by decide), zup_ne _ _ _ _ (by decide), zup_ne _ _ _ _ (by decide), zup_ne _ _ _ _ (by decide)]
  · have e : (0 : Int) + (k - 0) = k := by omega
    rw [zcp_at, if_pos ⟨rfl, rfl, k0, by omega⟩, e, zcp_ne _ _ _ _ (by decide), zcp_ne _ _ _ _ (by decide), zcp_ne _ _ _ _ (by decide), zcp_ne _ _ _ _ (by decide), zcp_ne _ _ _ _ (by decide), zcp_ne _ _ _ _ (by decide), zcp_ne _ _ _ _ (by decide), zcp_ne _ _ _ _ (by decide), zcp_ne _ _ _ _ (by decide), zcp_ne _ _ _ _ (by decide), zup_ne _ _ _ _ (by decide), zup_ne _ _ _ _ (by decide), zup_ne _ _ _ _ (by decide)]
theorem c79a {L : Nat} {xs : Nat → Int32} (hL : L ≤ 3072) {D : Nat} {J : zJ} {K : zK} {Q : zR → Nat → zJ → zK → Prop} (hD : 1 ≤ D) (hQ : ∀ J' : zJ, (∀ b : Nat, b < 65 ∨ 76 < b → J' b = J b) → (J' 65 0 0 = J 40 0 0 ∧ J' 65 0 5 = J 40 0 5 ∧ J' 65 0 10 = J 40 0 10) → (∀ k : Int, 0 ≤ k → k < 4 → J' 66 0 k = J 41 0 k) → (∀ k : Int, 0 ≤ k → k < 4 → J' 67 0 k = J 42 0 k) → (∀ k : Int, 0 ≤ k → k < 28 → J' 68 0 k = J 43 0 k) → (∀ k : Int, 0 ≤ k → k < 7 → J' 69 0 k = J 44 0 k) → (∀ k : Int, 0 ≤ k → k < 14 → J' 70 0 k = J 45 0 k) → (∀ k : Int, 0 ≤ k → k < 14 → J' 71 0 k = J 46 0 k) → (∀ k : Int, 0 ≤ k → k < 14 → J' 72 0 k = J 47 0 k) → (∀ k : Int, 0 ≤ k → k < 14 → J' 73 0 k = J 48 0 k) → (∀ k : Int, 0 ≤ k → k < 12 → J' 74 0 k = J 49 0 k) → (∀ k : Int, 0 ≤ k → k < 7 → J' 75 0 k = J 50 0 k) → (∀ k : Int, 0 ≤ k → k < 7 → J' 76 0 k = J 51 0 k) → Q (.inl none) 0 J' K) : zCall L xs D 79 [zr 65, zr 40] J K Q := by
  obtain ⟨D, rfl⟩ : ∃ d, D = d + 1 := ⟨D - 1, by omega⟩
  refine z79a hL ?_
  refine ⟨by omega, by decide, by decide, by decide, by decide, by decide, by omega, by decide, by decide, by decide, by decide, by decide, by omega, by decide, by decide, by decide, by decide, by decide, by omega, by decide, by decide, by decide, by decide, by decide, by omega, by decide, by decide, by decide, by decide, by decide, by omega, by decide, by decide, by decide, by decide, by decide, by omega, by decide, by decide, by decide, by decide, by decide, by omega, by decide, by decide, by decide, by decide, by decide, by omega, by decide, by decide, by decide, by decide, by decide, by omega, by decide, by decide, by decide, by decide, by decide, by omega, by decide, by decide, by decide, by decide, by decide, ?_⟩
  refine hQ _ (fun b hb => ?_) ⟨?_, ?_, ?_⟩ (fun k k0 k1 => ?_) (fun k k0 k1 => ?_) (fun k k0 k1 => ?_) (fun k k0 k1 => ?_) (fun k k0 k1 => ?_) (fun k k0 k1 => ?_) (fun k k0 k1 => ?_) (fun k k0 k1 => ?_) (fun k k0 k1 => ?_) (fun k k0 k1 => ?_) (fun k k0 k1 => ?_)
  · rw [zcp_ne _ _ _ _ (by omega), zcp_ne _ _ _ _ (by omega), zcp_ne _ _ _ _ (by omega), zcp_ne _ _ _ _ (by omega), zcp_ne _ _ _ _ (by omega), zcp_ne _ _ _ _ (by omega), zcp_ne _ _ _ _ (by omega), zcp_ne _ _ _ _ (by omega), zcp_ne _ _ _ _ (by omega), zcp_ne _ _ _ _ (by omega), zcp_ne _ _ _ _ (by omega), zup_ne _ _ _ _ (by omega), zup_ne _ _ _ _ (by omega), zup_ne _ _ _ _ (by omega)]
  · rw [zcp_ne _ _ _ _ (by decide), zcp_ne _ _ _ _ (by decide), zcp_ne _ _ _ _ (by decide), zcp_ne _ _ _ _ (by decide), zcp_ne _ _ _ _ (by decide), zcp_ne _ _ _ _ (by decide), zcp_ne _ _ _ _ (by decide), zcp_ne _ _ _ _ (by decide), zcp_ne _ _ _ _ (by decide), zcp_ne _ _ _ _ (by decide), zcp_ne _ _ _ _ (by decide)]
    simp only [zup_at, Nat.reduceEqDiff, Int.reduceEq, eq_self, true_and, and_true, false_and, and_false, if_true, if_false]
  · rw [zcp_ne _ _ _ _ (by decide), zcp_ne _ _ _ _ (by decide), zcp_ne _ _ _ _ (by decide), zcp_ne _ _ _ _ (by decide), zcp_ne _ _ _ _ (by decide), zcp_ne _ _ _ _ (by decide), zcp_ne _ _ _ _ (by decide), zcp_ne _ _ _ _ (by decide), zcp_ne _ _ _ _ (by decide), zcp_ne _ _ _ _ (by decide), zcp_ne _ _ _ _ (by decide)]
    simp only [zup_at, Nat.reduceEqDiff, Int.reduceEq, eq_self, true_and, and_true, false_and, and_false, if_true, if_false]
  · rw [zcp_ne _ _ _ _ (by decide), zcp_ne _ _ _ _ (by decide), zcp_ne _ _ _ _ (by decide), zcp_ne _ _ _ _ (by decide), zcp_ne _ _ _ _ (by decide), zcp_ne _ _ _ _ (by decide), zcp_ne _ _ _ _ (by decide), zcp_ne _ _ _ _ (by decide), zcp_ne _ _ _ _ (by decide), zcp_ne _ _ _ _ (by decide), zcp_ne _ _ _ _ (by decide)]
    simp only [zup_at, Nat.reduceEqDiff, Int.reduceEq, eq_self, true_and, and_true, false_and, and_false, if_true, if_false]
  · have e : (0 : Int) + (k - 0) = k := by omega
    rw [zcp_ne _ _ _ _ (by decide), zcp_ne _ _ _ _ (by decide), zcp_ne _ _ _ _ (by decide), zcp_ne _ _ _ _ (by decide), zcp_ne _ _ _ _ (by decide), zcp_ne _ _ _ _ (by decide), zcp_ne _ _ _ _ (by decide), zcp_ne _ _ _ _ (by decide), zcp_ne _ _ _ _ (by decide), zcp_ne _ _ _ _ (by decide), zcp_at, if_pos ⟨rfl, rfl, k0, by omega⟩, e, zup_ne _ _ _ _ (by decide), zup_ne _ _ _ _ (by decide), zup_ne _ _ _ _ (by decide)]
  · have e : (0 : Int) + (k - 0) = k := by omega
    rw [zcp_ne _ _ _ _ (by decide), zcp_ne _ _ _ _ (by decide), zcp_ne _ _ _ _ (by decide), zcp_ne _ _ _ _ (by decide), zcp_ne _ _ _ _ (by decide), zcp_ne _ _ _ _ (by decide), zcp_ne _ _ _ _ (by decide), zcp_ne _ _ _ _ (by decide), zcp_ne _ _ _ _ (by decide), zcp_at, if_pos ⟨rfl, rfl, k0, by omega⟩, e, zcp_ne _ _ _ _ (by decide), zup_ne _ _ _ _ (by decide), zup_ne _ _ _ _ (by decide), zup_ne _ _ _ _ (by decide)]
  · have e : (0 : Int) + (k - 0) = k := by omega
    rw [zcp_ne _ _ _ _ (by decide), zcp_ne _ _ _ _ (by decide), zcp_ne _ _ _ _ (by decide), zcp_ne _ _ _ _ (by decide), zcp_ne _ _ _ _ (by decide), zcp_ne _ _ _ _ (by decide), zcp_ne _ _ _ _ (by decide), zcp_ne _ _ _ _ (by decide), zcp_at, if_pos ⟨rfl, rfl, k0, by omega⟩, e, zcp_ne _ _ _ _ (by decide), zcp_ne _ _ _ _ (by decide), zup_ne _ _ _ _ (by decide), zup_ne _ _ _ _ (by decide), zup_ne _ _ _ _ (by decide)]
  · have e : (0 : Int) + (k - 0) = k := by omega
    rw [zcp_ne _ _ _ _ (by decide), zcp_ne _ _ _ _ (by decide), zcp_ne _ _ _ _ (by decide), zcp_ne _ _ _ _ (by decide), zcp_ne _ _ _ _ (by decide), zcp_ne _ _ _ _ (by decide), zcp_ne _ _ _ _ (by decide), zcp_at, if_pos ⟨rfl, rfl, k0, by omega⟩, e, zcp_ne _ _ _ _ (by decide), zcp_ne _ _ _ _ (by decide), zcp_ne _ _ _ _ (by decide), zup_ne _ _ _ _ (by decide), zup_ne _ _ _ _ (by decide), zup_ne _ _ _ _ (by decide)]
  · have e : (0 : Int) + (k - 0) = k := by omega
    rw [zcp_ne _ _ _ _ (by decide), zcp_ne _ _ _ _ (by decide), zcp_ne _ _ _ _ (by decide), zcp_ne _ _ _ _ (by decide), zcp_ne _ _ _ _ (by decide), zcp_ne _ _ _ _ (by decide), zcp_at, if_pos ⟨rfl, rfl, k0, by omega⟩, e, zcp_ne _ _ _ _ (by decide), zcp_ne _ _ _ _ (by decide), zcp_ne _ _ _ _ (by decide), zcp_ne _ _ _ _ (by decide), zup_ne _ _ _ _ (by decide), zup_ne _ _ _ _ (by decide), zup_ne _ _ _ _ (by decide)]
  · have e : (0 : Int) + (k - 0) = k := by omega
    rw [zcp_ne _ _ _ _ (by decide), zcp_ne _ _ _ _ (by decide), zcp_ne _ _ _ _ (by decide), zcp_ne _ _ _ _ (by decide), zcp_ne _ _ _ _ (by decide), zcp_at, if_pos ⟨rfl, rfl, k0, by omega⟩, e, zcp_ne _ _ _ _ (by decide), zcp_ne _ _ _ _ (by decide), zcp_ne _ _ _ _ (by decide), zcp_ne _ _ _ _ (by decide), zcp_ne _ _ _ _ (by decide), zup_ne _ _ _ _ (by decide), zup_ne _ _ _ _ (by decide), zup_ne _ _ _ _ (by decide)]
  · have e : (0 : Int) + (k - 0) = k := by omega
    rw [zcp_ne _ _ _ _ (by decide), zcp_ne _ _ _ _ (by decide), zcp_ne _ _ _ _ (by decide), zcp_ne _ _ _ _ (by decide), zcp_at, if_pos ⟨rfl, rfl, k0, by omega⟩, e, zcp_ne _ _ _ _ (by decide), zcp_ne _ _ _ _ (by decide), zcp_ne _ _ _ _ (by decide), zcp_ne _ _ _ _ (by decide), zcp_ne _ _ _ _ (by decide), zcp_ne _ _ _ _ (by decide), zup_ne _ _ _ _ (by decide), zup_ne _ _ _ _ (by decide), zup_ne _ _ _ _ (by decide)]
  · have e : (0 : Int) + (k - 0) = k := by omega
    rw [zcp_ne _ _ _ _ (by decide), zcp_ne _ _ _ _ (by decide), zcp_ne _ _ _ _ (by decide), zcp_at, if_pos ⟨rfl, rfl, k0, by omega⟩, e, zcp_ne _ _ _ _ (by decide), zcp_ne _ _ _ _ (by decide), zcp_ne _ _ _ _ (by decide), zcp_ne _ _ _ _ (by decide), zcp_ne _ _ _ _ (by decide), zcp_ne _ _ _ _ (by decide), zcp_ne _ _ _ _ (by decide), zup_ne _ _ _ _ (by decide), zup_ne _ _ _ _ (by decide), zup_ne _ _ _ _ (by decide)]
  · have e : (0 : Int) + (k - 0) = k := by omega
    rw [zcp_ne _ _ _ _ (by decide), zcp_ne _ _ _ _ (by decide), zcp_at, if_pos ⟨rfl, rfl, k0, by omega⟩, e, zcp_ne _ _ _ _ (by decide), zcp_ne _ _ _ _ (by decide), zcp_ne _ _ _ _ (by decide), zcp_ne _ _ _ _ (by decide), zcp_ne _ _ _ _ (by decide), zcp_ne _ _ _ _ (by decide), zcp_ne _ _ _ _ (by decide), zcp_ne _ _ _ _ (by decide), zup_ne _ _ _ _ (by decide), zup_ne _ _ _ _ (by decide), zup_ne _ _ _ _ (by decide)]
  · have e : (0 : Int) + (k - 0) = k := by omega
    rw [zcp_ne _ _ _ _ (by decide), zcp_at, if_pos ⟨rfl, rfl, k0, by omega⟩, e, zcp_ne _ _ _ _ (by decide), zcp_ne _ _ _ _ (by decide), zcp_ne _ _ _ _ (by decide), zcp_ne _ _ _ _ (by decide), zcp_ne _ _ _ _ (by decide), zcp_ne _ _ _ _ (by decide), zcp_ne _ _ _ _ (by decide), zcp_ne _ _ _ _ (by decide), zcp_ne _ _ _ _ (by decide), zup_ne _ _ _ _ (by decide), zup_ne _ _ _ _ (by decide), zup_ne _ _ _ _ (by decide)]
  · have e : (0 : Int) + (k - 0) = k := by omega
    rw [zcp_at, if_pos ⟨rfl, rfl, k0, by omega⟩, e, zcp_ne _ _ _ _ (by decide), zcp_ne _ _ _ _ (by decide), zcp_ne _ _ _ _ (by decide), zcp_ne _ _ _ _ (by decide), zcp_ne _ _ _ _ (by decide), zcp_ne _ _ _ _ (by decide), zcp_ne _ _ _ _ (by decide), zcp_ne _ _ _ _ (by decide), zcp_ne _ _ _ _ (by decide), zcp_ne _ _ _ _ (by decide), zup_ne _ _ _ _ (by decide), zup_ne _ _ _ _ (by decide), zup_ne _ _ _ _ (by decide)]
theorem c79b {L : Nat} {xs : Nat → Int32} (hL : L ≤ 3072) {D : Nat} {J : zJ} {K : zK} {Q : zR → Nat → zJ → zK → Prop} (hD : 1 ≤ D) (hQ : ∀ J' : zJ, (∀ b : Nat, b < 77 ∨ 88 < b → J' b = J b) → (J' 77 0 0 = J 40 0 0 ∧ J' 77 0 5 = J 40 0 5 ∧ J' 77 0 10 = J 40 0 10) → (∀ k : Int, 0 ≤ k → k < 4 → J' 78 0 k = J 41 0 k) → (∀ k : Int, 0 ≤ k → k < 4 → J' 79 0 k = J 42 0 k) → (∀ k : Int, 0 ≤ k → k < 28 → J' 80 0 k = J 43 0 k) → (∀ k : Int, 0 ≤ k → k < 7 → J' 81 0 k = J 44 0 k) → (∀ k : Int, 0 ≤ k → k < 14 → J' 82 0 k = J 45 0 k) → (∀ k : Int, 0 ≤ k → k < 14 → J' 83 0 k = J 46 0 k) → (∀ k : Int, 0 ≤ k → k < 14 → J' 84 0 k = J 47 0 k) → (∀ k : Int, 0 ≤ k → k < 14 → J' 85 0 k = J 48 0 k) → (∀ k : Int, 0 ≤ k → k < 12 → J' 86 0 k = J 49 0 k) → (∀ k : Int, 0 ≤ k → k < 7 → J' 87 0 k = J 50 0 k) → (∀ k : Int, 0 ≤ k → k < 7 → J' 88 0 k = J 51 0 k) → Q (.inl none) 0 J' K) : zCall L xs D 79 [zr 77, zr 40] J K Q := by
  obtain ⟨D, rfl⟩ : ∃ d, D = d + 1 := ⟨D - 1, by omega⟩
  refine z79b hL ?_
  refine ⟨by omega, by decide, by decide, by decide, by decide, by decide, by omega, by decide, by decide, by decide, by decide, by decide, by omega, by decide, by decide, by decide, by decide, by decide, by omega, by decide, by decide, by decide, by decide, by decide, by omega, by decide, by decide, by decide, by decide, by decide, by omega, by decide, by decide, by decide, by decide, by decide, by omega, by decide, by decide, by decide, by decide, by decide, by omega, by decide, by decide, by decide, by decide, by decide, by omega, by decide, by decide, by decide, by decide, by decide, by omega, by decide, by decide, by decide, by decide, by decide, by omega, by decide, by decide, by decide, by decide, by decide, ?_⟩
  refine hQ _ (fun b hb => ?_) ⟨?_, ?_, ?_⟩ (fun k k0 k1 => ?_) (fun k k0 k1 => ?_) (fun k k0 k1 => ?_) (fun k k0 k1 => ?_) (fun k k0 k1 => ?_) (fun k k0 k1 => ?_) (fun k k0 k1 => ?_) (fun k k0 k1 => ?_) (fun k k0 k1 => ?_) (fun k k0 k1 => ?_) (fun k k0 k1 => ?_)
  · rw [zcp_ne _ _ _ _ (by omega), zcp_ne _ _ _ _ (by omega), zcp_ne _ _ _ _ (by omega), zcp_ne _ _ _ _ (by omega), zcp_ne _ _ _ _ (by omega), zcp_ne _ _ _ _ (by omega), zcp_ne _ _ _ _ (by omega), zcp_ne _ _ _ _ (by omega), zcp_ne _ _ _ _ (by omega), zcp_ne _ _ _ _ (by omega), zcp_ne _ _ _ _ (by omega), zup_ne _ _ _ _ (by omega), zup_ne _ _ _ _ (by omega), zup_ne _ _ _ _ (by omega)]
  · rw [zcp_ne _ _ _ _ (by decide), zcp_ne _ _ _ _ (by decide), zcp_ne _ _ _ _ (by decide), zcp_ne _ _ _ _ (by decide), zcp_ne _ _ _ _ (by decide), zcp_ne _ _ _ _ (by decide), zcp_ne _ _ _ _ (by decide), zcp_ne _ _ _ _ (by decide), zcp_ne _ _ _ _ (by decide), zcp_ne _ _ _ _ (by decide), zcp_ne _ _ _ _ (by decide)]
    simp only [zup_at, Nat.reduceEqDiff, Int.reduceEq, eq_self, true_and, and_true, false_and, and_false, if_true, if_false]
  · rw [zcp_ne _ _ _ _ (by decide), zcp_ne _ _ _ _ (by decide), zcp_ne _ _ _ _ (by decide), zcp_ne _ _ _ _ (by decide), zcp_ne _ _ _ _ (by decide), zcp_ne _ _ _ _ (by decide), zcp_ne _ _ _ _ (by decide), zcp_ne _ _ _ _ (by decide), zcp_ne _ _ _ _ (by decide), zcp_ne _ _ _ _ (by decide), zcp_ne _ _ _ _ (by decide)]
    simp only [zup_at, Nat.reduceEqDiff, Int.reduceEq, eq_self, true_and, and_true, false_and, and_false, if_true, if_false]
  · rw [zcp_ne _ _ _ _ (by decide), zcp_ne _ _ _ _ (by decide), zcp_ne _ _ _ _ (by decide), zcp_ne _ _ _ _ (by decide), zcp_ne _ _ _ _ (by decide), zcp_ne _ _ _ _ (by decide), zcp_ne _ _ _ _ (by decide), zcp_ne _ _ _ _ (by decide), zcp_ne _ _ _ _ (by decide), zcp_ne _ _ _ _ (by decide), zcp_ne _ _ _ _ (by decide)]
    simp only [zup_at, Nat.reduceEqDiff, Int.reduceEq, eq_self, true_and, and_true, false_and, and_false, if_true, if_false]
  · have e : (0 : Int) + (k - 0) = k := by omega
    rw [zcp_ne _ _ _ _ (by decide), zcp_ne _ _ _ _ (by decide), zcp_ne _ _ _ _ (by decide), zcp_ne _ _ _ _ (by decide), zcp_ne _ _ _ _ (by decide), zcp_ne _ _ _ _ (by decide), zcp_ne _ _ _ _ (by decide), zcp_ne _ _ _ _ (by decide), zcp_ne _ _ _ _ (by decide), zcp_ne _ _ _ _ (by decide), zcp_at, if_pos ⟨rfl, rfl, k0, by omega⟩, e, zup_ne _ _ _ _ (by decide), zup_ne _ _ _ _ (by decide), zup_ne _ _ _ _ (by decide)]
  · have e : (0 : Int) + (k - 0) = k := by omega
    rw [zcp_ne _ _ _ _ (by decide), zcp_ne _ _ _ _ (by decide), zcp_ne _ _ _ _ (by decide), zcp_ne _ _ _ _ (by decide), zcp_ne _ _ _ _ (by decide), zcp_ne _ _ _ _ (by decide), zcp_ne _ _ _ _ (by decide), zcp_ne _ _ _ _ (by decide), zcp_ne _ _ _ _ (by decide), zcp_at, if_pos ⟨rfl, rfl, k0, by omega⟩, e, zcp_ne _ _ _ _ (by decide), zup_ne _ _ _ _ (by decide), zup_ne _ _ _ _ (by decide), zup_ne _ _ _ _ (by decide)]
  · have e : (0 : Int) + (k - 0) = k := by omega
    rw [zcp_ne _ _ _ _ (by decide), zcp_ne _ _ _ _ (by decide), zcp_ne _ _ _ _ (by decide), zcp_ne _ _ _ _ (by decide), zcp_ne _ _ _ _ (by decide), zcp_ne _ _ _ _ (by decide), zcp_ne _ _ _ _ (by decide), zcp_ne _ _ _ _ (by decide), zcp_at, if_pos ⟨rfl, rfl, k0, by omega⟩, e, zcp_ne _ _ _ _ (by decide), zcp_ne _ _ _ _ (by decide), zup_ne _ _ _ _ (by decide), zup_ne _ _ _ _ (by decide), zup_ne _ _ _ _ (by decide)]
  · have e : (0 : Int) + (k - 0) = k := by omega
    rw [zcp_ne _ _ _ _ (by decide), zcp_ne _ _ _ _ (by decide), zcp_ne _ _ _ _ (by decide), zcp_ne _ _ _ _ (by decide), zcp_ne _ _ _ _ (by decide), zcp_ne _ _ _ _ (by decide), zcp_ne _ _ _ _ (by decide), zcp_at, if_pos ⟨rfl, rfl, k0, by omega⟩, e, zcp_ne _ _ _ _ (by decide), zcp_ne _ _ _ _ (by decide), zcp_ne _ _ _ _ (by decide), zup_ne _ _ _ _ (by decide), zup_ne _ _ _ _ (by decide), zup_ne _ _ _ _ (by decide)]
  · have e : (0 : Int) + (k - 0) = k := by omega
    rw [zcp_ne _ _ _ _ (by decide), zcp_ne _ _ _ _ (by decide), zcp_ne _ _ _ _ (by decide), zcp_ne _ _ _ _ (by decide), zcp_ne _ _ _ _ (by decide), zcp_ne _ _ _ _ (by decide), zcp_at, if_pos ⟨rfl, rfl, k0, by omega⟩, e, zcp_ne _ _ _ _ (by decide), zcp_ne _ _ _ _ (by decide), zcp_ne _ _ _ _ (by decide), zcp_ne _ _ _ _ (by decide), zup_ne _ _ _ _ (by decide), zup_ne _ _ _ _ (by decide), zup_ne _ _ _ _ (by decide)]
  · have e : (0 : Int) + (k - 0) = k := by omega
    rw [zcp_ne _ _ _ _ (by decide), zcp_ne _ _ _ _ (by decide), zcp_ne _ _ _ _ (by decide), zcp_ne _ _ _ _ (by decide), zcp_ne _ _ _ _ (by decide), zcp_at, if_pos ⟨rfl, rfl, k0, by omega⟩, e, zcp_ne _ _ _ _ (by decide), zcp_ne _ _ _ _ (by decide), zcp_ne _ _ _ _ (by decide), zcp_ne _ _ _ _ (by decide), zcp_ne _ _ _ _ (by decide), zup_ne _ _ _ _ (by decide), zup_ne _ _ _ _ (by decide), zup_ne _ _ _ _ (by decide)]
  · have e : (0 : Int) + (k - 0) = k := by omega
    rw [zcp_ne _ _ _ _ (by decide), zcp_ne _ _ _ _ (by decide), zcp_ne _ _ _ _ (by decide), zcp_ne _ _ _ _ (by decide), zcp_at, if_pos ⟨rfl, rfl, k0, by omega⟩, e, zcp_ne _ _ _ _ (by decide), zcp_ne _ _ _ _ (by decide), zcp_ne _ _ _ _ (by decide), zcp_ne _ _ _ _ (by decide), zcp_ne _ _ _ _ (by decide), zcp_ne _ _ _ _ (by decide), zup_ne _ _ _ _ (by decide), zup_ne _ _ _ _ (by decide), zup_ne _ _ _ _ (by decide)]
  · have e : (0 : Int) + (k - 0) = k := by omega
    rw [zcp_ne _ _ _ _ (by decide), zcp_ne _ _ _ _ (by decide), zcp_ne _ _ _ _ (by decide), zcp_at, if_pos ⟨rfl, rfl, k0, by omega⟩, e, zcp_ne _ _ _ _ (by decide), zcp_ne _ _ _ _ (by decide), zcp_ne _ _ _ _ (by decide), zcp_ne _ _ _ _ (by decide), zcp_ne _ _ _ _ (by decide), zcp_ne _ _ _ _ (by decide), zcp_ne _ _ _ _ (by decide), zup_ne _ _ _ _ (by decide), zup_ne _ _ _ _ (by decide), zup_ne _ _ _ _ (by decide)]
  · have e : (0 : Int) + (k - 0) = k := by omega
    rw [zcp_ne _ _ _ _ (by decide), zcp_ne _ _ _ _ (by decide), zcp_at, if_pos ⟨rfl, rfl, k0, by omega⟩, e, zcp_ne _ _ _ _ (by decide), zcp_ne _ _ _ _ (by decide), zcp_ne _ _ _ _ (by decide), zcp_ne _ _ _ _ (by decide), zcp_ne _ _ _ _ (by decide), zcp_ne _ _ _ _ (by decide), zcp_ne _ _ _ _ (by decide), zcp_ne _ _ _ _ (by decide), zup_ne _ _ _ _ (by decide), zup_ne _ _ _ _ (by decide), zup_ne _ _ _ _ (by decide)]
  · have e : (0 : Int) + (k - 0) = k := by omega
    rw [zcp_ne _ _ _ _ (by decide), zcp_at, if_pos ⟨rfl, rfl, k0, by omega⟩, e, zcp_ne _ _ _ _ (by decide), zcp_ne _ _ _ _ (by decide), zcp_ne _ _ _ _ (by decide), zcp_ne _ _ _ _ (by decide), zcp_ne _ _ _ _ (by decide), zcp_ne _ _ _ _ (by decide), zcp_ne _ _ _ _ (by decide), zcp_ne _ _ _ _ (by decide), zcp_ne _ _ _ _ (by decide), zup_ne _ _ _ _ (by decide), zup_ne _ _ _ _ (by decide), zup_ne _ _ _ _ (by decide)]
  · have e : (0 : Int) + (k - 0) = k := by omega
    rw [zcp_at, if_pos ⟨rfl, rfl, k0, by omega⟩, e, zcp_ne _ _ _ _ (by decide), zcp_ne _ _ _ _ (by decide), zcp_ne _ _ _ _ (by decide), zcp_ne _ _ _ _ (by decide), zcp_ne _ _ _ _ (by decide), zcp_ne _ _ _ _ (by decide), zcp_ne _ _ _ _ (by decide), zcp_ne _ _ _ _ (by decide), zcp_ne _ _ _ _ (by decide), zcp_ne _ _ _ _ (by decide), zup_ne _ _ _ _ (by decide), zup_ne _ _ _ _ (by decide), zup_ne _ _ _ _ (by decide)]
theorem c79c {L : Nat} {xs : Nat → Int32} (hL : L ≤ 3072) {D : Nat} {J : zJ} {K : zK} {Q : zR → Nat → zJ → zK → Prop} (hD : 1 ≤ D) (hQ : ∀ J' : zJ, (∀ b : Nat, b < 40 ∨ 51 < b → J' b = J b) → (J' 40 0 0 = J 53 0 0 ∧ J' 40 0 5 = J 53 0 5 ∧ J' 40 0 10 = J 53 0 10) → (∀ k : Int, 0 ≤ k → k < 4 → J' 41 0 k = J 54 0 k) → (∀ k : Int, 0 ≤ k → k < 4 → J' 42 0 k = J 55 0 k) → (∀ k : Int, 0 ≤ k → k < 28 → J' 43 0 k = J 56 0 k) → (∀ k : Int, 0 ≤ k → k < 7 → J' 44 0 k = J 57 0 k) → (∀ k : Int, 0 ≤ k → k < 14 → J' 45 0 k = J 58 0 k) → (∀ k : Int, 0 ≤ k → k < 14 → J' 46 0 k = J 59 0 k) → (∀ k : Int, 0 ≤ k → k < 14 → J' 47 0 k = J 60 0 k) → (∀ k : Int, 0 ≤ k → k < 14 → J' 48 0 k = J 61 0 k) → (∀ k : Int, 0 ≤ k → k < 12 → J' 49 0 k = J 62 0 k) → (∀ k : Int, 0 ≤ k → k < 7 → J' 50 0 k = J 63 0 k) → (∀ k : Int, 0 ≤ k → k < 7 → J' 51 0 k = J 64 0 k) → Q (.inl none) 0 J' K) : zCall L xs D 79 [zr 40, zr 53] J K Q := by
  obtain ⟨D, rfl⟩ : ∃ d, D = d + 1 := ⟨D - 1, by omega⟩
  refine z79c hL ?_
  refine ⟨by omega, by decide, by decide, by decide, by decide, by decide, by omega, by decide, by decide, by decide, by decide, by decide, by omega, by decide, by decide, by decide, by decide, by decide, by omega, by decide, by decide, by decide, by decide, by decide, by omega, by decide, by decide, by decide, by decide, by decide, by omega, by decide, by decide, by decide, by decide, by decide, by omega, by decide, by decide, by decide, by decide, by decide, by omega, by decide, by decide, by decide, by decide, by decide, by omega, by decide, by decide, by decide, by decide, by decide, by omega, by decide, by decide, by decide, by decide, by decide, by omega, by decide, by decide, by decide, by decide, by decide, ?_⟩
  refine hQ _ (fun b hb => ?_) ⟨?_, ?_, ?_⟩ (fun k k0 k1 => ?_) (fun k k0 k1 => ?_) (fun k k0 k1 => ?_) (fun k k0 k1 => ?_) (fun k k0 k1 => ?_) (fun k k0 k1 => ?_) (fun k k0 k1 => ?_) (fun k k0 k1 => ?_) (fun k k0 k1 => ?_) (fun k k0 k1 => ?_) (fun k k0 k1 => ?_)
  · rw [zcp_ne _ _ _ _ (by omega), zcp_ne _ _ _ _ (by omega), zcp_ne _ _ _ _ (by omega), zcp_ne _ _ _ _ (by omega), zcp_ne _ _ _ _ (by omega), zcp_ne _ _ _ _ (by omega), zcp_ne _ _ _ _ (by omega), zcp_ne _ _ _ _ (by omega), zcp_ne _ _ _ _ (by omega), zcp_ne _ _ _ _ (by omega), zcp_ne _ _ _ _ (by omega), zup_ne _ _ _ _ (by omega), zup_ne _ _ _ _ (by omega), zup_ne _ _ _ _ (by omega)]
  · rw [zcp_ne _ _ _ _ (by decide), zcp_ne _ _ _ _ (by decide), zcp_ne _ _ _ _ (by decide), zcp_ne _ _ _ _ (by decide), zcp_ne _ _ _ _ (by decide), zcp_ne _ _ _ _ (by decide), zcp_ne _ _ _ _ (by decide), zcp_ne _ _ _ _ (by decide), zcp_ne _ _ _ _ (by decide), zcp_ne _ _ _ _ (by decide), zcp_ne _ _ _ _ (by decide)]
    simp only [zup_at, Nat.reduceEqDiff, Int.reduceEq, eq_self, true_and, and_true, false_and, and_false, if_true, if_false]
  · rw [zcp_ne _ _ _ _ (by decide), zcp_ne _ _ _ _ (by decide), zcp_ne _ _ _ _ (by decide), zcp_ne _ _ _ _ (by decide), zcp_ne _ _ _ _ (by decide), zcp_ne _ _ _ _ (by decide), zcp_ne _ _ _ _ (by decide), zcp_ne _ _ _ _ (by decide), zcp_ne _ _ _ _ (by decide), zcp_ne _ _ _ _ (by decide), zcp_ne _ _ _ _ (by decide)]
    simp only [zup_at, Nat.reduceEqDiff, Int.reduceEq, eq_self, true_and, and_true, false_and, and_false, if_true, if_false]
  · rw [zcp_ne _ _ _ _ (by decide), zcp_ne _ _ _ _ (by decide), zcp_ne _ _ _ _ (by decide), zcp_ne _ _ _ _ (by decide), zcp_ne _ _ _ _ (by decide), zcp_ne _ _ _ _ (by decide), zcp_ne _ _ _ _ (by decide), zcp_ne _ _ _ _ (by decide), zcp_ne _ _ _ _ (by decide), zcp_ne _ _ _ _ (by decide), zcp_ne _ _ _ _ (by decide)]
    simp only [zup_at, Nat.reduceEqDiff, Int.reduceEq, eq_self, true_and, and_true, false_and, and_false, if_true, if_false]
  · have e : (0 : Int) + (k - 0) = k := by omega
    rw [zcp_ne _ _ _ _ (by decide), zcp_ne _ _ _ _ (by decide), zcp_ne _ _ _ _ (by decide), zcp_ne _ _ _ _ (by decide), zcp_ne _ _ _ _ (by decide), zcp_ne _ _ _ _ (by decide), zcp_ne _ _ _ _ (by decide), zcp_ne _ _ _ _ (by decide), zcp_ne _ _ _ _ (by decide), zcp_ne _ _ _ _ (by decide), zcp_at, if_pos ⟨rfl, rfl, k0, by omega⟩, e, zup_ne _ _ _ _ (by decide), zup_ne _ _ _ _ (by decide), zup_ne _ _ _ _ (by decide)]
  · have e : (0 : Int) + (k - 0) = k := by omega
    rw [zcp_ne _ _ _ _ (by decide), zcp_ne _ _ _ _ (by decide), zcp_ne _ _ _ _ (by decide), zcp_ne _ _ _ _ (by decide), zcp_ne _ _ _ _ (by decide), zcp_ne _ _ _ _ (by decide), zcp_ne _ _ _ _ (by decide), zcp_ne _ _ _ _ (by decide), zcp_ne _ _ _ _ (by decide), zcp_at, if_pos ⟨rfl, rfl, k0, by omega⟩, e, zcp_ne _ _ _ _ (by decide), zup_ne _ _ _ _ (by decide), zup_ne _ _ _ _ (by decide), zup_ne _ _ _ _ (by decide)]
  · have e : (0 : Int) + (k - 0) = k := by omega
    rw [zcp_ne _ _ _ _ (by decide), zcp_ne _ _ _ _ (by decide), zcp_ne _ _ _ _ (by decide), zcp_ne _ _ _ _ (by decide), zcp_ne _ _ _ _ (by decide), zcp_ne _ _ _ _ (by decide), zcp_ne _ _ _ _ (by decide), zcp_ne _ _ _ _ (by decide), zcp_at, if_pos ⟨rfl, rfl, k0, by omega⟩, e, zcp_ne _ _ _ _ (by decide), zcp_ne _ _ _ _ (by decide), zup_ne _ _ _ _ (by decide), zup_ne _ _ _ _ (by decide), zup_ne _ _ _ _ (by decide)]
  · have e : (0 : Int) + (k - 0) = k := by omega
    rw [zcp_ne _ _ _ _ (by decide), zcp_ne _ _ _ _ (by decide), zcp_ne _ _ _ _ (by decide), zcp_ne _ _ _ _ (by decide), zcp_ne _ _ _ _ (by decide), zcp_ne _ _ _ _ (by decide), zcp_ne _ _ _ _ (by decide), zcp_at, if_pos ⟨rfl, rfl, k0, by omega⟩, e, zcp_ne _ _ _ _ (by decide), zcp_ne _ _ _ _ (by decide), zcp_ne _ _ _ _ (by decide), zup_ne _ _ _ _ (by decide), zup_ne _ _ _ _ (by decide), zup_ne _ _ _ _ (by decide)]
  · have e : (0 : Int) + (k - 0) = k := by omega
    rw [zcp_ne _ _ _ _ (by decide), zcp_ne _ _ _ _ (by decide), zcp_ne _ _ _ _ (by decide), zcp_ne _ _ _ _ (by decide), zcp_ne _ _ _ _ (by decide), zcp_ne _ _ _ _ (by decide), zcp_at, if_pos ⟨rfl, rfl, k0, by omega⟩, e, zcp_ne _ _ _ _ (by decide), zcp_ne _ _ _ _ (by decide), zcp_ne _ _ _ _ (by decide), zcp_ne _ _ _ _ (by decide), zup_ne _ _ _ _ (by decide), zup_ne _ _ _ _ (by decide), zup_ne _ _ _ _ (by decide)]
  · have e : (0 : Int) + (k - 0) = k := by omega
    rw [zcp_ne _ _ _ _ (by decide), zcp_ne _ _ _ _ (by decide), zcp_ne _ _ _ _ (by decide), zcp_ne _ _ _ _ (by decide), zcp_ne _ _ _ _ (by decide), zcp_at, if_pos ⟨rfl, rfl, k0, by omega⟩, e, zcp_ne _ _ _ _ (by decide), zcp_ne _ _ _ _ (by decide), zcp_ne _ _ _ _ (by decide), zcp_ne _ _ _ _ (by decide), zcp_ne _ _ _ _ (by decide), zup_ne _ _ _ _ (by decide), zup_ne _ _ _ _ (by decide), zup_ne _ _ _ _ (by decide)]
  · have e : (0 : Int) + (k - 0) = k := by omega
    rw [zcp_ne _ _ _ _ (by decide), zcp_ne _ _ _ _ (by decide), zcp_ne _ _ _ _ (by decide), zcp_ne _ _ _ _ (by decide), zcp_at, if_pos ⟨rfl, rfl, k0, by omega⟩, e, zcp_ne _ _ _ _ (by decide), zcp_ne _ _ _ _ (by decide), zcp_ne _ _ _ _ (by decide), zcp_ne _ _ _ _ (by decide), zcp_ne _ _ _ _ (by decide), zcp_ne _ _ _ _ (by decide), zup_ne _ _ _ _ (by decide), zup_ne _ _ _ _ (by decide), zup_ne _ _ _ _ (by decide)]
  · have e : (0 : Int) + (k - 0) = k := by omega
    rw [zcp_ne _ _ _ _ (by decide), zcp_ne _ _ _ _ (by decide), zcp_ne _ _ _ _ (by decide), zcp_at, if_pos ⟨rfl, rfl, k0, by omega⟩, e, zcp_ne _ _ _ _ (by decide), zcp_ne _ _ _ _ (by decide), zcp_ne _ _ _ _ (by decide), zcp_ne _ _ _ _ (by decide), zcp_ne _ _ _ _ (by decide), zcp_ne _ _ _ _ (by decide), zcp_ne _ _ _ _ (by decide), zup_ne _ _ _ _ (by decide), zup_ne _ _ _ _ (by decide), zup_ne _ _ _ _ (by decide)]
  · have e : (0 : Int) + (k - 0) = k := by omega
    rw [zcp_ne _ _ _ _ (by decide), zcp_ne _ _ _ _ (by decide), zcp_at, if_pos ⟨rfl, rfl, k0, by omega⟩, e, zcp_ne _ _ _ _ (by decide), zcp_ne _ _ _ _ (by decide), zcp_ne _ _ _ _ (by decide), zcp_ne _ _ _ _ (by decide), zcp_ne _ _ _ _ (by decide), zcp_ne _ _ _ _ (by decide), zcp_ne _ _ _ _ (by decide), zcp_ne _ _ _ _ (by decide), zup_ne _ _ _ _ (by decide), zup_ne _ _ _ _ (by decide), zup_ne _ _ _ _ (by decide)]
  · have e : (0 : Int) + (k - 0) = k := by omega
    rw [zcp_ne _ _ _ _ (by decide), zcp_at, if_pos ⟨rfl, rfl, k0, by omega⟩, e, zcp_ne _ _ _ _ (by decide), zcp_ne _ _ _ _ (by decide), zcp_ne _ _ _ _ (by decide), zcp_ne _ _ _ _ (by decide), zcp_ne _ _ _ _ (by decide), zcp_ne _ _ _ _ (by decide), zcp_ne _ _ _ _ (by decide), zcp_ne _ _ _ _ (by decide), zcp_ne _ _ _ _ (by decide), zup_ne _ _ _ _ (by decide), zup_ne _ _ _ _ (by decide), zup_ne _ _ _ _ (by decide)]
  · have e : (0 : Int) + (k - 0) = k := by omega
    rw [zcp_at, if_pos ⟨rfl, rfl, k0, by omega⟩, e, zcp_ne _ _ _ _ (by decide), zcp_ne _ _ _ _ (by decide), zcp_ne _ _ _ _ (by decide), zcp_ne _ _ _ _ (by decide), zcp_ne _ _ _ _ (by decide), zcp_ne _ _ _ _ (by decide), zcp_ne _ _ _ _ (by decide), zcp_ne _ _ _ _ (by decide), zcp_ne _ _ _ _ (by decide), zcp_ne _ _ _ _ (by decide), zup_ne _ _ _ _ (by decide), zup_ne _ _ _ _ (by decide), zup_ne _ _ _ _ (by decide)]
theorem c79d {L : Nat} {xs : Nat → Int32} (hL : L ≤ 3072) {D : Nat} {J : zJ} {K : zK} {Q : zR → Nat → zJ → zK → Prop} (hD : 1 ≤ D) (hQ : ∀ J' : zJ, (∀ b : Nat, b < 40 ∨ 51 < b → J' b = J b) → (J' 40 0 0 = J 65 0 0 ∧ J' 40 0 5 = J 65 0 5 ∧ J' 40 0 10 = J 65 0 10) → (∀ k : Int, 0 ≤ k → k < 4 → J' 41 0 k = J 66 0 k) → (∀ k : Int, 0 ≤ k → k < 4 → J' 42 0 k = J 67 0 k) → (∀ k : Int, 0 ≤ k → k < 28 → J' 43 0 k = J 68 0 k) → (∀ k : Int, 0 ≤ k → k < 7 → J' 44 0 k = J 69 0 k) → (∀ k : Int, 0 ≤ k → k < 14 → J' 45 0 k = J 70 0 k) → (∀ k : Int, 0 ≤ k → k < 14 → J' 46 0 k = J 71 0 k) → (∀ k : Int, 0 ≤ k → k < 14 → J' 47 0 k = J 72 0 k) → (∀ k : Int, 0 ≤ k → k < 14 → J' 48 0 k = J 73 0 k) → (∀ k : Int, 0 ≤ k → k < 12 → J' 49 0 k = J 74 0 k) → (∀ k : Int, 0 ≤ k → k < 7 → J' 50 0 k = J 75 0 k) → (∀ k : Int, 0 ≤ k → k < 7 → J' 51 0 k = J 76 0 k) → Q (.inl none) 0 J' K) : zCall L xs D 79 [zr 40, zr 65] J K Q := by
  obtain ⟨D, rfl⟩ : ∃ d, D = d + 1 := ⟨D - 1, by omega⟩
  refine z79d hL ?_
  refine ⟨by omega, by decide, by decide, by decide, by decide, by decide, by omega, by decide, by decide, by decide, by decide, by decide, by omega, by decide, by decide, by decide, by decide, by decide, by omega, by decide, by decide, by decide, by decide, by decide, by omega, by decide, by decide, by decide, by decide, by decide, by omega, by decide, by decide, by decide, by decide, by decide, by omega, by decide, by decide, by decide, by decide, by decide, by omega, by decide, by decide, by decide, by decide, by decide, by omega, by decide, by decide, by decide, by decide, by decide, by omega, by decide, by decide, by decide, by decide, by decide, by omega, by decide, by decide, by decide, by decide, by decide, ?_⟩
  refine hQ _ (fun b hb => ?_) ⟨?_, ?_, ?_⟩ (fun k k0 k1 => ?_) (fun k k0 k1 => ?_) (fun k k0 k1 => ?_) (fun k k0 k1 => ?_) (fun k k0 k1 => ?_) (fun k k0 k1 => ?_) (fun k k0 k1 => ?_) (fun k k0 k1 => ?_) (fun k k0 k1 => ?_) (fun k k0 k1 => ?_) (fun k k0 k1 => ?_)
  · rw [zcp_ne _ _ _ _ (by omega), zcp_ne _ _ _ _ (by omega), zcp_ne _ _ _ _ (by omega), zcp_ne _ _ _ _ (by omega), zcp_ne _ _ _ _ (by omega), zcp_ne _ _ _ _ (by omega), zcp_ne _ _ _ _ (by omega), zcp_ne _ _ _ _ (by omega), zcp_ne _ _ _ _ (by omega), zcp_ne _ _ _ _ (by omega), zcp_ne _ _ _ _ (by omega), zup_ne _ _ _ _ (by omega), zup_ne _ _ _ _ (by omega), zup_ne _ _ _ _ (by omega)]
  · rw [zcp_ne _ _ _ _ (by decide), zcp_ne _ _ _ _ (by decide), zcp_ne _ _ _ _ (by decide), zcp_ne _ _ _ _ (by decide), zcp_ne _ _ _ _ (by decide), zcp_ne _ _ _ _ (by decide), zcp_ne _ _ _ _ (by decide), zcp_ne _ _ _ _ (by decide), zcp_ne _ _ _ _ (by decide), zcp_ne _ _ _ _ (by decide), zcp_ne _ _ _ _ (by decide)]
    simp only [zup_at, Nat.reduceEqDiff, Int.reduceEq, eq_self, true_and, and_true, false_and, and_false, if_true, if_false]
  · rw [zcp_ne _ _ _ _ (by decide), zcp_ne _ _ _ _ (by decide), zcp_ne _ _ _ _ (by decide), zcp_ne _ _ _ _ (by decide), zcp_ne _ _ _ _ (by decide), zcp_ne _ _ _ _ (by decide), zcp_ne _ _ _ _ (by decide), zcp_ne _ _ _ _ (by decide), zcp_ne _ _ _ _ (by decide), zcp_ne _ _ _ _ (by decide), zcp_ne _ _ _ _ (by decide)]
    simp only [zup_at, Nat.reduceEqDiff, Int.reduceEq, eq_self, true_and, and_true, false_and, and_false, if_true, if_false]
  · rw [zcp_ne _ _ _ _ (by decide), zcp_ne _ _ _ _ (by decide), zcp_ne _ _ _ _ (by decide), zcp_ne _ _ _ _ (by decide), zcp_ne _ _ _ _ (by decide), zcp_ne _ _ _ _ (by decide), zcp_ne _ _ _ _ (by decide), zcp_ne _ _ _ _ (by decide), zcp_ne _ _ _ _ (by decide), zcp_ne _ _ _ _ (by decide), zcp_ne _ _ _ _ (by decide)]
    simp only [zup_at, Nat.reduceEqDiff, Int.reduceEq, eq_self, true_and, and_true, false_and, and_false, if_true, if_false]
  · have e : (0 : Int) + (k - 0) = k := by omega
    rw [zcp_ne _ _ _ _ (by decide), zcp_ne _ _ _ _ (by decide), zcp_ne _ _ _ _ (by decide), zcp_ne _ _ _ _ (by decide), zcp_ne _ _ _ _ (by decide), zcp_ne _ _ _ _ (by decide), zcp_ne _ _ _ _ (by decide), zcp_ne _ _ _ _ (by decide), zcp_ne _ _ _ _ (by decide), zcp_ne _ _ _ _ (by decide), zcp_at, if_pos ⟨rfl, rfl, k0, by omega⟩, e, zup_ne _ _ _ _ (by decide), zup_ne _ _ _ _ (by decide), zup_ne _ _ _ _ (by decide)]
  · have e : (0 : Int) + (k - 0) = k := by omega
    rw [zcp_ne _ _ _ _ (by decide), zcp_ne _ _ _ _ (by decide), zcp_ne _ _ _ _ (by decide), zcp_ne _ _ _ _ (by decide), zcp_ne _ _ _ _ (by decide), zcp_ne _ _ _ _ (by decide), zcp_ne _ _ _ _ (by decide), zcp_ne _ _ _ _ (by decide), zcp_ne _ _ _ _ (by decide), zcp_at, if_pos ⟨rfl, rfl, k0, by omega⟩, e, zcp_ne _ _ _ _ (by decide), zup_ne _ _ _ _ (by decide), zup_ne _ _ _ _ (by decide), zup_ne _ _ _ _ (by decide)]
  · have e : (0 : Int) + (k - 0) = k := by omega
    rw [zcp_ne _ _ _ _ (by decide), zcp_ne _ _ _ _ (by decide), zcp_ne _ _ _ _ (by decide), zcp_ne _ _ _ _ (by decide), zcp_ne _ _ _ _ (by decide), zcp_ne _ _ _ _ (by decide), zcp_ne _ _ _ _ (by decide), zcp_ne _ _ _ _ (by decide), zcp_at, if_pos ⟨rfl, rfl, k0, by omega⟩, e, zcp_ne _ _ _ _ (by decide), zcp_ne _ _ _ _ (by decide), zup_ne _ _ _ _ (by decide), zup_ne _ _ _ _ (by decide), zup_ne _ _ _ _ (by decide)]
  · have e : (0 : Int) + (k - 0) = k := by omega
    rw [zcp_ne _ _ _ _ (by decide), zcp_ne _ _ _ _ (by decide), zcp_ne _ _ _ _ (by decide), zcp_ne _ _ _ _ (by decide), zcp_ne _ _ _ _ (by decide), zcp_ne _ _ _ _ (by decide), zcp_ne _ _ _ _ (by decide), zcp_at, if_pos ⟨rfl, rfl, k0, by omega⟩, e, zcp_ne _ _ _ _ (by decide), zcp_ne _ _ _ _ (by decide), zcp_ne _ _ _ _ (by decide), zup_ne _ _ _ _ (by decide), zup_ne _ _ _ _ (by decide), zup_ne _ _ _ _ (by decide)]
  · have e : (0 : Int) + (k - 0) = k := by omega
    rw [zcp_ne _ _ _ _ (by decide), zcp_ne _ _ _ _ (by decide), zcp_ne _ _ _ _ (by decide), zcp_ne _ _ _ _ (by decide), zcp_ne _ _ _ _ (by decide), zcp_ne _ _ _ _ (by decide), zcp_at, if_pos ⟨rfl, rfl, k0, by omega⟩, e, zcp_ne _ _ _ _ (by decide), zcp_ne _ _ _ _ (by decide), zcp_ne _ _ _ _ (by decide), zcp_ne _ _ _ _ (by decide), zup_ne _ _ _ _ (by decide), zup_ne _ _ _ _ (by decide), zup_ne _ _ _ _ (by decide)]
  · have e : (0 : Int) + (k - 0) = k := by omega
    rw [zcp_ne _ _ _ _ (by decide), zcp_ne _ _ _ _ (by decide), zcp_ne _ _ _ _ (by decide), zcp_ne _ _ _ _ (by decide), zcp_ne _ _ _ _ (by decide), zcp_at, if_pos ⟨rfl, rfl, k0, by omega⟩, e, zcp_ne _ _ _ _ (by decide), zcp_ne _ _ _ _ (by decide), zcp_ne _ _ _ _ (by decide), zcp_ne _ _ _ _ (by decide), zcp_ne _ _ _ _ (by decide), zup_ne _ _ _ _ (by decide), zup_ne _ _ _ _ (by decide), zup_ne _ _ _ _ (by decide)]
  · have e : (0 : Int) + (k - 0) = k := by omega
    rw [zcp_ne _ _ _ _ (by decide), zcp_ne _ _ _ _ (by decide), zcp_ne _ _ _ _ (by decide), zcp_ne _ _ _ _ (by decide), zcp_at, if_pos ⟨rfl, rfl, k0, by omega⟩, e, zcp_ne _ _ _ _ (by decide), zcp_ne _ _ _ _ (by decide), zcp_ne _ _ _ _ (by decide), zcp_ne _ _ _ _ (by decide), zcp_ne _ _ _ _ (by decide), zcp_ne _ _ _ _ (by decide), zup_ne _ _ _ _ (by decide), zup_ne _ _ _ _ (by decide), zup_ne _ _ _ _ (by decide)]
  · have e : (0 : Int) + (k - 0) = k := by omega
    rw [zcp_ne _ _ _ _ (by decide), zcp_ne _ _ _ _ (by decide), zcp_ne _ _ _ _ (by decide), zcp_at, if_pos ⟨rfl, rfl, k0, by omega⟩, e, zcp_ne _ _ _ _ (by decide), zcp_ne _ _ _ _ (by decide), zcp_ne _ _ _ _ (by decide), zcp_ne _ _ _ _ (by decide), zcp_ne _ _ _ _ (by decide), zcp_ne _ _ _ _ (by decide), zcp_ne _ _ _ _ (by decide), zup_ne _ _ _ _ (by decide), zup_ne _ _ _ _ (by decide), zup_ne _ _ _ _ (by decide)]
  · have e : (0 : Int) + (k - 0) = k := by omega
    rw [zcp_ne _ _ _ _ (by decide), zcp_ne _ _ _ _ (by decide), zcp_at, if_pos ⟨rfl, rfl, k0, by omega⟩, e, zcp_ne _ _ _ _ (by decide), zcp_ne _ _ _ _ (by decide), zcp_ne _ _ _ _ (by decide), zcp_ne _ _ _ _ (by decide), zcp_ne _ _ _ _ (by decide), zcp_ne _ _ _ _ (by decide), zcp_ne _ _ _ _ (by decide), zcp_ne _ _ _ _ (by decide), zup_ne _ _ _ _ (by decide), zup_ne _ _ _ _ (by decide), zup_ne _ _ _ _ (by decide)]
  · have e : (0 : Int) + (k - 0) = k := by omega
    rw [zcp_ne _ _ _ _ (by decide), zcp_at, if_pos ⟨rfl, rfl, k0, by omega⟩, e, zcp_ne _ _ _ _ (by decide), zcp_ne _ _ _ _ (by decide), zcp_ne _ _ _ _ (by decide), zcp_ne _ _ _ _ (by decide), zcp_ne _ _ _ _ (by decide), zcp_ne _ _ _ _ (by decide), zcp_ne _ _ _ _ (by decide), zcp_ne _ _ _ _ (by decide), zcp_ne _ _ _ _ (by decide), zup_ne _ _ _ _ (by decide), zup_ne _ _ _ _ (by decide), zup_ne _ _ _ _ (by decide)]
  · have e : (0 : Int) + (k - 0) = k := by omega
    rw [zcp_at, if_pos ⟨rfl, rfl, k0, by omega⟩, e, zcp_ne _ _ _ _ (by decide), zcp_ne _ _ _ _ (by decide), zcp_ne _ _ _ _ (by decide), zcp_ne _ _ _ _ (by decide), zcp_ne _ _ _ _ (by decide), zcp_ne _ _ _ _ (by decide), zcp_ne _ _ _ _ (by decide), zcp_ne _ _ _ _ (by decide), zcp_ne _ _ _ _ (by decide), zcp_ne _ _ _ _ (by decide), zup_ne _ _ _ _ (by decide), zup_ne _ _ _ _ (by decide), zup_ne _ _ _ _ (by decide)]
theorem c79e {L : Nat} {xs : Nat → Int32} (hL : L ≤ 3072) {D : Nat} {J : zJ} {K : zK} {Q : zR → Nat → zJ → zK → Prop} (hD : 1 ≤ D) (hQ : ∀ J' : zJ, (∀ b : Nat, b < 40 ∨ 51 < b → J' b = J b) → (J' 40 0 0 = J 77 0 0 ∧ J' 40 0 5 = J 77 0 5 ∧ J' 40 0 10 = J 77 0 10) → (∀ k : Int, 0 ≤ k → k < 4 → J' 41 0 k = J 78 0 k) → (∀ k : Int, 0 ≤ k → k < 4 → J' 42 0 k = J 79 0 k) → (∀ k : Int, 0 ≤ k → k < 28 → J' 43 0 k = J 80 0 k) → (∀ k : Int, 0 ≤ k → k < 7 → J' 44 0 k = J 81 0 k) → (∀ k : Int, 0 ≤ k → k < 14 → J' 45 0 k = J 82 0 k) → (∀ k : Int, 0 ≤ k → k < 14 → J' 46 0 k = J 83 0 k) → (∀ k : Int, 0 ≤ k → k < 14 → J' 47 0 k = J 84 0 k) → (∀ k : Int, 0 ≤ k → k < 14 → J' 48 0 k = J 85 0 k) → (∀ k : Int, 0 ≤ k → k < 12 → J' 49 0 k = J 86 0 k) → (∀ k : Int, 0 ≤ k → k < 7 → J' 50 0 k = J 87 0 k) → (∀ k : Int, 0 ≤ k → k < 7 → J' 51 0 k = J 88 0 k) → Q (.inl none) 0 J' K) : zCall L xs D 79 [zr 40, zr 77] J K Q := by
  obtain ⟨D, rfl⟩ : ∃ d, D = d + 1 := ⟨D - 1, by omega⟩
  refine z79e hL ?_
  refine ⟨by omega, by decide, by decide, by decide, by decide, by decide, by omega, by decide, by decide, by decide, by decide, by decide, by omega, by decide, by decide, by decide, by decide, by decide, by omega, by decide, by decide, by decide, by decide, by decide, by omega, by decide, by decide, by decide, by decide, by decide, by omega, by decide, by decide, by decide, by decide, by decide, by omega, by decide, by decide, by decide, by decide, by decide, by omega, by decide, by decide, by decide, by decide, by decide, by omega, by decide, by decide, by decide, by decide, by decide, by omega, by decide, by decide, by decide, by decide, by decide, by omega, by decide, by decide, by decide, by decide, by decide, ?_⟩
  refine hQ _ (fun b hb => ?_) ⟨?_, ?_, ?_⟩ (fun k k0 k1 => ?_) (fun k k0 k1 => ?_) (fun k k0 k1 => ?_) (fun k k0 k1 => ?_) (fun k k0 k1 => ?_) (fun k k0 k1 => ?_) (fun k k0 k1 => ?_) (fun k k0 k1 => ?_) (fun k k0 k1 => ?_) (fun k k0 k1 => ?_) (fun k k0 k1 => ?_)
  · rw [zcp_ne _ _ _ _ (by omega), zcp_ne _ _ _ _ (by omega), zcp_ne _ _ _ _ (by omega), zcp_ne _ _ _ _ (by omega), zcp_ne _ _ _ _ (by omega), zcp_ne _ _ _ _ (by omega), zcp_ne _ _ _ _ (by omega), zcp_ne _ _ _ _ (by omega), zcp_ne _ _ _ _ (by omega), zcp_ne _ _ _ _ (by omega), zcp_ne _ _ _ _ (by omega), zup_ne _ _ _ _ (by omega), zup_ne _ _ _ _ (by omega), zup_ne _ _ _ _ (by omega)]
  · rw [zcp_ne _ _ _ _ (by decide), zcp_ne _ _ _ _ (by decide), zcp_ne _ _ _ _ (by decide), zcp_ne _ _ _ _ (by decide), zcp_ne _ _ _ _ (by decide), zcp_ne _ _ _ _ (by decide), zcp_ne _ _ _ _ (by decide), zcp_ne _ _ _ _ (by decide), zcp_ne _ _ _ _ (by decide), zcp_ne _ _ _ _ (by decide), zcp_ne _ _ _ _ (by decide)]
    simp only [zup_at, Nat.reduceEqDiff, Int.reduceEq, eq_self, true_and, and_true, false_and, and_false, if_true, if_false]
  · rw [zcp_ne _ _ _ _ (by decide), zcp_ne _ _ _ _ (by decide), zcp_ne _ _ _ _ (by decide), zcp_ne _ _ _ _ (by decide), zcp_ne _ _ _ _ (by decide), zcp_ne _ _ _ _ (by decide), zcp_ne _ _ _ _ (by decide), zcp_ne _ _ _ _ (by decide), zcp_ne _ _ _ _ (by decide), zcp_ne _ _ _ _ (by decide), zcp_ne _ _ _ _ (by decide)]
    simp only [zup_at, Nat.reduceEqDiff, Int.reduceEq, eq_self, true_and, and_true, false_and, and_false, if_true, if_false]
  · rw [zcp_ne _ _ _ _ (by decide), zcp_ne _ _ _ _ (by decide), zcp_ne _ _ _ _ (by decide), zcp_ne _ _ _ _ (by decide), zcp_ne _ _ _ _ (by decide), zcp_ne _ _ _ _ (by decide), zcp_ne _ _ _ _ (by decide), zcp_ne _ _ _ _ (by decide), zcp_ne _ _ _ _ (by decide), zcp_ne _ _ _ _ (by decide), zcp_ne _ _ _ _ (by decide)]
    simp only [zup_at, Nat.reduceEqDiff, Int.reduceEq, eq_self, true_and, and_true, false_and, and_false, if_true, if_false]
  · have e : (0 : Int) + (k - 0) = k := by omega
    rw [zcp_ne _ _ _ _ (by decide), zcp_ne _ _ _ _ (by decide), zcp_ne _ _ _ _ (by decide), zcp_ne _ _ _ _ (by decide), zcp_ne _ _ _ _ (by decide), zcp_ne _ _ _ _ (by decide), zcp_ne _ _ _ _ (by decide), zcp_ne _ _ _ _ (by decide), zcp_ne _ _ _ _ (by decide), zcp_ne _ _ _ _ (by decide), zcp_at, if_pos ⟨rfl, rfl, k0, by omega⟩, e, zup_ne _ _ _ _ (by decide), zup_ne _ _ _ _ (by decide), zup_ne _ _ _ _ (by decide)]
  · have e : (0 : Int) + (k - 0) = k := by omega
    rw [zcp_ne _ _ _ _ (by decide), zcp_ne _ _ _ _ (by decide), zcp_ne _ _ _ _ (by decide), zcp_ne _ _ _ _ (by decide), zcp_ne _ _ _ _ (by decide), zcp_ne _ _ _ _ (by decide), zcp_ne _ _ _ _ (by decide), zcp_ne _ _ _ _ (by decide), zcp_ne _ _ _ _ (by decide), zcp_at, if_pos ⟨rfl, rfl, k0, by omega⟩, e, zcp_ne _ _ _ _ (by decide), zup_ne _ _ _ _ (by decide), zup_ne _ _ _ _ (by decide), zup_ne _ _ _ _ (by decide)]
  · have e : (0 : Int) + (k - 0) = k := by omega
    rw [zcp_ne _ _ _ _ (by decide), zcp_ne _ _ _ _ (by decide), zcp_ne _ _ _ _ (by decide), zcp_ne _ _ _ _ (by decide), zcp_ne _ _ _ _ (by decide), zcp_ne _ _ _ _ (by decide), zcp_ne _ _ _ _ (by decide), zcp_ne _ _ _ _ (by decide), zcp_at, if_pos ⟨rfl, rfl, k0, by omega⟩, e, zcp_ne _ _ _ _ (by decide), zcp_ne _ _ _ _ (by decide), zup_ne _ _ _ _ (by decide), zup_ne _ _ _ _ (by decide), zup_ne _ _ _ _ (by decide)]
  · have e : (0 : Int) + (k - 0) = k := by omega
    rw [zcp_ne _ _ _ _ (by decide), zcp_ne _ _ _ _ (by decide), zcp_ne _ _ _ _ (by decide), zcp_ne _ _ _ _ (by decide), zcp_ne _ _ _ _ (by decide), zcp_ne _ _ _ _ (by decide), zcp_ne _ _ _ _ (by decide), zcp_at, if_pos ⟨rfl, rfl, k0, by omega⟩, e, zcp_ne _ _ _ _ (by decide), zcp_ne _ _ _ _ (by decide), zcp_ne _ _ _ _ (by decide), zup_ne _ _ _ _ (by decide), zup_ne _ _ _ _ (by decide), zup_ne _ _ _ _ (by decide)]
  · have e : (0 : Int) + (k - 0) = k := by omega
    rw [zcp_ne _ _ _ _ (by decide), zcp_ne _ _ _ _ (by decide), zcp_ne _ _ _ _ (by decide), zcp_ne _ _ _ _ (by decide), zcp_ne _ _ _ _ (by decide), zcp_ne _ _ _ _ (by decide), zcp_at, if_pos ⟨rfl, rfl, k0, by omega⟩, e, zcp_ne _ _ _ _ (by decide), zcp_ne _ _ _ _ (by decide), zcp_ne _ _ _ _ (by decide), zcp_ne _ _ _ _ (by decide), zup_ne _ _ _ _ (by decide), zup_ne _ _ _ _ (by decide), zup_ne _ _ _ _ (by decide)]
  · have e : (0 : Int) + (k - 0) = k := by omega
    rw [zcp_ne _ _ _ _ (by decide), zcp_ne _ _ _ _ (by decide), zcp_ne _ _ _ _ (by decide), zcp_ne _ _ _ _ (by decide), zcp_ne _ _ _ _ (by decide), zcp_at, if_pos ⟨rfl, rfl, k0, by omega⟩, e, zcp_ne _ _ _ _ (by decide), zcp_ne _ _ _ _ (by decide), zcp_ne _ _ _ _ (by decide), zcp_ne _ _ _ _ (by decide), zcp_ne _ _ _ _ (by decide), zup_ne _ _ _ _ (by decide), zup_ne _ _ _ _ (by decide), zup_ne _ _ _ _ (by decide)]
  · have e : (0 : Int) + (k - 0) = k := by omega
    rw [zcp_ne _ _ _ _ (by decide), zcp_ne _ _ _ _ (by decide), zcp_ne _ _ _ _ (by decide), zcp_ne _ _ _ _ (by decide), zcp_at, if_pos ⟨rfl, rfl, k0, by omega⟩, e, zcp_ne _ _ _ _ (by decide), zcp_ne _ _ _ _ (by decide), zcp_ne _ _ _ _ (by decide), zcp_ne _ _ _ _ (by decide), zcp_ne _ _ _ _ (by decide), zcp_ne _ _ _ _ (by decide), zup_ne _ _ _ _ (by decide), zup_ne _ _ _ _ (by decide), zup_ne _ _ _ _ (by decide)]
  · have e : (0 : Int) + (k - 0) = k := by omega
    rw [zcp_ne _ _ _ _ (by decide), zcp_ne _ _ _ _ (by decide), zcp_ne _ _ _ _ (by decide), zcp_at, if_pos ⟨rfl, rfl, k0, by omega⟩, e, zcp_ne _ _ _ _ (by decide), zcp_ne _ _ _ _ (by decide), zcp_ne _ _ _ _ (by decide), zcp_ne _ _ _ _ (by decide), zcp_ne _ _ _ _ (by decide), zcp_ne _ _ _ _ (by decide), zcp_ne _ _ _ _ (by decide), zup_ne _ _ _ _ (by decide), zup_ne _ _ _ _ (by decide), zup_ne _ _ _ _ (by decide)]
  · have e : (0 : Int) + (k - 0) = k := by omega
    rw [zcp_ne _ _ _ _ (by decide), zcp_ne _ _ _ _ (by decide), zcp_at, if_pos ⟨rfl, rfl, k0, by omega⟩, e, zcp_ne _ _ _ _ (by decide), zcp_ne _ _ _ _ (by decide), zcp_ne _ _ _ _ (by decide), zcp_ne _ _ _ _ (by decide), zcp_ne _ _ _ _ (by decide), zcp_ne _ _ _ _ (by decide), zcp_ne _ _ _ _ (by decide), zcp_ne _ _ _ _ (by decide), zup_ne _ _ _ _ (by decide), zup_ne _ _ _ _ (by decide), zup_ne _ _ _ _ (by decide)]
  · have e : (0 : Int) + (k - 0) = k := by omega
    rw [zcp_ne _ _ _ _ (by decide), zcp_at, if_pos ⟨rfl, rfl, k0, by omega⟩, e, zcp_ne _ _ _ _ (by decide), zcp_ne _ _ _ _ (by decide), zcp_ne _ _ _ _ (by decide), zcp_ne _ _ _ _ (by decide), zcp_ne _ _ _ _ (by decide), zcp_ne _ _ _ _ (by decide), zcp_ne _ _ _ _ (by decide), zcp_ne _ _ _ _ (by decide), zcp_ne _ _ _ _ (by decide), zup_ne _ _ _ _ (by decide), zup_ne _ _ _ _ (by decide), zup_ne _ _ _ _ (by decide)]
  · have e : (0 : Int) + (k - 0) = k := by omega
    rw [zcp_at, if_pos ⟨rfl, rfl, k0, by omega⟩, e, zcp_ne _ _ _ _ (by decide), zcp_ne _ _ _ _ (by decide), zcp_ne _ _ _ _ (by decide), zcp_ne _ _ _ _ (by decide), zcp_ne _ _ _ _ (by decide), zcp_ne _ _ _ _ (by decide), zcp_ne _ _ _ _ (by decide), zcp_ne _ _ _ _ (by decide), zcp_ne _ _ _ _ (by decide), zcp_ne _ _ _ _ (by decide), zup_ne _ _ _ _ (by decide), zup_ne _ _ _ _ (by decide), zup_ne _ _ _ _ (by decide)]
