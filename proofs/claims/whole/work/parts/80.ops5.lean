/-! OPERATIONS: clear, job -/
theorem pw_empty {J J1 : zJ} (hP : PW J) {a : Int} (h0 : 0 ≤ a) (h1 : a < J 40 0 0) (n1 : ∀ c, c ≠ 42 → c ≠ 44 → J1 c = J c) (n42 : ∀ t, J1 42 0 t = if t = a then 0 else J 42 0 t) (n44 : ∀ k, 0 ≤ k → k < J 18 0 6 → J1 44 0 k = if J 44 0 k = a then -1 else J 44 0 k) : PW J1 := by
  have hpn := pw_n hP
  unfold PW
  simp only [n1 18 (by decide) (by decide), n1 40 (by decide) (by decide), n1 41 (by decide) (by decide), n1 43 (by decide) (by decide), n1 45 (by decide) (by decide), n1 46 (by decide) (by decide), n1 47 (by decide) (by decide), n1 48 (by decide) (by decide), n1 49 (by decide) (by decide), n1 50 (by decide) (by decide), n1 51 (by decide) (by decide), n42, way_eq (n1 19 (by decide) (by decide)) (n1 20 (by decide) (by decide))]
  refine ⟨hpn, fun t q0 q1 => ?_, fun t i q0 q1 i0 i1 => ?_, fun t i j q0 q1 i0 i1 i2 => ?_, fun k q0 q1 => ?_, hP.2.2.2.2.2⟩
  · have ht := pw_t hP q0 q1
    split <;> omega
  · by_cases e : t = a
    · rw [if_pos e] at i1
      omega
    · rw [if_neg e] at i1
      have hr := pw_r hP q0 q1 i0 i1
      rw [n44 _ hr.1 hr.2.1, hr.2.2, if_neg e]
      exact ⟨hr.1, hr.2.1, rfl⟩
  · by_cases e : t = a
    · rw [if_pos e] at i2
      omega
    · rw [if_neg e] at i2
      exact pw_d hP q0 q1 i0 i1 i2
  · have hk := pw_k hP q0 q1
    rw [n44 k q0 q1]
    by_cases e : J 44 0 k = a
    · rw [if_pos e]
      exact ⟨by omega, by omega, fun q => absurd q (by decide)⟩
    · rw [if_neg e]
      refine ⟨hk.1, hk.2.1, fun q => ?_⟩
      rw [if_neg e]
      exact hk.2.2 q
theorem c80 {L : Nat} {xs : Nat → Int32} (hL : L ≤ 3072) {D : Nat} {J : zJ} {K : zK} {Q : zR → Nat → zJ → zK → Prop} (h : LW J) (hP : PW J) {a : Int} (hD : 1 ≤ D) (h0 : 0 ≤ a) (h1 : a < J 40 0 0) (hQ : ∀ J1, (∀ c, c ≠ 42 → c ≠ 44 → J1 c = J c) → (∀ t, J1 42 0 t = if t = a then 0 else J 42 0 t) → (∀ k, 0 ≤ k → k < J 18 0 6 → J1 44 0 k = if J 44 0 k = a then -1 else J 44 0 k) → Q (.inl (some (zi (J 42 0 a)))) 0 J1 K) : zCall L xs D 80 [zr 40, zi a] J K Q := by
  obtain ⟨D, rfl⟩ : ∃ d, D = d + 1 := ⟨D - 1, by omega⟩
  have hn := lw_n h
  have hpn := pw_n hP
  have ht := pw_t hP h0 h1
  have key : ∀ (n : Nat) (x3 : Int) (J1 : zJ), n = (J 42 0 a - x3).toNat → 0 ≤ x3 → x3 ≤ J 42 0 a → (∀ c, c ≠ 44 → J1 c = J c) → (∀ j, 0 ≤ j → j < x3 → J1 44 0 (J 43 0 (a * 7 + j)) = -1) → (∀ k, (∀ j, 0 ≤ j → j < x3 → J 43 0 (a * 7 + j) ≠ k) → J1 44 0 k = J 44 0 k) → zGo L xs (D + 1) 80 9 [some (zr 40), some (zi a), some (zi (J 42 0 a)), some (zi x3)] [] J1 K Q := by
    intro n; induction n using Nat.strongRecOn with
    | _ n ih =>
    intro x3 J1 hm b0 b1 n1 g1 g2
    refine z80_9 hL ?_
    rw [n1 43 (by decide)]
    by_cases hc : x3 < J 42 0 a
    · have hr := pw_r hP h0 h1 b0 hc
      refine ⟨⟨by omega, by omega⟩, ⟨by omega, by omega⟩, fun _ => by omega, fun _ => ⟨by omega, by omega, by omega, by omega, ?_⟩⟩
      refine ih _ (by omega) (x3 + 1) _ rfl (by omega) (by omega) (fun c hc2 => by rw [zup_ne _ _ _ _ hc2, n1 c hc2]) (fun j j0 j1 => ?_) (fun k hk => ?_)
      · rw [zup_at]
        split
        · rfl
        · next e =>
          refine g1 j j0 ?_
          rcases Int.lt_or_le j x3 with q | q
          · exact q
          · have : j = x3 := by omega
            exact absurd ⟨rfl, rfl, by rw [this]⟩ e
      · rw [zup_nk _ _ (fun e => hk x3 b0 (by omega) e.symm)]
        exact g2 k fun j j0 j1 => hk j j0 (by omega)
    · refine ⟨⟨by omega, by omega⟩, ⟨by omega, by omega⟩, fun _ => ⟨h0, by omega, ?_⟩, fun _ => by omega⟩
      have e3 : x3 = J 42 0 a := by omega
      subst e3
      refine hQ _ (fun c q1 q2 => by rw [zup_ne _ _ _ _ q1, n1 c q2]) (fun t => ?_) (fun k k0 k1 => ?_)
      · rw [zup_at]
        simp only [true_and]
        rw [n1 42 (by decide)]
      · rw [zup_ne _ _ _ _ (by decide)]
        have hk := pw_k hP k0 k1
        by_cases e : J 44 0 k = a
        · rw [if_pos e]
          obtain ⟨i, i0, i1, i2⟩ := hk.2.2 (by omega)
          rw [e] at i1 i2
          have := g1 i i0 i1
          rw [i2] at this
          exact this
        · rw [if_neg e]
          refine g2 k fun j j0 j1 q => e ?_
          have hr := pw_r hP h0 h1 j0 j1
          rw [q] at hr
          exact hr.2.2
  exact z80 hL ⟨h0, by omega, key _ 0 J rfl (by omega) (by omega) (fun _ _ => rfl) (fun j _ _ => by omega) (fun _ _ => rfl)⟩
theorem op10 {G : zJ → zK → Prop} (hG : GOk G) : ∀ a : Int, zin a → OpW (Inv G) 326 4 144 207 zin [zi a] := by
  intro a ha
  intro L xs D D2 J K hL hD hD2 hI; obtain ⟨⟨hW, hT, hP, hM, hC, hTp, hF, hIm⟩, hg⟩ := id hI; have hE := eqs_rfl J; have hn := lw_n hW; have hpn := pw_n hP
  obtain ⟨D, rfl⟩ : ∃ d, D = d + 1 := ⟨D - 1, by omega⟩
  obtain ⟨D2, rfl⟩ : ∃ d, D2 = d + 1 := ⟨D2 - 1, by omega⟩
  refine z144 hL ?_
  refine c169 hL hE (by omega) ⟨hpn.1, hpn.2.1⟩ ha (fun h0 h1 => zaV_of ?_) fun hc => zaV_ex (Or.inr ⟨3, 1, rfl, rfl, zonb_ok (by decide +kernel), by decide, by decide, ?_⟩)
  · have ht := pw_t hP h0 h1
    refine c80 hL hW hP (by omega) h0 h1 fun J1 n1 n42 n44 => zaI_of (Or.inl ⟨_, rfl, rfl, ⟨by omega, by omega⟩, fun x => ?_⟩)
    have hP1 := pw_empty hP h0 h1 n1 n42 n44
    have e142 := n1 142 (by decide) (by decide)
    have t1 : zup J1 142 0 0 0 142 0 0 = 0 := zup_eq _ _ _ _ _
    have hC1 : MC J (zup J1 142 0 0 0) := mc_fm (mc_eq hC (by rw [e142]) (by rw [e142]) (n1 _ (by decide) (by decide)) (n1 _ (by decide) (by decide)) (n1 _ (by decide) (by decide)) (n1 _ (by decide) (by decide)) (n1 _ (by decide) (by decide)) (n1 _ (by decide) (by decide)) (n1 _ (by decide) (by decide)) (n1 _ (by decide) (by decide))) (fm_t _ 0)
    refine z207 hL ?_
    refine c252 hL (by omega) (mc_n hC1).1 ⟨by omega, by omega⟩ ha (zaI_of ⟨zin_zb _, fun _ => ?_, fun q => by rw [zb_0, decide_eq_false_iff_not] at q; omega⟩)
    refine c195F hL (by omega) t1 (zaI_of ⟨zin_0, fun _ => ?_, fun q => absurd rfl q⟩)
    rw [(mc_t hC1 h0 h1).1]
    refine ⟨by omega, by omega, by omega, by omega, rfl, rfl, ?_, zku_o K x, ?_⟩
    · simp only [zup_at, Nat.reduceEqDiff, Int.reduceEq, eq_self, true_and, and_true, false_and, and_false, if_true, if_false]
    · refine inv_pg hG hI (J1 := J1) (fun c q1 q2 => n1 c (by omega) (by omega)) (by rw [n1 _ (by decide) (by decide)]) (by rw [n1 _ (by decide) (by decide)]) (fun c q => by rw [zup_ne _ _ _ _ (by omega), zup_ne _ _ _ _ (by omega)]) (fun c q1 q2 => by rw [zup_ne _ _ _ _ (by omega), zup_ne _ _ _ _ (by omega), n1 c (by omega) (by omega)]) (by simp only [zup_at, Nat.reduceEqDiff, Int.reduceEq, eq_self, true_and, and_true, false_and, and_false, if_true, if_false]; rw [e142]) (by simp only [zup_at, Nat.reduceEqDiff, Int.reduceEq, eq_self, true_and, and_true, false_and, and_false, if_true, if_false]; rw [e142]) (by simp only [zup_at, Nat.reduceEqDiff, Int.reduceEq, eq_self, true_and, and_true, false_and, and_false, if_true, if_false]; rw [e142]) (by simp only [zup_at, Nat.reduceEqDiff, Int.reduceEq, eq_self, true_and, and_true, false_and, and_false, if_true, if_false]; rw [e142]) hP1 ?_ (zku_n _ _ (by decide))
      unfold MC MP
      simp only [zup_at, Nat.reduceEqDiff, Int.reduceEq, eq_self, true_and, and_true, false_and, and_false, if_true, if_false]
      simp only [e142, n1 18 (by decide) (by decide), n1 40 (by decide) (by decide), n1 41 (by decide) (by decide), n1 43 (by decide) (by decide), n1 45 (by decide) (by decide), n1 46 (by decide) (by decide), n1 47 (by decide) (by decide), n1 48 (by decide) (by decide), n1 49 (by decide) (by decide), n1 50 (by decide) (by decide), n1 51 (by decide) (by decide), n1 229 (by decide) (by decide), n1 234 (by decide) (by decide), n1 235 (by decide) (by decide), n1 236 (by decide) (by decide), n1 237 (by decide) (by decide), n1 238 (by decide) (by decide), n1 239 (by decide) (by decide), n1 240 (by decide) (by decide), n42]
      refine ⟨hC.1, hC.2.1, fun t q0 q1 => ?_, hC.2.2.2⟩
      have hmt := mc_t hC q0 q1
      refine ⟨?_, hmt.2.1, fun i i0 i1 => ?_⟩
      · split
        · rfl
        · exact hmt.1
      · by_cases e : t = a
        · rw [if_pos e] at i1
          omega
        · rw [if_neg e] at i1
          exact hmt.2.2 i i0 i1
  · have f0 := fm_t J 0
    have hcn := mc_n (mc_fm hC f0)
    have t0 : zup J 142 0 0 0 142 0 0 = 0 := zup_eq _ _ _ _ _
    have fin := fin_x hG hI (fc_rfl J) (fm_t2 J 0 1) rfl (zup_eq _ _ _ _ _) 0 zin_0
    refine z207 hL ?_
    refine c252 hL (by omega) hcn.1 ⟨by omega, by omega⟩ ha (zaI_of ⟨zin_zb _, fun q => by rw [zb_1, decide_eq_true_iff] at q; omega, fun _ => ?_⟩)
    exact c195T hL (by omega) t0 (by decide) (zaI_of ⟨zin_1, fun q => absurd q (by decide), fun _ => fin⟩)
theorem op31 {G : zJ → zK → Prop} (hG : GOk G) : ∀ a b c d : Int, zin a → zin b → zin c → zin d → OpW (Inv G) 335 9 160 254 zin [zi a, zi b, zi c, zi d] := by
  intro a b c d ha hb hc hd
  intro L xs D D2 J K hL hD hD2 hI; obtain ⟨⟨hW, hT, hP, hM, hC, hTp, hF, hIm⟩, hg⟩ := id hI; have hE := eqs_rfl J; have hn := lw_n hW; have hpn := pw_n hP
  obtain ⟨D, rfl⟩ : ∃ d, D = d + 1 := ⟨D - 1, by omega⟩
  obtain ⟨D2, rfl⟩ : ∃ d, D2 = d + 1 := ⟨D2 - 1, by omega⟩
  -- the model's tests, over any memory like J
  have mod1 : ∀ (J1 : zJ) (K1 : zK) (Q : zR → Nat → zJ → zK → Prop), ML J J1 → ¬ (0 ≤ a ∧ a < J 18 0 0 ∧ 0 ≤ c ∧ c < J 18 0 0) → Q (.inl (some (zi 0))) 0 (zup (zup J1 142 0 0 0) 142 0 0 1) K1 → zCall L xs (D2 + 1) 254 [zr 142, zi a, zi b, zi c, zi d] J1 K1 Q := by
    intro J1 K1 Q hM1 hq hQ
    have hM0 := ml_fm hM1 (fm_t J1 0)
    have t0 : zup J1 142 0 0 0 142 0 0 = 0 := zup_eq _ _ _ _ _
    have go : zGo L xs (D2 + 1) 254 27 [some (zr 142), some (zi a), some (zi b), some (zi c), some (zi d)] [zi 1, zr 142] (zup J1 142 0 0 0) K1 Q := by
      refine z254_27 hL ?_
      exact c195T hL (by omega) t0 (by decide) (zaI_of ⟨zin_1, fun _ => z254_89 hL hQ, fun q => absurd q (by decide)⟩)
    refine z254 hL ?_
    refine c248 hL hM0 hW (by omega) ha (zaI_of ⟨zin_zb _, fun _ => z254_22 hL go, fun q => ?_⟩)
    refine c248 hL hM0 hW (by omega) hc (zaI_of ⟨zin_zb _, fun q2 => ?_, fun _ => z254_22 hL go⟩)
    rw [zb_1, decide_eq_true_iff] at q q2
    omega
  have mod2 : ∀ (J1 : zJ) (K1 : zK) (Q : zR → Nat → zJ → zK → Prop), ML J J1 → 0 ≤ a → a < J 18 0 0 → 0 ≤ c → c < J 18 0 0 → (¬ (0 ≤ b ∧ b ≤ 2879 ∧ b < d ∧ d ≤ 2879 ∧ way J a c ≤ d - b) → Q (.inl (some (zi 0))) 0 (zup (zup J1 142 0 0 0) 142 0 0 2) K1) → (0 ≤ b ∧ b ≤ 2879 ∧ b < d ∧ d ≤ 2879 ∧ way J a c ≤ d - b → zGo L xs (D2 + 1) 254 82 [some (zr 142), some (zi a), some (zi b), some (zi c), some (zi d)] [zi 0, zr 142] (zup J1 142 0 0 0) K1 Q) → zCall L xs (D2 + 1) 254 [zr 142, zi a, zi b, zi c, zi d] J1 K1 Q := by
    intro J1 K1 Q hM1 a0 a1 c0 c1 hX hQ
    have hM0 := ml_fm hM1 (fm_t J1 0)
    have t0 : zup J1 142 0 0 0 142 0 0 = 0 := zup_eq _ _ _ _ _
    have hwr := way_rng hW a0 a1 c0 c1
    have go : ¬ (0 ≤ b ∧ b ≤ 2879 ∧ b < d ∧ d ≤ 2879 ∧ way J a c ≤ d - b) → zGo L xs (D2 + 1) 254 77 [some (zr 142), some (zi a), some (zi b), some (zi c), some (zi d)] [zr 142] (zup J1 142 0 0 0) K1 Q := by
      intro hq
      refine z254_77 hL ?_
      refine z254_82 hL ?_
      exact c195T hL (by omega) t0 (by decide) (zaI_of ⟨zin_1, fun q => absurd q (by decide), fun _ => z254_89 hL (hX hq)⟩)
    refine z254 hL ?_
    refine c248 hL hM0 hW (by omega) ha (zaI_of ⟨zin_zb _, fun q => by rw [zb_0, decide_eq_false_iff_not] at q; omega, fun _ => ?_⟩)
    refine c248 hL hM0 hW (by omega) hc (zaI_of ⟨zin_zb _, fun _ => ?_, fun q => by rw [zb_0, decide_eq_false_iff_not] at q; omega⟩)
    refine z254_27 hL ?_
    refine c195F hL (by omega) t0 (zaI_of ⟨zin_0, fun q => absurd rfl q, fun _ => ?_⟩)
    refine c240 hL (by omega) hb zin_0 ⟨by omega, by omega⟩ (zaI_of ⟨zin_zb _, fun q => ?_, fun q => ?_⟩)
    · rw [zb_0, decide_eq_false_iff_not] at q
      exact go (by omega)
    · rw [zb_1, decide_eq_true_iff] at q
      refine c240 hL (by omega) hd zin_0 ⟨by omega, by omega⟩ (zaI_of ⟨zin_zb _, fun q2 => ?_, fun q2 => ?_⟩)
      · rw [zb_0, decide_eq_false_iff_not] at q2
        exact go (by omega)
      · rw [zb_1, decide_eq_true_iff] at q2
        refine ⟨hd, hb, fun q3 => go (by omega), fun q3 => ?_⟩
        exact c304 hL hM0 hW (by omega) a0 a1 c0 c1 (zaI_of ⟨⟨by omega, by omega⟩, ⟨by omega, by omega⟩, fun q4 => hQ ⟨by omega, by omega, by omega, by omega, q4⟩, fun q4 => go (by omega)⟩)
  have bad : ¬ (0 ≤ a ∧ a < J 18 0 0 ∧ 0 ≤ c ∧ c < J 18 0 0) → zCall L xs (D2 + 1) 254 [zr 142, zi a, zi b, zi c, zi d] J K fun r2 e2 J2 K2 => (∃ v2, r2 = .inl (some (zi v2)) ∧ zin v2) ∧ e2 = 0 ∧ J2 142 0 0 = 1 ∧ Inv G J2 K2 := by
    intro hq
    have fin := fin_x hG hI (fc_rfl J) (fm_t2 J 0 1) rfl (zup_eq _ _ _ _ _) 0 zin_0
    exact mod1 J K _ hM hq fin
  have bad2 : 0 ≤ a → a < J 18 0 0 → 0 ≤ c → c < J 18 0 0 → ¬ (0 ≤ b ∧ b ≤ 2879 ∧ b < d ∧ d ≤ 2879 ∧ way J a c ≤ d - b) → zCall L xs (D2 + 1) 254 [zr 142, zi a, zi b, zi c, zi d] J K fun r2 e2 J2 K2 => (∃ v2, r2 = .inl (some (zi v2)) ∧ zin v2) ∧ e2 = 0 ∧ J2 142 0 0 = 2 ∧ Inv G J2 K2 := by
    intro a0 a1 c0 c1 hq
    have fin := fin_x hG hI (fc_rfl J) (fm_t2 J 0 2) rfl (zup_eq _ _ _ _ _) 0 zin_0
    exact mod2 J K _ hM a0 a1 c0 c1 (fun _ => fin) (fun q => absurd q hq)
  refine z160 hL ?_
  refine c166 hL hE hW (by omega) ha (fun a0 a1 => zaV_of ?_) fun hq => zaV_ex (Or.inr ⟨1, 1, rfl, rfl, zonb_ok (by decide +kernel), by decide, by decide, ?_⟩)
  · refine c166 hL hE hW (by omega) hc (fun c0 c1 => zaV_of ?_) fun hq => zaV_ex (Or.inr ⟨1, 1, rfl, rfl, zonb_ok (by decide +kernel), by decide, by decide, ?_⟩)
    · have hwr := way_rng hW a0 a1 c0 c1
      refine ⟨hb, fun q => ⟨by omega, Or.inr ⟨0, 2, rfl, rfl, zonb_ok (by decide +kernel), by decide, by decide, ?_⟩⟩, fun q0 => ⟨hb, ⟨by omega, by omega⟩, fun q => ⟨by omega, Or.inr ⟨0, 2, rfl, rfl, zonb_ok (by decide +kernel), by decide, by decide, ?_⟩⟩, fun q1 => ⟨hd, hb, fun q => ⟨by omega, Or.inr ⟨0, 2, rfl, rfl, zonb_ok (by decide +kernel), by decide, by decide, ?_⟩⟩, fun q2 => ⟨hd, ⟨by omega, by omega⟩, fun q3 => ?_, fun q => ⟨by omega, Or.inr ⟨0, 2, rfl, rfl, zonb_ok (by decide +kernel), by decide, by decide, ?_⟩⟩⟩⟩⟩⟩
      · exact bad2 a0 a1 c0 c1 (by omega)
      · exact bad2 a0 a1 c0 c1 (by omega)
      · exact bad2 a0 a1 c0 c1 (by omega)
      · refine c121 hL hE hW hT (by omega) a0 a1 c0 c1 (zaI_of ⟨⟨by omega, by omega⟩, ⟨by omega, by omega⟩, fun q4 => ⟨⟨by omega, by omega⟩, ⟨by omega, by omega⟩, fun q5 => ?_, fun q5 => Or.inl ⟨_, rfl, rfl, ⟨by omega, by omega⟩, fun x => ?_⟩⟩, fun q4 => ⟨by omega, Or.inr ⟨0, 2, rfl, rfl, zonb_ok (by decide +kernel), by decide, by decide, ?_⟩⟩⟩)
        · obtain ⟨D', rfl⟩ : ∃ e, D = e + 1 := ⟨D - 1, by omega⟩
          refine z75 hL ⟨by omega, by omega, by omega, by omega, by omega, by omega, by omega, by omega, zaI_of (Or.inl ⟨_, rfl, rfl, ⟨by omega, by omega⟩, fun x => ?_⟩)⟩
          generalize hJ1 : zup (zup (zup (zup (zup J 45 0 (J 40 0 5) a) 46 0 (J 40 0 5) b) 47 0 (J 40 0 5) c) 48 0 (J 40 0 5) d) 40 0 5 (J 40 0 5 + 1) = J1
          have n1 : ∀ e, e < 45 ∨ 48 < e → e ≠ 40 → J1 e = J e := fun e q1 q2 => by
            rw [← hJ1, zup_ne _ _ _ _ (by omega), zup_ne _ _ _ _ (by omega), zup_ne _ _ _ _ (by omega), zup_ne _ _ _ _ (by omega), zup_ne _ _ _ _ (by omega)]
          have n40 : ∀ k, J1 40 0 k = if k = 5 then J 40 0 5 + 1 else J 40 0 k := fun k => by rw [← hJ1]; simp only [zup_at, Nat.reduceEqDiff, Int.reduceEq, eq_self, true_and, and_true, false_and, and_false, if_true, if_false]
          have n45 : ∀ k, J1 45 0 k = if k = J 40 0 5 then a else J 45 0 k := fun k => by rw [← hJ1]; simp only [zup_at, Nat.reduceEqDiff, Int.reduceEq, eq_self, true_and, and_true, false_and, and_false, if_true, if_false]
          have n46 : ∀ k, J1 46 0 k = if k = J 40 0 5 then b else J 46 0 k := fun k => by rw [← hJ1]; simp only [zup_at, Nat.reduceEqDiff, Int.reduceEq, eq_self, true_and, and_true, false_and, and_false, if_true, if_false]
          have n47 : ∀ k, J1 47 0 k = if k = J 40 0 5 then c else J 47 0 k := fun k => by rw [← hJ1]; simp only [zup_at, Nat.reduceEqDiff, Int.reduceEq, eq_self, true_and, and_true, false_and, and_false, if_true, if_false]
          have n48 : ∀ k, J1 48 0 k = if k = J 40 0 5 then d else J 48 0 k := fun k => by rw [← hJ1]; simp only [zup_at, Nat.reduceEqDiff, Int.reduceEq, eq_self, true_and, and_true, false_and, and_false, if_true, if_false]
          have e0 : J1 40 0 0 = J 40 0 0 := n40 0
          have e5 : J1 40 0 5 = J 40 0 5 + 1 := n40 5
          have e10 : J1 40 0 10 = J 40 0 10 := n40 10
          have hP1 : PW J1 := by
            unfold PW
            simp only [n1 18 (by decide) (by decide), n1 41 (by decide) (by decide), n1 42 (by decide) (by decide), n1 43 (by decide) (by decide), n1 44 (by decide) (by decide), n1 49 (by decide) (by decide), n1 50 (by decide) (by decide), n1 51 (by decide) (by decide), e0, e5, e10, n45, n46, n47, n48, way_eq (n1 19 (by decide) (by decide)) (n1 20 (by decide) (by decide))]
            refine ⟨⟨hpn.1, hpn.2.1, by omega, by omega, hpn.2.2.2.2⟩, hP.2.1, hP.2.2.1, hP.2.2.2.1, hP.2.2.2.2.1, hP.2.2.2.2.2.1, fun j j0 j1 => ?_, hP.2.2.2.2.2.2.2⟩
            by_cases e : j = J 40 0 5
            · simp only [e, if_true]
              omega
            · simp only [e, if_false]
              exact pw_j hP j0 (by omega)
          have e142 := n1 142 (by decide) (by decide)
          have hM1 : ML J J1 := ml_eq hM (n1 _ (by decide) (by decide)) (n1 _ (by decide) (by decide)) (n1 _ (by decide) (by decide)) (n1 _ (by decide) (by decide)) (n1 _ (by decide) (by decide))
          have t1 : zup J1 142 0 0 0 142 0 0 = 0 := zup_eq _ _ _ _ _
          have e16 : zup J1 142 0 0 0 142 0 16 = J 40 0 5 := by
            rw [zup_nk _ _ (by decide), e142]
            exact hC.2.1
          refine mod2 J1 _ _ hM1 a0 a1 c0 c1 (fun q => absurd ⟨by omega, by omega, by omega, by omega, q4⟩ q) fun _ => ?_
          refine z254_82 hL ?_
          refine c195F hL (by omega) t1 (zaI_of ⟨zin_0, fun _ => ?_, fun q => absurd rfl q⟩)
          rw [e16]
          refine ⟨⟨by omega, by omega⟩, ⟨by omega, by omega⟩, fun _ => ⟨by omega, by omega, by omega, by omega, by decide, by decide, by omega, by omega, by omega, by omega, by decide, by decide, by omega, by omega, by omega, by omega, by decide, by decide, by omega, by omega, by omega, by omega, by decide, by decide, rfl, rfl, ?_, zku_o K x, ?_⟩, fun q => absurd q q5⟩
          · simp only [zup_at, Nat.reduceEqDiff, Int.reduceEq, eq_self, true_and, and_true, false_and, and_false, if_true, if_false]
          · refine inv_pg hG hI (J1 := J1) (fun e q1 q2 => n1 e (by omega) q2) e0 e10 (fun e q => by rw [zup_ne _ _ _ _ (by omega), zup_ne _ _ _ _ (by omega), zup_ne _ _ _ _ (by omega), zup_ne _ _ _ _ (by omega), zup_ne _ _ _ _ (by omega), zup_ne _ _ _ _ (by omega)]) (fun e q1 q2 => by rw [zup_ne _ _ _ _ (by omega), zup_ne _ _ _ _ (by omega), zup_ne _ _ _ _ (by omega), zup_ne _ _ _ _ (by omega), zup_ne _ _ _ _ (by omega), zup_ne _ _ _ _ (by omega), n1 e (by omega) (by omega)]) (by simp only [zup_at, Nat.reduceEqDiff, Int.reduceEq, eq_self, true_and, and_true, false_and, and_false, if_true, if_false]; rw [e142]) (by simp only [zup_at, Nat.reduceEqDiff, Int.reduceEq, eq_self, true_and, and_true, false_and, and_false, if_true, if_false]; rw [e142]) (by simp only [zup_at, Nat.reduceEqDiff, Int.reduceEq, eq_self, true_and, and_true, false_and, and_false, if_true, if_false]; rw [e142]) (by simp only [zup_at, Nat.reduceEqDiff, Int.reduceEq, eq_self, true_and, and_true, false_and, and_false, if_true, if_false]; rw [e142]) hP1 ?_ (zku_n _ _ (by decide))
            unfold MC MP
            simp only [zup_at, Nat.reduceEqDiff, Int.reduceEq, eq_self, true_and, and_true, false_and, and_false, if_true, if_false]
            simp only [e142, n1 18 (by decide) (by decide), n1 41 (by decide) (by decide), n1 42 (by decide) (by decide), n1 43 (by decide) (by decide), n1 49 (by decide) (by decide), n1 50 (by decide) (by decide), n1 51 (by decide) (by decide), n1 229 (by decide) (by decide), n1 234 (by decide) (by decide), n1 235 (by decide) (by decide), n1 236 (by decide) (by decide), n1 237 (by decide) (by decide), n1 238 (by decide) (by decide), n1 239 (by decide) (by decide), n1 240 (by decide) (by decide), e0, e5, e10, n45, n46, n47, n48]
            refine ⟨hC.1, trivial, hC.2.2.1, hC.2.2.2.1, hC.2.2.2.2.1, fun j j0 j1 => ?_⟩
            by_cases e : j = J 40 0 5
            · simp [e]
            · have hj := mc_j hC j0 (by omega)
              simp [e, hj]
        · refine mod2 J _ _ hM a0 a1 c0 c1 (fun q => absurd ⟨by omega, by omega, by omega, by omega, q4⟩ q) fun _ => ?_
          have t1 : zup J 142 0 0 0 142 0 0 = 0 := zup_eq _ _ _ _ _
          have e16 : zup J 142 0 0 0 142 0 16 = J 40 0 5 := by
            rw [zup_nk _ _ (by decide)]
            exact hC.2.1
          refine z254_82 hL ?_
          refine c195F hL (by omega) t1 (zaI_of ⟨zin_0, fun _ => ?_, fun q => absurd rfl q⟩)
          rw [e16]
          exact ⟨⟨by omega, by omega⟩, ⟨by omega, by omega⟩, fun q => absurd q5 q, fun _ => fin_w hG hI (fc_rfl J) (fm_t J 0) rfl t1 _ x⟩
        · exact bad2 a0 a1 c0 c1 (by omega)
      · exact bad2 a0 a1 c0 c1 (by omega)
    · exact bad (by omega)
  · exact bad (by omega)
