/-! OPERATIONS: train, put, clear, job -/
/-- as many different numbers below n are n at most -/
theorem pigeon : ∀ (n m : Nat) (f : Int → Int), (∀ i j : Int, 0 ≤ i → i < j → j < m → f i ≠ f j) → (∀ i : Int, 0 ≤ i → i < m → 0 ≤ f i ∧ f i < n) → m ≤ n := by
  intro n
  induction n with
  | zero =>
    intro m f _ hr
    cases m with
    | zero => exact Nat.le_refl 0
    | succ m =>
      have := hr 0 (by omega) (by omega)
      omega
  | succ n ih =>
    intro m f hd hr
    by_cases hx : ∃ i : Int, 0 ≤ i ∧ i < m ∧ f i = n
    · obtain ⟨i, i0, i1, i2⟩ := hx
      have := ih (m - 1) (fun k => if k = i then f (m - 1) else f k) ?_ ?_
      · omega
      · intro k j k0 kj jm
        by_cases e1 : k = i
        · have e2 : j ≠ i := by omega
          rw [if_pos e1, if_neg e2]
          exact fun q => hd j (m - 1) (by omega) (by omega) (by omega) q.symm
        · rw [if_neg e1]
          by_cases e2 : j = i
          · rw [if_pos e2]
            exact hd k (m - 1) k0 (by omega) (by omega)
          · rw [if_neg e2]
            exact hd k j k0 kj (by omega)
      · intro k k0 k1
        by_cases e1 : k = i
        · rw [if_pos e1]
          have h1 := hr (m - 1) (by omega) (by omega)
          have h2 := hd i (m - 1) i0 (by omega) (by omega)
          omega
        · rw [if_neg e1]
          have h1 := hr k k0 (by omega)
          have h2 : f k ≠ n := by
            rcases Int.lt_or_gt_of_ne e1 with q | q
            · have := hd k i k0 q i1
              omega
            · have := hd i k i0 q (by omega)
              omega
          omega
    · have := ih m f hd fun i i0 i1 => by
        have h1 := hr i i0 i1
        have h2 : f i ≠ n := fun q => hx ⟨i, i0, i1, q⟩
        omega
      omega
theorem op7 {G : zJ → zK → Prop} (hG : GOk G) : ∀ a : Int, zin a → OpW (Inv G) 348 4 185 301 zin [zi a] := by
  intro a ha
  intro L xs D D2 J K hL hD hD2 hI; obtain ⟨⟨hW, hT, hP, hM, hC, hTp, hF, hIm⟩, hg⟩ := id hI; have hE := eqs_rfl J; have hn := lw_n hW; have hpn := pw_n hP
  obtain ⟨D, rfl⟩ : ∃ d, D = d + 1 := ⟨D - 1, by omega⟩
  obtain ⟨D2, rfl⟩ : ∃ d, D2 = d + 1 := ⟨D2 - 1, by omega⟩
  have f0 := fm_t J 0
  have t0 : zup J 142 0 0 0 142 0 0 = 0 := zup_eq _ _ _ _ _
  have e14 : zup J 142 0 0 0 142 0 14 = (if 0 < J 18 0 0 then 1 else 0) := by
    rw [zup_nk _ _ (by decide)]
    exact hF.2.2
  have bad : ¬ (0 ≤ a ∧ a ≤ 1439) → zCall L xs (D2 + 1) 301 [zr 142, zi a] J K fun r2 e2 J2 K2 => (∃ v2, r2 = .inl (some (zi v2)) ∧ zin v2) ∧ e2 = 0 ∧ J2 142 0 0 = 1 ∧ Inv G J2 K2 := by
    intro hc
    have fin := fin_x hG hI (fc_rfl J) (fm_t2 J 0 1) rfl (zup_eq _ _ _ _ _) 0 zin_0
    refine z301 hL ?_
    refine c240 hL (by omega) ha zin_0 ⟨by omega, by omega⟩ (zaI_of ⟨zin_zb _, fun q => by rw [zb_1, decide_eq_true_iff] at q; omega, fun _ => ?_⟩)
    exact c195T hL (by omega) t0 (by decide) (zaI_of ⟨zin_1, fun _ => fin, fun q => absurd q (by decide)⟩)
  have bad2 : 0 ≤ a → a ≤ 1439 → J 18 0 0 = 0 → zCall L xs (D2 + 1) 301 [zr 142, zi a] J K fun r2 e2 J2 K2 => (∃ v2, r2 = .inl (some (zi v2)) ∧ zin v2) ∧ e2 = 0 ∧ J2 142 0 0 = 2 ∧ Inv G J2 K2 := by
    intro h0 h1 hc
    have fin := fin_x hG hI (fc_rfl J) (fm_t2 J 0 2) rfl (zup_eq _ _ _ _ _) 0 zin_0
    refine z301 hL ?_
    refine c240 hL (by omega) ha zin_0 ⟨by omega, by omega⟩ (zaI_of ⟨zin_zb _, fun _ => ?_, fun q => by rw [zb_0, decide_eq_false_iff_not] at q; omega⟩)
    refine c195F hL (by omega) t0 (zaI_of ⟨zin_0, fun q => absurd rfl q, fun _ => ?_⟩)
    rw [e14, if_neg (by omega)]
    refine ⟨zin_0, fun q => absurd rfl q, fun _ => ?_⟩
    exact c195T hL (by omega) t0 (by decide) (zaI_of ⟨zin_1, fun q => absurd q (by decide), fun _ => fin⟩)
  refine z185 hL ⟨ha, fun _ => ⟨by omega, Or.inr ⟨0, 1, rfl, rfl, zonb_ok (by decide +kernel), by decide, by decide, ?_⟩⟩, fun h0 => ⟨ha, ⟨by omega, by omega⟩, fun h1 => ⟨⟨by omega, by omega⟩, fun hl => ⟨⟨by omega, by omega⟩, ⟨by omega, by omega⟩, fun h4 => ?_, fun h4 => Or.inl ⟨_, rfl, rfl, ⟨by omega, by omega⟩, fun x => ?_⟩⟩, fun hl => ⟨by omega, Or.inr ⟨2, 2, rfl, rfl, zonb_ok (by decide +kernel), by decide, by decide, ?_⟩⟩⟩, fun _ => ⟨by omega, Or.inr ⟨0, 1, rfl, rfl, zonb_ok (by decide +kernel), by decide, by decide, ?_⟩⟩⟩⟩
  · exact bad (by omega)
  · -- a new train
    have hg5 := hG.2.2.2 J K hg
    refine c35 hL (by omega) hg5 (zaV_of ?_)
    obtain ⟨D', rfl⟩ : ∃ d, D = d + 1 := ⟨D - 1, by omega⟩
    generalize hkn : (if 1 < J 105 0 5 then 1 else J 105 0 5) = kn
    have e40 : zup J 105 0 5 kn 40 = J 40 := zup_ne _ _ _ _ (by decide)
    refine z76 hL ?_
    rw [e40]
    refine ⟨by omega, by omega, by omega, by omega, zaI_of (Or.inl ⟨_, rfl, rfl, ⟨by omega, by omega⟩, fun x => ?_⟩)⟩
    generalize hJ1 : zup (zup (zup (zup J 105 0 5 kn) 41 0 (J 40 0 0) a) 42 0 (J 40 0 0) 0) 40 0 0 (J 40 0 0 + 1) = J1
    have n1 : ∀ c, c < 40 ∨ 42 < c → c ≠ 105 → J1 c = J c := fun c q1 q2 => by
      rw [← hJ1, zup_ne _ _ _ _ (by omega), zup_ne _ _ _ _ (by omega), zup_ne _ _ _ _ (by omega), zup_ne _ _ _ _ q2]
    have n40 : ∀ k, J1 40 0 k = if k = 0 then J 40 0 0 + 1 else J 40 0 k := fun k => by rw [← hJ1]; simp only [zup_at, Nat.reduceEqDiff, Int.reduceEq, eq_self, true_and, and_true, false_and, and_false, if_true, if_false]
    have n41 : ∀ k, J1 41 0 k = if k = J 40 0 0 then a else J 41 0 k := fun k => by rw [← hJ1]; simp only [zup_at, Nat.reduceEqDiff, Int.reduceEq, eq_self, true_and, and_true, false_and, and_false, if_true, if_false]
    have n42 : ∀ k, J1 42 0 k = if k = J 40 0 0 then 0 else J 42 0 k := fun k => by rw [← hJ1]; simp only [zup_at, Nat.reduceEqDiff, Int.reduceEq, eq_self, true_and, and_true, false_and, and_false, if_true, if_false]
    have n105 : J1 105 0 5 = kn := by rw [← hJ1]; simp only [zup_at, Nat.reduceEqDiff, Int.reduceEq, eq_self, true_and, and_true, false_and, and_false, if_true, if_false]
    have e0 : J1 40 0 0 = J 40 0 0 + 1 := n40 0
    have e5 : J1 40 0 5 = J 40 0 5 := n40 5
    have e10 : J1 40 0 10 = J 40 0 10 := n40 10
    have hP1 : PW J1 := by
      unfold PW
      simp only [n1 18 (by decide) (by decide), n1 43 (by decide) (by decide), n1 44 (by decide) (by decide), n1 45 (by decide) (by decide), n1 46 (by decide) (by decide), n1 47 (by decide) (by decide), n1 48 (by decide) (by decide), n1 49 (by decide) (by decide), n1 50 (by decide) (by decide), n1 51 (by decide) (by decide), e0, e5, e10, n41, n42, way_eq (n1 19 (by decide) (by decide)) (n1 20 (by decide) (by decide))]
      refine ⟨⟨by omega, by omega, hpn.2.2⟩, fun t q0 q1 => ?_, fun t i q0 q1 i0 i1 => ?_, fun t i j q0 q1 i0 i1 i2 => ?_, fun k q0 q1 => ?_, fun _ => by omega, hP.2.2.2.2.2.2⟩
      · by_cases e : t = J 40 0 0
        · rw [if_pos e, if_pos e]
          omega
        · rw [if_neg e, if_neg e]
          exact pw_t hP q0 (by omega)
      · by_cases e : t = J 40 0 0
        · rw [if_pos e] at i1
          omega
        · rw [if_neg e] at i1
          exact pw_r hP q0 (by omega) i0 i1
      · by_cases e : t = J 40 0 0
        · rw [if_pos e] at i2
          omega
        · rw [if_neg e] at i2
          exact pw_d hP q0 (by omega) i0 i1 i2
      · have hk := pw_k hP q0 q1
        refine ⟨hk.1, by omega, fun q => ?_⟩
        rw [if_neg (by omega)]
        exact hk.2.2 q
    have e142 := n1 142 (by decide) (by decide)
    have e14' : zup J1 142 0 0 0 142 0 14 = 1 := by
      rw [zup_nk _ _ (by decide), e142, hF.2.2, if_pos (by omega)]
    have e15 : zup J1 142 0 0 0 142 0 15 = J 40 0 0 := by
      rw [zup_nk _ _ (by decide), e142]
      exact hC.1
    have t1 : zup J1 142 0 0 0 142 0 0 = 0 := zup_eq _ _ _ _ _
    refine z301 hL ?_
    refine c240 hL (by omega) ha zin_0 ⟨by omega, by omega⟩ (zaI_of ⟨zin_zb _, fun _ => ?_, fun q => by rw [zb_0, decide_eq_false_iff_not] at q; omega⟩)
    refine c195F hL (by omega) t1 (zaI_of ⟨zin_0, fun q => absurd rfl q, fun _ => ?_⟩)
    rw [e14']
    refine ⟨zin_1, fun _ => ?_, fun q => absurd q (by decide)⟩
    refine c195F hL (by omega) t1 (zaI_of ⟨zin_0, fun _ => ?_, fun q => absurd rfl q⟩)
    rw [e15]
    refine ⟨⟨by omega, by omega⟩, ⟨by omega, by omega⟩, fun _ => ⟨by omega, by omega, by omega, by omega, rfl, rfl, ?_, zku_o K x, ?_⟩, fun q => absurd q h4⟩
    · simp only [zup_at, Nat.reduceEqDiff, Int.reduceEq, eq_self, true_and, and_true, false_and, and_false, if_true, if_false]
    · refine inv_p hI (J1 := J1) (fun c q1 q2 => n1 c (by omega) q2) (fun c q => by rw [zup_ne _ _ _ _ (by omega), zup_ne _ _ _ _ (by omega), zup_ne _ _ _ _ (by omega), zup_ne _ _ _ _ (by omega)]) (fun c q1 q2 => by rw [zup_ne _ _ _ _ (by omega), zup_ne _ _ _ _ (by omega), zup_ne _ _ _ _ (by omega), zup_ne _ _ _ _ (by omega), n1 c (by omega) (by omega)]) (by simp only [zup_at, Nat.reduceEqDiff, Int.reduceEq, eq_self, true_and, and_true, false_and, and_false, if_true, if_false]; rw [e142]) (by simp only [zup_at, Nat.reduceEqDiff, Int.reduceEq, eq_self, true_and, and_true, false_and, and_false, if_true, if_false]; rw [e142]) (by simp only [zup_at, Nat.reduceEqDiff, Int.reduceEq, eq_self, true_and, and_true, false_and, and_false, if_true, if_false]; rw [e142]) (by simp only [zup_at, Nat.reduceEqDiff, Int.reduceEq, eq_self, true_and, and_true, false_and, and_false, if_true, if_false]; rw [e142]) hP1 ?_ ?_
      · unfold MC MP
        simp only [zup_at, Nat.reduceEqDiff, Int.reduceEq, eq_self, true_and, and_true, false_and, and_false, if_true, if_false]
        simp only [e142, n1 18 (by decide) (by decide), n1 43 (by decide) (by decide), n1 45 (by decide) (by decide), n1 46 (by decide) (by decide), n1 47 (by decide) (by decide), n1 48 (by decide) (by decide), n1 49 (by decide) (by decide), n1 50 (by decide) (by decide), n1 51 (by decide) (by decide), n1 229 (by decide) (by decide), n1 234 (by decide) (by decide), n1 235 (by decide) (by decide), n1 236 (by decide) (by decide), n1 237 (by decide) (by decide), n1 238 (by decide) (by decide), n1 239 (by decide) (by decide), n1 240 (by decide) (by decide), e0, e5, e10, n41, n42]
        refine ⟨trivial, hC.2.1, fun t q0 q1 => ?_, hC.2.2.2⟩
        by_cases e : t = J 40 0 0
        · simp only [e, if_true]
          exact ⟨trivial, trivial, fun i _ _ => by omega⟩
        · simp only [e, if_false]
          exact mc_t hC q0 (by omega)
      · refine hG.2.1 J _ K _ hg (fun c q1 q2 => ?_) (fun c q1 q2 => ?_) ?_ (zku_n _ _ (by decide))
        · rw [zup_ne _ _ _ _ (by omega), zup_ne _ _ _ _ (by omega), zup_ne _ _ _ _ (by omega), zup_ne _ _ _ _ (by omega), n1 c (by omega) (by omega)]
        · rw [zup_ne _ _ _ _ (by omega), zup_ne _ _ _ _ (by omega), zup_ne _ _ _ _ (by omega), zup_ne _ _ _ _ (by omega), n1 c (by omega) (by omega)]
        · simp only [zup_at, Nat.reduceEqDiff, Int.reduceEq, eq_self, true_and, and_true, false_and, and_false, if_true, if_false]
          rw [n105, hkn]
  · -- there are four
    refine z301 hL ?_
    refine c240 hL (by omega) ha zin_0 ⟨by omega, by omega⟩ (zaI_of ⟨zin_zb _, fun _ => ?_, fun q => by rw [zb_0, decide_eq_false_iff_not] at q; omega⟩)
    refine c195F hL (by omega) t0 (zaI_of ⟨zin_0, fun q => absurd rfl q, fun _ => ?_⟩)
    rw [e14, if_pos (by omega)]
    refine ⟨zin_1, fun _ => ?_, fun q => absurd q (by decide)⟩
    refine c195F hL (by omega) t0 (zaI_of ⟨zin_0, fun _ => ?_, fun q => absurd rfl q⟩)
    have e15 : zup J 142 0 0 0 142 0 15 = J 40 0 0 := by
      rw [zup_nk _ _ (by decide)]
      exact hC.1
    rw [e15]
    exact ⟨⟨by omega, by omega⟩, ⟨by omega, by omega⟩, fun q => absurd h4 q, fun _ => fin_w hG hI (fc_rfl J) f0 rfl t0 _ x⟩
  · exact bad2 h0 h1 (by omega)
  · exact bad (by omega)
/-- a train whose row some portion isn't in has room -/
theorem pw_room {s : zJ} (h : LW s) (hP : PW s) {t k : Int} (h0 : 0 ≤ t) (h1 : t < s 40 0 0) (k0 : 0 ≤ k) (k1 : k < s 18 0 6) (hk : s 44 0 k ≠ t) : s 42 0 t < s 18 0 6 := by
  have ht := pw_t hP h0 h1
  have := pigeon (s 18 0 6).toNat ((s 42 0 t).toNat + 1) (fun i => if i = s 42 0 t then k else s 43 0 (t * 7 + i)) ?_ ?_
  · omega
  · intro i j i0 ij jm
    rw [if_neg (by omega)]
    by_cases e : j = s 42 0 t
    · rw [if_pos e]
      intro q
      have := pw_r hP h0 h1 i0 (by omega)
      rw [q] at this
      exact hk this.2.2
    · rw [if_neg e]
      exact pw_d hP h0 h1 i0 ij (by omega)
  · intro i i0 i1
    by_cases e : i = s 42 0 t
    · rw [if_pos e]
      omega
    · rw [if_neg e]
      have := pw_r hP h0 h1 i0 (by omega)
      omega
theorem op8 {G : zJ → zK → Prop} (hG : GOk G) : ∀ a b : Int, zin a → zin b → OpW (Inv G) 339 5 172 280 zin [zi a, zi b] := by
  intro a b ha hb
  intro L xs D D2 J K hL hD hD2 hI; obtain ⟨⟨hW, hT, hP, hM, hC, hTp, hF, hIm⟩, hg⟩ := id hI; have hE := eqs_rfl J; have hn := lw_n hW; have hpn := pw_n hP
  obtain ⟨D, rfl⟩ : ∃ d, D = d + 1 := ⟨D - 1, by omega⟩
  obtain ⟨D2, rfl⟩ : ∃ d, D2 = d + 1 := ⟨D2 - 1, by omega⟩
  have f0 := fm_t J 0
  have hM0 := ml_fm hM f0
  have hC0 := mc_fm hC f0
  have hcn := mc_n hC0
  have t0 : zup J 142 0 0 0 142 0 0 = 0 := zup_eq _ _ _ _ _
  have bad : ¬ (0 ≤ a ∧ a < J 40 0 0) → zCall L xs (D2 + 1) 280 [zr 142, zi a, zi b] J K fun r2 e2 J2 K2 => (∃ v2, r2 = .inl (some (zi v2)) ∧ zin v2) ∧ e2 = 0 ∧ J2 142 0 0 = 1 ∧ Inv G J2 K2 := by
    intro hc
    have fin := fin_x hG hI (fc_rfl J) (fm_t2 J 0 1) rfl (zup_eq _ _ _ _ _) 0 zin_0
    refine z280 hL ?_
    refine c252 hL (by omega) hcn.1 ⟨by omega, by omega⟩ ha (zaI_of ⟨zin_zb _, fun q => by rw [zb_1, decide_eq_true_iff] at q; omega, fun _ => ?_⟩)
    exact c195T hL (by omega) t0 (by decide) (zaI_of ⟨zin_1, fun _ => fin, fun q => absurd q (by decide)⟩)
  have bad2 : 0 ≤ a → a < J 40 0 0 → ¬ (0 ≤ b ∧ b < J 18 0 6) → zCall L xs (D2 + 1) 280 [zr 142, zi a, zi b] J K fun r2 e2 J2 K2 => (∃ v2, r2 = .inl (some (zi v2)) ∧ zin v2) ∧ e2 = 0 ∧ J2 142 0 0 = 2 ∧ Inv G J2 K2 := by
    intro h0 h1 hc
    have fin := fin_x hG hI (fc_rfl J) (fm_t2 J 0 2) rfl (zup_eq _ _ _ _ _) 0 zin_0
    refine z280 hL ?_
    refine c252 hL (by omega) hcn.1 ⟨by omega, by omega⟩ ha (zaI_of ⟨zin_zb _, fun _ => ?_, fun q => by rw [zb_0, decide_eq_false_iff_not] at q; omega⟩)
    refine c195F hL (by omega) t0 (zaI_of ⟨zin_0, fun q => absurd rfl q, fun _ => ?_⟩)
    refine c249 hL hM0 hW (by omega) hb (zaI_of ⟨zin_zb _, fun q => by rw [zb_1, decide_eq_true_iff] at q; omega, fun _ => ?_⟩)
    exact c195T hL (by omega) t0 (by decide) (zaI_of ⟨zin_1, fun q => absurd q (by decide), fun _ => fin⟩)
  refine z172 hL ?_
  refine c169 hL hE (by omega) ⟨hpn.1, hpn.2.1⟩ ha (fun h0 h1 => zaV_of ?_) fun hc => zaV_ex (Or.inr ⟨3, 1, rfl, rfl, zonb_ok (by decide +kernel), by decide, by decide, ?_⟩)
  · refine c167 hL hE hW (by omega) hb (fun g0 g1 => zaV_of ?_) fun hc => zaV_ex (Or.inr ⟨0, 2, rfl, rfl, zonb_ok (by decide +kernel), by decide, by decide, ?_⟩)
    · have hk := pw_k hP g0 g1
      have ht := pw_t hP h0 h1
      refine ⟨by omega, by omega, ⟨by omega, by omega⟩, ⟨by omega, by omega⟩, fun e1 => ?_, fun e1 => Or.inl ⟨_, rfl, rfl, ⟨by omega, by omega⟩, fun x => ?_⟩⟩
      · have hroom := pw_room hW hP h0 h1 g0 g1 (by omega)
        obtain ⟨D', rfl⟩ : ∃ d, D = d + 1 := ⟨D - 1, by omega⟩
        refine z77 hL ⟨by omega, by omega, by omega, by omega, by omega, by omega, by omega, by omega, by omega, by omega, zaV_of ⟨by omega, by omega, ?_⟩⟩
        generalize hJ1 : zup (zup (zup J 43 0 (a * 7 + J 42 0 a) b) 42 0 a (J 42 0 a + 1)) 44 0 b a = J1
        have n1 : ∀ c, c < 42 ∨ 44 < c → J1 c = J c := fun c q1 => by
          rw [← hJ1, zup_ne _ _ _ _ (by omega), zup_ne _ _ _ _ (by omega), zup_ne _ _ _ _ (by omega)]
        have n42 : ∀ k, J1 42 0 k = if k = a then J 42 0 a + 1 else J 42 0 k := fun k => by rw [← hJ1]; simp only [zup_at, Nat.reduceEqDiff, Int.reduceEq, eq_self, true_and, and_true, false_and, and_false, if_true, if_false]
        have n43 : ∀ k, J1 43 0 k = if k = a * 7 + J 42 0 a then b else J 43 0 k := fun k => by rw [← hJ1]; simp only [zup_at, Nat.reduceEqDiff, Int.reduceEq, eq_self, true_and, and_true, false_and, and_false, if_true, if_false]
        have n44 : ∀ k, J1 44 0 k = if k = b then a else J 44 0 k := fun k => by rw [← hJ1]; simp only [zup_at, Nat.reduceEqDiff, Int.reduceEq, eq_self, true_and, and_true, false_and, and_false, if_true, if_false]
        have row : ∀ t i, 0 ≤ t → t < J 40 0 0 → 0 ≤ i → i < J1 42 0 t → (t = a ∧ i = J 42 0 a ∧ J1 43 0 (t * 7 + i) = b) ∨ (i < J 42 0 t ∧ J1 43 0 (t * 7 + i) = J 43 0 (t * 7 + i)) := by
          intro t i q0 q1 i0 i1
          rw [n42] at i1
          have htt := pw_t hP q0 q1
          rw [n43]
          by_cases e : t = a
          · subst e
            rw [if_pos rfl] at i1
            by_cases e2 : i = J 42 0 t
            · refine Or.inl ⟨rfl, e2, ?_⟩
              rw [e2, if_pos rfl]
            · refine Or.inr ⟨by omega, ?_⟩
              rw [if_neg (by omega)]
          · rw [if_neg e] at i1
            refine Or.inr ⟨i1, ?_⟩
            rw [if_neg (by omega)]
        have hv : J1 42 0 a = J 42 0 a + 1 := by rw [n42, if_pos rfl]
        rw [hv]
        refine Or.inl ⟨_, rfl, rfl, ⟨by omega, by omega⟩, fun x => ?_⟩
        have hP1 : PW J1 := by
          refine ⟨?_, ?_, ?_, ?_, ?_, ?_, ?_, ?_, ?_⟩
          · rw [n1 40 (by decide)]
            exact hpn
          · intro t q0 q1
            rw [n1 40 (by decide)] at q1
            have htt := pw_t hP q0 q1
            rw [n1 41 (by decide), n1 18 (by decide), n42]
            split <;> omega
          · intro t i q0 q1 i0 i1
            rw [n1 40 (by decide)] at q1
            rw [n1 18 (by decide)]
            rcases row t i q0 q1 i0 i1 with ⟨r1, r2, r3⟩ | ⟨r1, r2⟩
            · rw [r3, n44, if_pos rfl]
              omega
            · rw [r2, n44]
              have hr := pw_r hP q0 q1 i0 r1
              by_cases e : J 43 0 (t * 7 + i) = b
              · rw [e] at hr
                omega
              · rw [if_neg e]
                exact hr
          · intro t i j q0 q1 i0 ij i1
            rw [n1 40 (by decide)] at q1
            rcases row t j q0 q1 (by omega) i1 with ⟨r1, r2, r3⟩ | ⟨r1, r2⟩
            · rw [r3]
              rcases row t i q0 q1 i0 (by omega) with ⟨w1, w2, w3⟩ | ⟨w1, w2⟩
              · omega
              · rw [w2]
                intro q
                have hr := pw_r hP q0 q1 i0 w1
                rw [q] at hr
                omega
            · rcases row t i q0 q1 i0 (by omega) with ⟨w1, w2, w3⟩ | ⟨w1, w2⟩
              · subst w1
                omega
              · rw [w2, r2]
                exact pw_d hP q0 q1 i0 ij r1
          · intro k q0 q1
            rw [n1 18 (by decide)] at q1
            rw [n44, n1 40 (by decide)]
            have hkk := pw_k hP q0 q1
            by_cases e : k = b
            · rw [if_pos e]
              refine ⟨by omega, by omega, fun _ => ⟨J 42 0 a, by omega, ?_, ?_⟩⟩
              · rw [n42, if_pos rfl]
                omega
              · rw [n43, if_pos rfl, e]
            · rw [if_neg e]
              refine ⟨hkk.1, hkk.2.1, fun q => ?_⟩
              obtain ⟨i, i0, i1, i2⟩ := hkk.2.2 q
              have htt := pw_t hP q hkk.2.1
              refine ⟨i, i0, ?_, ?_⟩
              · rw [n42]
                split
                · next e2 =>
                  rw [e2] at i1
                  omega
                · exact i1
              · rw [n43]
                split
                · next e2 =>
                  have : J 44 0 k = a := by omega
                  rw [this] at i1
                  omega
                · exact i2
          · rw [n1 40 (by decide), n1 18 (by decide)]
            exact hP.2.2.2.2.2.1
          · simp only [n1 40 (by decide), n1 18 (by decide), n1 45 (by decide), n1 46 (by decide), n1 47 (by decide), n1 48 (by decide), way_eq (n1 19 (by decide)) (n1 20 (by decide))]
            exact hP.2.2.2.2.2.2.1
          · rw [n1 49 (by decide)]
            exact hP.2.2.2.2.2.2.2.1
          · rw [n1 50 (by decide), n1 51 (by decide)]
            exact hP.2.2.2.2.2.2.2.2
        have e142 := n1 142 (by decide)
        have t1 : zup J1 142 0 0 0 142 0 0 = 0 := zup_eq _ _ _ _ _
        have hM1 : ML J (zup J1 142 0 0 0) := ml_fm (ml_eq hM (n1 _ (by decide)) (n1 _ (by decide)) (n1 _ (by decide)) (n1 _ (by decide)) (n1 _ (by decide))) (fm_t _ 0)
        have hC1 : MC J (zup J1 142 0 0 0) := mc_fm (mc_eq hC (by rw [e142]) (by rw [e142]) (n1 _ (by decide)) (n1 _ (by decide)) (n1 _ (by decide)) (n1 _ (by decide)) (n1 _ (by decide)) (n1 _ (by decide)) (n1 _ (by decide)) (n1 _ (by decide))) (fm_t _ 0)
        have m4 := (mc_t hC1 h0 h1).1
        refine z280 hL ?_
        refine c252 hL (by omega) (mc_n hC1).1 ⟨by omega, by omega⟩ ha (zaI_of ⟨zin_zb _, fun _ => ?_, fun q => by rw [zb_0, decide_eq_false_iff_not] at q; omega⟩)
        refine c195F hL (by omega) t1 (zaI_of ⟨zin_0, fun q => absurd rfl q, fun _ => ?_⟩)
        refine c249 hL hM1 hW (by omega) hb (zaI_of ⟨zin_zb _, fun _ => ?_, fun q => by rw [zb_0, decide_eq_false_iff_not] at q; omega⟩)
        refine c195F hL (by omega) t1 (zaI_of ⟨zin_0, fun _ => ?_, fun q => absurd rfl q⟩)
        refine c302 hL hM1 hW hP hC1 (by omega) g0 g1 (zaI_of ⟨⟨by omega, by omega⟩, ⟨by omega, by omega⟩, fun _ => ?_, fun q => absurd e1 q⟩)
        rw [m4, zup_eq]
        refine ⟨by omega, by omega, by omega, by omega, by omega, by omega, by omega, by omega, by omega, by omega, by omega, by omega, by omega, by omega, rfl, rfl, ?_, zku_o K x, ?_⟩
        · simp only [zup_at, Nat.reduceEqDiff, Int.reduceEq, eq_self, true_and, and_true, false_and, and_false, if_true, if_false]
        · refine inv_pg hG hI (J1 := J1) (fun c q1 q2 => n1 c (by omega)) (by rw [n1 _ (by decide)]) (by rw [n1 _ (by decide)]) (fun c q => by rw [zup_ne _ _ _ _ (by omega), zup_ne _ _ _ _ (by omega), zup_ne _ _ _ _ (by omega)]) (fun c q1 q2 => by rw [zup_ne _ _ _ _ (by omega), zup_ne _ _ _ _ (by omega), zup_ne _ _ _ _ (by omega), n1 c (by omega)]) (by simp only [zup_at, Nat.reduceEqDiff, Int.reduceEq, eq_self, true_and, and_true, false_and, and_false, if_true, if_false]; rw [e142]) (by simp only [zup_at, Nat.reduceEqDiff, Int.reduceEq, eq_self, true_and, and_true, false_and, and_false, if_true, if_false]; rw [e142]) (by simp only [zup_at, Nat.reduceEqDiff, Int.reduceEq, eq_self, true_and, and_true, false_and, and_false, if_true, if_false]; rw [e142]) (by simp only [zup_at, Nat.reduceEqDiff, Int.reduceEq, eq_self, true_and, and_true, false_and, and_false, if_true, if_false]; rw [e142]) hP1 ?_ (zku_n _ _ (by decide))
          unfold MC MP
          simp only [zup_at, Nat.reduceEqDiff, Int.reduceEq, eq_self, true_and, and_true, false_and, and_false, if_true, if_false]
          simp only [e142, n1 18 (by decide), n1 40 (by decide), n1 41 (by decide), n1 45 (by decide), n1 46 (by decide), n1 47 (by decide), n1 48 (by decide), n1 49 (by decide), n1 50 (by decide), n1 51 (by decide), n1 229 (by decide), n1 234 (by decide), n1 235 (by decide), n1 236 (by decide), n1 237 (by decide), n1 238 (by decide), n1 239 (by decide), n1 240 (by decide)]
          refine ⟨hC.1, hC.2.1, fun t q0 q1 => ?_, hC.2.2.2⟩
          have hmt := mc_t hC q0 q1
          refine ⟨?_, hmt.2.1, fun i i0 i1 => ?_⟩
          · rw [n42]
            split
            · rfl
            · exact hmt.1
          · rcases row t i q0 q1 i0 i1 with ⟨r1, r2, r3⟩ | ⟨r1, r2⟩
            · rw [r3, if_pos ⟨r1, r2⟩]
            · rw [r2, if_neg]
              · exact hmt.2.2 i i0 r1
              · rintro ⟨w1, w2⟩
                rw [w1] at r1
                omega
      · refine z280 hL ?_
        refine c252 hL (by omega) hcn.1 ⟨by omega, by omega⟩ ha (zaI_of ⟨zin_zb _, fun _ => ?_, fun q => by rw [zb_0, decide_eq_false_iff_not] at q; omega⟩)
        refine c195F hL (by omega) t0 (zaI_of ⟨zin_0, fun q => absurd rfl q, fun _ => ?_⟩)
        refine c249 hL hM0 hW (by omega) hb (zaI_of ⟨zin_zb _, fun _ => ?_, fun q => by rw [zb_0, decide_eq_false_iff_not] at q; omega⟩)
        refine c195F hL (by omega) t0 (zaI_of ⟨zin_0, fun _ => ?_, fun q => absurd rfl q⟩)
        exact c302 hL hM0 hW hP hC0 (by omega) g0 g1 (zaI_of ⟨⟨by omega, by omega⟩, ⟨by omega, by omega⟩, fun q => absurd q e1, fun _ => fin_w hG hI (fc_rfl J) f0 rfl t0 _ x⟩)
    · exact bad2 h0 h1 hc
  · exact bad hc
