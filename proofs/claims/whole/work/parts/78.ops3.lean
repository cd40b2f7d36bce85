/-! OPERATIONS that change the plan: evening, days, hold, shut, train, put, clear, job -/
theorem op20 {G : zJ → zK → Prop} (hG : GOk G) : ∀ a b : Int, zin a → zin b → OpW (Inv G) 331 5 151 219 zin [zi a, zi b] := by
  intro a b ha hb
  intro L xs D D2 J K hL hD hD2 hI; obtain ⟨⟨hW, hT, hP, hM, hC, hTp, hF, hIm⟩, hg⟩ := id hI; have hE := eqs_rfl J; have hn := lw_n hW; have hpn := pw_n hP
  obtain ⟨D, rfl⟩ : ∃ d, D = d + 1 := ⟨D - 1, by omega⟩
  obtain ⟨D2, rfl⟩ : ∃ d, D2 = d + 1 := ⟨D2 - 1, by omega⟩
  have bad : ¬ (0 ≤ a ∧ a < J 18 0 6 ∧ 0 ≤ b ∧ b ≤ 1439) → zCall L xs (D2 + 1) 219 [zr 142, zi a, zi b] J K fun r2 e2 J2 K2 => (∃ v2, r2 = .inl (some (zi v2)) ∧ zin v2) ∧ e2 = 0 ∧ J2 142 0 0 = 1 ∧ Inv G J2 K2 := by
    intro hc
    have hM0 := ml_fm hM (fm_t J 0)
    have t0 : zup J 142 0 0 0 142 0 0 = 0 := zup_eq _ _ _ _ _
    have fin := fin_x hG hI (fc_rfl J) (fm_t2 J 0 1) rfl (zup_eq _ _ _ _ _) 0 zin_0
    refine z219 hL ?_
    refine c249 hL hM0 hW (by omega) ha (zaI_of ⟨zin_zb _, fun q => ?_, fun q => ?_⟩)
    · exact c195T hL (by omega) t0 (by decide) (zaI_of ⟨zin_1, fun q => absurd q (by decide), fun _ => fin⟩)
    · refine c240 hL (by omega) hb zin_0 ⟨by omega, by omega⟩ (zaI_of ⟨zin_zb _, fun q2 => ?_, fun q2 => ?_⟩)
      · rw [zb_1, decide_eq_true_iff] at q q2
        omega
      · exact c195T hL (by omega) t0 (by decide) (zaI_of ⟨zin_1, fun q => absurd q (by decide), fun _ => fin⟩)
  refine z151 hL ?_
  refine c167 hL hE hW (by omega) ha (fun h0 h1 => zaV_of ?_) fun hc => zaV_ex (Or.inr ⟨0, 1, rfl, rfl, zonb_ok (by decide +kernel), by decide, by decide, ?_⟩)
  · refine ⟨hb, fun _ => ⟨by omega, Or.inr ⟨0, 1, rfl, rfl, zonb_ok (by decide +kernel), by decide, by decide, ?_⟩⟩, fun g0 => ⟨hb, ⟨by omega, by omega⟩, fun g1 => ?_, fun _ => ⟨by omega, Or.inr ⟨0, 1, rfl, rfl, zonb_ok (by decide +kernel), by decide, by decide, ?_⟩⟩⟩⟩
    · exact bad (by omega)
    · have he := pw_e hP h0 (by omega)
      refine ⟨by omega, by omega, by omega, by omega, Or.inl ⟨_, rfl, rfl, ⟨by omega, by omega⟩, fun x => ?_⟩⟩
      have n1 : ∀ c, c ≠ 51 → zup J 51 0 a b c = J c := fun c hc => zup_ne _ _ _ _ hc
      have hP1 : PW (zup J 51 0 a b) := by
        unfold PW
        simp only [n1 18 (by decide), n1 40 (by decide), n1 41 (by decide), n1 42 (by decide), n1 43 (by decide), n1 44 (by decide), n1 45 (by decide), n1 46 (by decide), n1 47 (by decide), n1 48 (by decide), n1 49 (by decide), n1 50 (by decide), way_eq (n1 19 (by decide)) (n1 20 (by decide))]
        refine ⟨hP.1, hP.2.1, hP.2.2.1, hP.2.2.2.1, hP.2.2.2.2.1, hP.2.2.2.2.2.1, hP.2.2.2.2.2.2.1, hP.2.2.2.2.2.2.2.1, fun k k0 k1 => ?_⟩
        have hk := pw_e hP k0 k1
        rw [zup_at]
        split <;> omega
      have hM1 : ML J (zup (zup J 51 0 a b) 142 0 0 0) := ml_fm (ml_eq hM (n1 _ (by decide)) (n1 _ (by decide)) (n1 _ (by decide)) (n1 _ (by decide)) (n1 _ (by decide))) (fm_t _ 0)
      have t0 : zup (zup J 51 0 a b) 142 0 0 0 142 0 0 = 0 := zup_eq _ _ _ _ _
      have fin : Inv G (zup (zup (zup J 51 0 a b) 142 0 0 0) 238 0 a b) (zku K 561 0 x) := by
        refine inv_pg hG hI (J1 := zup J 51 0 a b) (fun c q1 q2 => n1 c (by omega)) (by rw [n1 _ (by decide)]) (by rw [n1 _ (by decide)]) (fun c q => by rw [zup_ne _ _ _ _ (by omega), zup_ne _ _ _ _ (by omega)]) (fun c q1 q2 => by rw [zup_ne _ _ _ _ (by omega), zup_ne _ _ _ _ (by omega), n1 c (by omega)]) (by simp only [zup_at, Nat.reduceEqDiff, Int.reduceEq, eq_self, true_and, and_true, false_and, and_false, if_true, if_false]) (by simp only [zup_at, Nat.reduceEqDiff, Int.reduceEq, eq_self, true_and, and_true, false_and, and_false, if_true, if_false]) (by simp only [zup_at, Nat.reduceEqDiff, Int.reduceEq, eq_self, true_and, and_true, false_and, and_false, if_true, if_false]) (by simp only [zup_at, Nat.reduceEqDiff, Int.reduceEq, eq_self, true_and, and_true, false_and, and_false, if_true, if_false]) hP1 ?_ (zku_n _ _ (by decide))
        unfold MC MP
        simp only [zup_at, Nat.reduceEqDiff, Int.reduceEq, eq_self, true_and, and_true, false_and, and_false, if_true, if_false]
        refine ⟨hC.1, hC.2.1, hC.2.2.1, hC.2.2.2.1, fun k k0 k1 => ⟨?_, (mc_k hC k0 k1).2⟩, hC.2.2.2.2.2⟩
        rw [(mc_k hC k0 k1).1]
      refine z219 hL ?_
      refine c249 hL hM1 hW (by omega) ha (zaI_of ⟨zin_zb _, fun q => by rw [zb_0, decide_eq_false_iff_not] at q; omega, fun _ => ?_⟩)
      refine c240 hL (by omega) hb zin_0 ⟨by omega, by omega⟩ (zaI_of ⟨zin_zb _, fun _ => ?_, fun q => by rw [zb_0, decide_eq_false_iff_not] at q; omega⟩)
      refine c195F hL (by omega) t0 (zaI_of ⟨zin_0, fun _ => ?_, fun q => absurd rfl q⟩)
      refine ⟨by omega, by omega, by omega, by omega, ?_⟩
      have hmk : zup (zup J 51 0 a b) 142 0 0 0 238 0 a = J 51 0 a := by
        simp only [zup_at, Nat.reduceEqDiff, Int.reduceEq, eq_self, true_and, and_true, false_and, and_false, if_true, if_false]
        exact (mc_k hC h0 h1).1
      rw [hmk]
      exact ⟨rfl, rfl, by simp only [zup_at, Nat.reduceEqDiff, Int.reduceEq, eq_self, true_and, and_true, false_and, and_false, if_true, if_false], zku_o K x, fin⟩
    · exact bad (by omega)
  · exact bad (by omega)
theorem op36 {G : zJ → zK → Prop} (hG : GOk G) : ∀ a b : Int, zin a → zin b → OpW (Inv G) 328 5 148 214 zin [zi a, zi b] := by
  intro a b ha hb
  intro L xs D D2 J K hL hD hD2 hI; obtain ⟨⟨hW, hT, hP, hM, hC, hTp, hF, hIm⟩, hg⟩ := id hI; have hE := eqs_rfl J; have hn := lw_n hW; have hpn := pw_n hP
  obtain ⟨D, rfl⟩ : ∃ d, D = d + 1 := ⟨D - 1, by omega⟩
  obtain ⟨D2, rfl⟩ : ∃ d, D2 = d + 1 := ⟨D2 - 1, by omega⟩
  have bad : ¬ (0 ≤ a ∧ a < J 18 0 6 ∧ 0 ≤ b ∧ b ≤ 127) → zCall L xs (D2 + 1) 214 [zr 142, zi a, zi b] J K fun r2 e2 J2 K2 => (∃ v2, r2 = .inl (some (zi v2)) ∧ zin v2) ∧ e2 = 0 ∧ J2 142 0 0 = 1 ∧ Inv G J2 K2 := by
    intro hc
    have hM0 := ml_fm hM (fm_t J 0)
    have t0 : zup J 142 0 0 0 142 0 0 = 0 := zup_eq _ _ _ _ _
    have fin := fin_x hG hI (fc_rfl J) (fm_t2 J 0 1) rfl (zup_eq _ _ _ _ _) 0 zin_0
    refine z214 hL ?_
    refine c249 hL hM0 hW (by omega) ha (zaI_of ⟨zin_zb _, fun q => ?_, fun q => ?_⟩)
    · exact c195T hL (by omega) t0 (by decide) (zaI_of ⟨zin_1, fun q => absurd q (by decide), fun _ => fin⟩)
    · refine c240 hL (by omega) hb zin_0 ⟨by omega, by omega⟩ (zaI_of ⟨zin_zb _, fun q2 => ?_, fun q2 => ?_⟩)
      · rw [zb_1, decide_eq_true_iff] at q q2
        omega
      · exact c195T hL (by omega) t0 (by decide) (zaI_of ⟨zin_1, fun q => absurd q (by decide), fun _ => fin⟩)
  refine z148 hL ?_
  refine c167 hL hE hW (by omega) ha (fun h0 h1 => zaV_of ?_) fun hc => zaV_ex (Or.inr ⟨0, 1, rfl, rfl, zonb_ok (by decide +kernel), by decide, by decide, ?_⟩)
  · refine ⟨hb, fun _ => ⟨by omega, Or.inr ⟨0, 1, rfl, rfl, zonb_ok (by decide +kernel), by decide, by decide, ?_⟩⟩, fun g0 => ⟨hb, ⟨by omega, by omega⟩, fun g1 => ?_, fun _ => ⟨by omega, Or.inr ⟨0, 1, rfl, rfl, zonb_ok (by decide +kernel), by decide, by decide, ?_⟩⟩⟩⟩
    · exact bad (by omega)
    · have he := pw_e hP h0 (by omega)
      refine ⟨by omega, by omega, by omega, by omega, Or.inl ⟨_, rfl, rfl, ⟨by omega, by omega⟩, fun x => ?_⟩⟩
      have n1 : ∀ c, c ≠ 50 → zup J 50 0 a b c = J c := fun c hc => zup_ne _ _ _ _ hc
      have hP1 : PW (zup J 50 0 a b) := by
        unfold PW
        simp only [n1 18 (by decide), n1 40 (by decide), n1 41 (by decide), n1 42 (by decide), n1 43 (by decide), n1 44 (by decide), n1 45 (by decide), n1 46 (by decide), n1 47 (by decide), n1 48 (by decide), n1 49 (by decide), n1 51 (by decide), way_eq (n1 19 (by decide)) (n1 20 (by decide))]
        refine ⟨hP.1, hP.2.1, hP.2.2.1, hP.2.2.2.1, hP.2.2.2.2.1, hP.2.2.2.2.2.1, hP.2.2.2.2.2.2.1, hP.2.2.2.2.2.2.2.1, fun k k0 k1 => ?_⟩
        have hk := pw_e hP k0 k1
        rw [zup_at]
        split <;> omega
      have hM1 : ML J (zup (zup J 50 0 a b) 142 0 0 0) := ml_fm (ml_eq hM (n1 _ (by decide)) (n1 _ (by decide)) (n1 _ (by decide)) (n1 _ (by decide)) (n1 _ (by decide))) (fm_t _ 0)
      have t0 : zup (zup J 50 0 a b) 142 0 0 0 142 0 0 = 0 := zup_eq _ _ _ _ _
      have fin : Inv G (zup (zup (zup J 50 0 a b) 142 0 0 0) 239 0 a b) (zku K 561 0 x) := by
        refine inv_pg hG hI (J1 := zup J 50 0 a b) (fun c q1 q2 => n1 c (by omega)) (by rw [n1 _ (by decide)]) (by rw [n1 _ (by decide)]) (fun c q => by rw [zup_ne _ _ _ _ (by omega), zup_ne _ _ _ _ (by omega)]) (fun c q1 q2 => by rw [zup_ne _ _ _ _ (by omega), zup_ne _ _ _ _ (by omega), n1 c (by omega)]) (by simp only [zup_at, Nat.reduceEqDiff, Int.reduceEq, eq_self, true_and, and_true, false_and, and_false, if_true, if_false]) (by simp only [zup_at, Nat.reduceEqDiff, Int.reduceEq, eq_self, true_and, and_true, false_and, and_false, if_true, if_false]) (by simp only [zup_at, Nat.reduceEqDiff, Int.reduceEq, eq_self, true_and, and_true, false_and, and_false, if_true, if_false]) (by simp only [zup_at, Nat.reduceEqDiff, Int.reduceEq, eq_self, true_and, and_true, false_and, and_false, if_true, if_false]) hP1 ?_ (zku_n _ _ (by decide))
        unfold MC MP
        simp only [zup_at, Nat.reduceEqDiff, Int.reduceEq, eq_self, true_and, and_true, false_and, and_false, if_true, if_false]
        refine ⟨hC.1, hC.2.1, hC.2.2.1, hC.2.2.2.1, fun k k0 k1 => ⟨(mc_k hC k0 k1).1, ?_⟩, hC.2.2.2.2.2⟩
        rw [(mc_k hC k0 k1).2]
      refine z214 hL ?_
      refine c249 hL hM1 hW (by omega) ha (zaI_of ⟨zin_zb _, fun q => by rw [zb_0, decide_eq_false_iff_not] at q; omega, fun _ => ?_⟩)
      refine c240 hL (by omega) hb zin_0 ⟨by omega, by omega⟩ (zaI_of ⟨zin_zb _, fun _ => ?_, fun q => by rw [zb_0, decide_eq_false_iff_not] at q; omega⟩)
      refine c195F hL (by omega) t0 (zaI_of ⟨zin_0, fun _ => ?_, fun q => absurd rfl q⟩)
      refine ⟨by omega, by omega, by omega, by omega, ?_⟩
      have hmk : zup (zup J 50 0 a b) 142 0 0 0 239 0 a = J 50 0 a := by
        simp only [zup_at, Nat.reduceEqDiff, Int.reduceEq, eq_self, true_and, and_true, false_and, and_false, if_true, if_false]
        exact (mc_k hC h0 h1).2
      rw [hmk]
      exact ⟨rfl, rfl, by simp only [zup_at, Nat.reduceEqDiff, Int.reduceEq, eq_self, true_and, and_true, false_and, and_false, if_true, if_false], zku_o K x, fin⟩
    · exact bad (by omega)
  · exact bad (by omega)
/-- the model's test of a fork: well, or what is thrown -/
theorem c196 {L : Nat} {xs : Nat → Int32} (hL : L ≤ 3072) {D : Nat} {J : zJ} {K : zK} {Q : zR → Nat → zJ → zK → Prop} {s : zJ} (hM : ML s J) (h : LW s) {x1 : Int} (hD : 5 ≤ D) (ha : zin x1) (t0 : J 142 0 0 = 0) (hQ : 0 ≤ x1 → x1 < s 18 0 0 → isF s x1 = true → Q (.inl (some (zi (0)))) 0 J K) (hX : ¬ (0 ≤ x1 ∧ x1 < s 18 0 0) → Q (.inl (some (zi (1)))) 0 (zup J 142 0 0 1) K) (hX2 : 0 ≤ x1 → x1 < s 18 0 0 → isF s x1 = false → Q (.inl (some (zi (1)))) 0 (zup J 142 0 0 2) K) : zCall L xs D 196 [zr 142, zi x1] J K Q := by
  obtain ⟨D, rfl⟩ : ∃ d, D = d + 1 := ⟨D - 1, by omega⟩
  refine z196 hL ?_
  refine c248 hL hM h (by omega) ha (zaI_of ⟨zin_zb _, fun q => ?_, fun q => ?_⟩)
  · rw [zb_1, decide_eq_true_iff] at q
    refine c195F hL (by omega) t0 (zaI_of ⟨zin_0, fun q => absurd rfl q, fun _ => ?_⟩)
    refine c245 hL hM h (by omega) q.1 q.2 (zaI_of ⟨zin_zb _, fun e => ?_, fun e => ?_⟩)
    · exact c195F hL (by omega) t0 (zaI_of ⟨zin_0, fun _ => ⟨Or.inl rfl, hQ q.1 q.2 (zb_1.mp e)⟩, fun q => absurd rfl q⟩)
    · exact c195T hL (by omega) t0 (by decide) (zaI_of ⟨zin_1, fun q => absurd q (by decide), fun _ => ⟨Or.inr rfl, hX2 q.1 q.2 (zb_0.mp e)⟩⟩)
  · rw [zb_0, decide_eq_false_iff_not] at q
    exact c195T hL (by omega) t0 (by decide) (zaI_of ⟨zin_1, fun _ => ⟨Or.inr rfl, hX q⟩, fun q => absurd q (by decide)⟩)
theorem op21 {G : zJ → zK → Prop} (hG : GOk G) : ∀ a b : Int, zin a → zin b → OpW (Inv G) 334 5 158 238 zin [zi a, zi b] := by
  intro a b ha hb
  intro L xs D D2 J K hL hD hD2 hI; obtain ⟨⟨hW, hT, hP, hM, hC, hTp, hF, hIm⟩, hg⟩ := id hI; have hE := eqs_rfl J; have hn := lw_n hW; have hpn := pw_n hP
  obtain ⟨D, rfl⟩ : ∃ d, D = d + 1 := ⟨D - 1, by omega⟩
  obtain ⟨D2, rfl⟩ : ∃ d, D2 = d + 1 := ⟨D2 - 1, by omega⟩
  have hM0 := ml_fm hM (fm_t J 0)
  have t0 : zup J 142 0 0 0 142 0 0 = 0 := zup_eq _ _ _ _ _
  have bad : ¬ (0 ≤ a ∧ a < J 18 0 0) → zCall L xs (D2 + 1) 238 [zr 142, zi a, zi b] J K fun r2 e2 J2 K2 => (∃ v2, r2 = .inl (some (zi v2)) ∧ zin v2) ∧ e2 = 0 ∧ J2 142 0 0 = 1 ∧ Inv G J2 K2 := by
    intro hc
    have fin := fin_x hG hI (fc_rfl J) (fm_t2 J 0 1) rfl (zup_eq _ _ _ _ _) 0 zin_0
    refine z238 hL ?_
    exact c196 hL hM0 hW (by omega) ha t0 (fun h0 h1 _ => absurd ⟨h0, h1⟩ hc) (fun _ => zaI_of ⟨zin_1, fun _ => fin, fun q => absurd q (by decide)⟩) (fun h0 h1 _ => absurd ⟨h0, h1⟩ hc)
  have bad2 : 0 ≤ a → a < J 18 0 0 → (isF J a = true → ¬ (0 ≤ b ∧ b ≤ 60)) → zCall L xs (D2 + 1) 238 [zr 142, zi a, zi b] J K fun r2 e2 J2 K2 => (∃ v2, r2 = .inl (some (zi v2)) ∧ zin v2) ∧ e2 = 0 ∧ J2 142 0 0 = 2 ∧ Inv G J2 K2 := by
    intro h0 h1 hc
    have fin := fin_x hG hI (fc_rfl J) (fm_t2 J 0 2) rfl (zup_eq _ _ _ _ _) 0 zin_0
    refine z238 hL ?_
    refine c196 hL hM0 hW (by omega) ha t0 (fun _ _ hf => zaI_of ⟨zin_0, fun q => absurd rfl q, fun _ => ?_⟩) (fun hq => absurd ⟨h0, h1⟩ hq) (fun _ _ _ => zaI_of ⟨zin_1, fun _ => fin, fun q => absurd q (by decide)⟩)
    have := hc hf
    refine c240 hL (by omega) hb zin_0 ⟨by omega, by omega⟩ (zaI_of ⟨zin_zb _, fun q => by rw [zb_1, decide_eq_true_iff] at q; omega, fun _ => ?_⟩)
    exact c195T hL (by omega) t0 (by decide) (zaI_of ⟨zin_1, fun q => absurd q (by decide), fun _ => fin⟩)
  refine z158 hL ?_
  refine c164 hL hE hW (by omega) ha (fun h0 h1 hf => zaV_of ?_) (fun hc => zaV_ex (Or.inr ⟨1, 1, rfl, rfl, zonb_ok (by decide +kernel), by decide, by decide, ?_⟩)) (fun h0 h1 hf => zaV_ex (Or.inr ⟨0, 2, rfl, rfl, zonb_ok (by decide +kernel), by decide, by decide, ?_⟩))
  · refine ⟨hb, fun _ => ⟨by omega, Or.inr ⟨0, 2, rfl, rfl, zonb_ok (by decide +kernel), by decide, by decide, ?_⟩⟩, fun g0 => ⟨hb, ⟨by omega, by omega⟩, fun g1 => ?_, fun _ => ⟨by omega, Or.inr ⟨0, 2, rfl, rfl, zonb_ok (by decide +kernel), by decide, by decide, ?_⟩⟩⟩⟩
    · exact bad2 h0 h1 (fun _ => by omega)
    · have he := pw_w hP h0 (by omega)
      refine ⟨by omega, by omega, by omega, by omega, Or.inl ⟨_, rfl, rfl, ⟨by omega, by omega⟩, fun x => ?_⟩⟩
      have n1 : ∀ c, c ≠ 49 → zup J 49 0 a b c = J c := fun c hc => zup_ne _ _ _ _ hc
      have hP1 : PW (zup J 49 0 a b) := by
        unfold PW
        simp only [n1 18 (by decide), n1 40 (by decide), n1 41 (by decide), n1 42 (by decide), n1 43 (by decide), n1 44 (by decide), n1 45 (by decide), n1 46 (by decide), n1 47 (by decide), n1 48 (by decide), n1 50 (by decide), n1 51 (by decide), way_eq (n1 19 (by decide)) (n1 20 (by decide))]
        refine ⟨hP.1, hP.2.1, hP.2.2.1, hP.2.2.2.1, hP.2.2.2.2.1, hP.2.2.2.2.2.1, hP.2.2.2.2.2.2.1, fun k k0 k1 => ?_, hP.2.2.2.2.2.2.2.2⟩
        have hk := pw_w hP k0 k1
        rw [zup_at]
        split <;> omega
      have hM1 : ML J (zup (zup J 49 0 a b) 142 0 0 0) := ml_fm (ml_eq hM (n1 _ (by decide)) (n1 _ (by decide)) (n1 _ (by decide)) (n1 _ (by decide)) (n1 _ (by decide))) (fm_t _ 0)
      have t0 : zup (zup J 49 0 a b) 142 0 0 0 142 0 0 = 0 := zup_eq _ _ _ _ _
      have fin : Inv G (zup (zup (zup J 49 0 a b) 142 0 0 0) 237 0 a b) (zku K 561 0 x) := by
        refine inv_pg hG hI (J1 := zup J 49 0 a b) (fun c q1 q2 => n1 c (by omega)) (by rw [n1 _ (by decide)]) (by rw [n1 _ (by decide)]) (fun c q => by rw [zup_ne _ _ _ _ (by omega), zup_ne _ _ _ _ (by omega)]) (fun c q1 q2 => by rw [zup_ne _ _ _ _ (by omega), zup_ne _ _ _ _ (by omega), n1 c (by omega)]) (by simp only [zup_at, Nat.reduceEqDiff, Int.reduceEq, eq_self, true_and, and_true, false_and, and_false, if_true, if_false]) (by simp only [zup_at, Nat.reduceEqDiff, Int.reduceEq, eq_self, true_and, and_true, false_and, and_false, if_true, if_false]) (by simp only [zup_at, Nat.reduceEqDiff, Int.reduceEq, eq_self, true_and, and_true, false_and, and_false, if_true, if_false]) (by simp only [zup_at, Nat.reduceEqDiff, Int.reduceEq, eq_self, true_and, and_true, false_and, and_false, if_true, if_false]) hP1 ?_ (zku_n _ _ (by decide))
        unfold MC MP
        simp only [zup_at, Nat.reduceEqDiff, Int.reduceEq, eq_self, true_and, and_true, false_and, and_false, if_true, if_false]
        refine ⟨hC.1, hC.2.1, hC.2.2.1, fun k k0 k1 => ⟨(mc_p hC k0 k1).1, ?_⟩, hC.2.2.2.2.1, hC.2.2.2.2.2⟩
        rw [(mc_p hC k0 k1).2]
      refine z238 hL ?_
      refine c196 hL hM1 hW (by omega) ha t0 (fun _ _ _ => zaI_of ⟨zin_0, fun q => absurd rfl q, fun _ => ?_⟩) (fun hq => absurd ⟨h0, h1⟩ hq) (fun _ _ e => by rw [hf] at e; cases e)
      refine c240 hL (by omega) hb zin_0 ⟨by omega, by omega⟩ (zaI_of ⟨zin_zb _, fun _ => ?_, fun q => by rw [zb_0, decide_eq_false_iff_not] at q; omega⟩)
      refine c195F hL (by omega) t0 (zaI_of ⟨zin_0, fun _ => ?_, fun q => absurd rfl q⟩)
      refine ⟨by omega, by omega, by omega, by omega, ?_⟩
      have hmk : zup (zup J 49 0 a b) 142 0 0 0 237 0 a = J 49 0 a := by
        simp only [zup_at, Nat.reduceEqDiff, Int.reduceEq, eq_self, true_and, and_true, false_and, and_false, if_true, if_false]
        exact (mc_p hC h0 (by omega)).2
      rw [hmk]
      exact ⟨rfl, rfl, by simp only [zup_at, Nat.reduceEqDiff, Int.reduceEq, eq_self, true_and, and_true, false_and, and_false, if_true, if_false], zku_o K x, fin⟩
    · exact bad2 h0 h1 (fun _ => by omega)
  · exact bad hc
  · exact bad2 h0 h1 (fun e => by rw [hf] at e; cases e)
theorem c35 {L : Nat} {xs : Nat → Int32} (hL : L ≤ 3072) {D : Nat} {J : zJ} {K : zK} {Q : zR → Nat → zJ → zK → Prop} (hD : 1 ≤ D) (h : 0 ≤ J 105 0 5 ∧ J 105 0 5 ≤ 2) (hQ : Q (.inl none) 0 (zup J 105 0 5 (if 1 < J 105 0 5 then 1 else J 105 0 5)) K) : zCall L xs D 35 [zr 105] J K Q := by
  obtain ⟨D, rfl⟩ : ∃ d, D = d + 1 := ⟨D - 1, by omega⟩
  exact z35 hL ⟨⟨by omega, by omega⟩, ⟨by omega, by omega⟩, by omega, hQ⟩
theorem op19 {G : zJ → zK → Prop} (hG : GOk G) : ∀ a b : Int, zin a → (b = 0 ∨ b = 1) → OpW (Inv G) 344 5 180 291 (fun v => v = 0 ∨ v = 1) [zi a, zi b] := by
  intro a b ha hb
  intro L xs D D2 J K hL hD hD2 hI; obtain ⟨⟨hW, hT, hP, hM, hC, hTp, hF, hIm⟩, hg⟩ := id hI; have hE := eqs_rfl J; have hn := lw_n hW; have hpn := pw_n hP
  obtain ⟨D, rfl⟩ : ∃ d, D = d + 1 := ⟨D - 1, by omega⟩
  obtain ⟨D2, rfl⟩ : ∃ d, D2 = d + 1 := ⟨D2 - 1, by omega⟩
  have hM0 := ml_fm hM (fm_t J 0)
  have t0 : zup J 142 0 0 0 142 0 0 = 0 := zup_eq _ _ _ _ _
  have zb2 : zin b := by rcases hb with q | q <;> rw [q] <;> first | exact zin_0 | exact zin_1
  have bad : ¬ (0 ≤ a ∧ a < J 18 0 0) → zCall L xs (D2 + 1) 291 [zr 142, zi a, zi b] J K fun r2 e2 J2 K2 => (∃ v2, r2 = .inl (some (zi v2)) ∧ zin v2) ∧ e2 = 0 ∧ J2 142 0 0 = 1 ∧ Inv G J2 K2 := by
    intro hc
    have fin := fin_x hG hI (fc_rfl J) (fm_t2 J 0 1) rfl (zup_eq _ _ _ _ _) 0 zin_0
    refine z291 hL ?_
    exact c196 hL hM0 hW (by omega) ha t0 (fun h0 h1 _ => absurd ⟨h0, h1⟩ hc) (fun _ => zaI_of ⟨zin_1, fun q => absurd q (by decide), fun _ => ⟨Or.inl rfl, fin⟩⟩) (fun h0 h1 _ => absurd ⟨h0, h1⟩ hc)
  have bad2 : 0 ≤ a → a < J 18 0 0 → isF J a = false → zCall L xs (D2 + 1) 291 [zr 142, zi a, zi b] J K fun r2 e2 J2 K2 => (∃ v2, r2 = .inl (some (zi v2)) ∧ zin v2) ∧ e2 = 0 ∧ J2 142 0 0 = 2 ∧ Inv G J2 K2 := by
    intro h0 h1 hc
    have fin := fin_x hG hI (fc_rfl J) (fm_t2 J 0 2) rfl (zup_eq _ _ _ _ _) 0 zin_0
    refine z291 hL ?_
    exact c196 hL hM0 hW (by omega) ha t0 (fun _ _ hf => by rw [hc] at hf; cases hf) (fun hq => absurd ⟨h0, h1⟩ hq) (fun _ _ _ => zaI_of ⟨zin_1, fun q => absurd q (by decide), fun _ => ⟨Or.inl rfl, fin⟩⟩)
  have hg5 := hG.2.2.2 J K hg
  -- the model, over a class memory J1 whose fork a is shut if b
  have hmod : ∀ (J1 : zJ) (v : Int), 0 ≤ a → a < J 18 0 0 → isF J a = true → v = zb (bt (J 40 0 10) a) → (∀ c, c < 40 ∨ 40 < c → c ≠ 105 → J1 c = J c) → (∀ k, k ≠ 10 → J1 40 0 k = J 40 0 k) → 0 ≤ J1 40 0 10 → J1 40 0 10 < 4096 → (∀ p, 0 ≤ p → bt (J1 40 0 10) p = if p = a then decide (b = 1) else bt (J 40 0 10) p) → (∀ J2 K2, (∀ c, c < 142 → J2 c = J1 c) → K2 112 = K 112 → G J2 K2) → ∀ x, zCall L xs (D2 + 1) 291 [zr 142, zi a, zi b] J1 (zku K 561 0 x) fun r2 e2 J2 K2 => r2 = .inl (some (zi v)) ∧ e2 = 0 ∧ J2 142 0 0 = 0 ∧ K2 561 0 = x ∧ Inv G J2 K2 := by
    intro J1 v h0 h1 hf hv n1 n40 p0 p1 hbt hgg x
    have hP1 : PW J1 := by
      unfold PW
      simp only [n1 18 (by decide) (by decide), n1 41 (by decide) (by decide), n1 42 (by decide) (by decide), n1 43 (by decide) (by decide), n1 44 (by decide) (by decide), n1 45 (by decide) (by decide), n1 46 (by decide) (by decide), n1 47 (by decide) (by decide), n1 48 (by decide) (by decide), n1 49 (by decide) (by decide), n1 50 (by decide) (by decide), n1 51 (by decide) (by decide), n40 0 (by decide), n40 5 (by decide), way_eq (n1 19 (by decide) (by decide)) (n1 20 (by decide) (by decide))]
      exact ⟨⟨hpn.1, hpn.2.1, hpn.2.2.1, hpn.2.2.2.1, p0, p1⟩, hP.2⟩
    have hM1 : ML J (zup J1 142 0 0 0) := ml_fm (ml_eq hM (n1 _ (by decide) (by decide)) (n1 _ (by decide) (by decide)) (n1 _ (by decide) (by decide)) (n1 _ (by decide) (by decide)) (n1 _ (by decide) (by decide))) (fm_t _ 0)
    have e142 := n1 142 (by decide) (by decide)
    have t1 : zup J1 142 0 0 0 142 0 0 = 0 := zup_eq _ _ _ _ _
    have fin : Inv G (zup (zup J1 142 0 0 0) 236 0 a b) (zku K 561 0 x) := by
      refine inv_p hI (J1 := J1) (fun c q1 q2 => n1 c (by omega) q2) (fun c q => by rw [zup_ne _ _ _ _ (by omega), zup_ne _ _ _ _ (by omega)]) (fun c q1 q2 => by rw [zup_ne _ _ _ _ (by omega), zup_ne _ _ _ _ (by omega), n1 c (by omega) (by omega)]) (by simp only [zup_at, Nat.reduceEqDiff, Int.reduceEq, eq_self, true_and, and_true, false_and, and_false, if_true, if_false]; rw [e142]) (by simp only [zup_at, Nat.reduceEqDiff, Int.reduceEq, eq_self, true_and, and_true, false_and, and_false, if_true, if_false]; rw [e142]) (by simp only [zup_at, Nat.reduceEqDiff, Int.reduceEq, eq_self, true_and, and_true, false_and, and_false, if_true, if_false]; rw [e142]) (by simp only [zup_at, Nat.reduceEqDiff, Int.reduceEq, eq_self, true_and, and_true, false_and, and_false, if_true, if_false]; rw [e142]) hP1 ?_ (hgg _ _ (fun c q => by rw [zup_ne _ _ _ _ (by omega), zup_ne _ _ _ _ (by omega)]) (zku_n _ _ (by decide)))
      unfold MC MP
      simp only [zup_at, Nat.reduceEqDiff, Int.reduceEq, eq_self, true_and, and_true, false_and, and_false, if_true, if_false]
      simp only [e142, n1 18 (by decide) (by decide), n1 41 (by decide) (by decide), n1 42 (by decide) (by decide), n1 43 (by decide) (by decide), n1 45 (by decide) (by decide), n1 46 (by decide) (by decide), n1 47 (by decide) (by decide), n1 48 (by decide) (by decide), n1 49 (by decide) (by decide), n1 50 (by decide) (by decide), n1 51 (by decide) (by decide), n1 229 (by decide) (by decide), n1 234 (by decide) (by decide), n1 235 (by decide) (by decide), n1 236 (by decide) (by decide), n1 237 (by decide) (by decide), n1 238 (by decide) (by decide), n1 239 (by decide) (by decide), n1 240 (by decide) (by decide), n40 0 (by decide), n40 5 (by decide)]
      refine ⟨hC.1, hC.2.1, hC.2.2.1, fun p q0 q1 => ⟨?_, (mc_p hC q0 q1).2⟩, hC.2.2.2.2⟩
      rw [hbt p q0]
      by_cases e : p = a
      · rw [if_pos e, if_pos e]
        rcases hb with q | q <;> rw [q] <;> decide
      · rw [if_neg e, if_neg e]
        exact (mc_p hC q0 q1).1
    have tt : zup (zup J1 142 0 0 0) 236 0 a b 142 0 0 = 0 := by simp only [zup_at, Nat.reduceEqDiff, Int.reduceEq, eq_self, true_and, and_true, false_and, and_false, if_true, if_false]
    have e6 : zup J1 142 0 0 0 236 0 a = v := by
      simp only [zup_at, Nat.reduceEqDiff, Int.reduceEq, eq_self, true_and, and_true, false_and, and_false, if_true, if_false]
      rw [n1 236 (by decide) (by decide), hv]
      exact (mc_p hC h0 (by omega)).1
    have zv : zin v := by rw [hv]; exact zin_zb _
    have v01 : v = 0 ∨ v = 1 := by rw [hv]; exact zb_01 _
    have F : ∀ w, w = b → v = 0 ∨ v = 1 → (∀ u, u = v → (Sum.inl (some (zi u)) : zR) = .inl (some (zi v)) ∧ (0 : Nat) = 0 ∧ zup (zup J1 142 0 0 0) 236 0 a w 142 0 0 = 0 ∧ zku K 561 0 x 561 0 = x ∧ Inv G (zup (zup J1 142 0 0 0) 236 0 a w) (zku K 561 0 x)) := by
      intro w hw _ u hu
      rw [hw, hu]
      exact ⟨rfl, rfl, tt, zku_o K x, fin⟩
    refine z291 hL ?_
    refine c196 hL hM1 hW (by omega) ha t1 (fun _ _ _ => zaI_of ⟨zin_0, fun _ => ⟨h0, by omega, ?_⟩, fun q => absurd rfl q⟩) (fun hq => absurd ⟨h0, h1⟩ hq) (fun _ _ e => by rw [hf] at e; cases e)
    rw [e6]
    refine ⟨zv, zin_1, fun q => ⟨zb2, fun q2 => ⟨h0, by omega, Or.inl rfl, F 0 q2.symm v01 0 (by omega)⟩, fun q2 => ⟨h0, by omega, Or.inl rfl, F 1 (by omega) v01 0 (by omega)⟩⟩, fun q => ⟨zb2, fun q2 => ⟨h0, by omega, Or.inr rfl, F 0 q2.symm v01 1 (by omega)⟩, fun q2 => ⟨h0, by omega, Or.inr rfl, F 1 (by omega) v01 1 (by omega)⟩⟩⟩
  refine z180 hL ?_
  refine c164 hL hE hW (by omega) ha (fun h0 h1 hf => zaV_of ?_) (fun hc => zaV_ex (Or.inr ⟨1, 1, rfl, rfl, zonb_ok (by decide +kernel), by decide, by decide, ?_⟩)) (fun h0 h1 hf => zaV_ex (Or.inr ⟨0, 2, rfl, rfl, zonb_ok (by decide +kernel), by decide, by decide, ?_⟩))
  · refine c81 hL hE (by omega) ⟨by omega, by omega⟩ h0 (by omega) (zaI_of ⟨zin_zb _, zb2, fun q => ⟨zb_01 _, Or.inl ⟨_, rfl, rfl, zb_01 _, ?_⟩⟩, fun q => ⟨h0, by omega, ?_⟩⟩)
    · refine hmod J _ h0 h1 hf rfl (fun _ _ _ => rfl) (fun _ _ => rfl) hpn.2.2.2.2.1 hpn.2.2.2.2.2 (fun p q0 => ?_) (fun J2 K2 e2 hK => ?_)
      · by_cases e : p = a
        · rw [if_pos e, e]
          cases hbt : bt (J 40 0 10) a with
          | true => rw [hbt, zb_t] at q; simp [← q]
          | false => rw [hbt, zb_f] at q; simp [← q]
        · rw [if_neg e]
      · exact hG.1 J J2 K K2 hg (fun c _ _ => e2 c (by omega)) (by rw [e2 _ (by decide)]) (by rw [e2 _ (by decide)]) (fun t _ _ => by rw [e2 _ (by decide)]) (fun c _ _ => e2 c (by omega)) (by rw [e2 _ (by decide)]) (by rw [e2 _ (by decide)]) hK
    · have hx1 : (2 : Int) ^ a.toNat ≤ 2 ^ 11 := pw_le (by omega)
      have hx0 := pw_pos a.toNat
      rw [Int.one_mul]
      have hxr : 0 ≤ zxor (J 40 0 10) (2 ^ a.toNat) ∧ zxor (J 40 0 10) (2 ^ a.toNat) < 4096 := by
        rw [zxor_n (by omega) (by omega) (by omega) (by omega)]
        have : (J 40 0 10).toNat ^^^ ((2 : Int) ^ a.toNat).toNat < 2 ^ 12 := Nat.xor_lt_two_pow (by omega) (by omega)
        omega
      have h105 : zup J 40 0 10 (zxor (J 40 0 10) (2 ^ a.toNat)) 105 = J 105 := zup_ne _ _ _ _ (by decide)
      refine c35 hL (by omega) (by rw [h105]; exact hg5) (zaV_of ⟨zb_01 _, Or.inl ⟨_, rfl, rfl, zb_01 _, ?_⟩⟩)
      rw [h105]
      refine hmod _ _ h0 h1 hf rfl (fun c q1 q2 => ?_) (fun k hk => ?_) ?_ ?_ (fun p q0 => ?_) (fun J2 K2 e2 hK => ?_)
      · rw [zup_ne _ _ _ _ q2, zup_ne _ _ _ _ (by omega)]
      · rw [zup_ne _ _ _ _ (by decide), zup_nk _ _ hk]
      · rw [zup_ne _ _ _ _ (by decide), zup_eq]; exact hxr.1
      · rw [zup_ne _ _ _ _ (by decide), zup_eq]; exact hxr.2
      · rw [zup_ne _ _ _ _ (by decide), zup_eq, bt_xor (by omega) (by omega) (by omega) (by omega), bt_pow h0 q0]
        by_cases e : p = a
        · rw [if_pos e, e]
          cases hbt : bt (J 40 0 10) a with
          | true => rw [hbt, zb_t] at q; simp; omega
          | false => rw [hbt, zb_f] at q; simp; omega
        · rw [if_neg e]
          have : ¬ a = p := fun q => e q.symm
          simp [this]
      · refine hG.2.1 J J2 K K2 hg (fun c q1 q2 => ?_) (fun c q1 q2 => ?_) ?_ hK
        · rw [e2 c (by omega), zup_ne _ _ _ _ (by omega), zup_ne _ _ _ _ (by omega)]
        · rw [e2 c (by omega), zup_ne _ _ _ _ (by omega), zup_ne _ _ _ _ (by omega)]
        · rw [e2 _ (by decide), zup_eq]
  · exact bad hc
  · exact bad2 h0 h1 hf
