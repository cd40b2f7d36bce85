/-! THE OPERATION best -/
theorem bsg_uniq {s : zJ} {T n m : Nat} {B B' : Int} {kp kp' : Int → Int} (h1 : Bsg s T n m B kp) (h2 : Bsg s T n m B' kp') : B = B' ∧ (B ≠ -1 → ∀ j : Nat, j < n → kp j = kp' j) := by
  rcases h1 with ⟨e1, a1⟩ | ⟨v, v1, v2, v3, v4, v5, v6⟩
  · rcases h2 with ⟨e2, a2⟩ | ⟨u, u1, u2, u3, u4, u5, u6⟩
    · exact ⟨by omega, fun z => absurd e1 z⟩
    · exact absurd u2 (a1 u u1)
  · rcases h2 with ⟨e2, a2⟩ | ⟨u, u1, u2, u3, u4, u5, u6⟩
    · exact absurd v2 (a2 v v1)
    · have g1 := u6 v v1 v2
      have g2 := v6 u u1 u2
      have eB : B = B' := by omega
      have ev : v = u := by
        rcases Nat.lt_trichotomy v u with z | z | z
        · have := u5 v z v2
          omega
        · exact z
        · have := v5 u z u2
          omega
      refine ⟨eB, fun _ j hj => ?_⟩
      rw [v4 j hj, u4 j hj, ev]
theorem ml_l {s s' J : zJ} (hM : ML s J) (e : EqL s s') : ML s' J := by
  unfold ML
  rw [e 18 (by decide) (by decide), e 19 (by decide) (by decide), e 20 (by decide) (by decide), e 21 (by decide) (by decide), e 22 (by decide) (by decide), e 23 (by decide) (by decide), e 24 (by decide) (by decide), e 25 (by decide) (by decide), e 26 (by decide) (by decide), e 27 (by decide) (by decide), e 28 (by decide) (by decide), e 29 (by decide) (by decide), e 30 (by decide) (by decide), e 31 (by decide) (by decide), e 32 (by decide) (by decide)]
  exact hM
/-- nothing but the grouping's own has changed -/
theorem inv_gr {J J1 J5 : zJ} {K K1 K5 : zK} (hI : Inv Gi J K) (f1 : FrF J K J1 K1) (g1 : Gi J1 K1) (f5 : FrQ (zup J1 142 0 0 0) J5) (r5 : ∀ t : Int, 0 ≤ t → t < J 40 0 0 → J5 234 0 t = J 234 0 t ∧ ∀ i : Int, 0 ≤ i → i < J 234 0 t → J5 229 t i = J 229 t i) (hK : K5 112 = K1 112) : Inv Gi J5 K5 := by
  obtain ⟨⟨hW, hT, hP, hM, hC, hTp, hF, hIm⟩, hg⟩ := id hI
  have e5 : ∀ b : Nat, b ≠ 142 → b ≠ 229 → b ≠ 234 → b < 255 ∨ 536 < b → J5 b = J1 b := fun b x y z w => by rw [f5.1 b x y z w, zup_ne _ _ _ _ x]
  have ej : ∀ b : Nat, b ≠ 142 → b ≠ 229 → b ≠ 234 → b < 89 ∨ (116 < b ∧ b < 255) ∨ 536 < b → J5 b = J b := fun b x y z w => by rw [e5 b x y z (by omega)]; exact f1.1 b (by omega)
  have ef : ∀ k : Int, k ≠ 0 → k ≠ 37 → J5 142 0 k = J 142 0 k := fun k x y => by rw [f5.2 k y, zup_nk _ _ x, f1.1 142 (by decide)]
  have q : ∀ b : Nat, b < 89 → J5 b = J b := fun b hb => ej b (by omega) (by omega) (by omega) (by omega)
  have hP5 : PW J5 := pw_s hP (q 18 (by decide)) (q 19 (by decide)) (q 20 (by decide)) fun b y z => q b (by omega)
  have hC5 : MC J5 J5 := by
    obtain ⟨c1, c2, c3, c4, c5, c6⟩ := hC
    refine ⟨by rw [ef 15 (by decide) (by decide), q 40 (by decide)]; exact c1, by rw [ef 16 (by decide) (by decide), q 40 (by decide)]; exact c2, fun t y z => ?_, fun p y z => ?_, fun k y z => ?_, fun j y z => ?_⟩
    · rw [q 40 (by decide)] at z
      rw [q 42 (by decide), q 41 (by decide), q 43 (by decide), ej 235 (by decide) (by decide) (by decide) (by decide)]
      obtain ⟨d1, d2, d3⟩ := c3 t y z
      obtain ⟨r1, r2⟩ := r5 t y z
      exact ⟨r1.trans d1, d2, fun i w u => (r2 i w (by omega)).trans (d3 i w u)⟩
    · rw [q 40 (by decide), q 49 (by decide), ej 236 (by decide) (by decide) (by decide) (by decide), ej 237 (by decide) (by decide) (by decide) (by decide)]
      exact c4 p y z
    · rw [q 18 (by decide)] at z
      rw [q 51 (by decide), q 50 (by decide), ej 238 (by decide) (by decide) (by decide) (by decide), ej 239 (by decide) (by decide) (by decide) (by decide)]
      exact c5 k y z
    · rw [q 40 (by decide)] at z
      rw [q 45 (by decide), q 46 (by decide), q 47 (by decide), q 48 (by decide), ej 240 (by decide) (by decide) (by decide) (by decide)]
      exact c6 j y z
  refine ⟨in_m hI.1 (q 0 (by decide)) (q 1 (by decide)) (fun b y z => q b (by omega)) (fun b y z => q b (by omega)) (fun b y z => ej b (by omega) (by omega) (by omega) (by omega)) (ej 557 (by decide) (by decide) (by decide) (by decide)) (ef 1 (by decide) (by decide)) (ef 3 (by decide) (by decide)) (ef 14 (by decide) (by decide)) (ef 17 (by decide) (by decide)) hP5 hC5, ?_⟩
  have q1 : ∀ b : Nat, b < 142 → J5 b = J1 b := fun b hb => e5 b (by omega) (by omega) (by omega) (by omega)
  exact gi_ok.1 J1 J5 K1 K5 g1 (fun b y z => q1 b (by omega)) (by rw [q1 40 (by decide)]) (by rw [q1 40 (by decide)]) (fun t _ _ => by rw [q1 41 (by decide)]) (fun b y z => q1 b (by omega)) (by rw [q1 105 (by decide)]) (by rw [q1 105 (by decide)]) hK
/-- the model's search, behind the class's -/
theorem mbest {J J1 : zJ} {K K1 : zK} (hI : Inv Gi J K) (f1 : FrF J K J1 K1) (v5 : J1 105 0 5 = 2) (g1 : Gi J1 K1) {L : Nat} {xs : Nat → Int32} (hL : L ≤ 3072) {D : Nat} (hD : 36 ≤ D) {K2 : zK} {Q : zR → Nat → zJ → zK → Prop} (hQ : ∀ J5 : zJ, FrQ (zup J1 142 0 0 0) J5 → (∀ t : Int, 0 ≤ t → t < J 40 0 0 → J5 234 0 t = J 234 0 t ∧ ∀ i : Int, 0 ≤ i → i < J 234 0 t → J5 229 t i = J 229 t i) → Mst J J5 (2 ^ (J 18 0 6).toNat) → (J1 105 0 13 = -1 ∨ (0 ≤ J1 105 0 13 ∧ J1 105 0 13 ≤ 1198800 ∧ ∀ j : Int, 0 ≤ j → j < J 18 0 6 → J5 534 0 j = J1 113 0 j ∧ 0 ≤ J1 113 0 j ∧ J1 113 0 j < J 40 0 0)) → Q (.inl (some (zi (if J1 105 0 13 = -1 then -2 else J1 105 0 13)))) 0 J5 K2) : zCall L xs D 223 [zr 142] (zup J1 142 0 0 0) K2 Q := by
  obtain ⟨⟨hW, hT, hP, hM, hC, hTp, hF, hIm⟩, hg⟩ := id hI
  have hn := lw_n hW
  have hpn := pw_n hP
  obtain ⟨s, ⟨a1, a2, a3⟩, a4, a5, a6, a7⟩ := g1.2.2 v5
  have q : ∀ b : Nat, b < 89 ∨ 116 < b → J1 b = J b := fun b hb => f1.1 b (by omega)
  have eL : EqL s J := fun b x y => (q b (by omega)).symm.trans (a3 b x y)
  have eL' : EqL J s := fun b x y => (eL b x y).symm
  have e40 : s 40 0 0 = J 40 0 0 := by rw [← a4, q 40 (by decide)]
  have e18 : s 18 = J 18 := eL' 18 (by decide) (by decide)
  have hge := bsg_ge a1 a2 (T := (s 40 0 0).toNat) (by omega) a7
  have z1 : ∀ b : Nat, b ≠ 142 → 116 < b → zup J1 142 0 0 0 b = J b := fun b x y => by rw [zup_ne _ _ _ _ x]; exact q b (by omega)
  have hM1 : ML s (zup J1 142 0 0 0) := ml_l (ml_eq hM (z1 _ (by decide) (by decide)) (z1 _ (by decide) (by decide)) (z1 _ (by decide) (by decide)) (z1 _ (by decide) (by decide)) (z1 _ (by decide) (by decide))) eL'
  have hmt : ∀ t : Int, 0 ≤ t → t < J 40 0 0 → J 234 0 t = J 42 0 t ∧ J 235 0 t = J 41 0 t := fun t x y => ⟨(hC.2.2.1 t x y).1, (hC.2.2.1 t x y).2.1⟩
  refine c223 hL hM1 a1 a2 ?_ (fun t t0 t1 => ?_) (fun p p0 p1 => ?_) (fun t t0 t1 => ?_) hD fun J5 B f5 r5 m5 b5 => ?_
  · rw [zup_nk _ _ (by decide), q 142 (by decide), e40]
    exact hC.1
  · rw [z1 235 (by decide) (by decide), (hmt t t0 (by omega)).2, ← a6 t t0 t1, q 41 (by decide)]
  · rw [z1 236 (by decide) (by decide), ← a5, q 40 (by decide)]
    exact (hC.2.2.2.1 p p0 p1).1
  · have htt := pw_t hP t0 (show t < J 40 0 0 by omega)
    rw [z1 234 (by decide) (by decide), (hmt t t0 (by omega)).1]
    omega
  · obtain ⟨u1, u2⟩ := bsg_uniq a7 b5
    rw [← u1]
    refine hQ J5 f5 (fun t t0 t1 => ?_) ?_ ?_
    · have := r5 t t0 (by omega)
      rw [z1 234 (by decide) (by decide), z1 229 (by decide) (by decide)] at this
      exact this
    · have : Mst s J5 (2 ^ (s 18 0 6).toNat) → Mst J J5 (2 ^ (J 18 0 6).toNat) := fun m => by
        unfold Mst
        rw [← cbh_e eL', ← sq_e eL', ← svx_e eL', ← e18]
        exact m
      exact this m5
    · rcases hge with z | ⟨z1, z2⟩
      · exact Or.inl z
      · refine Or.inr ⟨z1, z2, fun j j0 j1 => ?_⟩
        have h1 := u2 (by omega) j.toNat (by rw [e18]; omega)
        have e : ((j.toNat : Nat) : Int) = j := by omega
        rw [e] at h1
        refine ⟨h1.symm, ?_⟩
        rcases a7 with ⟨y, _⟩ | ⟨v, y1, y2, y3, y4, y5, y6⟩
        · omega
        · have h2 := y4 j.toNat (by rw [e18]; omega)
          rw [e] at h2
          have hT0 : 0 < (s 40 0 0).toNat := by
            refine Nat.pos_of_ne_zero fun e0 => ?_
            have : (s 40 0 0).toNat ^ (s 18 0 6).toNat = 0 := by
              rw [e0]
              exact Nat.zero_pow (by rw [e18]; omega)
            omega
          have := dgt_lt (T := (s 40 0 0).toNat) (k := (s 18 0 6).toNat) (u := v) (j := j.toNat) hT0
          omega
theorem op16 : ∀ a : Int, zin a → OpW (Inv Gi) 324 4 140 198 zin [zi a] := by
  intro a ha
  have hG := gi_ok
  intro L xs D D2 J K hL hD hD2 hI; obtain ⟨⟨hW, hT, hP, hM, hC, hTp, hF, hIm⟩, hg⟩ := id hI; have hE := eqs_rfl J; have hn := lw_n hW; have hpn := pw_n hP
  obtain ⟨D, rfl⟩ : ∃ d, D = d + 1 := ⟨D - 1, by omega⟩
  obtain ⟨D2, rfl⟩ : ∃ d, D2 = d + 1 := ⟨D2 - 1, by omega⟩
  have bad : a ≠ -1 → ¬ (0 ≤ a ∧ a < J 18 0 6) → zCall L xs (D2 + 1) 198 [zr 142, zi a] J K fun r2 e2 J2 K2 => (∃ v2, r2 = .inl (some (zi v2)) ∧ zin v2) ∧ e2 = 0 ∧ J2 142 0 0 = 1 ∧ Inv Gi J2 K2 := by
    intro h1 hc
    have hM0 := ml_fm hM (fm_t J 0)
    have t0 : zup J 142 0 0 0 142 0 0 = 0 := zup_eq _ _ _ _ _
    have fin := fin_x hG hI (fc_rfl J) (fm_t2 J 0 1) rfl (zup_eq _ _ _ _ _) 0 zin_0
    refine z198 hL ⟨ha, ⟨by decide, by decide⟩, fun z => absurd z h1, fun _ => ?_⟩
    refine c249 hL hM0 hW (by omega) ha (zaI_of ⟨zin_zb _, fun q => ?_, fun q => ?_⟩)
    · rw [zb_1, decide_eq_true_iff] at q
      exact absurd q hc
    · exact c195T hL (by omega) t0 (by decide) (zaI_of ⟨zin_1, fun q => absurd q (by decide), fun _ => fin⟩)
  -- behind the class's search
  have rest : (a = -1 ∨ (0 ≤ a ∧ a < J 18 0 6)) → ∀ (J1 : zJ) (K1 : zK), FrF J K J1 K1 → J1 105 0 5 = 2 → Gi J1 K1 → zin (if J1 105 0 13 = -1 then -2 else if a = -1 then J1 105 0 13 else J1 113 0 a) ∧ ∀ x : Int, zCall L xs (D2 + 1) 198 [zr 142, zi a] J1 (zku K1 561 0 x) fun r2 e2 J2 K2 => r2 = .inl (some (zi (if J1 105 0 13 = -1 then -2 else if a = -1 then J1 105 0 13 else J1 113 0 a))) ∧ e2 = 0 ∧ J2 142 0 0 = 0 ∧ K2 561 0 = x ∧ Inv Gi J2 K2 := by
    intro hca J1 K1 f1 v5 g1
    have hzin : zin (if J1 105 0 13 = -1 then -2 else if a = -1 then J1 105 0 13 else J1 113 0 a) := by
      obtain ⟨s, ⟨a1, a2, a3⟩, a4, a5, a6, a7⟩ := g1.2.2 v5
      have hge := bsg_ge a1 a2 (T := (s 40 0 0).toNat) (by have := pw_n a2; omega) a7
      split
      · exact ⟨by decide, by decide⟩
      · rename_i hne
        split
        · exact ⟨by omega, by omega⟩
        · rename_i hna
          have e18 : s 18 0 6 = J 18 0 6 := by rw [← a3 18 (by decide) (by decide), f1.1 18 (by decide)]
          rcases a7 with ⟨y, _⟩ | ⟨v, y1, y2, y3, y4, y5, y6⟩
          · exact absurd y hne
          · have h2 := y4 a.toNat (by omega)
            have e : ((a.toNat : Nat) : Int) = a := by omega
            rw [e] at h2
            have hT0 : 0 < (s 40 0 0).toNat := by
              refine Nat.pos_of_ne_zero fun e0 => ?_
              have : (s 40 0 0).toNat ^ (s 18 0 6).toNat = 0 := by
                rw [e0]
                exact Nat.zero_pow (by omega)
              omega
            have h3 := dgt_lt (T := (s 40 0 0).toNat) (k := (s 18 0 6).toNat) (u := v) (j := a.toNat) hT0
            have h4 := pw_n a2
            exact ⟨by omega, by omega⟩
    refine ⟨hzin, fun x => ?_⟩
    have t1 : zup J1 142 0 0 0 142 0 0 = 0 := zup_eq _ _ _ _ _
    have q1 : ∀ b : Nat, 116 < b → J1 b = J b := fun b hb => f1.1 b (by omega)
    have hM1 : ML J (zup J1 142 0 0 0) := ml_fm (ml_eq hM (q1 _ (by decide)) (q1 _ (by decide)) (q1 _ (by decide)) (q1 _ (by decide)) (q1 _ (by decide))) (fm_t J1 0)
    have fin : ∀ J5 : zJ, FrQ (zup J1 142 0 0 0) J5 → (∀ t : Int, 0 ≤ t → t < J 40 0 0 → J5 234 0 t = J 234 0 t ∧ ∀ i : Int, 0 ≤ i → i < J 234 0 t → J5 229 t i = J 229 t i) → ∀ v : Int, v = (if J1 105 0 13 = -1 then -2 else if a = -1 then J1 105 0 13 else J1 113 0 a) → (Sum.inl (some (zi v)) : zR) = .inl (some (zi (if J1 105 0 13 = -1 then -2 else if a = -1 then J1 105 0 13 else J1 113 0 a))) ∧ (0 : Nat) = 0 ∧ J5 142 0 0 = 0 ∧ (zku K1 561 0 x) 561 0 = x ∧ Inv Gi J5 (zku K1 561 0 x) := fun J5 f5 r5 v hv => ⟨by rw [hv], rfl, by rw [f5.2 0 (by decide)]; exact t1, zku_o K1 x, inv_gr hI f1 g1 f5 r5 (zku_n _ _ (by decide))⟩
    refine z198 hL ⟨ha, ⟨by decide, by decide⟩, fun z => ?_, fun z => ?_⟩
    · refine c195F hL (by omega) t1 (zaI_of ⟨zin_0, fun _ => ?_, fun q => absurd rfl q⟩)
      refine mbest hI f1 v5 g1 hL (by omega) fun J5 f5 r5 _ hor => zaI_of ?_
      rcases hor with y | ⟨y1, y2, y3⟩
      · rw [if_pos y]
        exact ⟨⟨by decide, by decide⟩, ⟨by decide, by decide⟩, fun _ => fin J5 f5 r5 _ (by rw [if_pos y]), fun w => absurd rfl w⟩
      · rw [if_neg (by omega)]
        exact ⟨⟨by omega, by omega⟩, ⟨by decide, by decide⟩, fun w => by omega, fun _ => ⟨ha, ⟨by decide, by decide⟩, fun w => absurd z w, fun _ => fin J5 f5 r5 _ (by rw [if_neg (by omega), if_pos z])⟩⟩
    · have hin := hca.resolve_left z
      refine c249 hL hM1 hW (by omega) ha (zaI_of ⟨zin_zb _, fun _ => ?_, fun q => by rw [zb_0, decide_eq_false_iff_not] at q; omega⟩)
      refine c195F hL (by omega) t1 (zaI_of ⟨zin_0, fun _ => ?_, fun q => absurd rfl q⟩)
      refine mbest hI f1 v5 g1 hL (by omega) fun J5 f5 r5 _ hor => zaI_of ?_
      rcases hor with y | ⟨y1, y2, y3⟩
      · rw [if_pos y]
        exact ⟨⟨by decide, by decide⟩, ⟨by decide, by decide⟩, fun _ => fin J5 f5 r5 _ (by rw [if_pos y]), fun w => absurd rfl w⟩
      · rw [if_neg (by omega)]
        exact ⟨⟨by omega, by omega⟩, ⟨by decide, by decide⟩, fun w => by omega, fun _ => ⟨ha, ⟨by decide, by decide⟩, fun w => ⟨by omega, by omega, fin J5 f5 r5 _ (by rw [if_neg (by omega), if_neg z, (y3 a hin.1 hin.2).1])⟩, fun w => absurd w z⟩⟩
  refine z140 hL ⟨ha, ⟨by decide, by decide⟩, fun z => ?_, fun z => ?_⟩
  · refine c33 hL hE hW hT hP hg (by omega) fun J1 K1 f1 v5 g1 => ?_
    obtain ⟨h1, h2⟩ := rest (Or.inl z) J1 K1 f1 v5 g1
    refine ⟨fun y => zaI_of ⟨zin_0, fun w => absurd rfl w, fun _ => ?_⟩, fun y => zaI_of ⟨zin_1, fun _ => ⟨ha, ⟨by decide, by decide⟩, fun w => absurd z w, fun _ => ?_⟩, fun w => absurd w (by decide)⟩⟩
    · rw [if_pos y] at h1 h2
      exact Or.inl ⟨_, rfl, rfl, h1, h2⟩
    · rw [if_neg y, if_pos z] at h1 h2
      exact Or.inl ⟨_, rfl, rfl, h1, h2⟩
  · refine c167 hL hE hW (by omega) ha (fun h0 h1 => zaV_of ?_) fun hc => zaV_ex (Or.inr ⟨0, 1, rfl, rfl, zonb_ok (by decide +kernel), by decide, by decide, ?_⟩)
    · refine c33 hL hE hW hT hP hg (by omega) fun J1 K1 f1 v5 g1 => ?_
      obtain ⟨g1', g2'⟩ := rest (Or.inr ⟨h0, h1⟩) J1 K1 f1 v5 g1
      refine ⟨fun y => zaI_of ⟨zin_0, fun w => absurd rfl w, fun _ => ?_⟩, fun y => zaI_of ⟨zin_1, fun _ => ⟨ha, ⟨by decide, by decide⟩, fun w => ⟨h0, by omega, ?_⟩, fun w => absurd w z⟩, fun w => absurd w (by decide)⟩⟩
      · rw [if_pos y] at g1' g2'
        exact Or.inl ⟨_, rfl, rfl, g1', g2'⟩
      · rw [if_neg y, if_neg z] at g1' g2'
        exact Or.inl ⟨_, rfl, rfl, g1', g2'⟩
    · exact bad z hc
