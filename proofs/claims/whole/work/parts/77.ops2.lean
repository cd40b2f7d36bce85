/-! OPERATIONS: count, row, bound, behind; evening, days, hold, shut -/
theorem op43 {G : zJ → zK → Prop} (hG : GOk G) : ∀ a : Int, zin a → OpD (Inv G) 145 208 [zi a] := by
  intro a ha
  intro L xs D J K hL hD hI; obtain ⟨⟨hW, hT, hP, hM, hC, hTp, hF, hIm⟩, hg⟩ := id hI; have hE := eqs_rfl J; have hn := lw_n hW; have hpn := pw_n hP
  obtain ⟨D, rfl⟩ : ∃ d, D = d + 1 := ⟨D - 1, by omega⟩
  have hcn := mc_n hC
  have hmod : ∀ v : Int, (a < 0 ∨ 5 < a → v = -1) → (a = 0 → v = J 40 0 0) → (a = 1 → v = sm (fun t => J 42 0 t) (J 40 0 0).toNat) → (a = 2 → v = J 40 0 5) → (a = 3 → v = cnt (fun p => bt (J 40 0 10) p) 12) → (a = 4 → v = J 0 0 8) → (a = 5 → v = J 0 0 1) → zCall L xs (D + 1) 208 [zr 142, zi a] J K fun r2 e2 J2 K2 => r2 = .inl (some (zi v)) ∧ e2 = 0 ∧ Inv G J2 K2 := by
    intro v w w0 w1 w2 w3 w4 w5
    have fin := fin_d hG hI (fc_rfl J) (fm_t J 0) rfl v
    refine z208 hL ⟨ha, fun q => ?_, rfl, fun q => ?_, fun q => ?_, fun q => ?_, fun q => ?_, fun q => ?_, fun q => ?_, trivial⟩
    · rw [← w q]
      exact fin
    · rw [hcn.1, ← w0 q]
      exact fin
    · have key : ∀ (n : Nat) (x3 : Int), n = (J 40 0 0 - x3).toNat → 0 ≤ x3 → x3 ≤ J 40 0 0 → zGo L xs (D + 1) 208 55 [some (zr 142), none, some (zi (sm (fun t => J 42 0 t) x3.toNat)), some (zi x3)] [] (zup J 142 0 0 0) K fun r2 e2 J2 K2 => r2 = .inl (some (zi v)) ∧ e2 = 0 ∧ Inv G J2 K2 := by
        intro n; induction n using Nat.strongRecOn with
        | _ n ih =>
        intro x3 hm h0 h1
        refine z208_55 hL ?_
        rw [zup_nk _ _ (by decide), hcn.1]
        by_cases hc : x3 < J 40 0 0
        · have hi := ih _ (by omega) (x3 + 1) rfl (by omega) (by omega)
          rw [sm_next h0] at hi
          rw [zup_ne _ _ _ _ (by decide), (mc_t hC h0 hc).1]
          exact ⟨⟨by omega, by omega⟩, ⟨by omega, by omega⟩, fun _ => by omega, fun _ => ⟨h0, by omega, hi⟩⟩
        · have e : x3 = J 40 0 0 := by omega
          refine ⟨⟨by omega, by omega⟩, ⟨by omega, by omega⟩, fun _ => ?_, fun _ => by omega⟩
          rw [e, ← w1 q]
          exact fin
      exact key _ 0 rfl (by omega) (by omega)
    · rw [hcn.2, ← w2 q]
      exact fin
    · have key : ∀ (n : Nat) (x3 : Int), n = (12 - x3).toNat → 0 ≤ x3 → x3 ≤ 12 → zGo L xs (D + 1) 208 87 [some (zr 142), none, some (zi (cnt (fun p => bt (J 40 0 10) p) x3.toNat)), some (zi x3)] [] (zup J 142 0 0 0) K fun r2 e2 J2 K2 => r2 = .inl (some (zi v)) ∧ e2 = 0 ∧ Inv G J2 K2 := by
        intro n; induction n using Nat.strongRecOn with
        | _ n ih =>
        intro x3 hm h0 h1
        refine z208_87 hL ?_
        by_cases hc : x3 < 12
        · have hi := ih _ (by omega) (x3 + 1) rfl (by omega) (by omega)
          rw [cnt_next h0] at hi
          rw [zup_ne _ _ _ _ (by decide), (mc_p hC h0 hc).1]
          exact ⟨⟨by omega, by omega⟩, ⟨by omega, by omega⟩, fun _ => by omega, fun _ => ⟨h0, by omega, hi⟩⟩
        · have e : x3 = 12 := by omega
          refine ⟨⟨by omega, by omega⟩, ⟨by omega, by omega⟩, fun _ => ?_, fun _ => by omega⟩
          subst e
          have e2 : cnt (fun p => bt (J 40 0 10) p) (12 : Int).toNat = v := (w3 q).symm
          rw [e2]
          exact fin
      exact key _ 0 rfl (by omega) (by omega)
    · rw [hIm.2.2.1, ← w4 q]
      exact fin
    · rw [hTp.2.2.1, ← w5 q]
      exact fin
  have ht := hTp.2.1
  have ht0 := hTp.1
  have hi0 := hIm.1
  have hi1 := hIm.2.1
  refine z145 hL ⟨ha, fun q => ?_, rfl, fun q => ?_, fun q => ?_, fun q => ?_, fun q => ?_, fun q => ?_, fun q => ?_, trivial⟩
  · exact ⟨_, rfl, rfl, ⟨by decide, by decide⟩, hmod _ (fun _ => rfl) (fun _ => by omega) (fun _ => by omega) (fun _ => by omega) (fun _ => by omega) (fun _ => by omega) (fun _ => by omega)⟩
  · exact ⟨_, rfl, rfl, ⟨by omega, by omega⟩, hmod _ (fun _ => by omega) (fun _ => rfl) (fun _ => by omega) (fun _ => by omega) (fun _ => by omega) (fun _ => by omega) (fun _ => by omega)⟩
  · have hs := sm_nn (f := fun t => J 42 0 t) (c := 7) (n := (J 40 0 0).toNat) fun i h0 h1 => by
      have := pw_t hP h0 (by omega)
      omega
    have key : ∀ (n : Nat) (x2 : Int) (D : Nat) (Q : zR → Nat → zJ → zK → Prop), n = (J 40 0 0 - x2).toNat → 0 ≤ x2 → x2 ≤ J 40 0 0 → Q (.inl (some (zi (sm (fun t => J 42 0 t) (J 40 0 0).toNat)))) 0 J K → zGo L xs (D + 1) 83 4 [some (zr 40), some (zi (sm (fun t => J 42 0 t) x2.toNat)), some (zi x2)] [] J K Q := by
      intro n; induction n using Nat.strongRecOn with
      | _ n ih =>
      intro x2 D Q hm h0 h1 hQ
      refine z83_4 hL ?_
      by_cases hc : x2 < J 40 0 0
      · have hi := ih _ (by omega) (x2 + 1) D Q rfl (by omega) (by omega) hQ
        rw [sm_next h0] at hi
        exact ⟨⟨by omega, by omega⟩, ⟨by omega, by omega⟩, fun _ => by omega, fun _ => ⟨h0, by omega, hi⟩⟩
      · have e : x2 = J 40 0 0 := by omega
        refine ⟨⟨by omega, by omega⟩, ⟨by omega, by omega⟩, fun _ => ?_, fun _ => by omega⟩
        rw [e]
        exact hQ
    obtain ⟨D', rfl⟩ : ∃ d, D = d + 1 := ⟨D - 1, by omega⟩
    refine z83 hL (key _ 0 D' _ rfl (by omega) (by omega) (zaI_of ?_))
    exact ⟨_, rfl, rfl, ⟨by omega, by omega⟩, hmod _ (fun _ => by omega) (fun _ => by omega) (fun _ => rfl) (fun _ => by omega) (fun _ => by omega) (fun _ => by omega) (fun _ => by omega)⟩
  · exact ⟨_, rfl, rfl, ⟨by omega, by omega⟩, hmod _ (fun _ => by omega) (fun _ => by omega) (fun _ => by omega) (fun _ => rfl) (fun _ => by omega) (fun _ => by omega) (fun _ => by omega)⟩
  · have hc := cnt_rng (fun p => bt (J 40 0 10) p) 12
    refine c317 hL (by omega) (by omega) (by omega) (zaI_of ?_)
    rw [pct_wk (n := 12) (by omega) (by omega) (by decide)]
    exact ⟨_, rfl, rfl, ⟨by unfold pct; omega, by unfold pct; omega⟩, hmod _ (fun _ => by omega) (fun _ => by omega) (fun _ => by omega) (fun _ => by omega) (fun _ => rfl) (fun _ => by omega) (fun _ => by omega)⟩
  · exact ⟨_, rfl, rfl, ⟨by omega, by omega⟩, hmod _ (fun _ => by omega) (fun _ => by omega) (fun _ => by omega) (fun _ => by omega) (fun _ => by omega) (fun _ => rfl) (fun _ => by omega)⟩
  · exact ⟨_, rfl, rfl, ⟨by omega, by omega⟩, hmod _ (fun _ => by omega) (fun _ => by omega) (fun _ => by omega) (fun _ => by omega) (fun _ => by omega) (fun _ => by omega) (fun _ => rfl)⟩
theorem op11 {G : zJ → zK → Prop} (hG : GOk G) : ∀ a b : Int, zin a → zin b → OpW (Inv G) 341 5 176 284 zin [zi a, zi b] := by
  intro a b ha hb
  intro L xs D D2 J K hL hD hD2 hI; obtain ⟨⟨hW, hT, hP, hM, hC, hTp, hF, hIm⟩, hg⟩ := id hI; have hE := eqs_rfl J; have hn := lw_n hW; have hpn := pw_n hP
  obtain ⟨D, rfl⟩ : ∃ d, D = d + 1 := ⟨D - 1, by omega⟩
  obtain ⟨D2, rfl⟩ : ∃ d, D2 = d + 1 := ⟨D2 - 1, by omega⟩
  have f0 := fm_t J 0
  have hC0 := mc_fm hC f0
  have hcn := mc_n hC0
  have t0 : zup J 142 0 0 0 142 0 0 = 0 := zup_eq _ _ _ _ _
  refine z176 hL ?_
  refine c169 hL hE (by omega) ⟨hpn.1, hpn.2.1⟩ ha (fun h0 h1 => zaV_of ?_) fun hc => zaV_ex (Or.inr ⟨3, 1, rfl, rfl, zonb_ok (by decide +kernel), by decide, by decide, ?_⟩)
  · have ht := pw_t hP h0 h1
    have hmt := mc_t hC0 h0 h1
    have hmod : ∀ v : Int, (0 ≤ b → b < J 42 0 a → v = J 43 0 (a * 7 + b)) → (¬ (0 ≤ b ∧ b < J 42 0 a) → v = -1) → ∀ x, zCall L xs (D2 + 1) 284 [zr 142, zi a, zi b] J (zku K 561 0 x) fun r2 e2 J2 K2 => r2 = .inl (some (zi v)) ∧ e2 = 0 ∧ J2 142 0 0 = 0 ∧ K2 561 0 = x ∧ Inv G J2 K2 := by
      intro v v1 v2 x
      have fin := fin_w hG hI (fc_rfl J) f0 rfl t0 v x
      refine z284 hL ?_
      refine c252 hL (by omega) hcn.1 ⟨hpn.1, hpn.2.1⟩ ha (zaI_of ⟨zin_zb _, fun _ => ?_, fun q => ?_⟩)
      · refine c195F hL (by omega) t0 (zaI_of ⟨zin_0, fun _ => ⟨by omega, by omega, ?_⟩, fun q => absurd rfl q⟩)
        rw [hmt.1]
        refine c240 hL (by omega) hb zin_0 ⟨by omega, by omega⟩ (zaI_of ⟨zin_zb _, fun q => ?_, fun q => ?_⟩)
        · rw [zb_0, decide_eq_false_iff_not] at q
          rw [← v2 (by omega)]
          exact fin
        · rw [zb_1, decide_eq_true_iff] at q
          rw [hmt.2.2 b (by omega) (by omega), ← v1 (by omega) (by omega)]
          exact ⟨by omega, by omega, by omega, by omega, by omega, by omega, fin⟩
      · rw [zb_0, decide_eq_false_iff_not] at q
        omega
    by_cases hc : 0 ≤ b ∧ b < J 42 0 a
    · have hr := pw_r hP h0 h1 hc.1 hc.2
      exact ⟨hb, fun _ => by omega, fun _ => ⟨by omega, by omega, hb, ⟨by omega, by omega⟩, fun _ => ⟨by omega, by omega, Or.inl ⟨_, rfl, rfl, ⟨by omega, by omega⟩, hmod _ (fun _ _ => rfl) fun q => absurd hc q⟩⟩, fun _ => by omega⟩⟩
    · exact ⟨hb, fun _ => Or.inl ⟨_, rfl, rfl, ⟨by decide, by decide⟩, hmod _ (fun x y => absurd ⟨x, y⟩ hc) fun q => rfl⟩, fun _ => ⟨by omega, by omega, hb, ⟨by omega, by omega⟩, fun _ => by omega, fun _ => Or.inl ⟨_, rfl, rfl, ⟨by decide, by decide⟩, hmod _ (fun x y => absurd ⟨x, y⟩ hc) fun q => rfl⟩⟩⟩
  · refine z284 hL ?_
    refine c252 hL (by omega) hcn.1 ⟨hpn.1, hpn.2.1⟩ ha (zaI_of ⟨zin_zb _, fun q => ?_, fun q => ?_⟩)
    · rw [zb_1, decide_eq_true_iff] at q
      omega
    · exact c195T hL (by omega) t0 (by decide) (zaI_of ⟨zin_1, fun q => absurd q (by decide), fun _ => fin_x hG hI (fc_rfl J) (fm_t2 J 0 1) rfl (zup_eq _ _ _ _ _) 0 zin_0⟩)
theorem op17 {G : zJ → zK → Prop} (hG : GOk G) : OpD (Inv G) 142 203 [] := by
  intro L xs D J K hL hD hI; obtain ⟨⟨hW, hT, hP, hM, hC, hTp, hF, hIm⟩, hg⟩ := id hI; have hE := eqs_rfl J; have hn := lw_n hW; have hpn := pw_n hP
  obtain ⟨D, rfl⟩ : ∃ d, D = d + 1 := ⟨D - 1, by omega⟩
  have f0 := fm_t J 0
  have hM0 := ml_fm hM f0
  have hC0 := mc_fm hC f0
  have hcn := mc_n hC0
  have hmn := ml_n hM0
  let F : Int → Int := fun w => mx0 (fun t => fw J w (J 41 0 t)) (J 40 0 0).toNat
  have hF0 : ∀ w, 0 ≤ w → w < J 18 0 14 → ∀ n : Nat, (n : Int) ≤ J 40 0 0 → 0 ≤ mx0 (fun t => fw J w (J 41 0 t)) n ∧ mx0 (fun t => fw J w (J 41 0 t)) n ≤ 99900 := by
    intro w w0 w1 n hnn
    refine mx0_rng (by decide) fun i i0 i1 => ?_
    have ht := pw_t hP i0 (by omega)
    exact (fw_rng hW w0 w1 ht.1 ht.2.1).2
  have hs : ∀ n : Nat, (n : Int) ≤ J 18 0 14 → 0 ≤ sm F n ∧ sm F n ≤ n * 99900 := fun n hnn => sm_nn fun i i0 i1 => hF0 i i0 (by omega) _ (by omega)
  have hmod : zCall L xs (D + 1) 203 [zr 142] J K fun r2 e2 J2 K2 => r2 = .inl (some (zi (sm F (J 18 0 14).toNat))) ∧ e2 = 0 ∧ Inv G J2 K2 := by
    have key : ∀ (n : Nat) (x2 : Int), n = (J 18 0 14 - x2).toNat → 0 ≤ x2 → x2 ≤ J 18 0 14 → zGo L xs (D + 1) 203 9 [some (zr 142), some (zi (sm F x2.toNat)), some (zi x2), none, none] [] (zup J 142 0 0 0) K fun r2 e2 J2 K2 => r2 = .inl (some (zi (sm F (J 18 0 14).toNat))) ∧ e2 = 0 ∧ Inv G J2 K2 := by
      intro n; induction n using Nat.strongRecOn with
      | _ n ih =>
      intro x2 hm h0 h1
      refine z203_9 hL ?_
      rw [hmn.2.2.2]
      by_cases hc : x2 < J 18 0 14
      · have hi := ih _ (by omega) (x2 + 1) rfl (by omega) (by omega)
        rw [sm_next h0] at hi
        have inner : ∀ (m : Nat) (x4 : Int), m = (J 40 0 0 - x4).toNat → 0 ≤ x4 → x4 ≤ J 40 0 0 → zGo L xs (D + 1) 203 24 [some (zr 142), some (zi (sm F x2.toNat)), some (zi x2), some (zi (mx0 (fun t => fw J x2 (J 41 0 t)) x4.toNat)), some (zi x4)] [] (zup J 142 0 0 0) K fun r2 e2 J2 K2 => r2 = .inl (some (zi (sm F (J 18 0 14).toNat))) ∧ e2 = 0 ∧ Inv G J2 K2 := by
          intro m; induction m using Nat.strongRecOn with
          | _ m ihm =>
          intro x4 hm4 b0 b1
          refine z203_24 hL ?_
          rw [hcn.1]
          by_cases hc4 : x4 < J 40 0 0
          · have ht := pw_t hP b0 hc4
            have hi4 := ihm _ (by omega) (x4 + 1) rfl (by omega) (by omega)
            rw [mx0_next b0] at hi4
            have hr := hF0 x2 h0 hc x4.toNat (by omega)
            have hfr := fw_rng hW h0 hc ht.1 ht.2.1
            rw [(mc_t hC0 b0 hc4).2.1]
            refine ⟨⟨by omega, by omega⟩, ⟨by omega, by omega⟩, fun _ => by omega, fun _ => ⟨b0, by omega, ?_⟩⟩
            refine c311 hL hM0 hW (by omega) h0 hc ht.1 ht.2.1 (zaI_of ?_)
            exact c268 hL (by omega) ⟨by omega, by omega⟩ ⟨by omega, by omega⟩ (zaI_of hi4)
          · have e : x4 = J 40 0 0 := by omega
            rw [e]
            exact ⟨⟨by omega, by omega⟩, ⟨by omega, by omega⟩, fun _ => hi, fun _ => by omega⟩
        exact ⟨by decide, by decide, ⟨by omega, by omega⟩, ⟨by omega, by omega⟩, fun _ => by omega, fun _ => inner _ 0 rfl (by omega) (by omega)⟩
      · have e : x2 = J 18 0 14 := by omega
        rw [e]
        exact ⟨by decide, by decide, ⟨by omega, by omega⟩, ⟨by omega, by omega⟩, fun _ => fin_d hG hI (fc_rfl J) f0 rfl _, fun _ => by omega⟩
    exact z203 hL (key _ 0 rfl (by omega) (by omega))
  have hsr := hs (J 18 0 14).toNat (by omega)
  refine z142 hL ⟨⟨by omega, by omega⟩, fun _ => ?_, fun q => ?_⟩
  · have key : ∀ (n : Nat) (x2 : Int), n = (J 18 0 14 - x2).toNat → 0 ≤ x2 → x2 ≤ J 18 0 14 → zGo L xs (D + 1) 142 16 [some (zr 0), some (zi (sm F x2.toNat)), some (zi x2), none, none] [] J K fun r e J1 K1 => ∃ v, r = .inl (some (zi v)) ∧ e = 0 ∧ zin v ∧ zCall L xs (D + 1) 203 [zr 142] J1 K1 fun r2 e2 J2 K2 => r2 = .inl (some (zi v)) ∧ e2 = 0 ∧ Inv G J2 K2 := by
      intro n; induction n using Nat.strongRecOn with
      | _ n ih =>
      intro x2 hm h0 h1
      refine z142_16 hL ?_
      by_cases hc : x2 < J 18 0 14
      · have hi := ih _ (by omega) (x2 + 1) rfl (by omega) (by omega)
        rw [sm_next h0] at hi
        have inner : ∀ (m : Nat) (x4 : Int), m = (J 40 0 0 - x4).toNat → 0 ≤ x4 → x4 ≤ J 40 0 0 → zGo L xs (D + 1) 142 32 [some (zr 0), some (zi (sm F x2.toNat)), some (zi x2), some (zi (mx0 (fun t => fw J x2 (J 41 0 t)) x4.toNat)), some (zi x4)] [] J K fun r e J1 K1 => ∃ v, r = .inl (some (zi v)) ∧ e = 0 ∧ zin v ∧ zCall L xs (D + 1) 203 [zr 142] J1 K1 fun r2 e2 J2 K2 => r2 = .inl (some (zi v)) ∧ e2 = 0 ∧ Inv G J2 K2 := by
          intro m; induction m using Nat.strongRecOn with
          | _ m ihm =>
          intro x4 hm4 b0 b1
          refine z142_32 hL ?_
          by_cases hc4 : x4 < J 40 0 0
          · have ht := pw_t hP b0 hc4
            have hi4 := ihm _ (by omega) (x4 + 1) rfl (by omega) (by omega)
            rw [mx0_next b0] at hi4
            have hr := hF0 x2 h0 hc x4.toNat (by omega)
            have hfr := fw_rng hW h0 hc ht.1 ht.2.1
            refine ⟨⟨by omega, by omega⟩, ⟨by omega, by omega⟩, fun _ => by omega, fun _ => ⟨b0, by omega, ?_⟩⟩
            exact c60 hL hE hW (by omega) h0 hc ht.1 ht.2.1 (zaI_of ⟨⟨by omega, by omega⟩, ⟨by omega, by omega⟩, by omega, hi4⟩)
          · have e : x4 = J 40 0 0 := by omega
            rw [e]
            exact ⟨⟨by omega, by omega⟩, ⟨by omega, by omega⟩, fun _ => hi, fun _ => by omega⟩
        exact ⟨⟨by omega, by omega⟩, ⟨by omega, by omega⟩, fun _ => by omega, fun _ => inner _ 0 rfl (by omega) (by omega)⟩
      · have e : x2 = J 18 0 14 := by omega
        rw [e]
        exact ⟨⟨by omega, by omega⟩, ⟨by omega, by omega⟩, fun _ => ⟨_, rfl, rfl, ⟨by omega, by omega⟩, hmod⟩, fun _ => by omega⟩
    exact key _ 0 rfl (by omega) (by omega)
  · have e : sm F (J 18 0 14).toNat = 0 := sm_zero fun i i0 i1 => by
      show mx0 _ (J 40 0 0).toNat = 0
      rw [q]
      rfl
    rw [e] at hmod
    exact ⟨0, rfl, rfl, zin_0, hmod⟩
/-- whether an engine can do a job behind another one -/
def bhd (s : zJ) (j o : Int) : Bool := decide (s 48 0 o + way s (s 47 0 o) (s 45 0 j) ≤ s 46 0 j)
theorem c104 {L : Nat} {xs : Nat → Int32} (hL : L ≤ 3072) {D : Nat} {J : zJ} {K : zK} {Q : zR → Nat → zJ → zK → Prop} {s : zJ} (hE : EqS s J) (h : LW s) (hT : TW s) (hP : PW s) {x1 x2 : Int} (hD : 2 ≤ D) (h0 : 0 ≤ x1) (h1 : x1 < s 40 0 5) (g0 : 0 ≤ x2) (g1 : x2 < s 40 0 5) (hQ : Q (.inl (some (zi (zb (decide (x1 ≠ x2) && bhd s x1 x2))))) 0 J K) : zCall L xs D 104 [zr 136, zi x1, zi x2] J K Q := by
  obtain ⟨D, rfl⟩ : ∃ d, D = d + 1 := ⟨D - 1, by omega⟩
  have hpn := pw_n hP
  have hj := pw_j hP h0 h1
  have ho := pw_j hP g0 g1
  have hr := way_rng h (a := s 47 0 x2) (b := s 45 0 x1) (by omega) (by omega) (by omega) (by omega)
  refine z104 hL ?_
  have e45 := hE 45 (by decide) (by decide); have e46 := hE 46 (by decide) (by decide); have e47 := hE 47 (by decide) (by decide); have e48 := hE 48 (by decide) (by decide); simp only [e45, e46, e47, e48]
  refine ⟨⟨by omega, by omega⟩, ⟨by omega, by omega⟩, fun q => ⟨by omega, by omega, by omega, by omega, by omega, by omega, ?_⟩, fun q => ?_⟩
  · refine c121 hL hE h hT (by omega) (by omega) (by omega) (by omega) (by omega) (zaI_of ?_)
    simp only [e46]
    have e1 : (decide (x1 ≠ x2) && bhd s x1 x2) = bhd s x1 x2 := by simp [q]
    rw [e1] at hQ
    unfold bhd at hQ
    refine ⟨by omega, by omega, ⟨by omega, by omega⟩, ⟨by omega, by omega⟩, fun q2 => ⟨by simp, ?_⟩, fun q2 => ⟨by simp, ?_⟩⟩
    · rw [decide_eq_false (by omega)] at hQ
      exact hQ
    · rw [decide_eq_true q2] at hQ
      exact hQ
  · have e1 : (decide (x1 ≠ x2) && bhd s x1 x2) = false := by simp [q]
    rw [e1] at hQ
    exact ⟨by simp, hQ⟩
theorem c243 {L : Nat} {xs : Nat → Int32} (hL : L ≤ 3072) {D : Nat} {J : zJ} {K : zK} {Q : zR → Nat → zJ → zK → Prop} {s : zJ} (hM : ML s J) (h : LW s) (hP : PW s) (hC : MC s J) {x1 x2 : Int} (hD : 3 ≤ D) (h0 : 0 ≤ x1) (h1 : x1 < s 40 0 5) (g0 : 0 ≤ x2) (g1 : x2 < s 40 0 5) (hQ : Q (.inl (some (zi (zb (bhd s x1 x2))))) 0 J K) : zCall L xs D 243 [zr 142, zi x1, zi x2] J K Q := by
  obtain ⟨D, rfl⟩ : ∃ d, D = d + 1 := ⟨D - 1, by omega⟩
  have hpn := pw_n hP
  have hj := pw_j hP h0 h1
  have ho := pw_j hP g0 g1
  have hr := way_rng h (a := s 47 0 x2) (b := s 45 0 x1) (by omega) (by omega) (by omega) (by omega)
  have m1 := mc_j hC h0 h1
  have m2 := mc_j hC g0 g1
  refine z243 hL ?_
  rw [m1.1, m2.2.2.1, m2.2.2.2]
  refine ⟨by omega, by omega, by omega, by omega, by decide, by decide, by omega, by omega, by omega, by omega, by decide, by decide, by omega, by omega, by omega, by omega, by decide, by decide, ?_⟩
  refine c304 hL hM h (by omega) (by omega) (by omega) (by omega) (by omega) (zaI_of ?_)
  rw [m1.2.1]
  unfold bhd at hQ
  refine ⟨by omega, by omega, by omega, by omega, by decide, by decide, ⟨by omega, by omega⟩, ⟨by omega, by omega⟩, fun q2 => ⟨Or.inl rfl, ?_⟩, fun q2 => ⟨Or.inr rfl, ?_⟩⟩
  · rw [decide_eq_false (by omega)] at hQ
    exact hQ
  · rw [decide_eq_true q2] at hQ
    exact hQ
theorem op32 {G : zJ → zK → Prop} (hG : GOk G) : ∀ a b : Int, zin a → zin b → OpW (Inv G) 323 5 139 197 (fun v => v = 0 ∨ v = 1) [zi a, zi b] := by
  intro a b ha hb
  intro L xs D D2 J K hL hD hD2 hI; obtain ⟨⟨hW, hT, hP, hM, hC, hTp, hF, hIm⟩, hg⟩ := id hI; have hE := eqs_rfl J; have hn := lw_n hW; have hpn := pw_n hP
  obtain ⟨D, rfl⟩ : ∃ d, D = d + 1 := ⟨D - 1, by omega⟩
  obtain ⟨D2, rfl⟩ : ∃ d, D2 = d + 1 := ⟨D2 - 1, by omega⟩
  have f0 := fm_t J 0
  have hM0 := ml_fm hM f0
  have hC0 := mc_fm hC f0
  have hcn := mc_n hC0
  have t0 : zup J 142 0 0 0 142 0 0 = 0 := zup_eq _ _ _ _ _
  have bad : ¬ (0 ≤ a ∧ a < J 40 0 5 ∧ 0 ≤ b ∧ b < J 40 0 5) → zCall L xs (D2 + 1) 197 [zr 142, zi a, zi b] J K fun r2 e2 J2 K2 => (∃ v2, r2 = .inl (some (zi v2)) ∧ zin v2) ∧ e2 = 0 ∧ J2 142 0 0 = 1 ∧ Inv G J2 K2 := by
    intro hc
    have fin := fin_x hG hI (fc_rfl J) (fm_t2 J 0 1) rfl (zup_eq _ _ _ _ _) 0 zin_0
    refine z197 hL ?_
    refine c246 hL (by omega) hcn.2 ⟨by omega, by omega⟩ ha (zaI_of ⟨zin_zb _, fun q => ?_, fun q => ?_⟩)
    · refine c195T hL (by omega) t0 (by decide) (zaI_of ⟨zin_1, fun q => absurd q (by decide), fun _ => ⟨Or.inl rfl, fin⟩⟩)
    · refine c246 hL (by omega) hcn.2 ⟨by omega, by omega⟩ hb (zaI_of ⟨zin_zb _, fun q2 => ?_, fun q2 => ?_⟩)
      · rw [zb_1, decide_eq_true_iff] at q q2
        omega
      · refine c195T hL (by omega) t0 (by decide) (zaI_of ⟨zin_1, fun q => absurd q (by decide), fun _ => ⟨Or.inl rfl, fin⟩⟩)
  refine z139 hL ?_
  refine c165 hL hE (by omega) ⟨by omega, by omega⟩ ha (fun h0 h1 => zaV_of ?_) fun hc => zaV_ex (Or.inr ⟨0, 1, rfl, rfl, zonb_ok (by decide +kernel), by decide, by decide, ?_⟩)
  · refine c165 hL hE (by omega) ⟨by omega, by omega⟩ hb (fun g0 g1 => zaV_of ?_) fun hc => zaV_ex (Or.inr ⟨0, 1, rfl, rfl, zonb_ok (by decide +kernel), by decide, by decide, ?_⟩)
    · refine c104 hL hE hW hT hP (by omega) h0 h1 g0 g1 (zaI_of ⟨zb_01 _, Or.inl ⟨_, rfl, rfl, zb_01 _, fun x => ?_⟩⟩)
      have fin := fin_w hG hI (fc_rfl J) f0 rfl t0
      refine z197 hL ?_
      refine c246 hL (by omega) hcn.2 ⟨by omega, by omega⟩ ha (zaI_of ⟨zin_zb _, fun q => ?_, fun _ => ?_⟩)
      · rw [zb_0, decide_eq_false_iff_not] at q
        omega
      · refine c246 hL (by omega) hcn.2 ⟨by omega, by omega⟩ hb (zaI_of ⟨zin_zb _, fun _ => ?_, fun q => ?_⟩)
        · refine c195F hL (by omega) t0 (zaI_of ⟨zin_0, fun _ => ⟨ha, hb, fun e => ⟨Or.inl rfl, ?_⟩, fun e => ?_⟩, fun q => absurd rfl q⟩)
          · have e1 : (decide (a ≠ b) && bhd J a b) = false := by simp [e]
            rw [e1]
            exact fin 0 x
          · have e1 : (decide (a ≠ b) && bhd J a b) = bhd J a b := by simp [e]
            rw [e1]
            refine c243 hL hM0 hW hP hC0 (by omega) h0 h1 g0 g1 (zaI_of ⟨zin_zb _, fun q => ⟨Or.inl rfl, ?_⟩, fun q => ⟨Or.inr rfl, ?_⟩⟩)
            · rw [q]
              exact fin 0 x
            · rw [zb_1] at q
              rw [q]
              exact fin 1 x
        · rw [zb_0, decide_eq_false_iff_not] at q
          omega
    · exact bad (by omega)
  · exact bad (by omega)
