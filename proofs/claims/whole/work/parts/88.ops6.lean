/-! OPERATIONS of the evening: reaches, rows, harm -/
theorem mw_ok {s J : zJ} (hW : LW s) (hP : PW s) (hC : MC s J) : ∀ p, 1 ≤ p → p < s 18 0 0 → J 237 0 p = s 49 0 p ∧ 0 ≤ s 49 0 p ∧ s 49 0 p ≤ 60 := fun p p0 p1 => by
  have hn := lw_n hW
  exact ⟨(mc_p hC (by omega) (by omega)).2, pw_w hP (by omega) (by omega)⟩
theorem ev_ok {s : zJ} (hW : LW s) (hP : PW s) (x : Int) : EO s (evF s (fun p => s 49 0 p) (stl s x)) 0 13000 := evF_ok hW fun k k0 k1 => stl_rng hW hP x k0 k1
theorem op22 {G : zJ → zK → Prop} (hG : GOk G) : ∀ a b : Int, zin a → zin b → OpW (Inv G) 340 5 174 281 zin [zi a, zi b] := by
  intro a b ha hb
  intro L xs D D2 J K hL hD hD2 hI; obtain ⟨⟨hW, hT, hP, hM, hC, hTp, hF, hIm⟩, hg⟩ := id hI; have hE := eqs_rfl J; have hn := lw_n hW; have hpn := pw_n hP
  obtain ⟨D, rfl⟩ : ∃ d, D = d + 1 := ⟨D - 1, by omega⟩
  obtain ⟨D2, rfl⟩ : ∃ d, D2 = d + 1 := ⟨D2 - 1, by omega⟩
  have h7 := pw7 hn.2.2.2.1
  have bad : ¬ (0 ≤ a ∧ a < J 18 0 6 ∧ 0 ≤ b ∧ b < 2 ^ (J 18 0 6).toNat) → zCall L xs (D2 + 1) 281 [zr 142, zi a, zi b] J K fun r2 e2 J2 K2 => (∃ v2, r2 = .inl (some (zi v2)) ∧ zin v2) ∧ e2 = 0 ∧ J2 142 0 0 = 1 ∧ Inv G J2 K2 := by
    intro hc
    have hM0 := ml_fm hM (fm_t J 0)
    have t0 : zup J 142 0 0 0 142 0 0 = 0 := zup_eq _ _ _ _ _
    have fin := fin_x hG hI (fc_rfl J) (fm_t2 J 0 1) rfl (zup_eq _ _ _ _ _) 0 zin_0
    refine z281 hL ?_
    refine c249 hL hM0 hW (by omega) ha (zaI_of ⟨zin_zb _, fun q => ?_, fun q => ?_⟩)
    · exact c195T hL (by omega) t0 (by decide) (zaI_of ⟨zin_1, fun q => absurd q (by decide), fun _ => fin⟩)
    · refine c193 hL hM0 hW (by omega) hb (zaI_of ⟨zin_zb _, fun q2 => ?_, fun q2 => ?_⟩)
      · rw [zb_1, decide_eq_true_iff] at q q2
        omega
      · exact c195T hL (by omega) t0 (by decide) (zaI_of ⟨zin_1, fun q => absurd q (by decide), fun _ => fin⟩)
  refine z174 hL ?_
  refine c167 hL hE hW (by omega) ha (fun h0 h1 => zaV_of ?_) fun hc => zaV_ex (Or.inr ⟨0, 1, rfl, rfl, zonb_ok (by decide +kernel), by decide, by decide, ?_⟩)
  · refine c168 hL hE hW (by omega) hb (fun g0 g1 => zaV_of ?_) fun hc => zaV_ex (Or.inr ⟨0, 1, rfl, rfl, zonb_ok (by decide +kernel), by decide, by decide, ?_⟩)
    · have hO := ev_ok hW hP b
      have hr := rch_rng hO h0 h1
      refine c19 hL hE hW hT hP (by omega) ⟨by omega, by omega⟩ fun J1 hF1 _ _ _ hC1 => zaV_of ?_
      have f1 : FrC J J1 := fc_fr (fc_rfl J) hF1 (by decide)
      refine c21 hL (fc_eqs f1) hW hO hC1 (by omega) h0 h1 (zaI_of (Or.inl ⟨_, rfl, rfl, ⟨by omega, by omega⟩, fun x => ?_⟩))
      have f2 := fm_t J1 0
      have hM1 := ml_fm (ml_fc hM f1) f2
      have hC2 := mc_fm (mc_fc hC f1) f2
      have t0 : zup J1 142 0 0 0 142 0 0 = 0 := zup_eq _ _ _ _ _
      refine z281 hL ?_
      refine c249 hL hM1 hW (by omega) ha (zaI_of ⟨zin_zb _, fun q => by rw [zb_0, decide_eq_false_iff_not] at q; omega, fun _ => ?_⟩)
      refine c193 hL hM1 hW (by omega) hb (zaI_of ⟨zin_zb _, fun _ => ?_, fun q => by rw [zb_0, decide_eq_false_iff_not] at q; omega⟩)
      refine c195F hL (by omega) t0 (zaI_of ⟨zin_0, fun _ => ?_, fun q => absurd rfl q⟩)
      refine c229 hL hM1 hW hP (me_of hC2) (by omega) ⟨by omega, by omega⟩ (mw_ok hW hP hC2) fun J2 hF2 _ hre => zaV_of ⟨by omega, by omega, ?_⟩
      rw [hre a h0 h1]
      exact fin_w hG hI f1 (fm_tr f2 (fg_fm hF2)) rfl (by rw [hF2.2 0 (by decide) (by decide)]; exact t0) _ x
    · exact bad (by omega)
  · exact bad (by omega)
theorem op23 {G : zJ → zK → Prop} (hG : GOk G) : ∀ a : Int, zin a → OpW (Inv G) 342 4 177 285 zin [zi a] := by
  intro b hb
  intro L xs D D2 J K hL hD hD2 hI; obtain ⟨⟨hW, hT, hP, hM, hC, hTp, hF, hIm⟩, hg⟩ := id hI; have hE := eqs_rfl J; have hn := lw_n hW; have hpn := pw_n hP
  obtain ⟨D, rfl⟩ : ∃ d, D = d + 1 := ⟨D - 1, by omega⟩
  obtain ⟨D2, rfl⟩ : ∃ d, D2 = d + 1 := ⟨D2 - 1, by omega⟩
  have h7 := pw7 hn.2.2.2.1
  refine z177 hL ?_
  refine c168 hL hE hW (by omega) hb (fun g0 g1 => zaV_of ?_) fun hc => zaV_ex (Or.inr ⟨0, 1, rfl, rfl, zonb_ok (by decide +kernel), by decide, by decide, ?_⟩)
  · have hO := ev_ok hW hP b
    have hr := cnt_rng (fun g => decide ((evF J (fun p => J 49 0 p) (stl J b)).2.2 g = 0)) (J 18 0 6).toNat
    refine c19 hL hE hW hT hP (by omega) ⟨by omega, by omega⟩ fun J1 hF1 _ _ _ hC1 => zaV_of ?_
    have f1 : FrC J J1 := fc_fr (fc_rfl J) hF1 (by decide)
    refine c22 hL (fc_eqs f1) hW hO hC1 (by omega) (zaI_of (Or.inl ⟨_, rfl, rfl, by unfold rws; exact ⟨by omega, by omega⟩, fun x => ?_⟩))
    have f2 := fm_t J1 0
    have hM1 := ml_fm (ml_fc hM f1) f2
    have hC2 := mc_fm (mc_fc hC f1) f2
    have t0 : zup J1 142 0 0 0 142 0 0 = 0 := zup_eq _ _ _ _ _
    refine z285 hL ?_
    refine c193 hL hM1 hW (by omega) hb (zaI_of ⟨zin_zb _, fun _ => ?_, fun q => by rw [zb_0, decide_eq_false_iff_not] at q; omega⟩)
    refine c195F hL (by omega) t0 (zaI_of ⟨zin_0, fun _ => ?_, fun q => absurd rfl q⟩)
    refine c229 hL hM1 hW hP (me_of hC2) (by omega) ⟨by omega, by omega⟩ (mw_ok hW hP hC2) fun J2 hF2 hR2 _ => zaV_of ?_
    refine c286 hL hW hR2 (fun g g0 g1 => eo_zin hO (by decide) g0 g1) (by omega) (zaI_of ?_)
    exact fin_w hG hI f1 (fm_tr f2 (fg_fm hF2)) rfl (by rw [hF2.2 0 (by decide) (by decide)]; exact t0) _ x
  · have hM0 := ml_fm hM (fm_t J 0)
    have t0 : zup J 142 0 0 0 142 0 0 = 0 := zup_eq _ _ _ _ _
    have fin := fin_x hG hI (fc_rfl J) (fm_t2 J 0 1) rfl (zup_eq _ _ _ _ _) 0 zin_0
    refine z285 hL ?_
    refine c193 hL hM0 hW (by omega) hb (zaI_of ⟨zin_zb _, fun q => by rw [zb_1, decide_eq_true_iff] at q; omega, fun _ => ?_⟩)
    exact c195T hL (by omega) t0 (by decide) (zaI_of ⟨zin_1, fun q => absurd q (by decide), fun _ => fin⟩)
theorem hrm_rng {s : zJ} (hW : LW s) (hP : PW s) {E : Ev} {T : Int} (hO : EO s E 0 T) (hT : T ≤ 13000) : -1000000 ≤ hrm s E ∧ hrm s E ≤ 2000000 := by
  have hn := lw_n hW
  have hr := cnt_rng (fun g => decide (E.2.2 g = 0)) (s 18 0 6).toNat
  have h1 := sm_nn (f := fun k => s 25 0 k * (rch s E k - s 51 0 k - dep s (s 24 0 k)) + 15 * 5000) (c := 15 * 13000 + 15 * 5000) (n := (s 18 0 6).toNat) fun i i0 i1 => by
    have hk := lw_k hW i0 (by omega)
    have he := pw_e hP i0 (by omega)
    have hd := dep_le hW (s 24 0 i) (by omega) (by omega)
    have hrc := rch_rng hO i0 (by omega)
    have a1 : s 25 0 i * (rch s E i - s 51 0 i - dep s (s 24 0 i)) ≤ s 25 0 i * 13000 := Int.mul_le_mul_of_nonneg_left (by omega) (by omega)
    have a2 : s 25 0 i * (-5000) ≤ s 25 0 i * (rch s E i - s 51 0 i - dep s (s 24 0 i)) := Int.mul_le_mul_of_nonneg_left (by omega) (by omega)
    omega
  rw [sm_add] at h1
  have h2 : sm (fun _ => 15 * 5000) (s 18 0 6).toNat = 15 * 5000 * s 18 0 6 := by
    have : ∀ n : Nat, sm (fun _ => 15 * 5000) n = 15 * 5000 * n := by
      intro n
      induction n with
      | zero => rfl
      | succ n ih => rw [sm, ih]; omega
    rw [this]
    omega
  rw [h2] at h1
  unfold hrm rws
  split <;> omega
theorem op24 {G : zJ → zK → Prop} (hG : GOk G) : ∀ a : Int, zin a → OpW (Inv G) 333 4 157 235 zin [zi a] := by
  intro b hb
  intro L xs D D2 J K hL hD hD2 hI; obtain ⟨⟨hW, hT, hP, hM, hC, hTp, hF, hIm⟩, hg⟩ := id hI; have hE := eqs_rfl J; have hn := lw_n hW; have hpn := pw_n hP
  obtain ⟨D, rfl⟩ : ∃ d, D = d + 1 := ⟨D - 1, by omega⟩
  obtain ⟨D2, rfl⟩ : ∃ d, D2 = d + 1 := ⟨D2 - 1, by omega⟩
  have h7 := pw7 hn.2.2.2.1
  refine z157 hL ?_
  refine c168 hL hE hW (by omega) hb (fun g0 g1 => zaV_of ?_) fun hc => zaV_ex (Or.inr ⟨0, 1, rfl, rfl, zonb_ok (by decide +kernel), by decide, by decide, ?_⟩)
  · have hO := ev_ok hW hP b
    have hr := hrm_rng hW hP hO (by decide)
    refine c19 hL hE hW hT hP (by omega) ⟨by omega, by omega⟩ fun J1 hF1 _ hal _ hC1 => zaV_of ?_
    have f1 : FrC J J1 := fc_fr (fc_rfl J) hF1 (by decide)
    refine c12 hL (fc_eqs f1) hW hT hO hC1 hal (by omega) (zaI_of (Or.inl ⟨_, rfl, rfl, ⟨by omega, by omega⟩, fun x => ?_⟩))
    have f2 := fm_t J1 0
    have hM1 := ml_fm (ml_fc hM f1) f2
    have hC2 := mc_fm (mc_fc hC f1) f2
    have t0 : zup J1 142 0 0 0 142 0 0 = 0 := zup_eq _ _ _ _ _
    refine z235 hL ?_
    refine c193 hL hM1 hW (by omega) hb (zaI_of ⟨zin_zb _, fun _ => ?_, fun q => by rw [zb_0, decide_eq_false_iff_not] at q; omega⟩)
    refine c195F hL (by omega) t0 (zaI_of ⟨zin_0, fun _ => ?_, fun q => absurd rfl q⟩)
    refine c236 hL hM1 hW hP (me_of hC2) (by omega) ⟨by omega, by omega⟩ (mw_ok hW hP hC2) fun J2 hF2 => zaI_of ?_
    exact fin_w hG hI f1 (fm_tr f2 (fg_fm hF2)) rfl (by rw [hF2.2 0 (by decide) (by decide)]; exact t0) _ x
  · have hM0 := ml_fm hM (fm_t J 0)
    have t0 : zup J 142 0 0 0 142 0 0 = 0 := zup_eq _ _ _ _ _
    have fin := fin_x hG hI (fc_rfl J) (fm_t2 J 0 1) rfl (zup_eq _ _ _ _ _) 0 zin_0
    refine z235 hL ?_
    refine c193 hL hM0 hW (by omega) hb (zaI_of ⟨zin_zb _, fun q => by rw [zb_1, decide_eq_true_iff] at q; omega, fun _ => ?_⟩)
    exact c195T hL (by omega) t0 (by decide) (zaI_of ⟨zin_1, fun q => absurd q (by decide), fun _ => fin⟩)
