/-! THE BEST WAIT -/
theorem c316 {L : Nat} {xs : Nat → Int32} (hL : L ≤ 3072) {D : Nat} {J : zJ} {K : zK} {Q : zR → Nat → zJ → zK → Prop} (hD : 1 ≤ D) (hQ : ∀ K' : zK, (∀ b : Nat, b ≠ 134 → K' b = K b) → (∀ i : Int, 0 ≤ i → i < 13 → K' 134 i = 0) → Q (.inl none) 0 J K') : zCall L xs D 316 [zr 134, zl 0] J K Q := by
  obtain ⟨D, rfl⟩ : ∃ d, D = d + 1 := ⟨D - 1, by omega⟩
  refine z316 hL ?_
  have key : ∀ (n : Nat) (x3 : Int) (K1 : zK), n = (13 - x3).toNat → 0 ≤ x3 → x3 ≤ 13 → (∀ b : Nat, b ≠ 134 → K1 b = K b) → (∀ i : Int, 0 ≤ i → i < x3 → K1 134 i = 0) → zGo L xs (D + 1) 316 6 [some (zr 134), some (zl 0), none, some (zi x3), some (zi 13)] [] J K1 Q := by
    intro n; induction n using Nat.strongRecOn with
    | _ n ih =>
    intro x3 K1 hm h0 h1 hk1 hk2
    refine z316_6 hL ?_
    by_cases hc : x3 < 13
    · refine ⟨⟨by omega, by omega⟩, ⟨by omega, by omega⟩, fun _ => by omega, fun _ => ⟨by omega, by omega, ?_⟩⟩
      refine ih _ (by omega) (x3 + 1) _ rfl (by omega) (by omega) (fun b hb => ?_) fun i i0 i1 => ?_
      · funext j
        rw [zku_at, if_neg (fun q => hb q.1), hk1 b hb]
      · rw [zku_at]
        by_cases e : i = x3
        · rw [if_pos ⟨rfl, e⟩]
        · rw [if_neg (fun q => e q.2), hk2 i i0 (by omega)]
    · have e : x3 = 13 := by omega
      subst e
      exact ⟨⟨by omega, by omega⟩, ⟨by omega, by omega⟩, fun _ => hQ K1 hk1 hk2, fun q => by omega⟩
  exact key _ 0 K rfl (by decide) (by decide) (fun _ _ => rfl) (fun i i0 i1 => by omega)
theorem wv_self (s : zJ) (p : Int) : wv s p (s 49 0 p) = fun q => s 49 0 q := by
  funext q
  unfold wv
  split
  · rename_i e
    rw [e]
  · rfl
theorem hv_evF {s : zJ} {p u x : Int} (hp : 1 ≤ p) (hp2 : p < s 18 0 0) (i : Int) : hv s p (evT s (wv s p u) (s 18 0 0 - 1 - p).toNat (s 18 0 0 - 1) (ev0 s (stl s x))) i = hrm s (evF s (wv s p (5 * i)) (stl s x)) := by
  unfold hv evF
  congr 1
  have h1 := evD_T (s := s) (w := wv s p (5 * i)) (s 18 0 0 - 1 - p).toNat p.toNat (ev0 s (stl s x))
  have e1 : p.toNat + (s 18 0 0 - 1 - p).toNat = (s 18 0 0 - 1).toNat := by omega
  have e2 : (p.toNat : Int) + ((s 18 0 0 - 1 - p).toNat : Int) = s 18 0 0 - 1 := by omega
  rw [e1, e2] at h1
  rw [h1]
  congr 1
  refine evT_w _ _ _ fun q q0 q1 => ?_
  rw [wv_ne _ (by omega), wv_ne _ (by omega)]
theorem c7 {L : Nat} {xs : Nat → Int32} (hL : L ≤ 3072) {D : Nat} {J : zJ} {K : zK} {Q : zR → Nat → zJ → zK → Prop} {s : zJ} (hE : EqS s J) (h : LW s) (hT : TW s) (hP : PW s) {p : Int} (hD : 10 ≤ D) (h0 : 0 ≤ p) (h1 : p < s 18 0 0) (hQ : ∀ (J' : zJ) (K' : zK), Fr 117 133 J J' → (∀ b : Nat, b ≠ 134 → K' b = K b) → Q (.inl (some (zi (bwv s p)))) 0 J' K') : zCall L xs D 7 [zr 117, zi p] J K Q := by
  obtain ⟨D, rfl⟩ : ∃ d, D = d + 1 := ⟨D - 1, by omega⟩
  have hn := lw_n h
  have h7 := pw7 hn.2.2.2.1
  have hcs2 : 0 ≤ chs s ∧ chs s < 2 ^ (s 18 0 6).toNat := bs_lt (chb s) (s 18 0 6).toNat
  refine z7 hL ?_
  refine c20 hL hE h hT hP (by omega) fun J1 hF1 hPR1 hal1 => zaV_of ?_
  have hE1 := eqs_fr hE hF1 (by omega)
  have hF1' := fr_wk hF1 (a' := 117) (b' := 133) (by decide) (by decide)
  refine c14 hL h hPR1 (by omega) h0 h1 (zaI_of ⟨zin_zb _, fun q => ?_, fun q => ?_⟩)
  · have hh := zb_1.mp q
    obtain ⟨hp1, hop⟩ := hlt_1 hh
    refine c9 hL hE1 h (by omega) (zaI_of ?_)
    refine c316 hL (by omega) fun K2 hk2 hz2 => zaV_of ?_
    have last : ∀ (m i : Nat) (J3 : zJ) (K3 : zK), m = 13 - i → 1 ≤ i → i ≤ 13 → Fr 117 133 J J3 → (∀ b : Nat, b ≠ 134 → K3 b = K b) → (∀ i : Int, 0 ≤ i → i < 13 → K3 134 i = men s (wv s p (5 * i))) → zGo L xs (D + 1) 7 89 [some (zr 117), none, none, some (zi (bwi (fun i => men s (wv s p (5 * i))) (i - 1) : Nat)), some (zi (i : Int))] [] J3 K3 Q := by
      intro m; induction m using Nat.strongRecOn with
      | _ m ih =>
      intro i J3 K3 hm i0 i1 hF3 hk3 hz3
      have hbl := bwi_le (fun i => men s (wv s p (5 * i))) (i - 1)
      refine z7_89 hL ?_
      by_cases hc : i < 13
      · have hra := men_rng h hP (wv s p (5 * (i : Int)))
        have hrb := men_rng h hP (wv s p (5 * (bwi (fun i => men s (wv s p (5 * i))) (i - 1) : Nat)))
        rw [hz3 i (by omega) (by omega), hz3 (bwi (fun i => men s (wv s p (5 * i))) (i - 1) : Nat) (by omega) (by omega)]
        have hcm := zcmp_lt (x := men s (wv s p (5 * (i : Int)))) (y := men s (wv s p (5 * (bwi (fun i => men s (wv s p (5 * i))) (i - 1) : Nat)))) ⟨by omega, by omega⟩ ⟨by omega, by omega⟩
        have ebw : bwi (fun i => men s (wv s p (5 * i))) (i + 1 - 1) = if men s (wv s p (5 * (i : Int))) < men s (wv s p (5 * (bwi (fun i => men s (wv s p (5 * i))) (i - 1) : Nat))) then i else bwi (fun i => men s (wv s p (5 * i))) (i - 1) := by
          have e9 : i + 1 - 1 = (i - 1) + 1 := by omega
          rw [e9, bwi]
          have e8 : i - 1 + 1 = i := by omega
          rw [e8]
        have ei : (i : Int) + 1 = ((i + 1 : Nat) : Int) := by omega
        have hi := ih _ (by omega) (i + 1) J3 K3 rfl (by omega) (by omega) hF3 hk3 hz3
        rw [ebw] at hi
        refine ⟨⟨by omega, by omega⟩, ⟨by omega, by omega⟩, fun _ => by omega, fun _ => ⟨by omega, by omega, by omega, by omega, hcm.2, fun y => ?_, fun y => ?_⟩⟩
        · rw [if_neg (fun z => by have := hcm.1.mpr z; omega)] at hi
          rw [ei]
          exact hi
        · rw [if_pos (hcm.1.mp y)] at hi
          rw [ei]
          exact hi
      · have e : i = 13 := by omega
        subst e
        refine ⟨⟨by omega, by omega⟩, ⟨by omega, by omega⟩, fun _ => ?_, fun q => by omega⟩
        have := hQ J3 K3 hF3 hk3
        unfold bwv at this
        rw [Int.mul_comm] at this
        exact this
    have key : ∀ (n : Nat) (x3 u : Int) (J3 : zJ) (K3 : zK), n = (chs s + 1 - x3).toNat → 0 ≤ x3 → x3 ≤ chs s + 1 → Fr 117 133 J J3 → PR s J3 (wv s p u) → J3 117 0 11 = aln s → (∀ b : Nat, b ≠ 134 → K3 b = K b) → (∀ i : Int, 0 ≤ i → i < 13 → K3 134 i = sm (mnf s (wv s p (5 * i))) x3.toNat) → zGo L xs (D + 1) 7 29 [some (zr 117), some (zi p), some (zi (chs s)), some (zi x3), none] [] J3 K3 Q := by
      intro n; induction n using Nat.strongRecOn with
      | _ n ih =>
      intro x3 u J3 K3 hm x0 x1 hF3 hPR3 hal3 hk3 hz3
      have hE3 := eqs_fr hE hF3 (by omega)
      refine z7_29 hL ?_
      by_cases hc : x3 ≤ chs s
      · have hoa := okl_and h (x := x3) x0 (by omega)
        refine ⟨⟨by omega, by omega⟩, ⟨by omega, by omega⟩, fun _ => by omega, fun _ => ⟨hoa.2, fun q => ?_, fun q => ?_⟩⟩
        · refine ih _ (by omega) (x3 + 1) u J3 K3 rfl (by omega) (by omega) hF3 hPR3 hal3 hk3 fun i i0 i1 => ?_
          rw [sm_next x0]
          have e : mnf s (wv s p (5 * i)) x3 = 0 := by
            unfold mnf
            rw [if_neg (fun y => q (hoa.1.mpr y))]
          rw [e, Int.add_zero]
          exact hz3 i i0 i1
        · have hok := hoa.1.mp q
          refine c23 hL hE3 h (by omega) ⟨by omega, by omega⟩ fun J4 hF4 hl4 => zaV_of ?_
          have hE4 : EqS s J4 := fun b a c => (hF4 b (by omega)).trans (hE3 b a c)
          have hPR4 : PR s J4 (wv s p u) := by
            unfold PR at hPR3 ⊢
            rw [hF4 117 (by decide), hF4 118 (by decide), hF4 119 (by decide)]
            exact hPR3
          refine c24 hL hE4 h hT hPR4 (st := stl s x3) (by omega) (fun k k0 k1 => by rw [hl4 k k0 k1]; rfl) fun J5 hF5 hC5 => zaV_of ?_
          have hFT5 : FrT J4 J5 := ⟨fun b x y => hF5 b (by omega), fun k hk => by rw [hF5 117 (by decide)]⟩
          have hE5 := ft_eqs hE4 hFT5
          rw [hE5 18 (by decide) (by decide)]
          have hO := ev0_ok h (st := stl s x3) fun k k0 k1 => stl_rng h hP x3 k0 k1
          refine c27 hL hE5 h hT (w := wv s p u) (c := (s 18 0 0 - 1 - p).toNat) (T := 2000) (by omega) (by omega) (by omega) (fun _ => hO) (by omega) (by decide) (ft_pr hPR4 hFT5) hC5 (by omega) fun J6 hF6 hC6 => zaV_of ?_
          have hFT6 := ft_tr hFT5 hF6
          have hF6' : Fr 117 133 J J6 := fun b hb => by rw [hFT6.1 b (by omega) (by omega), hF4 b (by omega), hF3 b hb]
          have hE6 := eqs_fr hE hF6' (by omega)
          have hOT := evT_ok h (w := wv s p u) (s 18 0 0 - 1 - p).toNat (s 18 0 0 - 1) _ 2000 (by omega) (by omega) hO
          have e8 : s 18 0 0 - 1 - ((s 18 0 0 - 1 - p).toNat : Int) = p := by omega
          rw [e8] at hOT
          refine c28 hL hE6 h (x := x3) ⟨by omega, by omega⟩ (by omega) (zaL_of ?_)
          refine c6 hL hE6 h hT hP (u := u) (by omega) hOT (by omega) (by omega) h1 hh hC6 (ft_pr hPR4 hFT6) (by rw [hFT6.2 11 (by decide), hF4 117 (by decide)]; exact hal3) fun J7 K7 u7 hF7 hk7 hz7 hPR7 hal7 => zaV_of ?_
          refine ih _ (by omega) (x3 + 1) u7 J7 K7 rfl (by omega) (by omega) (fr_tr hF6' hF7) hPR7 hal7 (fun b hb => (hk7 b hb).trans (hk3 b hb)) fun i i0 i1 => ?_
          rw [hz7 i i0 i1, hz3 i i0 i1, sm_next x0, hv_evF hp1 h1]
          have e : mnf s (wv s p (5 * i)) x3 = wgt s x3 * hrm s (evF s (wv s p (5 * i)) (stl s x3)) := by
            unfold mnf
            rw [if_pos hok]
          rw [e]
      · have e : x3 = chs s + 1 := by omega
        subst e
        refine ⟨⟨by omega, by omega⟩, ⟨by omega, by omega⟩, fun _ => ?_, fun q => by omega⟩
        exact last _ 1 J3 K3 rfl (by decide) (by decide) hF3 hk3 fun i i0 i1 => by rw [men_eq h]; exact hz3 i i0 i1
    refine key _ 0 (s 49 0 p) J1 K2 rfl (by decide) (by omega) hF1' (by rw [wv_self]; exact hPR1) hal1 hk2 fun i i0 i1 => ?_
    rw [hz2 i i0 i1]
    rfl
  · have hh := zb_0.mp q
    have e : bwv s p = 0 := by
      unfold bwv
      rw [bwi_const fun j _ => men_run h hP hh]
      rfl
    have := hQ J1 K hF1' (fun _ _ => rfl)
    rw [e] at this
    exact this
theorem op26 {G : zJ → zK → Prop} (hG : GOk G) : ∀ a : Int, zin a → OpW (Inv G) 325 4 141 199 zin [zi a] := by
  intro a ha
  intro L xs D D2 J K hL hD hD2 hI; obtain ⟨⟨hW, hT, hP, hM, hC, hTp, hF, hIm⟩, hg⟩ := id hI; have hE := eqs_rfl J; have hn := lw_n hW; have hpn := pw_n hP
  obtain ⟨D, rfl⟩ : ∃ d, D = d + 1 := ⟨D - 1, by omega⟩
  obtain ⟨D2, rfl⟩ : ∃ d, D2 = d + 1 := ⟨D2 - 1, by omega⟩
  have hM0 := ml_fm hM (fm_t J 0)
  have t0 : zup J 142 0 0 0 142 0 0 = 0 := zup_eq _ _ _ _ _
  refine z141 hL ?_
  refine c164 hL hE hW (by omega) ha (fun h0 h1 hf => zaV_of ?_) (fun hc => zaV_ex (Or.inr ⟨1, 1, rfl, rfl, zonb_ok (by decide +kernel), by decide, by decide, ?_⟩)) (fun h0 h1 hf => zaV_ex (Or.inr ⟨0, 2, rfl, rfl, zonb_ok (by decide +kernel), by decide, by decide, ?_⟩))
  · refine c7 hL hE hW hT hP (by omega) h0 h1 fun J1 K1 hF1 hK1 => zaI_of (Or.inl ⟨_, rfl, rfl, ?_, fun x => ?_⟩)
    · have := bwv_rng J a
      exact ⟨by omega, by omega⟩
    have f1 : FrC J J1 := fc_fr (fc_rfl J) hF1 (by decide)
    have f2 := fm_t J1 0
    have hM1 := ml_fm (ml_fc hM f1) f2
    have hC2 := mc_fm (mc_fc hC f1) f2
    have t1 : zup J1 142 0 0 0 142 0 0 = 0 := zup_eq _ _ _ _ _
    refine z199 hL ?_
    refine c196 hL hM1 hW (by omega) ha t1 (fun _ _ _ => zaI_of ⟨zin_0, fun _ => ?_, fun q => absurd rfl q⟩) (fun hq => absurd ⟨h0, h1⟩ hq) (fun _ _ e => by rw [hf] at e; cases e)
    refine c200 hL hM1 hW hP hC2 (by omega) h0 h1 fun J2 hF2 ht2 => zaI_of ?_
    exact ⟨rfl, rfl, ht2.trans t1, zku_o K1 x, inv_q hG hI f1 (fm_tr f2 hF2) (by rw [zku_n _ _ (by decide)]; exact hK1 112 (by decide))⟩
  · have fin := fin_x hG hI (fc_rfl J) (fm_t2 J 0 1) rfl (zup_eq _ _ _ _ _) 0 zin_0
    refine z199 hL ?_
    exact c196 hL hM0 hW (by omega) ha t0 (fun h0 h1 _ => absurd ⟨h0, h1⟩ hc) (fun _ => zaI_of ⟨zin_1, fun q => absurd q (by decide), fun _ => fin⟩) (fun h0 h1 _ => absurd ⟨h0, h1⟩ hc)
  · have fin := fin_x hG hI (fc_rfl J) (fm_t2 J 0 2) rfl (zup_eq _ _ _ _ _) 0 zin_0
    refine z199 hL ?_
    exact c196 hL hM0 hW (by omega) ha t0 (fun _ _ hf2 => by rw [hf] at hf2; cases hf2) (fun hq => absurd ⟨h0, h1⟩ hq) (fun _ _ _ => zaI_of ⟨zin_1, fun q => absurd q (by decide), fun _ => fin⟩)
