/-! OPERATIONS that only ask: fault, told, way, count, row, bound, behind -/
theorem c195F {L : Nat} {xs : Nat → Int32} (hL : L ≤ 3072) {D : Nat} {J : zJ} {K : zK} {Q : zR → Nat → zJ → zK → Prop} {x2 : Int} (hD : 1 ≤ D) (h0 : J 142 0 0 = 0) (hQ : Q (.inl (some (zi (0)))) 0 J K) : zCall L xs D 195 [zr 142, zi 0, zi x2] J K Q := by
  obtain ⟨D, rfl⟩ : ∃ d, D = d + 1 := ⟨D - 1, by omega⟩
  refine z195 hL ?_
  rw [h0]
  refine ⟨zin_0, fun _ => ⟨zin_0, fun _ => ⟨Or.inl rfl, hQ⟩, fun q => absurd rfl q⟩, fun q => absurd rfl q⟩
theorem c195T {L : Nat} {xs : Nat → Int32} (hL : L ≤ 3072) {D : Nat} {J : zJ} {K : zK} {Q : zR → Nat → zJ → zK → Prop} {x2 : Int} (hD : 1 ≤ D) (h0 : J 142 0 0 = 0) (a2 : 1 ≤ x2 ∧ x2 ≤ 2) (hQ : Q (.inl (some (zi (1)))) 0 (zup J 142 0 0 x2) K) : zCall L xs D 195 [zr 142, zi 1, zi x2] J K Q := c195 hL (b := true) hD h0 a2 (fun e => by cases e) fun _ => hQ
def zonb (k pc E : Nat) (c : Int) : Bool := match zon k pc E with
  | some (.inl (some (.inl x))) => decide (x = c)
  | _ => false
theorem zonb_ok {k pc E : Nat} {c : Int} (h : zonb k pc E c = true) : zon k pc E = some (.inl (some (zi c))) := by
  unfold zonb at h
  split at h
  · next x hx =>
    rw [hx, of_decide_eq_true h]
  · cases h
theorem zku_o (K : zK) (v : Int) : zku K 561 0 v 561 0 = v := by rw [zku_at, if_pos ⟨rfl, rfl⟩]
theorem zku_n (K : zK) (v : Int) {b : Nat} (h : b ≠ 561) : zku K 561 0 v b = K b := by
  unfold zku
  rw [zset_ne _ _ h]
section FQ
variable {G : zJ → zK → Prop} {J J1 J2 : zJ} {K K1 : zK}
/-- ends of a question's model call -/
theorem fin_w (hG : GOk G) (h : Inv G J K) (f1 : FrC J J1) (f2 : FrM J1 J2) (hK : K1 112 = K 112) (t : J2 142 0 0 = 0) (v x : Int) : (Sum.inl (some (zi v)) : zR) = .inl (some (zi v)) ∧ (0 : Nat) = 0 ∧ J2 142 0 0 = 0 ∧ zku K1 561 0 x 561 0 = x ∧ Inv G J2 (zku K1 561 0 x) := ⟨rfl, rfl, t, zku_o K1 x, inv_q hG h f1 f2 (by rw [zku_n _ _ (by decide)]; exact hK)⟩
theorem fin_x (hG : GOk G) (h : Inv G J K) (f1 : FrC J J1) (f2 : FrM J1 J2) (hK : K1 112 = K 112) {c : Int} (t : J2 142 0 0 = c) (v : Int) (hv : zin v) : (∃ v2, (Sum.inl (some (zi v)) : zR) = .inl (some (zi v2)) ∧ zin v2) ∧ (0 : Nat) = 0 ∧ J2 142 0 0 = c ∧ Inv G J2 K1 := ⟨⟨v, rfl, hv⟩, rfl, t, inv_q hG h f1 f2 hK⟩
theorem fin_d (hG : GOk G) (h : Inv G J K) (f1 : FrC J J1) (f2 : FrM J1 J2) (hK : K1 112 = K 112) (v : Int) : (Sum.inl (some (zi v)) : zR) = .inl (some (zi v)) ∧ (0 : Nat) = 0 ∧ Inv G J2 K1 := ⟨rfl, rfl, inv_q hG h f1 f2 hK⟩
/-- the model's field thrown is cleared, or set -/
theorem fm_t (J : zJ) (v : Int) : FrM J (zup J 142 0 0 v) := fm_fd (fm_rfl J) (by decide) v
theorem fm_t2 (J : zJ) (v w : Int) : FrM J (zup (zup J 142 0 0 v) 142 0 0 w) := fm_fd (fm_t J v) (by decide) w
end FQ
theorem pct_bs (P : Int → Bool) {n : Nat} (h : n ≤ 14) : pct (bs P n) 14 = cnt P n := by
  have hb := bs_lt P n
  rw [pct_wk hb.1 hb.2 h]
  unfold pct
  exact cnt_cong fun i h0 h1 => by
    rw [bt_bs P n i h0]
    simp [h1]
theorem bt_ones (n : Nat) {k : Int} (h : 0 ≤ k) : bt (2 ^ n - 1) k = decide (k < n) := by
  unfold bt
  have hp := pw_pos n
  have e : ((2 : Int) ^ n - 1).toNat = 2 ^ n - 1 := by
    rw [pw_nat] at hp ⊢
    omega
  rw [e, Nat.testBit_two_pow_sub_one]
  exact decide_eq_decide.mpr (by omega)
theorem ldf_cong {s : zJ} {x y : Int} (h : ∀ k, 0 ≤ k → k < s 18 0 6 → bt x k = bt y k) : ldf s x = ldf s y := by
  unfold ldf
  exact sm_cong fun i h0 h1 => by rw [h i h0 (by omega)]
theorem ldf_rng {s : zJ} (h : LW s) (x : Int) : 0 ≤ ldf s x ∧ ldf s x ≤ 105 := by
  have hn := lw_n h
  unfold ldf
  have := sm_nn (f := fun k => if bt x k then s 25 0 k else 0) (c := 15) (n := (s 18 0 6).toNat) fun i h0 h1 => by
    have hk := lw_k h h0 (by omega)
    split <;> omega
  omega
theorem op2 {G : zJ → zK → Prop} (hG : GOk G) : OpD (Inv G) 152 220 [] := by
  intro L xs D J K hL hD hI; obtain ⟨⟨hW, hT, hP, hM, hC, hTp, hF, hIm⟩, hg⟩ := id hI; have hE := eqs_rfl J; have hn := lw_n hW; have hpn := pw_n hP
  obtain ⟨D, rfl⟩ : ∃ d, D = d + 1 := ⟨D - 1, by omega⟩
  refine z152 hL ⟨_, rfl, rfl, hF.1, ?_⟩
  refine z220 hL ?_
  rw [hF.2.1]
  exact fin_d hG hI (fc_rfl J) (fm_t J 0) rfl _
theorem op4 {G : zJ → zK → Prop} (hG : GOk G) : ∀ a b : Int, zin a → zin b → OpW (Inv G) 349 5 186 303 zin [zi a, zi b] := by
  intro a b ha hb
  intro L xs D D2 J K hL hD hD2 hI; obtain ⟨⟨hW, hT, hP, hM, hC, hTp, hF, hIm⟩, hg⟩ := id hI; have hE := eqs_rfl J; have hn := lw_n hW; have hpn := pw_n hP
  obtain ⟨D, rfl⟩ : ∃ d, D = d + 1 := ⟨D - 1, by omega⟩
  obtain ⟨D2, rfl⟩ : ∃ d, D2 = d + 1 := ⟨D2 - 1, by omega⟩
  have hM0 := ml_fm hM (fm_t J 0)
  have t0 : zup J 142 0 0 0 142 0 0 = 0 := zup_eq _ _ _ _ _
  have bad : ∀ {c : Int}, ¬ (0 ≤ a ∧ a < J 18 0 0 ∧ 0 ≤ b ∧ b < J 18 0 0) → zCall L xs (D2 + 1) 303 [zr 142, zi a, zi b] J K fun r2 e2 J2 K2 => (∃ v2, r2 = .inl (some (zi v2)) ∧ zin v2) ∧ e2 = 0 ∧ J2 142 0 0 = 1 ∧ Inv G J2 K2 := by
    intro c hc
    have hx := c195T (xs := xs) hL (D := D2) (J := zup J 142 0 0 0) (K := K) (x2 := 1) (Q := fun r2 e2 J2 K2 => zaI r2 e2 (fun x => x = 1 ∧ J2 = zup (zup J 142 0 0 0) 142 0 0 1 ∧ K2 = K) (fun _ => False)) (by omega) t0 (by decide) (zaI_of ⟨rfl, rfl, rfl⟩)
    have fin := fin_x hG hI (fc_rfl J) (fm_t2 J 0 1) rfl (zup_eq _ _ _ _ _) 0 zin_0
    refine z303 hL ?_
    refine c248 hL hM0 hW (by omega) ha (zaI_of ⟨zin_zb _, fun q => ?_, fun q => ?_⟩)
    · refine c195T hL (by omega) t0 (by decide) (zaI_of ⟨zin_1, fun q => absurd q (by decide), fun _ => fin⟩)
    · refine c248 hL hM0 hW (by omega) hb (zaI_of ⟨zin_zb _, fun q2 => ?_, fun q2 => ?_⟩)
      · rw [zb_1, decide_eq_true_iff] at q q2
        omega
      · refine c195T hL (by omega) t0 (by decide) (zaI_of ⟨zin_1, fun q => absurd q (by decide), fun _ => fin⟩)
  refine z186 hL ?_
  refine c166 hL hE hW (by omega) ha (fun h0 h1 => zaV_of ?_) fun hc => zaV_ex (Or.inr ⟨1, 1, rfl, rfl, zonb_ok (by decide +kernel), by decide, by decide, ?_⟩)
  · refine c166 hL hE hW (by omega) hb (fun g0 g1 => zaV_of ?_) fun hc => zaV_ex (Or.inr ⟨1, 1, rfl, rfl, zonb_ok (by decide +kernel), by decide, by decide, ?_⟩)
    · have hr := way_rng hW h0 h1 g0 g1
      refine c121 hL hE hW hT (by omega) h0 h1 g0 g1 (zaI_of (Or.inl ⟨_, rfl, rfl, ⟨by omega, by omega⟩, fun x => ?_⟩))
      refine z303 hL ?_
      refine c248 hL hM0 hW (by omega) ha (zaI_of ⟨zin_zb _, fun q => ?_, fun _ => ?_⟩)
      · rw [zb_0, decide_eq_false_iff_not] at q
        omega
      · refine c248 hL hM0 hW (by omega) hb (zaI_of ⟨zin_zb _, fun _ => ?_, fun q => ?_⟩)
        · refine c195F hL (by omega) t0 (zaI_of ⟨zin_0, fun _ => ?_, fun q => absurd rfl q⟩)
          exact c304 hL hM0 hW (by omega) h0 h1 g0 g1 (zaI_of (fin_w hG hI (fc_rfl J) (fm_t J 0) rfl t0 _ x))
        · rw [zb_0, decide_eq_false_iff_not] at q
          omega
    · exact bad (c := 0) (by omega)
  · exact bad (c := 0) (by omega)
theorem op3 {G : zJ → zK → Prop} (hG : GOk G) : ∀ a : Int, zin a → OpW (Inv G) 347 4 184 299 zin [zi a] := by
  intro a ha
  intro L xs D D2 J K hL hD hD2 hI; obtain ⟨⟨hW, hT, hP, hM, hC, hTp, hF, hIm⟩, hg⟩ := id hI; have hE := eqs_rfl J; have hn := lw_n hW; have hpn := pw_n hP
  obtain ⟨D, rfl⟩ : ∃ d, D = d + 1 := ⟨D - 1, by omega⟩
  obtain ⟨D2, rfl⟩ : ∃ d, D2 = d + 1 := ⟨D2 - 1, by omega⟩
  have hM0 := ml_fm hM (fm_t J 0)
  have hmn := ml_n hM0
  have t0 : zup J 142 0 0 0 142 0 0 = 0 := zup_eq _ _ _ _ _
  have h7 := pw7 hn.2.2.2.1
  refine z184 hL ⟨ha, fun hc => ⟨by omega, Or.inr ⟨0, 1, rfl, rfl, zonb_ok (by decide +kernel), by decide, by decide, ?_⟩⟩, rfl, ?_⟩
  · refine z299 hL ?_
    refine c240 hL (by omega) ha zin_0 ⟨by decide, by decide⟩ (zaI_of ⟨zin_zb _, fun q => ?_, fun q => ?_⟩)
    · rw [zb_1, decide_eq_true_iff] at q
      omega
    · exact c195T hL (by omega) t0 (by decide) (zaI_of ⟨zin_1, fun q => absurd q (by decide), fun _ => fin_x hG hI (fc_rfl J) (fm_t2 J 0 1) rfl (zup_eq _ _ _ _ _) 0 zin_0⟩)
  · -- the model's answer, from its loop on
    have hmod : ∀ (v : Int) (K1 : zK), 0 ≤ a → a ≤ 5 → K1 112 = K 112 → (a = 0 → v = J 18 0 0) → (a = 1 → v = J 18 0 6) → (a = 2 → v = J 18 0 11) → (a = 3 → v = J 18 0 14) → (a = 4 → v = cnt (isF J) (J 18 0 0).toNat) → (a = 5 → v = ldf J (2 ^ (J 18 0 6).toNat - 1)) → ∀ x, zCall L xs (D2 + 1) 299 [zr 142, zi a] J (zku K1 561 0 x) fun r2 e2 J2 K2 => r2 = .inl (some (zi v)) ∧ e2 = 0 ∧ J2 142 0 0 = 0 ∧ K2 561 0 = x ∧ Inv G J2 K2 := by
      intro v K1 a0 a5 hK v0 v1 v2 v3 v4 v5 x
      have fin := fin_w hG hI (fc_rfl J) (fm_t J 0) hK t0
      refine z299 hL ?_
      refine c240 hL (by omega) ha zin_0 ⟨by decide, by decide⟩ (zaI_of ⟨zin_zb _, fun _ => ?_, fun q => ?_⟩)
      · refine c195F hL (by omega) t0 (zaI_of ⟨zin_0, fun _ => ⟨ha, ⟨by decide, by decide⟩, fun h4 => ?_, fun h4 => ⟨by omega, by omega, ?_⟩⟩, fun q => absurd rfl q⟩)
        · have key : ∀ (n : Nat) (x3 : Int), n = (J 18 0 0 - x3).toNat → 0 ≤ x3 → x3 ≤ J 18 0 0 → zGo L xs (D2 + 1) 299 45 [some (zr 142), some (zi a), some (zi (cnt (isF J) x3.toNat)), some (zi x3)] [] (zup J 142 0 0 0) (zku K1 561 0 x) fun r2 e2 J2 K2 => r2 = .inl (some (zi v)) ∧ e2 = 0 ∧ J2 142 0 0 = 0 ∧ K2 561 0 = x ∧ Inv G J2 K2 := by
            intro n; induction n using Nat.strongRecOn with
            | _ n ih =>
            intro x3 hm h0 h1
            refine z299_45 hL ?_
            rw [hmn.1]
            by_cases hc : x3 < J 18 0 0
            · have hi := ih _ (by omega) (x3 + 1) rfl (by omega) (by omega)
              rw [cnt_next h0] at hi
              refine ⟨by decide, by decide, ⟨by omega, by omega⟩, ⟨by omega, by omega⟩, fun _ => by omega, fun _ => ?_⟩
              refine c245 hL hM0 hW (by omega) h0 hc (zaI_of ⟨zin_zb _, fun q => ?_, fun q => ?_⟩)
              · rw [q] at hi
                exact hi
              · have e : zb (isF J x3) = 1 := by
                  rcases zb_01 (isF J x3) with q2 | q2
                  · exact absurd q2 q
                  · exact q2
                rw [e] at hi
                exact hi
            · have e : x3 = J 18 0 0 := by omega
              rw [e]
              refine ⟨by decide, by decide, ⟨by omega, by omega⟩, ⟨by omega, by omega⟩, fun _ => ⟨ha, ⟨by decide, by decide⟩, fun q => ?_, fun q => ?_⟩, fun _ => by omega⟩
              · refine c205 hL hM0 hW (by omega) (by decide) (zaI_of ?_)
                have e5 : ldf J 255 = v := by
                  rw [v5 (by omega)]
                  refine ldf_cong fun k k0 k1 => ?_
                  have e8 : (255 : Int) = 2 ^ 8 - 1 := by decide
                  rw [e8, bt_ones 8 k0, bt_ones _ k0]
                  exact decide_eq_decide.mpr (by omega)
                rw [e5]
                exact fin v x
              · rw [← v4 q]
                exact fin v x
          exact key _ 0 rfl (by omega) (by omega)
        · have e : zup J 142 0 0 0 144 0 a = v := by
            rw [zup_ne _ _ _ _ (by decide)]
            have hm2 := ml_n hM
            rcases (show a = 0 ∨ a = 1 ∨ a = 2 ∨ a = 3 by omega) with q | q | q | q
            · rw [v0 q, q]; exact hm2.1
            · rw [v1 q, q]; exact hm2.2.1
            · rw [v2 q, q]; exact hm2.2.2.1
            · rw [v3 q, q]; exact hm2.2.2.2
          rw [e]
          exact fin v x
      · rw [zb_0, decide_eq_false_iff_not] at q
        omega
    refine ⟨fun q => ?_, fun q => ?_, fun q => ?_, fun q => ?_, fun q => ?_, fun q => ?_, trivial⟩
    · exact Or.inl ⟨_, rfl, rfl, ⟨by omega, by omega⟩, hmod _ K (by omega) (by omega) rfl (fun _ => rfl) (fun _ => by omega) (fun _ => by omega) (fun _ => by omega) (fun _ => by omega) (fun _ => by omega)⟩
    · exact Or.inl ⟨_, rfl, rfl, ⟨by omega, by omega⟩, hmod _ K (by omega) (by omega) rfl (fun _ => by omega) (fun _ => rfl) (fun _ => by omega) (fun _ => by omega) (fun _ => by omega) (fun _ => by omega)⟩
    · exact Or.inl ⟨_, rfl, rfl, ⟨by omega, by omega⟩, hmod _ K (by omega) (by omega) rfl (fun _ => by omega) (fun _ => by omega) (fun _ => rfl) (fun _ => by omega) (fun _ => by omega) (fun _ => by omega)⟩
    · exact Or.inl ⟨_, rfl, rfl, ⟨by omega, by omega⟩, hmod _ K (by omega) (by omega) rfl (fun _ => by omega) (fun _ => by omega) (fun _ => by omega) (fun _ => rfl) (fun _ => by omega) (fun _ => by omega)⟩
    · have hb := bs_lt (isF J) (J 18 0 0).toNat
      have hb2 : (2 : Int) ^ (J 18 0 0).toNat ≤ 2 ^ 12 := pw_le (by omega)
      have hcn := cnt_rng (isF J) (J 18 0 0).toNat
      refine c58 hL hE hW (by omega) (zaI_of ?_)
      refine c317 hL (by omega) hb.1 (by omega) (zaI_of ?_)
      rw [pct_bs _ (by omega)]
      exact Or.inl ⟨_, rfl, rfl, ⟨by omega, by omega⟩, hmod _ K (by omega) (by omega) rfl (fun _ => by omega) (fun _ => by omega) (fun _ => by omega) (fun _ => by omega) (fun _ => rfl) (fun _ => by omega)⟩
    · have hl := ldf_rng hW (2 ^ (J 18 0 6).toNat - 1)
      refine c55 hL hE hW (by omega) (zaI_of ⟨by omega, by omega, ?_⟩)
      rw [hT.2.2.2.2.2 _ (by omega) (by omega)]
      exact Or.inl ⟨_, rfl, rfl, ⟨by omega, by omega⟩, hmod _ K (by omega) (by omega) rfl (fun _ => by omega) (fun _ => by omega) (fun _ => by omega) (fun _ => by omega) (fun _ => by omega) (fun _ => rfl)⟩
