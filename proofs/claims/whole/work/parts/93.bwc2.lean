/-! BEST WAITS in the class: harms by waits -/
theorem c2 {L : Nat} {xs : Nat → Int32} (hL : L ≤ 3072) {D : Nat} {J : zJ} {K : zK} {Q : zR → Nat → zJ → zK → Prop} (hD : 1 ≤ D) (hQ : ∀ J' : zJ, (∀ b : Nat, b < 128 ∨ 132 < b → J' b = J b) → (∀ k : Int, 0 ≤ k → k < 7 → J' 128 0 k = J 122 0 k ∧ J' 129 0 k = J 123 0 k ∧ J' 130 0 k = J 124 0 k ∧ J' 131 0 k = J 125 0 k ∧ J' 132 0 k = J 126 0 k) → Q (.inl none) 0 J' K) : zCall L xs D 2 [zr 127, zr 121] J K Q := by
  obtain ⟨D, rfl⟩ : ∃ d, D = d + 1 := ⟨D - 1, by omega⟩
  refine z2 hL ?_
  refine ⟨by omega, by decide, by decide, by decide, by decide, by decide, by omega, by decide, by decide, by decide, by decide, by decide, by omega, by decide, by decide, by decide, by decide, by decide, by omega, by decide, by decide, by decide, by decide, by decide, by omega, by decide, by decide, by decide, by decide, by decide, ?_⟩
  refine hQ _ (fun b hb => ?_) fun k k0 k1 => ?_
  · rw [zcp_ne _ _ _ _ (by omega), zcp_ne _ _ _ _ (by omega), zcp_ne _ _ _ _ (by omega), zcp_ne _ _ _ _ (by omega), zcp_ne _ _ _ _ (by omega)]
  · have e : (0 : Int) + (k - 0) = k := by omega
    have c : (0 : Int) ≤ k ∧ k < 0 + 7 := by omega
    simp [zcp_at, e, c]
    omega
theorem c2a {L : Nat} {xs : Nat → Int32} (hL : L ≤ 3072) {D : Nat} {J : zJ} {K : zK} {Q : zR → Nat → zJ → zK → Prop} (hD : 1 ≤ D) (hQ : ∀ J' : zJ, (∀ b : Nat, b < 122 ∨ 126 < b → J' b = J b) → (∀ k : Int, 0 ≤ k → k < 7 → J' 122 0 k = J 128 0 k ∧ J' 123 0 k = J 129 0 k ∧ J' 124 0 k = J 130 0 k ∧ J' 125 0 k = J 131 0 k ∧ J' 126 0 k = J 132 0 k) → Q (.inl none) 0 J' K) : zCall L xs D 2 [zr 121, zr 127] J K Q := by
  obtain ⟨D, rfl⟩ : ∃ d, D = d + 1 := ⟨D - 1, by omega⟩
  refine z2a hL ?_
  refine ⟨by omega, by decide, by decide, by decide, by decide, by decide, by omega, by decide, by decide, by decide, by decide, by decide, by omega, by decide, by decide, by decide, by decide, by decide, by omega, by decide, by decide, by decide, by decide, by decide, by omega, by decide, by decide, by decide, by decide, by decide, ?_⟩
  refine hQ _ (fun b hb => ?_) fun k k0 k1 => ?_
  · rw [zcp_ne _ _ _ _ (by omega), zcp_ne _ _ _ _ (by omega), zcp_ne _ _ _ _ (by omega), zcp_ne _ _ _ _ (by omega), zcp_ne _ _ _ _ (by omega)]
  · have e : (0 : Int) + (k - 0) = k := by omega
    have c : (0 : Int) ≤ k ∧ k < 0 + 7 := by omega
    simp [zcp_at, e, c]
    omega
/-- harm by a wait at p, from E on -/
def hv (s : zJ) (p : Int) (E : Ev) (i : Int) : Int := hrm s (evD s (wv s p (5 * i)) p.toNat E)
theorem wv_eq (s : zJ) (p v : Int) : wv s p v p = v := if_pos rfl
theorem wv_ne (s : zJ) {p v q : Int} (h : q ≠ p) : wv s p v q = s 49 0 q := if_neg h
theorem hv_same {s : zJ} (h : LW s) {E : Ev} {p T i : Int} (hO : EO s E p T) (hp : 1 ≤ p) (hp2 : p < s 18 0 0) (hq : prq E.2.1 (5 * i) (5 * (i - 1)) (ord E p (s 18 0 6).toNat)) : hv s p E i = hv s p E (i - 1) := by
  unfold hv
  congr 1
  obtain ⟨m, rfl⟩ : ∃ m : Nat, p = (m : Int) + 1 := ⟨(p - 1).toNat, by omega⟩
  have e : ((m : Int) + 1).toNat = m + 1 := by omega
  rw [e, evD, evD]
  have h1 : evs s (wv s ((m : Int) + 1) (5 * i)) ((m : Int) + 1) E = evs s (wv s ((m : Int) + 1) (5 * (i - 1))) ((m : Int) + 1) E := by
    unfold evs
    rw [wv_eq, wv_eq]
    exact goP_pair (f := E.2.1) _ E (fun _ _ => rfl) (nodup_ord E _ _) hq
  rw [h1]
  have h2 := evs_ok h (w := wv s ((m : Int) + 1) (5 * (i - 1))) (p := (m : Int) + 1) (by omega) hp2 hO
  have e1 : (m : Int) + 1 - 1 = m := by omega
  rw [e1] at h2
  refine evD_w h m _ _ (by omega) h2 fun q q0 q1 => Or.inl ?_
  rw [wv_ne _ (by omega), wv_ne _ (by omega)]
theorem pr_wv {s J : zJ} {p u v : Int} (h : PR s J (wv s p u)) (v0 : 0 ≤ v) (v1 : v ≤ 60) : PR s (zup J 118 0 p v) (wv s p v) := by
  refine ⟨by rw [zup_ne _ _ _ _ (by decide)]; exact h.1, fun q q0 q1 => by rw [zup_ne _ _ _ _ (by decide)]; exact h.2.1 q q0 q1, fun q q0 q1 => ?_⟩
  have h3 := h.2.2 q q0 q1
  rw [zup_at]
  by_cases e : q = p
  · rw [if_pos ⟨rfl, rfl, e⟩, e, wv_eq]
    exact ⟨rfl, v0, v1⟩
  · rw [if_neg (fun z => e z.2.2), wv_ne _ e]
    rw [wv_ne _ e] at h3
    exact h3
theorem c6 {L : Nat} {xs : Nat → Int32} (hL : L ≤ 3072) {D : Nat} {J : zJ} {K : zK} {Q : zR → Nat → zJ → zK → Prop} {s : zJ} (hE : EqS s J) (h : LW s) (hT : TW s) (hP : PW s) {E : Ev} {p T u wt : Int} (hD : 8 ≤ D) (hO : EO s E p T) (hT0 : 0 ≤ T) (hTT : T + 1000 * p ≤ 13000) (hp : p < s 18 0 0) (hh : hlt s p = true) (hC : CR s J E 0 []) (hPR : PR s J (wv s p u)) (hal : J 117 0 11 = aln s) (hQ : ∀ (J' : zJ) (K' : zK) (u' : Int), Fr 117 133 J J' → (∀ b : Nat, b ≠ 134 → K' b = K b) → (∀ i : Int, 0 ≤ i → i < 13 → K' 134 i = K 134 i + wt * hv s p E i) → PR s J' (wv s p u') → J' 117 0 11 = aln s → Q (.inl none) 0 J' K') : zCall L xs D 6 [zr 117, zi p, zl wt] J K Q := by
  obtain ⟨D, rfl⟩ : ∃ d, D = d + 1 := ⟨D - 1, by omega⟩
  have hn := lw_n h
  obtain ⟨hp1, hop⟩ := hlt_1 hh
  refine z6 hL ?_
  refine c2 hL (by omega) fun J1 f1 v1 => zaV_of ?_
  have hE1 : EqS s J1 := fun b a c => (f1 b (by omega)).trans (hE b a c)
  have hC1 : CR s J1 E p [] := cr_eq (cr_nil hC) (f1 _ (by decide)) (f1 _ (by decide)) (f1 _ (by decide)) (f1 _ (by decide)) (f1 _ (by decide))
  refine c26 hL hE1 h (by omega) hO (by omega) hp hh hC1 fun J2 y f2 g2 y0 y1 yb yp => zaI_of ?_
  have key : ∀ (n : Nat) (x7 x5 u1 : Int) (J3 : zJ) (K3 : zK), n = (13 - x7).toNat → 0 ≤ x7 → x7 ≤ 13 → (1 ≤ x7 → x5 = wt * hv s p E (x7 - 1)) → Fr 117 133 J J3 → (∀ b : Nat, 128 ≤ b → b ≤ 132 → J3 b = J1 b) → PR s J3 (wv s p u1) → J3 117 0 11 = aln s → (∀ b : Nat, b ≠ 134 → K3 b = K b) → (∀ i : Int, 0 ≤ i → i < x7 → K3 134 i = K 134 i + wt * hv s p E i) → (∀ i : Int, x7 ≤ i → K3 134 i = K 134 i) → zGo L xs (D + 1) 6 24 [some (zr 117), some (zi p), some (zl wt), none, some (zi y), some (zl x5), none, some (zi x7)] [] J3 K3 Q := by
    intro n; induction n using Nat.strongRecOn with
    | _ n ih =>
    intro x7 x5 u1 J3 K3 hm h0 h1 hx5 hF3 hv3 hPR3 hal3 hK3 hk1 hk2
    refine z6_24 hL ?_
    by_cases hc : x7 < 13
    · have hkk : ∀ z : Int, z = wt * hv s p E x7 → (∀ b : Nat, b ≠ 134 → zku K3 134 x7 (K3 134 x7 + z) b = K b) ∧ (∀ i : Int, 0 ≤ i → i < x7 + 1 → zku K3 134 x7 (K3 134 x7 + z) 134 i = K 134 i + wt * hv s p E i) ∧ (∀ i : Int, x7 + 1 ≤ i → zku K3 134 x7 (K3 134 x7 + z) 134 i = K 134 i) := by
        intro z hz
        refine ⟨fun b hb => ?_, fun i i0 i1 => ?_, fun i i0 => ?_⟩
        · funext j
          rw [zku_at, if_neg (fun q => hb q.1), hK3 b hb]
        · rw [zku_at]
          by_cases e : i = x7
          · rw [if_pos ⟨rfl, e⟩, hk2 x7 (by omega), hz, e]
          · rw [if_neg (fun q => e q.2), hk1 i i0 (by omega)]
        · rw [zku_at, if_neg (by omega), hk2 i (by omega)]
      refine ⟨⟨by omega, by omega⟩, ⟨by omega, by omega⟩, fun _ => by omega, fun _ => ⟨⟨by omega, by omega⟩, by omega, by omega, ?_⟩⟩
      rw [bt_shz y0 (by omega)]
      refine ⟨zin_zb _, fun q => ?_, fun q => ?_⟩
      · have hbf := zb_0.mp q
        have h71 : 1 ≤ x7 := by
          rcases Int.lt_or_le x7 1 with z | z
          · have e : x7 = 0 := by omega
            rw [e, yb] at hbf
            cases hbf
          · exact z
        have hsame := hv_same h hO hp1 hp (yp x7 h71 (by omega) hbf)
        have hz := hkk x5 (by rw [hx5 h71, hsame])
        refine ⟨by omega, by omega, by omega, by omega, ?_⟩
        refine ih _ (by omega) (x7 + 1) x5 u1 J3 _ rfl (by omega) (by omega) (fun _ => ?_) hF3 hv3 hPR3 hal3 hz.1 hz.2.1 hz.2.2
        have e : x7 + 1 - 1 = x7 := by omega
        rw [e, hsame]
        exact hx5 h71
      · refine c2a hL (by omega) fun J4 f4 v4 => zaV_of ⟨by omega, by omega, ?_⟩
        have hF4 : Fr 117 133 J J4 := fun b hb => (f4 b (by omega)).trans (hF3 b hb)
        have hC4 : CR s J4 E p [] := by
          refine cr_ext h hO (cr_nil (q := p) hC) fun k k0 k1 => ?_
          have a := v4 k k0 k1
          have b := v1 k k0 k1
          rw [hv3 128 (by decide) (by decide), hv3 129 (by decide) (by decide), hv3 130 (by decide) (by decide), hv3 131 (by decide) (by decide), hv3 132 (by decide) (by decide)] at a
          exact ⟨a.1.trans b.1, a.2.1.trans b.2.1, a.2.2.1.trans b.2.2.1, a.2.2.2.1.trans b.2.2.2.1, a.2.2.2.2.trans b.2.2.2.2⟩
        have hPR4 : PR s J4 (wv s p u1) := by
          unfold PR at hPR3 ⊢
          rw [f4 117 (by decide), f4 118 (by decide), f4 119 (by decide)]
          exact hPR3
        have e75 : x7 * 5 = 5 * x7 := Int.mul_comm _ _
        rw [e75]
        have hPR5 := pr_wv (v := 5 * x7) hPR4 (by omega) (by omega)
        have hF5 := fr_up hF4 (c := 118) (by decide) (by decide) 0 p (5 * x7)
        have hE5 := eqs_fr hE hF5 (by omega)
        have hC5 : CR s (zup J4 118 0 p (5 * x7)) E 0 [] := cr_nil (cr_eq hC4 (zup_ne _ _ _ _ (by decide)) (zup_ne _ _ _ _ (by decide)) (zup_ne _ _ _ _ (by decide)) (zup_ne _ _ _ _ (by decide)) (zup_ne _ _ _ _ (by decide)))
        refine c27 hL hE5 h hT (c := p.toNat) (T := T) (by omega) (by omega) (by omega) (fun _ => hO) (by omega) hT0 hPR5 hC5 (by omega) fun J6 hF6 hC6 => zaV_of ?_
        have hEv : evT s (wv s p (5 * x7)) p.toNat p E = evD s (wv s p (5 * x7)) p.toNat E := by
          have h5 := evD_T (s := s) (w := wv s p (5 * x7)) p.toNat 0 E
          have e6 : ((0 : Nat) : Int) + (p.toNat : Int) = p := by omega
          rw [e6, Nat.zero_add] at h5
          exact h5.symm
        rw [hEv] at hC6
        have e7 : ((p.toNat : Nat) : Int) = p := by omega
        have hOD := evD_ok h (w := wv s p (5 * x7)) p.toNat E T (by omega) (by rw [e7]; exact hO)
        have hF6' : Fr 117 133 J J6 := fr_tr hF5 (ft_117 hF6)
        have hPR6 := ft_pr hPR5 hF6
        have hal6 : J6 117 0 11 = aln s := by
          rw [hF6.2 11 (by decide), zup_ne _ _ _ _ (by decide), f4 117 (by decide)]
          exact hal3
        have hr := hrm_rng h hP hOD (by omega)
        refine c12 hL (eqs_fr hE hF6' (by omega)) h hT hOD hC6 hal6 (by omega) (zaI_of ⟨⟨by omega, by omega⟩, by omega, by omega, by omega, by omega, ?_⟩)
        have hz := hkk (wt * hv s p E x7) rfl
        refine ih _ (by omega) (x7 + 1) _ (5 * x7) J6 _ rfl (by omega) (by omega) (fun _ => ?_) hF6' (fun b b0 b1 => ?_) hPR6 hal6 hz.1 hz.2.1 hz.2.2
        · have e : x7 + 1 - 1 = x7 := by omega
          rw [e]
          rfl
        · rw [hF6.1 b (by omega) (by omega), zup_ne _ _ _ _ (by omega), f4 b (by omega)]
          exact hv3 b b0 b1
    · have e : x7 = 13 := by omega
      subst e
      exact ⟨⟨by omega, by omega⟩, ⟨by omega, by omega⟩, fun _ => hQ J3 K3 u1 hF3 hK3 (fun i i0 i1 => hk1 i i0 i1) hPR3 hal3, fun q => by omega⟩
  have hF2 : Fr 117 133 J J2 := fun b hb => (f2 b (by omega) (by omega)).trans (f1 b (by omega))
  refine key _ 0 0 u J2 K rfl (by decide) (by decide) (fun q => by omega) hF2 (fun b b0 b1 => f2 b (by omega) (by omega)) ?_ ?_ (fun _ _ => rfl) (fun i i0 i1 => by omega) (fun _ _ => rfl)
  · unfold PR at hPR ⊢
    rw [g2 4 (by decide), f2 118 (by decide) (by decide), f2 119 (by decide) (by decide), f1 117 (by decide), f1 118 (by decide), f1 119 (by decide)]
    exact hPR
  · rw [g2 11 (by decide), f1 117 (by decide)]
    exact hal
