/-! SORT -/
theorem mem_b {s : zJ} (h : LW s) (t : Int) : (0 ≤ mem s t ∧ mem s t < 2 ^ (s 18 0 6).toNat) ∧ ∀ k : Int, 0 ≤ k → bt (mem s t) k = (decide (k < s 18 0 6) && decide (s 44 0 k = t)) := by
  have hn := lw_n h
  unfold mem
  refine ⟨bs_lt _ _, fun k k0 => ?_⟩
  rw [bt_bs _ _ k k0]
  congr 1
  exact decide_eq_decide.mpr (by omega)
theorem mem_eq {s : zJ} (h : LW s) {t x : Int} (x0 : 0 ≤ x) (x1 : x < 2 ^ (s 18 0 6).toNat) (hx : ∀ k : Int, 0 ≤ k → k < s 18 0 6 → bt x k = decide (s 44 0 k = t)) : x = mem s t := by
  have hn := lw_n h
  have hm := mem_b h t
  refine bt_ext x0 hm.1.1 fun k k0 => ?_
  rw [hm.2 k k0]
  by_cases q : k < s 18 0 6
  · rw [hx k k0 q, decide_eq_true q, Bool.true_and]
  · rw [decide_eq_false q, Bool.false_and]
    exact bt_lt x0 x1 (by omega)
theorem mem_cbh {s : zJ} (h : LW s) (hP : PW s) {t : Int} (t0 : 0 ≤ t) (t1 : t < s 40 0 0) : cbh s (mem s t) 0 = s 42 0 t := by
  have hn := lw_n h
  have ht := pw_t hP t0 t1
  have h1 := sm_row hP t0 t1 hn.2.2.1 (fun _ => 1)
  have h2 : sm (fun _ => 1) (s 42 0 t).toNat = s 42 0 t := by
    have : ∀ n : Nat, sm (fun _ => 1) n = n := fun n => by
      induction n with
      | zero => rfl
      | succ n ih =>
        rw [sm, ih]
        omega
    rw [this]
    omega
  rw [h2] at h1
  rw [h1]
  unfold cbh
  refine sm_cong fun k k0 k1 => ?_
  have hk := lw_k h k0 (by omega)
  show zb (bt (mem s t) k && onb s 0 (s 24 0 k)) = _
  rw [(mem_b h t).2 k k0, decide_eq_true (by omega), Bool.true_and, onb_t.mpr (on_zero h (s 24 0 k) (by omega) (by omega)), Bool.and_true]
  by_cases e : s 44 0 k = t
  · rw [decide_eq_true e, if_pos e]
    rfl
  · rw [decide_eq_false e, if_neg e]
    rfl
theorem mem_sg {s : zJ} (h : LW s) (hP : PW s) {t : Int} (t0 : 0 ≤ t) (t1 : t < s 40 0 0) : sgb (fun i => s 43 0 (t * 7 + i)) 0 (s 42 0 t) = mem s t := by
  have hn := lw_n h
  have hsl := bs_lt (sgP (fun i => s 43 0 (t * 7 + i)) 0 (s 42 0 t)) 7
  have iff : ∀ k : Int, 0 ≤ k → k < s 18 0 6 → (sgP (fun i => s 43 0 (t * 7 + i)) 0 (s 42 0 t) k = true ↔ s 44 0 k = t) := fun k k0 k1 => by
    rw [sgP_t (Int.le_refl 0)]
    constructor
    · rintro ⟨i, i0, i1, i2⟩
      have := (pw_r hP t0 t1 i0 i1).2.2
      rw [← i2]
      exact this
    · intro e
      have := (pw_k hP k0 k1).2.2 (by omega)
      rw [e] at this
      obtain ⟨i, i0, i1, i2⟩ := this
      exact ⟨i, i0, i1, i2⟩
  have big : ∀ k : Int, s 18 0 6 ≤ k → sgP (fun i => s 43 0 (t * 7 + i)) 0 (s 42 0 t) k = false := fun k k1 => by
    rw [← Bool.not_eq_true, sgP_t (Int.le_refl 0)]
    rintro ⟨i, i0, i1, i2⟩
    have h5 := (pw_r hP t0 t1 i0 i1).2.1
    have i2' : s 43 0 (t * 7 + i) = k := i2
    omega
  refine bt_ext hsl.1 (mem_b h t).1.1 fun k k0 => ?_
  rw [(mem_b h t).2 k k0]
  unfold sgb
  rw [bt_bs _ _ k k0]
  by_cases q : k < s 18 0 6
  · rw [decide_eq_true q, decide_eq_true (p := k < ((7 : Nat) : Int)) (by omega), Bool.true_and, Bool.true_and, Bool.eq_iff_iff, decide_eq_true_iff]
    exact iff k k0 q
  · rw [decide_eq_false q, Bool.false_and, big k (by omega), Bool.and_false]
theorem c201 {L : Nat} {xs : Nat → Int32} (hL : L ≤ 3072) {D : Nat} {J : zJ} {K : zK} {Q : zR → Nat → zJ → zK → Prop} {s : zJ} (h : LW s) (hP : PW s) (hC : MC s J) {t : Int} (t0 : 0 ≤ t) (t1 : t < s 40 0 0) (hD : 1 ≤ D) (hQ : Q (.inl (some (zi (mem s t)))) 0 J K) : zCall L xs D 201 [zr 142, zi t] J K Q := by
  obtain ⟨D, rfl⟩ : ∃ d, D = d + 1 := ⟨D - 1, by omega⟩
  have hn := lw_n h
  have hpn := pw_n hP
  have htt := pw_t hP t0 t1
  have hmt := mc_t hC t0 t1
  refine z201 hL ?_
  have key : ∀ (n : Nat) (i : Int), n = (s 42 0 t - i).toNat → 0 ≤ i → i ≤ s 42 0 t → zGo L xs (D + 1) 201 4 [some (zr 142), some (zi t), some (zi (sgb (fun i => s 43 0 (t * 7 + i)) 0 i)), some (zi i)] [] J K Q := by
    intro n; induction n using Nat.strongRecOn with
  | _ n ih =>
    intro i hm h0 h1
    refine z201_4 hL ?_
    rw [hmt.1]
    refine ⟨t0, by omega, ⟨by omega, by omega⟩, ⟨by omega, by omega⟩, fun q => ?_, fun q => ?_⟩
    · have e : i = s 42 0 t := by omega
      rw [e, mem_sg h hP t0 t1]
      exact hQ
    · have hr := pw_r hP t0 t1 h0 q
      have hb := sgb_lt (fun i => s 43 0 (t * 7 + i)) 0 i
      have ho := bt_or1 (t := sgb (fun i => s 43 0 (t * 7 + i)) 0 i) (k := s 43 0 (t * 7 + i)) (n := 7) (by decide) hb.1 (by omega) hr.1 (by omega)
      rw [hmt.2.2 i h0 q]
      refine ⟨t0, by omega, t0, by omega, h0, by omega, hr.1, by omega, ?_⟩
      have e : zor (sgb (fun i => s 43 0 (t * 7 + i)) 0 i) (1 * 2 ^ (s 43 0 (t * 7 + i)).toNat) = sgb (fun i => s 43 0 (t * 7 + i)) 0 (i + 1) := by
        refine bt_ext ho.1.1 (sgb_lt _ _ _).1 fun k k0 => ?_
        rw [ho.2 k k0]
        unfold sgb
        rw [bt_bs _ _ k k0, bt_bs _ _ k k0, sgP_s h0]
        by_cases hk : k < ((7 : Nat) : Int)
        · rw [decide_eq_true hk, Bool.true_and, Bool.true_and]
        · rw [decide_eq_false hk, Bool.false_and, Bool.false_and, Bool.false_or]
          exact decide_eq_false (by omega)
      rw [e]
      exact ih _ (by omega) (i + 1) rfl (by omega) (by omega)
  have h0 := key _ 0 rfl (by decide) (by omega)
  have e : sgb (fun i => s 43 0 (t * 7 + i)) 0 0 = 0 := by
    symm
    unfold sgb
    refine bs_of (by decide) fun k k0 => ?_
    rw [bt_z, sgP_0, Bool.and_false]
  rw [e] at h0
  exact h0
/-- a train's row sorted -/
def rwS (s : zJ) (t : Int) (s' : zJ) : Prop := (∀ b : Nat, 18 ≤ b → b ≤ 51 → b ≠ 43 → s' b = s b) ∧ (∀ i : Int, 0 ≤ i → i < s 42 0 t → s' 43 0 (t * 7 + i) = sq s (mem s t) 0 i) ∧ ∀ i : Int, i < t * 7 ∨ t * 7 + s 42 0 t ≤ i → s' 43 0 i = s 43 0 i
theorem pw_sort {s s' : zJ} (h : LW s) (hP : PW s) {t : Int} (t0 : 0 ≤ t) (t1 : t < s 40 0 0) (hR : rwS s t s') : PW s' := by
  obtain ⟨e, r1, r2⟩ := hR
  have hn := lw_n h
  have hpn := pw_n hP
  have hcb := mem_cbh h hP t0 t1
  have e18 := e 18 (by decide) (by decide) (by decide)
  have e19 := e 19 (by decide) (by decide) (by decide)
  have e20 := e 20 (by decide) (by decide) (by decide)
  have e40 := e 40 (by decide) (by decide) (by decide)
  have e42 := e 42 (by decide) (by decide) (by decide)
  have e44 := e 44 (by decide) (by decide) (by decide)
  have other : ∀ t' i : Int, 0 ≤ t' → t' < s 40 0 0 → t' ≠ t → 0 ≤ i → i < s 42 0 t' → s' 43 0 (t' * 7 + i) = s 43 0 (t' * 7 + i) := fun t' i a b c d f => by
    have h1 := pw_t hP a b
    have h2 := pw_t hP t0 t1
    exact r2 _ (by omega)
  have hN : 0 < s 18 0 0 := pw_l hP (by omega)
  have mine : ∀ i : Int, 0 ≤ i → i < s 42 0 t → 0 ≤ s' 43 0 (t * 7 + i) ∧ s' 43 0 (t * 7 + i) < s 18 0 6 ∧ s 44 0 (s' 43 0 (t * 7 + i)) = t := fun i i0 i1 => by
    obtain ⟨k, k0, k1, k2, _, k4⟩ := sq_at h (mem s t) hN i0 (by omega)
    rw [r1 i i0 i1, k4]
    rw [(mem_b h t).2 k k0, Bool.and_eq_true, decide_eq_true_iff, decide_eq_true_iff] at k2
    exact ⟨k0, k1, k2.2⟩
  unfold PW at hP ⊢
  obtain ⟨h1, h2, h3, h4, h5, h6, h7, h8, h9⟩ := hP
  rw [e18, e40, e42, e44, e 41 (by decide) (by decide) (by decide), e 45 (by decide) (by decide) (by decide), e 46 (by decide) (by decide) (by decide), e 47 (by decide) (by decide) (by decide), e 48 (by decide) (by decide) (by decide), e 49 (by decide) (by decide) (by decide), e 50 (by decide) (by decide) (by decide), e 51 (by decide) (by decide) (by decide)]
  simp only [way_eq e19 e20]
  refine ⟨h1, h2, fun t' i a b c d => ?_, fun t' i j a b c d f => ?_, fun k k0 k1 => ?_, h6, h7, h8, h9⟩
  · by_cases et : t' = t
    · subst et
      exact mine i c d
    · rw [other t' i a b et c d]
      exact h3 t' i a b c d
  · by_cases et : t' = t
    · subst et
      rw [r1 i c (by omega), r1 j (by omega) f]
      intro z
      have := sq_inj h (mem s t') hN c (by omega) (by omega) (by omega) z
      omega
    · rw [other t' i a b et c (by omega), other t' j a b et (by omega) f]
      exact h4 t' i j a b c d f
  · obtain ⟨g1, g2, g3⟩ := h5 k k0 k1
    refine ⟨g1, g2, fun g0 => ?_⟩
    by_cases et : s 44 0 k = t
    · have hb : bt (mem s t) k = true := by
        rw [(mem_b h t).2 k k0, decide_eq_true k1, decide_eq_true et]
        rfl
      obtain ⟨a1, a2, a3⟩ := spt_ok h (mem s t) k0 k1 hb
      rw [et]
      exact ⟨spt s (mem s t) k, a1, by omega, by rw [r1 _ a1 (by omega)]; exact a3⟩
    · obtain ⟨i, i0, i1, i2⟩ := g3 g0
      exact ⟨i, i0, i1, by rw [other _ i g0 g2 et i0 i1]; exact i2⟩
theorem c227 {L : Nat} {xs : Nat → Int32} (hL : L ≤ 3072) {D : Nat} {J : zJ} {K : zK} {Q : zR → Nat → zJ → zK → Prop} {t m : Int} (t0 : 0 ≤ t) (t1 : t < 4) (hm : J 142 0 37 = m) (m0 : 0 ≤ m) (m1 : m ≤ 7) (hD : 1 ≤ D) (hQ : ∀ J' : zJ, (∀ b : Nat, b ≠ 229 → b ≠ 234 → J' b = J b) → (∀ r i : Int, r ≠ t → J' 229 r i = J 229 r i) → (∀ i : Int, 0 ≤ i → i < m → J' 229 t i = J 533 0 i) → J' 234 0 t = m → (∀ r : Int, r ≠ t → J' 234 0 r = J 234 0 r) → Q (.inl none) 0 J' K) : zCall L xs D 227 [zr 142, zi t] J K Q := by
  obtain ⟨D, rfl⟩ : ∃ d, D = d + 1 := ⟨D - 1, by omega⟩
  refine z227 hL ?_
  have key : ∀ (n : Nat) (k : Int) (J1 : zJ), n = (m - k).toNat → 0 ≤ k → k ≤ m → (∀ b : Nat, b ≠ 229 → J1 b = J b) → (∀ r i : Int, r ≠ t → J1 229 r i = J 229 r i) → (∀ i : Int, 0 ≤ i → i < k → J1 229 t i = J 533 0 i) → zGo L xs (D + 1) 227 2 [some (zr 142), some (zi t), some (zi k)] [] J1 K Q := by
    intro n; induction n using Nat.strongRecOn with
  | _ n ih =>
    intro k J1 hmk k0 k1 f1 g1 g2
    refine z227_2 hL ?_
    rw [f1 142 (by decide), hm, f1 533 (by decide)]
    refine ⟨⟨by omega, by omega⟩, ⟨by omega, by omega⟩, fun q => ⟨t0, t1, ?_⟩, fun q => ⟨t0, t1, k0, by omega, t0, t1, k0, by omega, ih _ (by omega) (k + 1) _ rfl (by omega) (by omega) (fun b hb => by rw [zup_ne _ _ _ _ hb]; exact f1 b hb) (fun r i hr => by rw [zup_nj _ _ hr]; exact g1 r i hr) fun i i0 i1 => ?_⟩⟩
    · refine hQ _ (fun b x y => by rw [zup_ne _ _ _ _ y]; exact f1 b x) (fun r i hr => by rw [zup_ne _ _ _ _ (by decide)]; exact g1 r i hr) (fun i i0 i1 => by rw [zup_ne _ _ _ _ (by decide)]; exact g2 i i0 (by omega)) (zup_eq _ _ _ _ _) (fun r hr => by rw [zup_nk _ _ hr, f1 234 (by decide)])
    · by_cases e : i = k
      · rw [e, zup_eq]
      · rw [zup_nk _ _ e]
        exact g2 i i0 (by omega)
  exact key _ 0 J rfl (by decide) m0 (fun _ _ => rfl) (fun _ _ _ => rfl) fun i i0 i1 => by omega
theorem op9 {G : zJ → zK → Prop} (hG : GOk G) : ∀ a : Int, zin a → OpW (Inv G) 345 4 181 294 zin [zi a] := by
  intro a ha
  intro L xs D D2 J K hL hD hD2 hI; obtain ⟨⟨hW, hT, hP, hM, hC, hTp, hF, hIm⟩, hg⟩ := id hI; have hE := eqs_rfl J; have hn := lw_n hW; have hpn := pw_n hP
  obtain ⟨D, rfl⟩ : ∃ d, D = d + 1 := ⟨D - 1, by omega⟩
  obtain ⟨D2, rfl⟩ : ∃ d, D2 = d + 1 := ⟨D2 - 1, by omega⟩
  have h7p := pw7 hn.2.2.2.1
  refine z181 hL ?_
  refine c169 hL hE (by omega) (by omega) ha (fun t0 t1 => zaV_of ?_) fun hc => zaV_ex (Or.inr ⟨3, 1, rfl, rfl, zonb_ok (by decide +kernel), by decide, by decide, ?_⟩)
  · have htt := pw_t hP t0 t1
    have hcb := mem_cbh hW hP t0 t1
    have hmb := mem_b hW a
    have hN : 0 < J 18 0 0 := pw_l hP (by omega)
    refine ⟨t0, by omega, by omega, by omega, by decide, by omega, by omega, by omega, ?_⟩
    have hE1 : EqS J (zcp J 43 141 (a * 7) 0 (J 42 0 a)) := eqs_cp hE (by decide) _ _ _
    refine c82 hL hE1 hW hP (by omega) t0 t1 fun x x0 x1 hx => zaI_of ?_
    have ex := mem_eq hW x0 x1 hx
    subst ex
    refine c67a hL (eql_of hE1) hW hT x0 (by omega) (by omega) (by omega) (by omega) fun J3 f3 k1 k2 => zaV_of ?_
    rw [hcb] at k1 k2
    have e141 : ∀ i : Int, 0 ≤ i → i < J 42 0 a → J3 141 0 i = J 43 0 (a * 7 + i) := fun i i0 i1 => by
      rw [f3 141 (by decide) (by decide) (by decide), zcp_at, if_pos ⟨rfl, rfl, by omega, by omega⟩]
      congr 1
      omega
    have e43 : zcp J 43 141 (a * 7) 0 (J 42 0 a) 43 = J 43 := zcp_ne _ _ _ _ (by decide)
    have fr : ∀ b : Nat, b ≠ 43 → b ≠ 90 → b ≠ 91 → b ≠ 141 → J3 b = J b := fun b x y z w => by
      rw [f3 b y z x, zcp_ne _ _ _ _ w]
    have hR : rwS J a J3 := ⟨fun b x y z => fr b z (by omega) (by omega) (by omega), k1, fun i hi => by rw [k2 i hi, e43]⟩
    have hP3 := pw_sort hW hP t0 t1 hR
    have sqr : ∀ i : Int, 0 ≤ i → i < J 42 0 a → 0 ≤ sq J (mem J a) 0 i ∧ sq J (mem J a) 0 i < 7 := fun i i0 i1 => by
      obtain ⟨k, q0, q1, _, _, q4⟩ := sq_at hW (mem J a) hN i0 (by omega)
      rw [q4]
      omega
    -- the model
    have model : ∀ (v x : Int), v = zb (decide (0 < cnt (fun i => decide (sq J (mem J a) 0 i ≠ J 43 0 (a * 7 + i))) (J 42 0 a).toNat)) → zCall L xs (D2 + 1) 294 [zr 142, zi a] J3 (zku K 561 0 x) fun r2 e2 J2 K2 => r2 = .inl (some (zi v)) ∧ e2 = 0 ∧ J2 142 0 0 = 0 ∧ K2 561 0 = x ∧ Inv G J2 K2 := by
      intro v x hv
      have t3 : zup J3 142 0 0 0 142 0 0 = 0 := zup_eq _ _ _ _ _
      have e142 : J3 142 = J 142 := fr 142 (by decide) (by decide) (by decide) (by decide)
      have am : ∀ b : Nat, 142 ≤ b → J3 b = J b := fun b hb => fr b (by omega) (by omega) (by omega) (by omega)
      have hM3 : ML J (zup J3 142 0 0 0) := ml_fm (ml_eq hM (am _ (by decide)) (am _ (by decide)) (am _ (by decide)) (am _ (by decide)) (am _ (by decide))) (fm_t J3 0)
      have hC3 : MC J (zup J3 142 0 0 0) := mc_fm (mc_eq hC (by rw [e142]) (by rw [e142]) (am _ (by decide)) (am _ (by decide)) (am _ (by decide)) (am _ (by decide)) (am _ (by decide)) (am _ (by decide)) (am _ (by decide)) (am _ (by decide))) (fm_t J3 0)
      refine z294 hL ?_
      refine c252 hL (by omega) hC3.1 (by omega) ha (zaI_of ⟨zin_zb _, fun _ => ?_, fun q => by rw [zb_0, decide_eq_false_iff_not] at q; omega⟩)
      refine c195F hL (by omega) t3 (zaI_of ⟨zin_0, fun _ => ?_, fun q => absurd rfl q⟩)
      refine c201 hL hW hP hC3 t0 t1 (by omega) (zaI_of ?_)
      refine c265 hL hM3 hW hmb.1.1 hmb.1.2 (by omega) fun J4 f4 g4 h37 k4 => zaV_of ?_
      rw [hcb] at h37 k4
      have hmt := mc_t hC t0 t1
      have e229 : J4 229 = J 229 := by rw [f4 229 (by decide) (by decide), zup_ne _ _ _ _ (by decide)]; exact am 229 (by decide)
      have e4 : ∀ b : Nat, b ≠ 142 → b ≠ 533 → J4 b = J3 b := fun b y z => by rw [f4 b y z, zup_ne _ _ _ _ y]
      have key : ∀ (n : Nat) (i : Int), n = (J 42 0 a - i).toNat → 0 ≤ i → i ≤ J 42 0 a → zGo L xs (D2 + 1) 294 41 [some (zr 142), some (zi a), some (zi (zb (decide (0 < cnt (fun i => decide (sq J (mem J a) 0 i ≠ J 43 0 (a * 7 + i))) i.toNat)))), some (zi i)] [] J4 (zku K 561 0 x) fun r2 e2 J2 K2 => r2 = .inl (some (zi v)) ∧ e2 = 0 ∧ J2 142 0 0 = 0 ∧ K2 561 0 = x ∧ Inv G J2 K2 := by
        intro n; induction n using Nat.strongRecOn with
  | _ n ih =>
        intro i hm i0 i1
        refine z294_41 hL ?_
        rw [h37, e229]
        refine ⟨⟨by omega, by omega⟩, ⟨by omega, by omega⟩, fun q => ?_, fun q => ?_⟩
        · have ei : i = J 42 0 a := by omega
          refine c227 hL t0 (by omega) h37 htt.2.2.1 (by omega) (by omega) fun J5 f5 g5 h5 k5 l5 => zaV_of ?_
          have e5 : ∀ b : Nat, b ≠ 142 → b ≠ 229 → b ≠ 234 → b ≠ 533 → J5 b = J3 b := fun b y z w u => by rw [f5 b z w]; exact e4 b y u
          have e5m : ∀ k : Int, k ≠ 0 → k ≠ 37 → J5 142 0 k = J 142 0 k := fun k y z => by rw [f5 142 (by decide) (by decide), g4 k z, zup_nk _ _ y, e142]
          have ej : ∀ b : Nat, b ≠ 43 → b ≠ 90 → b ≠ 91 → b ≠ 141 → b ≠ 142 → b ≠ 229 → b ≠ 234 → b ≠ 533 → J5 b = J b := fun b a1 a2 a3 a4 a5 a6 a7 a8 => by rw [e5 b a5 a6 a7 a8]; exact fr b a1 a2 a3 a4
          have hP5 : PW J5 := pw_s hP3 (e5 18 (by decide) (by decide) (by decide) (by decide)) (e5 19 (by decide) (by decide) (by decide) (by decide)) (e5 20 (by decide) (by decide) (by decide) (by decide)) fun b y z => e5 b (by omega) (by omega) (by omega) (by omega)
          have hC5 : MC J5 J5 := by
            have x43 : J5 43 = J3 43 := e5 43 (by decide) (by decide) (by decide) (by decide)
            have q18 := ej 18 (by decide) (by decide) (by decide) (by decide) (by decide) (by decide) (by decide) (by decide)
            have q40 := ej 40 (by decide) (by decide) (by decide) (by decide) (by decide) (by decide) (by decide) (by decide)
            have q41 := ej 41 (by decide) (by decide) (by decide) (by decide) (by decide) (by decide) (by decide) (by decide)
            have q42 := ej 42 (by decide) (by decide) (by decide) (by decide) (by decide) (by decide) (by decide) (by decide)
            have q45 := ej 45 (by decide) (by decide) (by decide) (by decide) (by decide) (by decide) (by decide) (by decide)
            have q46 := ej 46 (by decide) (by decide) (by decide) (by decide) (by decide) (by decide) (by decide) (by decide)
            have q47 := ej 47 (by decide) (by decide) (by decide) (by decide) (by decide) (by decide) (by decide) (by decide)
            have q48 := ej 48 (by decide) (by decide) (by decide) (by decide) (by decide) (by decide) (by decide) (by decide)
            have q49 := ej 49 (by decide) (by decide) (by decide) (by decide) (by decide) (by decide) (by decide) (by decide)
            have q50 := ej 50 (by decide) (by decide) (by decide) (by decide) (by decide) (by decide) (by decide) (by decide)
            have q51 := ej 51 (by decide) (by decide) (by decide) (by decide) (by decide) (by decide) (by decide) (by decide)
            obtain ⟨c1, c2, c3, c4, c5, c6⟩ := hC
            refine ⟨by rw [e5m 15 (by decide) (by decide), q40]; exact c1, by rw [e5m 16 (by decide) (by decide), q40]; exact c2, fun t y z => ?_, fun p y z => ?_, fun k y z => ?_, fun j y z => ?_⟩
            · rw [q40] at z
              rw [q42, ej 235 (by decide) (by decide) (by decide) (by decide) (by decide) (by decide) (by decide) (by decide), q41]
              obtain ⟨d1, d2, d3⟩ := c3 t y z
              by_cases et : t = a
              · subst et
                refine ⟨k5, d2, fun i w u => ?_⟩
                rw [h5 i w u, k4 i w u, x43, k1 i w u]
              · refine ⟨by rw [l5 t et, e4 234 (by decide) (by decide), am 234 (by decide)]; exact d1, d2, fun i w u => ?_⟩
                rw [g5 t i et, e229, d3 i w u, x43]
                have h8 := pw_t hP y z
                exact (hR.2.2 _ (by omega)).symm
            · rw [q40, q49, ej 236 (by decide) (by decide) (by decide) (by decide) (by decide) (by decide) (by decide) (by decide), ej 237 (by decide) (by decide) (by decide) (by decide) (by decide) (by decide) (by decide) (by decide)]
              exact c4 p y z
            · rw [q18] at z
              rw [q51, q50, ej 238 (by decide) (by decide) (by decide) (by decide) (by decide) (by decide) (by decide) (by decide), ej 239 (by decide) (by decide) (by decide) (by decide) (by decide) (by decide) (by decide) (by decide)]
              exact c5 k y z
            · rw [q40] at z
              rw [q45, q46, q47, q48, ej 240 (by decide) (by decide) (by decide) (by decide) (by decide) (by decide) (by decide) (by decide)]
              exact c6 j y z
          refine ⟨by rw [hv, ei], rfl, by rw [f5 142 (by decide) (by decide), g4 0 (by decide)]; exact t3, zku_o K x, ?_, ?_⟩
          · exact in_m hI.1 (ej 0 (by decide) (by decide) (by decide) (by decide) (by decide) (by decide) (by decide) (by decide)) (ej 1 (by decide) (by decide) (by decide) (by decide) (by decide) (by decide) (by decide) (by decide)) (fun b y z => ej b (by omega) (by omega) (by omega) (by omega) (by omega) (by omega) (by omega) (by omega)) (fun b y z => ej b (by omega) (by omega) (by omega) (by omega) (by omega) (by omega) (by omega) (by omega)) (fun b y z => ej b (by omega) (by omega) (by omega) (by omega) (by omega) (by omega) (by omega) (by omega)) (ej 557 (by decide) (by decide) (by decide) (by decide) (by decide) (by decide) (by decide) (by decide)) (e5m 1 (by decide) (by decide)) (e5m 3 (by decide) (by decide)) (e5m 14 (by decide) (by decide)) (e5m 17 (by decide) (by decide)) hP5 hC5
          · have q40 := ej 40 (by decide) (by decide) (by decide) (by decide) (by decide) (by decide) (by decide) (by decide)
            have q105 := ej 105 (by decide) (by decide) (by decide) (by decide) (by decide) (by decide) (by decide) (by decide)
            exact hG.1 J J5 K _ hg (fun b y z => ej b (by omega) (by omega) (by omega) (by omega) (by omega) (by omega) (by omega) (by omega)) (by rw [q40]) (by rw [q40]) (fun t _ _ => by rw [ej 41 (by decide) (by decide) (by decide) (by decide) (by decide) (by decide) (by decide) (by decide)]) (fun b y z => ej b (by omega) (by omega) (by omega) (by omega) (by omega) (by omega) (by omega) (by omega)) (by rw [q105]) (by rw [q105]) (zku_n _ _ (by decide))
        · have hs := sqr i i0 q
          have hr := pw_r hP t0 t1 i0 q
          have hi := ih _ (by omega) (i + 1) rfl (by omega) (by omega)
          rw [cnt_next i0] at hi
          have hcr := cnt_rng (fun i => decide (sq J (mem J a) 0 i ≠ J 43 0 (a * 7 + i))) i.toNat
          rw [k4 i i0 q, hmt.2.2 i i0 q]
          refine ⟨i0, by omega, t0, by omega, t0, by omega, i0, by omega, ⟨by omega, by omega⟩, ⟨by omega, by omega⟩, fun z => ?_, fun z => ?_⟩
          · rw [decide_eq_false (p := sq J (mem J a) 0 i ≠ J 43 0 (a * 7 + i)) (fun w => w z), zb_f, Int.add_zero] at hi
            exact hi
          · rw [decide_eq_true (p := sq J (mem J a) 0 i ≠ J 43 0 (a * 7 + i)) z, zb_t, decide_eq_true (p := 0 < _ + 1) (by omega)] at hi
            exact hi
      have h0 := key _ 0 rfl (by decide) (by omega)
      exact h0
    have key : ∀ (n : Nat) (i : Int), n = (J 42 0 a - i).toNat → 0 ≤ i → i ≤ J 42 0 a → (∀ j : Int, 0 ≤ j → j < i → sq J (mem J a) 0 j = J 43 0 (a * 7 + j)) → zGo L xs (D + 1) 181 63 [some (zr 0), none, some (zi (a * 7)), some (zi (J 42 0 a)), some (zi i)] [] J3 K fun r e J1 K1 => (∃ v, r = .inl (some (zi v)) ∧ e = 0 ∧ zin v ∧ ∀ x, zCall L xs (D2 + 1) 294 [zr 142, zi a] J1 (zku K1 561 0 x) fun r2 e2 J2 K2 => r2 = .inl (some (zi v)) ∧ e2 = 0 ∧ J2 142 0 0 = 0 ∧ K2 561 0 = x ∧ Inv G J2 K2) ∨ (∃ (E : Nat) (c : Int), r = .inr E ∧ e = 1 ∧ zon 345 4 E = some (.inl (some (zi c))) ∧ 1 ≤ c ∧ c ≤ 2 ∧ zCall L xs (D2 + 1) 294 [zr 142, zi a] J1 K1 fun r2 e2 J2 K2 => (∃ v2, r2 = .inl (some (zi v2)) ∧ zin v2) ∧ e2 = 0 ∧ J2 142 0 0 = c ∧ Inv G J2 K2) := by
      intro n; induction n using Nat.strongRecOn with
  | _ n ih =>
      intro i hm i0 i1 hf
      refine z181_63 hL ⟨⟨by omega, by omega⟩, ⟨by omega, by omega⟩, fun q => Or.inl ⟨_, rfl, rfl, zin_0, fun x => model _ x ?_⟩, fun q => ?_⟩
      · have : cnt (fun i => decide (sq J (mem J a) 0 i ≠ J 43 0 (a * 7 + i))) (J 42 0 a).toNat = 0 := sm_zero fun j j0 j1 => by
          show zb (decide (sq J (mem J a) 0 j ≠ J 43 0 (a * 7 + j))) = 0
          rw [decide_eq_false (fun w => w (hf j j0 (by omega)))]
          rfl
        rw [this]
        rfl
      · have hs := sqr i i0 q
        have hr := pw_r hP t0 t1 i0 q
        rw [hR.2.1 i i0 q, e141 i i0 q]
        refine ⟨by omega, by omega, i0, by omega, ⟨by omega, by omega⟩, ⟨by omega, by omega⟩, fun z => ?_, fun z => Or.inl ⟨_, rfl, rfl, zin_1, fun x => model _ x ?_⟩⟩
        · refine ih _ (by omega) (i + 1) rfl (by omega) (by omega) fun j j0 j1 => ?_
          by_cases e : j = i
          · rw [e]
            exact z
          · exact hf j j0 (by omega)
        · have : 0 < cnt (fun i => decide (sq J (mem J a) 0 i ≠ J 43 0 (a * 7 + i))) (J 42 0 a).toNat := cnt_pos.mpr ⟨i, i0, by omega, decide_eq_true z⟩
          rw [decide_eq_true this]
          rfl
    have e42 : J 42 0 a = J 42 0 a := rfl
    exact key _ 0 rfl (by decide) (by omega) fun j j0 j1 => by omega
  · have hC0 := mc_fm hC (fm_t J 0)
    have t0 : zup J 142 0 0 0 142 0 0 = 0 := zup_eq _ _ _ _ _
    have fin := fin_x hG hI (fc_rfl J) (fm_t2 J 0 1) rfl (zup_eq _ _ _ _ _) 0 zin_0
    refine z294 hL ?_
    refine c252 hL (by omega) hC0.1 (by omega) ha (zaI_of ⟨zin_zb _, fun q => by rw [zb_1, decide_eq_true_iff] at q; omega, fun _ => ?_⟩)
    exact c195T hL (by omega) t0 (by decide) (zaI_of ⟨zin_1, fun q => absurd q (by decide), fun _ => fin⟩)
