/-! THE OPERATION group -/
theorem pw_put {s J : zJ} (hP : PW s) (hn : 0 ≤ s 18 0 6 ∧ s 18 0 6 ≤ 7) {kp : Int → Int} (hk : ∀ k : Int, 0 ≤ k → k < s 18 0 6 → 0 ≤ kp k ∧ kp k < s 40 0 0) (e : ∀ b : Nat, 18 ≤ b → b ≤ 51 → b ≠ 42 → b ≠ 43 → b ≠ 44 → J b = s b) (v42 : ∀ t : Int, 0 ≤ t → t < s 40 0 0 → J 42 0 t = cnt (fun j => decide (kp j = t)) (s 18 0 6).toNat) (v43 : ∀ j : Int, 0 ≤ j → j < s 18 0 6 → J 43 0 (kp j * 7 + cnt (fun i => decide (kp i = kp j)) j.toNat) = j) (v44 : ∀ j : Int, 0 ≤ j → j < s 18 0 6 → J 44 0 j = kp j) : PW J := by
  have hN : (((s 18 0 6).toNat : Nat) : Int) = s 18 0 6 := by omega
  have row : ∀ t i : Int, 0 ≤ t → t < s 40 0 0 → 0 ≤ i → i < J 42 0 t → ∃ k : Int, 0 ≤ k ∧ k < s 18 0 6 ∧ kp k = t ∧ cnt (fun j => decide (kp j = t)) k.toNat = i ∧ J 43 0 (t * 7 + i) = k := fun t i t0 t1 i0 i1 => by
    rw [v42 t t0 t1] at i1
    obtain ⟨k, k0, k1, k2, k3⟩ := cnt_nth (P := fun j => decide (kp j = t)) _ i i0 i1
    have k2' : kp k = t := of_decide_eq_true k2
    have h3 := v43 k k0 (by omega)
    rw [k2', k3] at h3
    exact ⟨k, k0, by omega, k2', k3, h3⟩
  unfold PW at hP ⊢
  obtain ⟨h1, h2, h3, h4, h5, h6, h7, h8, h9⟩ := hP
  have e18 := e 18 (by decide) (by decide) (by decide) (by decide) (by decide)
  have e40 := e 40 (by decide) (by decide) (by decide) (by decide) (by decide)
  rw [e18, e40, e 41 (by decide) (by decide) (by decide) (by decide) (by decide), e 45 (by decide) (by decide) (by decide) (by decide) (by decide), e 46 (by decide) (by decide) (by decide) (by decide) (by decide), e 47 (by decide) (by decide) (by decide) (by decide) (by decide), e 48 (by decide) (by decide) (by decide) (by decide) (by decide), e 49 (by decide) (by decide) (by decide) (by decide) (by decide), e 50 (by decide) (by decide) (by decide) (by decide) (by decide), e 51 (by decide) (by decide) (by decide) (by decide) (by decide)]
  simp only [way_eq (e 19 (by decide) (by decide) (by decide) (by decide) (by decide)) (e 20 (by decide) (by decide) (by decide) (by decide) (by decide))]
  refine ⟨h1, fun t a b => ?_, fun t i a b c d => ?_, fun t i j a b c d f => ?_, fun k k0 k1 => ?_, h6, h7, h8, h9⟩
  · have := h2 t a b
    have hc := cnt_rng (fun j => decide (kp j = t)) (s 18 0 6).toNat
    rw [v42 t a b]
    omega
  · obtain ⟨k, k0, k1, k2, k3, k4⟩ := row t i a b c d
    rw [k4, v44 k k0 k1]
    exact ⟨k0, k1, k2⟩
  · obtain ⟨k, k0, k1, k2, k3, k4⟩ := row t i a b c (by omega)
    obtain ⟨k', k0', k1', k2', k3', k4'⟩ := row t j a b (by omega) f
    rw [k4, k4']
    intro z
    rw [z, k3'] at k3
    omega
  · have h := hk k k0 k1
    rw [v44 k k0 k1]
    refine ⟨by omega, h.2, fun _ => ⟨cnt (fun i => decide (kp i = kp k)) k.toNat, (cnt_rng _ _).1, ?_, v43 k k0 k1⟩⟩
    rw [v42 _ h.1 h.2]
    exact cnt_lt (P := fun i => decide (kp i = kp k)) (k := s 18 0 6) k0 k1 (decide_eq_true rfl)
theorem c173 {L : Nat} {xs : Nat → Int32} (hL : L ≤ 3072) {D : Nat} {J : zJ} {K : zK} {Q : zR → Nat → zJ → zK → Prop} {s : zJ} (hE : EqS s J) (h : LW s) (hT : TW s) (hP : PW s) {kp : Int → Int} (hkp : ∀ k : Int, 0 ≤ k → k < s 18 0 6 → J 113 0 k = kp k ∧ 0 ≤ kp k ∧ kp k < s 40 0 0) (hD : 8 ≤ D) (hQ : ∀ J' : zJ, (∀ b : Nat, b ≠ 42 → b ≠ 43 → b ≠ 44 → b ≠ 90 → b ≠ 91 → J' b = J b) → PW J' → (∀ t : Int, 0 ≤ t → t < s 40 0 0 → J' 42 0 t = cbh s (gst kp (s 18 0 6).toNat t) 0 ∧ ∀ i : Int, 0 ≤ i → i < cbh s (gst kp (s 18 0 6).toNat t) 0 → J' 43 0 (t * 7 + i) = sq s (gst kp (s 18 0 6).toNat t) 0 i) → Q (.inl none) 0 J' K) : zCall L xs D 173 [zr 0] J K Q := by
  obtain ⟨D, rfl⟩ : ∃ d, D = d + 1 := ⟨D - 1, by omega⟩
  have hn := lw_n h
  have hpn := pw_n hP
  have p7 := pw7 (n := s 18 0 6) (by omega)
  have hN : (((s 18 0 6).toNat : Nat) : Int) = s 18 0 6 := by omega
  -- each row as the first
  have sorts : ∀ (n : Nat) (t : Int) (J1 : zJ), n = (s 40 0 0 - t).toNat → 0 ≤ t → t ≤ s 40 0 0 → (∀ b : Nat, b ≠ 42 → b ≠ 43 → b ≠ 44 → b ≠ 90 → b ≠ 91 → J1 b = J b) → PW J1 → (∀ k : Int, 0 ≤ k → k < s 18 0 6 → J1 44 0 k = kp k) → (∀ t' : Int, 0 ≤ t' → t' < t → ∀ i : Int, 0 ≤ i → i < cbh s (gst kp (s 18 0 6).toNat t') 0 → J1 43 0 (t' * 7 + i) = sq s (gst kp (s 18 0 6).toNat t') 0 i) → zGo L xs (D + 1) 173 66 [some (zr 0), some (zi t)] [] J1 K Q := by
    intro n; induction n using Nat.strongRecOn with
  | _ n ih =>
    intro t J1 hm t0 t1 k1 hP1 v44 v43
    have eL1 : EqL s J1 := fun b x y => (k1 b (by omega) (by omega) (by omega) (by omega) (by omega)).trans (hE b x (by omega))
    have hW1 := lw_l h eL1
    have e18 : J1 18 = s 18 := eL1 18 (by decide) (by decide)
    have e40 : J1 40 = s 40 := (k1 40 (by decide) (by decide) (by decide) (by decide) (by decide)).trans (hE 40 (by decide) (by decide))
    have memx : ∀ t' : Int, mem J1 t' = gst kp (s 18 0 6).toNat t' := fun t' => by
      unfold mem gst
      rw [e18]
      refine bs_cong fun k k0 k1 => ?_
      rw [v44 k k0 (by omega)]
    have cbx : ∀ t' : Int, 0 ≤ t' → t' < s 40 0 0 → J1 42 0 t' = cbh s (gst kp (s 18 0 6).toNat t') 0 := fun t' a b => by
      rw [← mem_cbh hW1 hP1 a (by rw [e40]; exact b), memx, cbh_e eL1]
    refine z173_66 hL ?_
    rw [e40]
    refine ⟨⟨by omega, by omega⟩, ⟨by omega, by omega⟩, fun q => hQ J1 k1 hP1 fun t' a b => ⟨cbx t' a b, v43 t' a (by omega)⟩, fun q => ?_⟩
    refine c82 hL (eqs_rfl J1) hW1 hP1 (by omega) t0 (by rw [e40]; exact q) fun x x0 x1 hx => zaI_of ?_
    have ex := mem_eq hW1 x0 x1 hx
    rw [memx] at ex
    subst ex
    have hc7 := cbh_7 h (gst kp (s 18 0 6).toNat t) 0
    have hcn := cbh_nn s (gst kp (s 18 0 6).toNat t) 0
    rw [e18] at x1
    refine c67a hL eL1 h hT x0 (by omega) (by omega) (by omega) (by omega) fun J2 f2 r2 o2 => zaV_of ?_
    have hR : rwS J1 t J2 := by
      refine ⟨fun b x y z => f2 b (by omega) (by omega) z, fun i i0 i1 => ?_, fun i hi => o2 i ?_⟩
      · rw [cbx t t0 q] at i1
        rw [r2 i i0 i1, memx, sq_e eL1]
      · rw [cbx t t0 q] at hi
        exact hi
    refine ih _ (by omega) (t + 1) J2 rfl (by omega) (by omega) (fun b a1 a2 a3 a4 a5 => (f2 b a4 a5 a2).trans (k1 b a1 a2 a3 a4 a5)) (pw_sort hW1 hP1 t0 (by rw [e40]; exact q) hR) (fun k a b => by rw [f2 44 (by decide) (by decide) (by decide)]; exact v44 k a b) fun t' a b i i0 i1 => ?_
    by_cases e : t' = t
    · rw [e] at i1 ⊢
      exact r2 i i0 i1
    · have hc7' := cbh_7 h (gst kp (s 18 0 6).toNat t') 0
      rw [o2 _ (by omega)]
      exact v43 t' a (by omega) i i0 i1
  -- portions into their trains
  have puts : ∀ (n : Nat) (k : Int) (J1 : zJ), n = (s 18 0 6 - k).toNat → 0 ≤ k → k ≤ s 18 0 6 → (∀ b : Nat, b ≠ 42 → b ≠ 43 → b ≠ 44 → J1 b = J b) → (∀ t : Int, 0 ≤ t → t < s 40 0 0 → J1 42 0 t = cnt (fun j => decide (kp j = t)) k.toNat) → (∀ j : Int, 0 ≤ j → j < k → J1 43 0 (kp j * 7 + cnt (fun i => decide (kp i = kp j)) j.toNat) = j) → (∀ j : Int, 0 ≤ j → j < k → J1 44 0 j = kp j) → zGo L xs (D + 1) 173 30 [some (zr 0), some (zi k)] [] J1 K Q := by
    intro n; induction n using Nat.strongRecOn with
  | _ n ih =>
    intro k J1 hm k0 k1 f1 v42 v43 v44
    have e18 : J1 18 = s 18 := (f1 18 (by decide) (by decide) (by decide)).trans (hE 18 (by decide) (by decide))
    refine z173_30 hL ?_
    rw [e18, f1 113 (by decide) (by decide) (by decide)]
    refine ⟨⟨by omega, by omega⟩, ⟨by omega, by omega⟩, fun q => ?_, fun q => ⟨k0, by omega, ?_⟩⟩
    · have ek : k = s 18 0 6 := by omega
      rw [ek] at v42 v43 v44
      refine sorts _ 0 J1 rfl (Int.le_refl 0) (by omega) (fun b a1 a2 a3 _ _ => f1 b a1 a2 a3) (pw_put hP ⟨hn.2.2.1, hn.2.2.2.1⟩ (fun k a b => (hkp k a b).2) (fun b x y a1 a2 a3 => (f1 b a1 a2 a3).trans (hE b x y)) v42 v43 v44) v44 fun t' a b => by omega
    · obtain ⟨g1, g2, g3⟩ := hkp k k0 q
      have hcr := cnt_rng (fun j => decide (kp j = kp k)) k.toNat
      rw [g1]
      obtain ⟨D, rfl⟩ : ∃ d, D = d + 1 := ⟨D - 1, by omega⟩
      refine z77 hL ?_
      rw [v42 (kp k) g2 g3]
      refine ⟨g2, by omega, by omega, by omega, g2, by omega, g2, by omega, k0, by omega, zaV_of ?_⟩
      refine ih _ (by omega) (k + 1) _ rfl (by omega) (by omega) (fun b a1 a2 a3 => by rw [zup_ne _ _ _ _ a3, zup_ne _ _ _ _ a1, zup_ne _ _ _ _ a2]; exact f1 b a1 a2 a3) (fun t a b => ?_) (fun j j0 j1 => ?_) fun j j0 j1 => ?_
      · rw [zup_ne _ _ _ _ (by decide), cnt_next k0]
        by_cases e : t = kp k
        · rw [e, zup_eq, decide_eq_true rfl]
          rfl
        · rw [zup_nk _ _ e, zup_ne _ _ _ _ (by decide), v42 t a b, decide_eq_false (fun z => e z.symm)]
          exact (Int.add_zero _).symm
      · rw [zup_ne _ _ _ _ (by decide), zup_ne _ _ _ _ (by decide)]
        by_cases e : j = k
        · rw [e, zup_eq]
        · have hj := hkp j j0 (by omega)
          have hcj := cnt_rng (fun i => decide (kp i = kp j)) j.toNat
          rw [zup_nk _ _ ?_]
          · exact v43 j j0 (by omega)
          · by_cases et : kp j = kp k
            · have := cnt_lt (P := fun i => decide (kp i = kp j)) (i := j) (k := k) j0 (by omega) (decide_eq_true rfl)
              rw [et] at this ⊢
              omega
            · omega
      · by_cases e : j = k
        · rw [e, zup_eq]
        · rw [zup_nk _ _ e, zup_ne _ _ _ _ (by decide), zup_ne _ _ _ _ (by decide)]
          exact v44 j j0 (by omega)
  -- all trains are emptied
  have empties : ∀ (n : Nat) (t : Int) (J1 : zJ), n = (s 40 0 0 - t).toNat → 0 ≤ t → t ≤ s 40 0 0 → (∀ b : Nat, b ≠ 42 → b ≠ 44 → J1 b = J b) → (∀ t' : Int, 0 ≤ t' → t' < t → J1 42 0 t' = 0) → (∀ t' : Int, t ≤ t' → J1 42 0 t' = s 42 0 t') → zGo L xs (D + 1) 173 2 [some (zr 0), some (zi t)] [] J1 K Q := by
    intro n; induction n using Nat.strongRecOn with
  | _ n ih =>
    intro t J1 hm t0 t1 f1 v42 w42
    have e40 : J1 40 = s 40 := (f1 40 (by decide) (by decide)).trans (hE 40 (by decide) (by decide))
    refine z173_2 hL ?_
    rw [e40]
    refine ⟨⟨by omega, by omega⟩, ⟨by omega, by omega⟩, fun q => ?_, fun q => ?_⟩
    · refine puts _ 0 J1 rfl (Int.le_refl 0) (by omega) (fun b a1 a2 a3 => f1 b a1 a3) (fun t' a b => v42 t' a (by omega)) (fun j a b => by omega) fun j a b => by omega
    · obtain ⟨D, rfl⟩ : ∃ d, D = d + 1 := ⟨D - 1, by omega⟩
      have htt := pw_t hP t0 q
      refine z80 hL ?_
      rw [w42 t (Int.le_refl _)]
      refine ⟨t0, by omega, ?_⟩
      have rows : ∀ (m : Nat) (i : Int) (J2 : zJ), m = (s 42 0 t - i).toNat → 0 ≤ i → i ≤ s 42 0 t → (∀ b : Nat, b ≠ 44 → J2 b = J1 b) → zGo L xs (D + 1) 80 9 [some (zr 40), some (zi t), some (zi (s 42 0 t)), some (zi i)] [] J2 K fun r1 e1 J1 K1 => zaI r1 e1 (fun x1_ => zGo L xs (D + 1 + 1) 173 2 [some (zr 0), some (zi (t + 1))] [] J1 K1 Q) (fun E => Q (.inr E) e1 J1 K1) := by
        intro m
        induction m using Nat.strongRecOn with
        | _ m ihm =>
        intro i J2 hm2 i0 i1 k2
        refine z80_9 hL ⟨⟨by omega, by omega⟩, ⟨by omega, by omega⟩, fun q2 => ⟨t0, by omega, zaI_of ?_⟩, fun q2 => ?_⟩
        · refine ih _ (by omega) (t + 1) _ rfl (by omega) (by omega) (fun b a1 a2 => by rw [zup_ne _ _ _ _ a1, k2 b a2]; exact f1 b a1 a2) (fun t' a b => ?_) fun t' a => ?_
          · by_cases e : t' = t
            · rw [e, zup_eq]
            · rw [zup_nk _ _ e, k2 42 (by decide)]
              exact v42 t' a (by omega)
          · rw [zup_nk _ _ (by omega), k2 42 (by decide)]
            exact w42 t' (by omega)
        · have hr := pw_r hP t0 q i0 q2
          have e43 : J2 43 0 (t * 7 + i) = s 43 0 (t * 7 + i) := by rw [k2 43 (by decide), f1 43 (by decide) (by decide), hE 43 (by decide) (by decide)]
          rw [e43]
          refine ⟨by omega, by omega, hr.1, by omega, ?_⟩
          exact ihm _ (by omega) (i + 1) _ rfl (by omega) (by omega) fun b hb => by rw [zup_ne _ _ _ _ hb]; exact k2 b hb
      exact rows _ 0 J1 rfl (Int.le_refl 0) htt.2.2.1 fun _ _ => rfl
  exact z173 hL (empties _ 0 J rfl (Int.le_refl 0) (by omega) (fun _ _ _ => rfl) (fun t' a b => by omega) fun t' _ => by rw [hE 42 (by decide) (by decide)])
