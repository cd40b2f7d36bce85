/-! THE CLASS: the search begins; the best grouping -/
theorem c315z {L : Nat} {xs : Nat → Int32} (hL : L ≤ 3072) {D : Nat} {J : zJ} {K : zK} {Q : zR → Nat → zJ → zK → Prop} {v : Int} (hD : 1 ≤ D) (hQ : ∀ J' : zJ, (∀ b : Nat, b ≠ 114 → J' b = J b) → (∀ i : Int, 0 ≤ i → i < 4 → J' 114 0 i = v) → Q (.inl none) 0 J' K) : zCall L xs D 315 [zr 114, zi v] J K Q := by
  obtain ⟨D, rfl⟩ : ∃ d, D = d + 1 := ⟨D - 1, by omega⟩
  refine z315g hL ?_
  have key : ∀ (n : Nat) (i : Int) (J1 : zJ), n = (4 - i).toNat → 0 ≤ i → i ≤ 4 → (∀ b : Nat, b ≠ 114 → J1 b = J b) → (∀ j : Int, 0 ≤ j → j < i → J1 114 0 j = v) → zGo L xs (D + 1) 315 5 [some (zr 114), some (zi v), some (zi i), some (zi 4)] [] J1 K Q := by
    intro n; induction n using Nat.strongRecOn with
  | _ n ih =>
    intro i J1 hm h0 h1 f g
    refine z315g_5 hL ⟨⟨by omega, by omega⟩, ⟨by omega, by omega⟩, fun q => hQ J1 f fun j a b => g j a (by omega), fun q => ⟨h0, by omega, ?_⟩⟩
    refine ih _ (by omega) (i + 1) _ rfl (by omega) (by omega) (fun b hb => by rw [zup_ne _ _ _ _ hb]; exact f b hb) fun j a b => ?_
    by_cases e : j = i
    · rw [e, zup_eq]
    · rw [zup_nk _ _ e]
      exact g j a (by omega)
  exact key _ 0 J rfl (by decide) (by decide) (fun _ _ => rfl) fun j a b => by omega
theorem opb_is {s : zJ} (h : LW s) (hP : PW s) : zand (bs (isF s) (s 18 0 0).toNat) (zxor (s 40 0 10) (-1)) = opb s := by
  have hn := lw_n h
  have hpn := pw_n hP
  have hb := bs_lt (isF s) (s 18 0 0).toNat
  have ho2 : (2 : Int) ^ (s 18 0 0).toNat ≤ 4096 := by
    have := Nat.pow_le_pow_right (n := 2) (by decide) (show (s 18 0 0).toNat ≤ 12 by omega)
    have e : ((2 ^ (s 18 0 0).toNat : Nat) : Int) = (2 : Int) ^ (s 18 0 0).toNat := by simp
    have e2 : (2 : Nat) ^ 12 = 4096 := rfl
    omega
  have hz := zandn_n (x := bs (isF s) (s 18 0 0).toNat) (y := s 40 0 10) hb.1 (by omega) (by omega) (by omega)
  refine bs_of hz.1 fun k k0 => ?_
  rw [hz.2.2 k k0, bt_bs _ _ k k0, Bool.and_assoc]
  rfl
def FrB (J : zJ) (K : zK) (J' : zJ) (K' : zK) : Prop := (∀ b : Nat, b ≠ 105 → b ≠ 114 → b ≠ 116 → J' b = J b) ∧ (∀ k : Int, k ≠ 13 → k ≠ 15 → J' 105 0 k = J 105 0 k) ∧ (∀ b : Nat, b ≠ 105 → K' b = K b) ∧ ∀ k : Int, k ≠ 16 → K' 105 k = K 105 k
theorem frb_tr {J J1 J2 : zJ} {K K1 K2 : zK} (h1 : FrB J K J1 K1) (h2 : FrB J1 K1 J2 K2) : FrB J K J2 K2 := ⟨fun b a c d => (h2.1 b a c d).trans (h1.1 b a c d), fun k a c => (h2.2.1 k a c).trans (h1.2.1 k a c), fun b hb => (h2.2.2.1 b hb).trans (h1.2.2.1 b hb), fun k hk => (h2.2.2.2 k hk).trans (h1.2.2.2 k hk)⟩
theorem c30 {L : Nat} {xs : Nat → Int32} (hL : L ≤ 3072) {D : Nat} {J : zJ} {K : zK} {Q : zR → Nat → zJ → zK → Prop} {s : zJ} (hE : EqS s J) (h : LW s) (hP : PW s) (hD : 3 ≤ D) (hQ : ∀ (J' : zJ) (K' : zK), FrB J K J' K' → J' 105 0 13 = -1 → J' 105 0 15 = opb s → K' 105 16 = dgs (ena s) → (∀ t : Int, 0 ≤ t → t < 4 → J' 114 0 t = 0) → (∀ t w : Int, 0 ≤ t → t < s 40 0 0 → 0 ≤ w → w < s 18 0 14 → J' 116 0 (t * 12 + w) = fw s w (s 41 0 t)) → Q (.inl none) 0 J' K') : zCall L xs D 30 [zr 105] J K Q := by
  obtain ⟨D, rfl⟩ : ∃ d, D = d + 1 := ⟨D - 1, by omega⟩
  have hn := lw_n h
  have hpn := pw_n hP
  have eqb : ∀ {J1 : zJ} {K1 : zK}, FrB J K J1 K1 → EqS s J1 := fun f b x y => (f.1 b (by omega) (by omega) (by omega)).trans (hE b x y)
  -- worth of each train
  have trains : ∀ (n : Nat) (t : Int) (J1 : zJ) (K1 : zK), n = (s 40 0 0 - t).toNat → 0 ≤ t → t ≤ s 40 0 0 → FrB J K J1 K1 → J1 105 0 13 = -1 → J1 105 0 15 = opb s → K1 105 16 = dgs (ena s) → (∀ t : Int, 0 ≤ t → t < 4 → J1 114 0 t = 0) → (∀ t' w : Int, 0 ≤ t' → t' < t → 0 ≤ w → w < s 18 0 14 → J1 116 0 (t' * 12 + w) = fw s w (s 41 0 t')) → zGo L xs (D + 1) 30 82 [some (zr 105), some (zi t), none] [] J1 K1 Q := by
    intro n; induction n using Nat.strongRecOn with
  | _ n ih =>
    intro t J1 K1 hm t0 t1 f1 v13 v15 v16 v114 v116
    have hE1 := eqb f1
    refine z30_82 hL ?_
    rw [hE1 40 (by decide) (by decide)]
    refine ⟨⟨by omega, by omega⟩, ⟨by omega, by omega⟩, fun q => hQ J1 K1 f1 v13 v15 v16 v114 (fun t' w a b => v116 t' w a (by omega)), fun q => ?_⟩
    have htt := pw_t hP t0 q
    have wants : ∀ (m : Nat) (w : Int) (J2 : zJ), m = (s 18 0 14 - w).toNat → 0 ≤ w → w ≤ s 18 0 14 → FrB J1 K1 J2 K1 → (∀ b : Nat, b ≠ 116 → J2 b = J1 b) → (∀ t' w' : Int, 0 ≤ t' → t' < t → 0 ≤ w' → w' < s 18 0 14 → J2 116 0 (t' * 12 + w') = fw s w' (s 41 0 t')) → (∀ w' : Int, 0 ≤ w' → w' < w → J2 116 0 (t * 12 + w') = fw s w' (s 41 0 t)) → zGo L xs (D + 1) 30 95 [some (zr 105), some (zi t), some (zi w)] [] J2 K1 Q := by
      intro m
      induction m using Nat.strongRecOn with
      | _ m ihm =>
      intro w J2 hm2 w0 w1 f2 k2 a1 a2
      have hE2 : EqS s J2 := fun b x y => (k2 b (by omega)).trans (hE1 b x y)
      refine z30_95 hL ?_
      rw [hE2 18 (by decide) (by decide), hE2 41 (by decide) (by decide)]
      refine ⟨⟨by omega, by omega⟩, ⟨by omega, by omega⟩, fun q2 => ?_, fun q2 => ⟨t0, by omega, ?_⟩⟩
      · refine ih _ (by omega) (t + 1) J2 K1 rfl (by omega) (by omega) (frb_tr f1 f2) ?_ ?_ v16 ?_ fun t' w' b0 b1 c0 c1 => ?_
        · rw [k2 105 (by decide)]
          exact v13
        · rw [k2 105 (by decide)]
          exact v15
        · rw [k2 114 (by decide)]
          exact v114
        · by_cases e : t' = t
          · rw [e]
            exact a2 w' c0 (by omega)
          · exact a1 t' w' b0 (by omega) c0 c1
      · refine c60 hL hE2 h (by omega) w0 q2 (by omega) (by omega) (zaI_of ⟨by omega, by omega, ?_⟩)
        refine ihm _ (by omega) (w + 1) _ rfl (by omega) (by omega) (frb_tr f2 ⟨fun b x y z => zup_ne _ _ _ _ z, fun k _ _ => by rw [zup_ne _ _ _ _ (by decide)], fun _ _ => rfl, fun _ _ => rfl⟩) (fun b hb => by rw [zup_ne _ _ _ _ hb]; exact k2 b hb) (fun t' w' b0 b1 c0 c1 => ?_) fun w' c0 c1 => ?_
        · rw [zup_nk _ _ (by omega)]
          exact a1 t' w' b0 b1 c0 c1
        · by_cases e : w' = w
          · rw [e, zup_eq]
          · rw [zup_nk _ _ (by omega)]
            exact a2 w' c0 (by omega)
    exact wants _ 0 J1 rfl (Int.le_refl 0) (by omega) ⟨fun _ _ _ _ => rfl, fun _ _ _ => rfl, fun _ _ => rfl, fun _ _ => rfl⟩ (fun _ _ => rfl) v116 fun w' c0 c1 => by omega
  -- engines
  have engines : ∀ (n : Nat) (i : Int) (J1 : zJ) (K1 : zK), n = (s 18 0 11 - i).toNat → 0 ≤ i → i ≤ s 18 0 11 → FrB J K J1 K1 → J1 105 0 13 = -1 → J1 105 0 15 = opb s → K1 105 16 = sm (fun e => 2 ^ (5 * s 28 0 e).toNat) i.toNat → zGo L xs (D + 1) 30 33 [some (zr 105), some (zi i), none] [] J1 K1 Q := by
    intro n; induction n using Nat.strongRecOn with
  | _ n ih =>
    intro i J1 K1 hm i0 i1 f1 v13 v15 v16
    have hE1 := eqb f1
    refine z30_33 hL ?_
    rw [hE1 18 (by decide) (by decide), hE1 28 (by decide) (by decide)]
    refine ⟨⟨by omega, by omega⟩, ⟨by omega, by omega⟩, fun q => ?_, fun q => ?_⟩
    · have ei : i = s 18 0 11 := by omega
      rw [ei, eng_dgs h _ (by omega)] at v16
      refine c315z hL (by omega) fun J2 f2 g2 => zaV_of ?_
      refine trains _ 0 J2 K1 rfl (Int.le_refl 0) (by omega) (frb_tr f1 ⟨fun b x y z => f2 b y, fun k _ _ => by rw [f2 105 (by decide)], fun _ _ => rfl, fun _ _ => rfl⟩) ?_ ?_ v16 g2 fun t' w a b => by omega
      · rw [f2 105 (by decide)]
        exact v13
      · rw [f2 105 (by decide)]
        exact v15
    · have he := lw_e h i0 q
      refine ⟨i0, by omega, by omega, by omega, ?_⟩
      refine ih _ (by omega) (i + 1) J1 _ rfl (by omega) (by omega) (frb_tr f1 ⟨fun _ _ _ _ => rfl, fun _ _ _ => rfl, fun b hb => ?_, fun k hk => ?_⟩) v13 v15 ?_
      · funext y
        rw [zku_at, if_neg fun z => hb z.1]
      · rw [zku_at, if_neg fun z => hk z.2]
      · rw [zku_at, if_pos ⟨rfl, rfl⟩, v16, sm_next i0, Int.one_mul]
  refine z30 hL ?_
  have hE0 : EqS s (zup J 105 0 13 (-1)) := fun b x y => (zup_ne _ _ _ _ (by omega)).trans (hE b x y)
  refine c58 hL hE0 h (by omega) (zaI_of ?_)
  rw [hE0 40 (by decide) (by decide), opb_is h hP]
  refine engines _ 0 _ _ rfl (Int.le_refl 0) (by omega) ⟨fun b x y z => by rw [zup_ne _ _ _ _ x, zup_ne _ _ _ _ x], fun k x y => by rw [zup_nk _ _ y, zup_nk _ _ x], fun b hb => ?_, fun k hk => ?_⟩ ?_ (zup_eq _ _ _ _ _) ?_
  · funext y
    rw [zku_at, if_neg fun z => hb z.1]
  · rw [zku_at, if_neg fun z => hk z.2]
  · rw [zup_nk _ _ (by decide), zup_eq]
  · rw [zku_at, if_pos ⟨rfl, rfl⟩]
    rfl
theorem svx_0 {s : zJ} (h : LW s) (p : Int) : svx s 0 p = false := by
  rw [← Bool.not_eq_true, svx_t]
  rintro ⟨⟨p0, p1⟩, h7⟩
  obtain ⟨k, _, _, hb, _⟩ := (hd_has h 0 p0 p1).mp h7
  rw [bt_zero] at hb
  cases hb
/-- frames of the search -/
def FrF (J : zJ) (K : zK) (J' : zJ) (K' : zK) : Prop := (∀ b : Nat, b < 89 ∨ (100 < b ∧ b < 105) ∨ 116 < b → J' b = J b) ∧ ∀ b : Nat, b ≠ 105 → b ≠ 112 → K' b = K b
theorem c33 {L : Nat} {xs : Nat → Int32} (hL : L ≤ 3072) {D : Nat} {J : zJ} {K : zK} {Q : zR → Nat → zJ → zK → Prop} {s : zJ} (hE : EqS s J) (h : LW s) (hT : TW s) (hP : PW s) (hg : Gi J K) (hD : 16 ≤ D) (hQ : ∀ (J' : zJ) (K' : zK), FrF J K J' K' → J' 105 0 5 = 2 → Gi J' K' → (J' 105 0 13 = -1 → Q (.inl (some (zi (0)))) 0 J' K') ∧ (J' 105 0 13 ≠ -1 → Q (.inl (some (zi (1)))) 0 J' K')) : zCall L xs D 33 [zr 105] J K Q := by
  obtain ⟨D, rfl⟩ : ∃ d, D = d + 1 := ⟨D - 1, by omega⟩
  have hn := lw_n h
  have hpn := pw_n hP
  have p7 := pw7 (n := s 18 0 6) (by omega)
  have e18 := hE 18 (by decide) (by decide)
  have fin : ∀ (J2 : zJ) (K2 : zK), FrF J K J2 K2 → J2 105 0 5 = 2 → Gi J2 K2 → zin (J2 105 0 13) ∧ ((J2 105 0 13 = (-1 : Int) → ((0 : Int) = 0 ∨ (0 : Int) = 1) ∧ Q (.inl (some (zi 0))) 0 J2 K2) ∧ (J2 105 0 13 ≠ (-1 : Int) → ((1 : Int) = 0 ∨ (1 : Int) = 1) ∧ Q (.inl (some (zi 1))) 0 J2 K2)) := by
    intro J2 K2 f2 v5 g2
    obtain ⟨s2, ⟨a1, a2, a3⟩, a4, a5, a6, a7⟩ := g2.2.2 v5
    have hge := bsg_ge a1 a2 (T := (s2 40 0 0).toNat) (by have := pw_n a2; omega) a7
    obtain ⟨q0, q1⟩ := hQ J2 K2 f2 v5 g2
    exact ⟨⟨by omega, by omega⟩, fun z => ⟨Or.inl rfl, q0 z⟩, fun z => ⟨Or.inr rfl, q1 z⟩⟩
  have tail : ∀ (J1 : zJ) (K1 : zK), FrF J K J1 K1 → EqS s J1 → J1 105 0 5 = 1 → Gtb s J1 K1 (2 ^ (s 18 0 6).toNat) → zCall L xs D 30 [zr 105] J1 K1 fun r1 e1 J1 K1 => zaV r1 e1 (zCall L xs D 42 [zr 105, zi 0] J1 K1 fun r2 e2 J2 K2 => zaV r2 e2 (zin (J2 105 0 13) ∧ zin (-1) ∧ ((J2 105 0 13) = (-1 : Int) → ((0 : Int) = 0 ∨ (0 : Int) = 1) ∧ Q (.inl (some (zi 0))) 0 (zup J2 105 0 5 2) K2) ∧ ((J2 105 0 13) ≠ (-1 : Int) → ((1 : Int) = 0 ∨ (1 : Int) = 1) ∧ Q (.inl (some (zi 1))) 0 (zup J2 105 0 5 2) K2)) (fun E => Q (.inr E) e2 J2 K2)) (fun E => Q (.inr E) e1 J1 K1) := by
    intro J1 K1 f1 hE1 v5 hG
    refine c30 hL hE1 h hP (by omega) fun J2 K2 f2 v13 v15 v16 v114 v116 => zaV_of ?_
    have hE2 : EqS s J2 := fun b x y => (f2.1 b (by omega) (by omega) (by omega)).trans (hE1 b x y)
    have hG2 : Gtb s J2 K2 (2 ^ (s 18 0 6).toNat) := gtb_eq hG (fun b x y => f2.1 b (by omega) (by omega) (by omega)) (f2.2.2.1 112 (by decide))
    have h0 : Ssr s J2 K2 0 0 := by
      refine ⟨fun t t0 t1 => v114 t t0 (by omega), fun j hj => absurd hj (Nat.not_lt_zero j), ?_⟩
      rw [v16]
      refine dgs_cong fun q _ _ => ?_
      have : sm (fun t => tcs s (pst (s 40 0 0).toNat 0 0 t) q) (s 40 0 0).toNat = 0 := sm_zero fun t _ _ => by
        rw [pst_zero]
        unfold tcs
        rw [svx_0 h, if_neg (by decide)]
      rw [this]
      omega
    have hh := c42 (xs := xs) (D := D) (Q := fun r2 e2 J2 K2 => zaV r2 e2 (zin (J2 105 0 13) ∧ zin (-1) ∧ ((J2 105 0 13) = (-1 : Int) → ((0 : Int) = 0 ∨ (0 : Int) = 1) ∧ Q (.inl (some (zi 0))) 0 (zup J2 105 0 5 2) K2) ∧ ((J2 105 0 13) ≠ (-1 : Int) → ((1 : Int) = 0 ∨ (1 : Int) = 1) ∧ Q (.inl (some (zi 1))) 0 (zup J2 105 0 5 2) K2)) (fun E => Q (.inr E) e2 J2 K2)) h hP (s 18 0 6).toNat 0 0 hL (by omega) hE2 ⟨hG2, v15, v116⟩ h0 (fun t t0 t1 p hp => by
      rw [pst_zero, svx_0 h] at hp
      cases hp) (by
      rw [Nat.zero_mul, v13]
      exact bsg_0 s _ _ _) (by omega) (fun J3 K3 f3 s3 b3 => zaV_of ?_)
    · exact hh
    · rw [Nat.zero_add, Nat.one_mul] at b3
      have n5 : ∀ b : Nat, b ≠ 105 → zup J3 105 0 5 2 b = J3 b := fun b hb => zup_ne _ _ _ _ hb
      have g13 : zup J3 105 0 5 2 105 0 13 = J3 105 0 13 := zup_nk _ _ (by decide)
      have hE3 := eqs_frs hE2 f3
      have hG3 : Gtb s (zup J3 105 0 5 2) K3 (2 ^ (s 18 0 6).toNat) := gtb_eq hG2 (fun b x y => by rw [n5 b (by omega)]; exact f3.1 b (by omega) (by omega) (by omega) (by omega)) (f3.2.2.1 112 (by decide))
      have hE4 : EqS s (zup J3 105 0 5 2) := fun b x y => (n5 b (by omega)).trans (hE3 b x y)
      have f4 : FrF J K (zup J3 105 0 5 2) K3 := by
        refine ⟨fun b hb => ?_, fun b x y => ?_⟩
        · rw [n5 b (by omega), f3.1 b (by omega) (by omega) (by omega) (by omega), f2.1 b (by omega) (by omega) (by omega)]
          exact f1.1 b hb
        · rw [f3.2.2.1 b x, f2.2.2.1 b x]
          exact f1.2 b x y
      have g4 : Gi (zup J3 105 0 5 2) K3 := by
        refine ⟨by rw [zup_eq]; decide, fun _ => ⟨s, eql_s hE4, ?_⟩, fun _ => ⟨s, ⟨h, hP, eql_s hE4⟩, ?_, ?_, fun t _ _ => ?_, ?_⟩⟩
        · rw [hE4 18 (by decide) (by decide)]
          exact hG3
        · rw [hE4 40 (by decide) (by decide)]
        · rw [hE4 40 (by decide) (by decide)]
        · rw [hE4 41 (by decide) (by decide)]
        · rw [g13, n5 113 (by decide)]
          exact b3
      obtain ⟨z1, z2, z3⟩ := fin _ K3 f4 (zup_eq _ _ _ _ _) g4
      rw [g13] at z1 z2 z3
      exact ⟨z1, ⟨by decide, by decide⟩, z2, z3⟩
  have loop : ∀ (n : Nat) (x : Int) (J1 : zJ) (K1 : zK), n = (2 ^ (s 18 0 6).toNat - x).toNat → 0 ≤ x → x ≤ 2 ^ (s 18 0 6).toNat → FrF J K J1 K1 → EqS s J1 → Gtb s J1 K1 x → zGo L xs (D + 1) 33 9 [some (zr 105), some (zi x)] [] J1 K1 Q := by
    intro n; induction n using Nat.strongRecOn with
  | _ n ih =>
    intro x J1 K1 hm x0 x1 f1 hE1 hG1
    refine z33_9 hL ?_
    refine c55 hL hE1 h (by omega) (zaI_of ⟨⟨by omega, by omega⟩, ⟨by omega, by omega⟩, fun q => ⟨zin_1, zin_1, fun z => absurd rfl z, fun _ => ?_⟩, fun q => ?_⟩)
    · have ex : x = 2 ^ (s 18 0 6).toNat := by omega
      rw [ex] at hG1
      have n5 : ∀ b : Nat, b ≠ 105 → zup J1 105 0 5 1 b = J1 b := fun b hb => zup_ne _ _ _ _ hb
      exact tail _ K1 ⟨fun b hb => by rw [n5 b (by omega)]; exact f1.1 b hb, f1.2⟩ (fun b x y => (n5 b (by omega)).trans (hE1 b x y)) (zup_eq _ _ _ _ _) (gtb_eq hG1 (fun b x y => n5 b (by omega)) rfl)
    · refine c40 hL hE1 h hT x0 (by omega) (by omega) fun J2 K2 f2 v6 tb v7 v8 => zaV_of ?_
      refine ih _ (by omega) (x + 1) J2 K2 rfl (by omega) (by omega) ⟨fun b hb => (f2.1 b (by omega)).trans (f1.1 b hb), fun b a c => (f2.2.2.2.1 b c).trans (f1.2 b a c)⟩ (fun b x y => (f2.1 b (by omega)).trans (hE1 b x y)) fun y y0 y1 => ?_
      by_cases e : y = x
      · rw [e]
        refine ⟨v6, tb, v7.trans (bs_cong fun w w0 w1 => ?_), v8.trans (bs_cong fun w w0 w1 => ?_)⟩
        · have hw := lw_w h w0 (by omega)
          exact vs_svx h x (by omega) (by omega)
        · have hw := lw_w h w0 (by omega)
          show (!bt (bs (vsL (viX s x)) 12) (s 30 0 w) && nrb s (bt (bs (vsL (viX s x)) 12)) (s 30 0 w)) = _
          rw [vs_svx h x (by omega) (by omega), nr_svx h]
      · obtain ⟨g1, ⟨g2, g3, g4⟩, g5, g6⟩ := hG1 y y0 (by omega)
        obtain ⟨k1, k2, k3, k4⟩ := f2.2.1 y e
        have hlen := tkX_len h y
        refine ⟨k1.trans g1, ⟨k4.trans g2, fun i ee he => ?_, (f2.2.2.2.2 y e).trans g4⟩, k2.trans g5, k3.trans g6⟩
        have hi : i < (tkX s y).length := by
          by_cases z : i < (tkX s y).length
          · exact z
          · rw [List.getElem?_eq_none (by omega)] at he
            cases he
        obtain ⟨m1, m2⟩ := f2.2.2.1 (y * 7 + i) (by omega)
        rw [m1, m2]
        exact g3 i ee he
  have hg5 := hg.1
  refine z33 hL ⟨⟨by omega, by omega⟩, fun q => ⟨⟨by omega, by omega⟩, zin_1, fun q2 => ?_, fun q2 => ?_⟩, fun q => ?_⟩
  · have v5 : J 105 0 5 = 2 := by
      have := hg.1
      omega
    obtain ⟨z1, z2, z3⟩ := fin J K ⟨fun _ _ => rfl, fun _ _ _ => rfl⟩ v5 hg
    exact ⟨z1, ⟨by decide, by decide⟩, z2, z3⟩
  · obtain ⟨s1, a1, a2⟩ := hg.2.1 (by omega)
    rw [e18] at a2
    exact tail J K ⟨fun _ _ => rfl, fun _ _ _ => rfl⟩ hE q2 (gtb_e (fun b x y => (hE b x (by omega)).symm.trans (a1 b x y)) a2)
  · exact loop _ 0 J K rfl (Int.le_refl 0) (by omega) ⟨fun _ _ => rfl, fun _ _ _ => rfl⟩ hE fun y y0 y1 => by omega
