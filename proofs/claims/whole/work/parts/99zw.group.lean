/-! THE OPERATION group: both sides -/
/-- the model's search, behind the class's -/
theorem mbest2 {J J1 : zJ} {K K1 : zK} (hI : Inv Gi J K) (f1 : ∀ b : Nat, b < 42 ∨ 116 < b → J1 b = J b) (v5 : J1 105 0 5 = 2) (g1 : Gi J1 K1) {L : Nat} {xs : Nat → Int32} (hL : L ≤ 3072) {D : Nat} (hD : 36 ≤ D) {K2 : zK} {Q : zR → Nat → zJ → zK → Prop} (hQ : ∀ J5 : zJ, FrQ (zup J1 142 0 0 0) J5 → (∀ t : Int, 0 ≤ t → t < J 40 0 0 → J5 234 0 t = J 234 0 t ∧ ∀ i : Int, 0 ≤ i → i < J 234 0 t → J5 229 t i = J 229 t i) → Mst J J5 (2 ^ (J 18 0 6).toNat) → (J1 105 0 13 = -1 ∨ (0 ≤ J1 105 0 13 ∧ J1 105 0 13 ≤ 1198800 ∧ ∀ j : Int, 0 ≤ j → j < J 18 0 6 → J5 534 0 j = J1 113 0 j ∧ 0 ≤ J1 113 0 j ∧ J1 113 0 j < J 40 0 0)) → Q (.inl (some (zi (if J1 105 0 13 = -1 then -2 else J1 105 0 13)))) 0 J5 K2) : zCall L xs D 223 [zr 142] (zup J1 142 0 0 0) K2 Q := by
  obtain ⟨⟨hW, hT, hP, hM, hC, hTp, hF, hIm⟩, hg⟩ := id hI
  have hn := lw_n hW
  have hpn := pw_n hP
  obtain ⟨s, ⟨a1, a2, a3⟩, a4, a5, a6, a7⟩ := g1.2.2 v5
  have q : ∀ b : Nat, b < 42 ∨ 116 < b → J1 b = J b := f1
  have eL : EqL s J := fun b x y => (q b (by omega)).symm.trans (a3 b x y)
  have eL' : EqL J s := fun b x y => (eL b x y).symm
  have e40 : s 40 0 0 = J 40 0 0 := by rw [← a4, q 40 (by decide)]
  have e18 : s 18 = J 18 := eL' 18 (by decide) (by decide)
  have hge := bsg_ge a1 a2 (T := (s 40 0 0).toNat) (by omega) a7
  have z1 : ∀ b : Nat, b ≠ 142 → 116 < b → zup J1 142 0 0 0 b = J b := fun b x y => by rw [zup_ne _ _ _ _ x]; exact q b (by omega)
  have hM1 : ML s (zup J1 142 0 0 0) := ml_l (ml_eq hM (z1 _ (by decide) (by decide)) (z1 _ (by decide) (by decide)) (z1 _ (by decide) (by decide)) (z1 _ (by decide) (by decide)) (z1 _ (by decide) (by decide))) eL'
  have hmt : ∀ t : Int, 0 ≤ t → t < J 40 0 0 → J 234 0 t = J 42 0 t ∧ J 235 0 t = J 41 0 t := fun t x y => ⟨(hC.2.2.1 t x y).1, (hC.2.2.1 t x y).2.1⟩
  refine c223 hL hM1 a1 a2 ?_ (fun t t0 t1 => ?_) (fun p p0 p1 => ?_) (fun t t0 t1 => ?_) hD fun J5 B f5 r5 m5 b5 => ?_
  · rw [zup_nk _ _ (by decide), q 142 (by decide), e40]
    exact hC.1
  · rw [z1 235 (by decide) (by decide), (hmt t t0 (by omega)).2, ← a6 t t0 t1, q 41 (by decide)]
  · rw [z1 236 (by decide) (by decide), ← a5, q 40 (by decide)]
    exact (hC.2.2.2.1 p p0 p1).1
  · have htt := pw_t hP t0 (show t < J 40 0 0 by omega)
    rw [z1 234 (by decide) (by decide), (hmt t t0 (by omega)).1]
    omega
  · obtain ⟨u1, u2⟩ := bsg_uniq a7 b5
    rw [← u1]
    refine hQ J5 f5 (fun t t0 t1 => ?_) ?_ ?_
    · have := r5 t t0 (by omega)
      rw [z1 234 (by decide) (by decide), z1 229 (by decide) (by decide)] at this
      exact this
    · have : Mst s J5 (2 ^ (s 18 0 6).toNat) → Mst J J5 (2 ^ (J 18 0 6).toNat) := fun m => by
        unfold Mst
        rw [← cbh_e eL', ← sq_e eL', ← svx_e eL', ← e18]
        exact m
      exact this m5
    · rcases hge with z | ⟨z1, z2⟩
      · exact Or.inl z
      · refine Or.inr ⟨z1, z2, fun j j0 j1 => ?_⟩
        have h1 := u2 (by omega) j.toNat (by rw [e18]; omega)
        have e : ((j.toNat : Nat) : Int) = j := by omega
        rw [e] at h1
        refine ⟨h1.symm, ?_⟩
        rcases a7 with ⟨y, _⟩ | ⟨v, y1, y2, y3, y4, y5, y6⟩
        · omega
        · have h2 := y4 j.toNat (by rw [e18]; omega)
          rw [e] at h2
          have hT0 : 0 < (s 40 0 0).toNat := by
            refine Nat.pos_of_ne_zero fun e0 => ?_
            have : (s 40 0 0).toNat ^ (s 18 0 6).toNat = 0 := by
              rw [e0]
              exact Nat.zero_pow (by rw [e18]; omega)
            omega
          have := dgt_lt (T := (s 40 0 0).toNat) (k := (s 18 0 6).toNat) (u := v) (j := j.toNat) hT0
          omega
theorem gi_kp {J J1 : zJ} {K1 : zK} (q18 : J1 18 = J 18) (q40 : J1 40 = J 40) (v5 : J1 105 0 5 = 2) (g1 : Gi J1 K1) (hne : J1 105 0 13 ≠ -1) {j : Int} (j0 : 0 ≤ j) (j1 : j < J 18 0 6) : 0 ≤ J1 113 0 j ∧ J1 113 0 j < J 40 0 0 := by
  obtain ⟨s, ⟨a1, a2, a3⟩, a4, a5, a6, a7⟩ := g1.2.2 v5
  have e18 : s 18 0 6 = J 18 0 6 := by rw [← a3 18 (by decide) (by decide), q18]
  have e40 : s 40 0 0 = J 40 0 0 := by rw [← a4, q40]
  have hpn := pw_n a2
  rcases a7 with ⟨y, _⟩ | ⟨v, y1, y2, y3, y4, y5, y6⟩
  · exact absurd y hne
  · have h2 := y4 j.toNat (by omega)
    have e : ((j.toNat : Nat) : Int) = j := by omega
    rw [e] at h2
    have hT0 : 0 < (s 40 0 0).toNat := by
      refine Nat.pos_of_ne_zero fun e0 => ?_
      have : (s 40 0 0).toNat ^ (s 18 0 6).toNat = 0 := by
        rw [e0]
        exact Nat.zero_pow (by omega)
      omega
    have := dgt_lt (T := (s 40 0 0).toNat) (k := (s 18 0 6).toNat) (u := v) (j := j.toNat) hT0
    omega
theorem op18 : OpD (Inv Gi) 156 231 [] := by
  have hG := gi_ok
  intro L xs D J K hL hD hI; obtain ⟨⟨hW, hT, hP, hM, hC, hTp, hF, hIm⟩, hg⟩ := id hI; have hE := eqs_rfl J; have hn := lw_n hW; have hpn := pw_n hP
  obtain ⟨D, rfl⟩ : ∃ d, D = d + 1 := ⟨D - 1, by omega⟩
  refine z156 hL ?_
  refine c33 hL hE hW hT hP hg (by omega) fun J1 K1 f1 v5 g1 => ⟨fun y => zaI_of ⟨zin_0, fun w => absurd rfl w, fun _ => ?_⟩, fun y => zaI_of ⟨zin_1, fun _ => ?_, fun w => absurd w (by decide)⟩⟩
  · refine ⟨_, rfl, rfl, ⟨by decide, by decide⟩, ?_⟩
    refine z231 hL ?_
    refine mbest hI f1 v5 g1 hL (by omega) fun J5 f5 r5 _ _ => zaI_of ?_
    rw [if_pos y]
    exact ⟨⟨by decide, by decide⟩, ⟨by decide, by decide⟩, fun w => absurd rfl w, fun _ => ⟨rfl, rfl, inv_gr hI f1 g1 f5 r5 rfl⟩⟩
  · have q1 : ∀ b : Nat, b < 89 ∨ 116 < b → J1 b = J b := fun b hb => f1.1 b (by omega)
    have hE1 : EqS J J1 := fun b x z => q1 b (by omega)
    have hkp : ∀ k : Int, 0 ≤ k → k < J 18 0 6 → J1 113 0 k = J1 113 0 k ∧ 0 ≤ J1 113 0 k ∧ J1 113 0 k < J 40 0 0 := fun k a b => ⟨rfl, gi_kp (q1 18 (by decide)) (q1 40 (by decide)) v5 g1 y a b⟩
    -- the model, behind the class
    have model : ∀ J2 : zJ, (∀ b : Nat, b ≠ 42 → b ≠ 43 → b ≠ 44 → b ≠ 90 → b ≠ 91 → J2 b = J1 b) → PW J2 → (∀ t : Int, 0 ≤ t → t < J 40 0 0 → J2 42 0 t = cbh J (gst (fun k => J1 113 0 k) (J 18 0 6).toNat t) 0 ∧ ∀ i : Int, 0 ≤ i → i < cbh J (gst (fun k => J1 113 0 k) (J 18 0 6).toNat t) 0 → J2 43 0 (t * 7 + i) = sq J (gst (fun k => J1 113 0 k) (J 18 0 6).toNat t) 0 i) → zCall L xs (D + 1) 231 [zr 142] J2 K1 fun r2 e2 J3 K3 => r2 = .inl (some (zi (cnt (fun k => decide (J 44 0 k ≠ J1 113 0 k)) (J 18 0 6).toNat))) ∧ e2 = 0 ∧ Inv Gi J3 K3 := by
      intro J2 f2 hP2 r2
      have q2 : ∀ b : Nat, b < 42 ∨ 116 < b → J2 b = J b := fun b hb => (f2 b (by omega) (by omega) (by omega) (by omega) (by omega)).trans (q1 b (by omega))
      have s2 : ∀ b : Nat, 105 ≤ b → b ≤ 116 → J2 b = J1 b := fun b x z => f2 b (by omega) (by omega) (by omega) (by omega) (by omega)
      have e18 : ∀ b : Nat, 18 ≤ b → b ≤ 39 → J2 b = J1 b := fun b x z => f2 b (by omega) (by omega) (by omega) (by omega) (by omega)
      have g2 : Gi J2 K1 := gi_ok.1 J1 J2 K1 K1 g1 e18 (by rw [f2 40 (by decide) (by decide) (by decide) (by decide) (by decide)]) (by rw [f2 40 (by decide) (by decide) (by decide) (by decide) (by decide)]) (fun t _ _ => by rw [f2 41 (by decide) (by decide) (by decide) (by decide) (by decide)]) (fun b x z => s2 b (by omega) (by omega)) (by rw [s2 105 (by decide) (by decide)]) (by rw [s2 105 (by decide) (by decide)]) rfl
      refine z231 hL ?_
      refine mbest2 hI q2 (by rw [s2 105 (by decide) (by decide)]; exact v5) g2 hL (by omega) fun J5 f5 r5 m5 hor => zaI_of ?_
      rw [s2 105 (by decide) (by decide)] at hor ⊢
      rw [s2 113 (by decide) (by decide)] at hor
      obtain ⟨o1, o2, o3⟩ := hor.resolve_left y
      rw [if_neg y]
      refine ⟨⟨by omega, by omega⟩, ⟨by decide, by decide⟩, fun _ => ?_, fun w => by omega⟩
      have z5 : ∀ b : Nat, b ≠ 142 → b ≠ 229 → b ≠ 234 → b < 255 ∨ 536 < b → J5 b = J2 b := fun b a1 a2 a3 a4 => by rw [f5.1 b a1 a2 a3 a4, zup_ne _ _ _ _ a1]
      have w5 : ∀ b : Nat, b ≠ 142 → b ≠ 229 → b ≠ 234 → b < 42 ∨ (116 < b ∧ b < 255) ∨ 536 < b → J5 b = J b := fun b a1 a2 a3 a4 => (z5 b a1 a2 a3 (by omega)).trans (q2 b (by omega))
      have ef : ∀ k : Int, k ≠ 0 → k ≠ 37 → J5 142 0 k = J 142 0 k := fun k x z => by rw [f5.2 k z, zup_nk _ _ x, q2 142 (by decide)]
      have hM5 : ML J J5 := ml_eq hM (w5 _ (by decide) (by decide) (by decide) (by decide)) (w5 _ (by decide) (by decide) (by decide) (by decide)) (w5 _ (by decide) (by decide) (by decide) (by decide)) (w5 _ (by decide) (by decide) (by decide) (by decide)) (w5 _ (by decide) (by decide) (by decide) (by decide))
      have hC5 : MC J J5 := by
        obtain ⟨c1, c2, c3, c4, c5, c6⟩ := hC
        refine ⟨by rw [ef 15 (by decide) (by decide)]; exact c1, by rw [ef 16 (by decide) (by decide)]; exact c2, fun t a b => ?_, fun p a b => ?_, fun k a b => ?_, fun j a b => ?_⟩
        · rw [w5 235 (by decide) (by decide) (by decide) (by decide)]
          obtain ⟨d1, d2, d3⟩ := c3 t a b
          obtain ⟨u1, u2⟩ := r5 t a b
          exact ⟨u1.trans d1, d2, fun i i0 i1 => (u2 i i0 (by omega)).trans (d3 i i0 i1)⟩
        · rw [w5 236 (by decide) (by decide) (by decide) (by decide), w5 237 (by decide) (by decide) (by decide) (by decide)]
          exact c4 p a b
        · rw [w5 238 (by decide) (by decide) (by decide) (by decide), w5 239 (by decide) (by decide) (by decide) (by decide)]
          exact c5 k a b
        · rw [w5 240 (by decide) (by decide) (by decide) (by decide)]
          exact c6 j a b
      have loop : ∀ (n : Nat) (k : Int) (J6 : zJ), n = (J 18 0 6 - k).toNat → 0 ≤ k → k ≤ J 18 0 6 → (∀ b : Nat, b ≠ 259 → J6 b = J5 b) → (∀ j : Int, 0 ≤ j → j < k → J6 259 0 j = J1 113 0 j) → zGo L xs (D + 1) 231 21 [some (zr 142), some (zi (cnt (fun k => decide (J 44 0 k ≠ J1 113 0 k)) k.toNat)), some (zi k)] [] J6 K1 fun r2 e2 J3 K3 => r2 = .inl (some (zi (cnt (fun k => decide (J 44 0 k ≠ J1 113 0 k)) (J 18 0 6).toNat))) ∧ e2 = 0 ∧ Inv Gi J3 K3 := by
        intro n; induction n using Nat.strongRecOn with
  | _ n ih =>
        intro k J6 hm k0 k1 f6 v6
        have hM6 : ML J J6 := ml_eq hM5 (f6 _ (by decide)) (f6 _ (by decide)) (f6 _ (by decide)) (f6 _ (by decide)) (f6 _ (by decide))
        have hC6 : MC J J6 := mc_eq hC5 (by rw [f6 142 (by decide)]) (by rw [f6 142 (by decide)]) (f6 _ (by decide)) (f6 _ (by decide)) (f6 _ (by decide)) (f6 _ (by decide)) (f6 _ (by decide)) (f6 _ (by decide)) (f6 _ (by decide)) (f6 _ (by decide))
        refine z231_21 hL ?_
        rw [hM6.1.2.1]
        refine ⟨by decide, by decide, ⟨by omega, by omega⟩, ⟨by omega, by omega⟩, fun q => ?_, fun q => ?_⟩
        · have ek : k = J 18 0 6 := by omega
          rw [ek] at v6
          refine c234 hL hM6 hW hP (nd := fun k => J1 113 0 k) (mst_eq m5 (f6 _ (by decide)) (f6 _ (by decide)) (f6 _ (by decide))) (by rw [f6 142 (by decide)]; exact hC5.1) (fun t a b => (mc_t hC6 a b).2.1) (fun p a b => (hC6.2.2.2.1 p a b).1) (fun k a b => ⟨v6 k a b, by have := (hkp k a b).2; exact ⟨by omega, by omega⟩⟩) (by omega) fun J7 f7 r7 => ?_
          have w7 : ∀ b : Nat, b < 229 ∨ (234 < b ∧ b < 255) ∨ 261 < b → J7 b = J6 b := fun b hb => f7 b (by omega) (by omega) (by omega) (by omega) (by omega) (by omega) (by omega) (by omega)
          have x7 : ∀ b : Nat, b ≠ 142 → b < 229 ∨ (234 < b ∧ b < 255) ∨ 536 < b → J7 b = J2 b := fun b a1 a2 => by rw [w7 b (by omega), f6 b (by omega), z5 b a1 (by omega) (by omega) (by omega)]
          have y7 : ∀ b : Nat, b ≠ 142 → b < 42 ∨ (116 < b ∧ b < 229) ∨ (234 < b ∧ b < 255) ∨ 536 < b → J7 b = J b := fun b a1 a2 => (x7 b a1 (by omega)).trans (q2 b (by omega))
          have u7 : ∀ b : Nat, 45 ≤ b → b < 89 → J7 b = J b := fun b a1 a2 => by rw [x7 b (by omega) (by omega), f2 b (by omega) (by omega) (by omega) (by omega) (by omega), q1 b (by omega)]
          have ef7 : ∀ k : Int, k ≠ 0 → k ≠ 37 → J7 142 0 k = J 142 0 k := fun k x z => by rw [w7 142 (by decide), f6 142 (by decide)]; exact ef k x z
          have hP7 : PW J7 := pw_s hP2 (x7 18 (by decide) (by decide)) (x7 19 (by decide) (by decide)) (x7 20 (by decide) (by decide)) fun b x z => x7 b (by omega) (by omega)
          have hC7 : MC J7 J7 := by
            obtain ⟨c1, c2, c3, c4, c5, c6⟩ := hC
            have e40 : J7 40 = J 40 := y7 40 (by decide) (by decide)
            refine ⟨by rw [ef7 15 (by decide) (by decide), e40]; exact c1, by rw [ef7 16 (by decide) (by decide), e40]; exact c2, fun t a b => ?_, fun p a b => ?_, fun k a b => ?_, fun j a b => ?_⟩
            · rw [e40] at b
              rw [y7 235 (by decide) (by decide), y7 41 (by decide) (by decide), x7 42 (by decide) (by decide), x7 43 (by decide) (by decide)]
              obtain ⟨d1, d2, d3⟩ := c3 t a b
              obtain ⟨u1, u2⟩ := r2 t a b
              obtain ⟨p1, p2⟩ := r7 t a b
              exact ⟨p1.trans u1.symm, d2, fun i i0 i1 => by rw [u1] at i1; exact (p2 i i0 i1).trans (u2 i i0 i1).symm⟩
            · rw [e40, u7 49 (by decide) (by decide), y7 236 (by decide) (by decide), y7 237 (by decide) (by decide)]
              exact c4 p a b
            · rw [y7 18 (by decide) (by decide)] at b
              rw [u7 51 (by decide) (by decide), u7 50 (by decide) (by decide), y7 238 (by decide) (by decide), y7 239 (by decide) (by decide)]
              exact c5 k a b
            · rw [e40] at b
              rw [u7 45 (by decide) (by decide), u7 46 (by decide) (by decide), u7 47 (by decide) (by decide), u7 48 (by decide) (by decide), y7 240 (by decide) (by decide)]
              exact c6 j a b
          have hin : In J7 := in_m hI.1 (y7 0 (by decide) (by decide)) (y7 1 (by decide) (by decide)) (fun b x z => y7 b (by omega) (by omega)) (fun b x z => u7 b (by omega) (by omega)) (fun b x z => y7 b (by omega) (by omega)) (y7 557 (by decide) (by decide)) (ef7 1 (by decide) (by decide)) (ef7 3 (by decide) (by decide)) (ef7 14 (by decide) (by decide)) (ef7 17 (by decide) (by decide)) hP7 hC7
          have g7 : Gi J7 K1 := gi_ok.1 J2 J7 K1 K1 g2 (fun b x z => x7 b (by omega) (by omega)) (by rw [x7 40 (by decide) (by decide)]) (by rw [x7 40 (by decide) (by decide)]) (fun t _ _ => by rw [x7 41 (by decide) (by decide)]) (fun b x z => x7 b (by omega) (by omega)) (by rw [x7 105 (by decide) (by decide)]) (by rw [x7 105 (by decide) (by decide)]) rfl
          rw [ek]
          exact ⟨fun _ => zaI_of ⟨rfl, rfl, hin, g7⟩, fun _ => zaI_of ⟨rfl, rfl, hin, g7⟩⟩
        · obtain ⟨hk1, hk2, -⟩ := pw_k hP k0 q
          have hr := (hkp k k0 q).2
          have e534 : J6 534 0 k = J1 113 0 k := by rw [f6 534 (by decide)]; exact (o3 k k0 q).1
          refine c302 hL hM6 hW hP hC6 (by omega) k0 q (zaI_of ?_)
          rw [e534]
          have next : ∀ z : Int, z = cnt (fun k => decide (J 44 0 k ≠ J1 113 0 k)) (k + 1).toNat → zGo L xs (D + 1) 231 21 [some (zr 142), some (zi z), some (zi (k + 1))] [] (zup J6 259 0 k (J1 113 0 k)) K1 fun r2 e2 J3 K3 => r2 = .inl (some (zi (cnt (fun k => decide (J 44 0 k ≠ J1 113 0 k)) (J 18 0 6).toNat))) ∧ e2 = 0 ∧ Inv Gi J3 K3 := by
            intro z hz
            rw [hz]
            refine ih _ (by omega) (k + 1) _ rfl (by omega) (by omega) (fun b hb => by rw [zup_ne _ _ _ _ hb]; exact f6 b hb) fun j j0 j1 => ?_
            by_cases e : j = k
            · rw [e, zup_eq]
            · rw [zup_nk _ _ e]
              exact v6 j j0 (by omega)
          refine ⟨k0, by omega, ⟨by omega, by omega⟩, ⟨by omega, by omega⟩, fun z => ⟨k0, by omega, k0, by omega, next _ ?_⟩, fun z => ⟨k0, by omega, k0, by omega, next _ ?_⟩⟩
          · rw [cnt_next k0, decide_eq_false (fun w => w z)]
            rfl
          · rw [cnt_next k0, decide_eq_true z]
            rfl
      exact loop _ 0 J5 rfl (Int.le_refl 0) (by omega) (fun _ _ => rfl) fun j a b => by omega
    -- the class
    have key : ∀ (n : Nat) (k : Int), n = (J 18 0 6 - k).toNat → 0 ≤ k → k ≤ J 18 0 6 → zGo L xs (D + 1) 156 17 [some (zr 0), some (zi (cnt (fun k => decide (J 44 0 k ≠ J1 113 0 k)) k.toNat)), some (zi k)] [] J1 K1 fun r e J1 K1 => ∃ v, r = .inl (some (zi v)) ∧ e = 0 ∧ zin v ∧ zCall L xs (D + 1) 231 [zr 142] J1 K1 fun r2 e2 J2 K2 => r2 = .inl (some (zi v)) ∧ e2 = 0 ∧ Inv Gi J2 K2 := by
      intro n; induction n using Nat.strongRecOn with
  | _ n ih =>
      intro k hm k0 k1
      refine z156_17 hL ?_
      rw [q1 18 (by decide), q1 44 (by decide)]
      refine ⟨⟨by omega, by omega⟩, ⟨by omega, by omega⟩, fun q => ?_, fun q => ?_⟩
      · have ek : k = J 18 0 6 := by omega
        rw [ek]
        have hcr := cnt_rng (fun k => decide (J 44 0 k ≠ J1 113 0 k)) (J 18 0 6).toNat
        refine c173 hL hE1 hW hT hP hkp (by omega) fun J2 f2 hP2 r2 => zaV_of ⟨_, rfl, rfl, ⟨by omega, by omega⟩, model J2 f2 hP2 r2⟩
      · obtain ⟨hk1, hk2, -⟩ := pw_k hP k0 q
        have hr := (hkp k k0 q).2
        refine ⟨k0, by omega, k0, by omega, ⟨by omega, by omega⟩, ⟨by omega, by omega⟩, fun z => ?_, fun z => ?_⟩
        · have hi := ih _ (by omega) (k + 1) rfl (by omega) (by omega)
          rw [cnt_next k0, decide_eq_false (fun w => w z), zb_f, Int.add_zero] at hi
          exact hi
        · have hi := ih _ (by omega) (k + 1) rfl (by omega) (by omega)
          rw [cnt_next k0, decide_eq_true z, zb_t] at hi
          exact hi
    exact key _ 0 rfl (Int.le_refl 0) (by omega)
