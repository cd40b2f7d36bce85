/-! THE SEARCH: all groupings with a prefix -/
theorem sm_upd {f g : Int → Int} {k : Int} {n : Nat} (k0 : 0 ≤ k) (k1 : k < n) (hh : ∀ i : Int, 0 ≤ i → i < n → i ≠ k → g i = f i) : sm g n = sm f n - f k + g k := by
  have h1 := sm_one (f := fun i => g i - f i) k0 k1 fun i i0 i1 hi => by
    show g i - f i = 0
    rw [hh i i0 i1 hi]
    omega
  have h2 := sm_add (fun i => g i - f i) f n
  have e : (fun i => g i - f i + f i) = g := by
    funext i
    omega
  rw [e, h1] at h2
  have h3 : (fun i => g i - f i) k = g k - f k := rfl
  omega
theorem ndx_x {s : zJ} (h : LW s) (x : Int) : ndx (tkX s x) = dgs (fun q => tcs s x q) := by
  rw [ndx_dgs _ fun e he => (tkX_mem h e he).1]
  exact dgs_cong fun q _ _ => tct_x h x q
theorem opb_rng {s : zJ} (h : LW s) : 0 ≤ opb s ∧ opb s < 4096 := by
  have hn := lw_n h
  have ho := bs_lt (fun p => opn s p) (s 18 0 0).toNat
  have ho2 : (2 : Int) ^ (s 18 0 0).toNat ≤ 4096 := by
    have := Nat.pow_le_pow_right (n := 2) (by decide) (show (s 18 0 0).toNat ≤ 12 by omega)
    have e : ((2 ^ (s 18 0 0).toNat : Nat) : Int) = (2 : Int) ^ (s 18 0 0).toNat := by simp
    have e2 : (2 : Nat) ^ 12 = 4096 := rfl
    omega
  unfold opb
  omega
theorem fk_zin {s : zJ} (h : LW s) (x : Int) : zin (zand (bs (fkL s (sq s x 0) (viX s x)) 13) (zxor (opb s) (-1))) := by
  have hb := bs_lt (fkL s (sq s x 0) (viX s x)) 13
  have hb2 : bs (fkL s (sq s x 0) (viX s x)) 13 < 8192 := hb.2
  have ho := opb_rng h
  have hz := zandn_n (x := bs (fkL s (sq s x 0) (viX s x)) 13) (y := opb s) hb.1 (by omega) ho.1 (by omega)
  exact ⟨by omega, by omega⟩
theorem tcs_nn (s : zJ) (x q : Int) : 0 ≤ tcs s x q := by
  unfold tcs
  have := tcx_nn s x q
  split <;> omega
theorem c42 {s : zJ} (h : LW s) (hP : PW s) : ∀ (d k u : Nat) {L : Nat} {xs : Nat → Int32} {D : Nat} {J : zJ} {K : zK} {Q : zR → Nat → zJ → zK → Prop}, L ≤ 3072 → d + k = (s 18 0 6).toNat → EqS s J → Skn s J K → Ssr s J K k u → (∀ t : Int, 0 ≤ t → t < s 40 0 0 → okX s (pst (s 40 0 0).toNat k u t)) → Bsg s (s 40 0 0).toNat (s 18 0 6).toNat (u * (s 40 0 0).toNat ^ d) (J 105 0 13) (J 113 0) → d + 5 ≤ D → (∀ (J' : zJ) (K' : zK), FrS J K J' K' → Ssr s J' K' k u → Bsg s (s 40 0 0).toNat (s 18 0 6).toNat ((u + 1) * (s 40 0 0).toNat ^ d) (J' 105 0 13) (J' 113 0) → Q (.inl none) 0 J' K') → zCall L xs D 42 [zr 105, zi (k : Int)] J K Q := by
  have hn := lw_n h
  have hpn := pw_n hP
  have p7 := pw7 (n := s 18 0 6) (by omega)
  have hTT : (((s 40 0 0).toNat : Nat) : Int) = s 40 0 0 := by omega
  intro d
  induction d with
  | zero =>
    intro k u L xs D J K Q hL hk hE hK hS hok hB hD hQ
    obtain ⟨D, rfl⟩ : ∃ d, D = d + 1 := ⟨D - 1, by omega⟩
    have ek : k = (s 18 0 6).toNat := by omega
    subst ek
    rw [Nat.pow_zero, Nat.mul_one] at hB
    refine z42 hL ?_
    rw [hE 18 (by decide) (by decide)]
    refine ⟨⟨by omega, by omega⟩, ⟨by omega, by omega⟩, fun q => by omega, fun _ => ?_⟩
    refine c37 hL hE h hP hK hS hok hB (by omega) fun J1 K1 f1 s1 b1 => zaV_of ?_
    exact hQ J1 K1 f1 s1 (by rw [Nat.pow_zero, Nat.mul_one]; exact b1)
  | succ d ihd =>
    intro k u L xs D J K Q hL hk hE hK hS hok hB hD hQ
    obtain ⟨D, rfl⟩ : ∃ d, D = d + 1 := ⟨D - 1, by omega⟩
    have hN : (s 18 0 6).toNat = k + 1 + d := by omega
    have hk6 : k < 7 := by omega
    obtain ⟨⟨r0, r1⟩, rb⟩ := rest_ok (k := k) (n := (s 18 0 6).toNat) (by omega) (by omega)
    refine z42 hL ?_
    rw [hE 18 (by decide) (by decide)]
    refine ⟨⟨by omega, by omega⟩, ⟨by omega, by omega⟩, fun _ => ?_, fun q => by omega⟩
    refine c55 hL hE h (by omega) (zaI_of ⟨by omega, by omega, ?_⟩)
    rw [Int.toNat_natCast]
    generalize zand ((2 : Int) ^ (s 18 0 6).toNat - 1) (zxor (2 * 2 ^ k - 1) (-1)) = R at r0 r1 rb
    have hF := hS.2.2
    rw [hF]
    generalize hFe : dgs (fun q => ena s q - sm (fun t => tcs s (pst (s 40 0 0).toNat k u t) q) (s 40 0 0).toNat) = F
    have loop : ∀ (m t : Nat) (J1 : zJ) (K1 : zK), m = (s 40 0 0).toNat - t → t ≤ (s 40 0 0).toNat → FrS J K J1 K1 → Ssr s J1 K1 k u → Bsg s (s 40 0 0).toNat (s 18 0 6).toNat ((u * (s 40 0 0).toNat + t) * (s 40 0 0).toNat ^ d) (J1 105 0 13) (J1 113 0) → zGo L xs (D + 1) 42 40 [some (zr 105), some (zi (k : Int)), some (zi R), some (zl F), none, some (zi (t : Int)), none, none] [] J1 K1 Q := by
      intro m
      induction m with
      | zero =>
        intro t J1 K1 hm t1 f1 s1 b1
        refine z42_40 hL ?_
        rw [eqs_frs hE f1 40 (by decide) (by decide)]
        refine ⟨⟨by omega, by omega⟩, ⟨by omega, by omega⟩, fun _ => ?_, fun q => by omega⟩
        refine hQ J1 K1 f1 s1 ?_
        have e : (u + 1) * (s 40 0 0).toNat ^ (d + 1) = (u * (s 40 0 0).toNat + t) * (s 40 0 0).toNat ^ d := by
          have et : t = (s 40 0 0).toNat := by omega
          rw [et, Nat.pow_succ, Nat.mul_comm ((s 40 0 0).toNat ^ d) (s 40 0 0).toNat, ← Nat.mul_assoc, Nat.add_mul, Nat.one_mul]
        rw [e]
        exact b1
      | succ m ihm =>
        intro t J1 K1 hm t1 f1 s1 b1
        have ht : t < (s 40 0 0).toNat := by omega
        have hE1 := eqs_frs hE f1
        have hK1 := skn_fr hK f1
        obtain ⟨hG, hop, h116⟩ := id hK1
        obtain ⟨i1, i2, i3⟩ := id s1
        have hx := pst_rng (s 40 0 0).toNat k u t
        have hy := pst_rng (s 40 0 0).toNat (k + 1) (u * (s 40 0 0).toNat + t) t
        have pk : (2 : Int) ^ k ≤ 2 ^ (s 18 0 6).toNat ∧ (2 : Int) ^ (k + 1) ≤ 2 ^ (s 18 0 6).toNat := by
          have a1 := Nat.pow_le_pow_right (n := 2) (by decide) (show k ≤ (s 18 0 6).toNat by omega)
          have a2 := Nat.pow_le_pow_right (n := 2) (by decide) (show k + 1 ≤ (s 18 0 6).toNat by omega)
          have e1 : ((2 ^ k : Nat) : Int) = (2 : Int) ^ k := by simp
          have e2 : ((2 ^ (k + 1) : Nat) : Int) = (2 : Int) ^ (k + 1) := by simp
          have e3 : ((2 ^ (s 18 0 6).toNat : Nat) : Int) = (2 : Int) ^ (s 18 0 6).toNat := by simp
          omega
        obtain ⟨gy1, ⟨_, _, gy2⟩, _⟩ := hG (pst (s 40 0 0).toNat (k + 1) (u * (s 40 0 0).toNat + t) t) hy.1 (by omega)
        obtain ⟨_, ⟨_, _, gx2⟩, _⟩ := hG (pst (s 40 0 0).toNat k u t) hx.1 (by omega)
        have ek1 : (k : Int) + 1 = ((k + 1 : Nat) : Int) := by omega
        have et1 : (t : Int) + 1 = ((t + 1 : Nat) : Int) := by omega
        have nxt : ∀ (J2 : zJ) (K2 : zK), FrS J1 K1 J2 K2 → Ssr s J2 K2 k u → Bsg s (s 40 0 0).toNat (s 18 0 6).toNat ((u * (s 40 0 0).toNat + t + 1) * (s 40 0 0).toNat ^ d) (J2 105 0 13) (J2 113 0) → zGo L xs (D + 1) 42 40 [some (zr 105), some (zi (k : Int)), some (zi R), some (zl F), none, some (zi ((t : Int) + 1)), none, none] [] J2 K2 Q := by
          intro J2 K2 f2 s2 b2
          rw [et1]
          exact ihm (t + 1) J2 K2 (by omega) (by omega) (frs_tr f1 f2) s2 b2
        have mle : (u * (s 40 0 0).toNat + t) * (s 40 0 0).toNat ^ d ≤ (u * (s 40 0 0).toNat + t + 1) * (s 40 0 0).toNat ^ d := Nat.mul_le_mul_right _ (Nat.le_succ _)
        have sub : ∀ v : Nat, (u * (s 40 0 0).toNat + t) * (s 40 0 0).toNat ^ d ≤ v → v < (u * (s 40 0 0).toNat + t + 1) * (s 40 0 0).toNat ^ d → ∀ t' : Int, Sbs s (pst (s 40 0 0).toNat (k + 1) (u * (s 40 0 0).toNat + t) t') (pst (s 40 0 0).toNat (s 18 0 6).toNat v t') := fun v v0 v1 t' => by
          rw [hN]
          exact sbs_dn (div_rng v0 v1) t'
        refine z42_40 hL ?_
        rw [hE1 40 (by decide) (by decide), i1 t (by omega) (by omega), pst_same ht (by omega), gy1, hop]
        refine ⟨⟨by omega, by omega⟩, ⟨by omega, by omega⟩, fun q => by omega, fun _ => ⟨by omega, by omega, by omega, by omega, hy.1, by omega, fk_zin h _, fun z => ?_, fun z => ⟨by omega, by omega, by omega, by omega, hy.1, by omega, hx.1, by omega, ?_⟩⟩⟩
        · refine nxt J1 K1 (frs_rfl J1 K1) s1 (bsg_skip b1 mle fun v v0 v1 hv => ?_)
          exact absurd ((fk_test h _).mpr (okX_mono h (sub v v0 v1 t) (hv.1 t (by omega) (by omega)))) z
        · have hoky := (fk_test h _).mp z
          -- with the portion in train t
          have j114 : ∀ t' : Int, 0 ≤ t' → t' < s 40 0 0 → zup (zup J1 114 0 t (pst (s 40 0 0).toNat (k + 1) (u * (s 40 0 0).toNat + t) t)) 115 0 k t 114 0 t' = pst (s 40 0 0).toNat (k + 1) (u * (s 40 0 0).toNat + t) t' := fun t' t0' t1' => by
            rw [zup_ne _ _ _ _ (by decide)]
            by_cases e : t' = t
            · rw [e, zup_eq]
            · rw [zup_nk _ _ e, i1 t' t0' t1', pst_other ht e]
          have j115 : ∀ j : Nat, j < k + 1 → zup (zup J1 114 0 t (pst (s 40 0 0).toNat (k + 1) (u * (s 40 0 0).toNat + t) t)) 115 0 k t 115 0 j = dgt (s 40 0 0).toNat (k + 1) (u * (s 40 0 0).toNat + t) j := fun j hj => by
            by_cases e : j = k
            · rw [e, zup_eq, dgt_last ht]
            · rw [zup_nk _ _ (by omega), zup_ne _ _ _ _ (by decide), i2 j (by omega), dgt_next ht (by omega)]
          have hsum : ∀ q : Int, sm (fun t' => tcs s (pst (s 40 0 0).toNat (k + 1) (u * (s 40 0 0).toNat + t) t') q) (s 40 0 0).toNat = sm (fun t' => tcs s (pst (s 40 0 0).toNat k u t') q) (s 40 0 0).toNat - tcs s (pst (s 40 0 0).toNat k u t) q + tcs s (pst (s 40 0 0).toNat (k + 1) (u * (s 40 0 0).toNat + t) t) q := fun q => sm_upd (f := fun t' => tcs s (pst (s 40 0 0).toNat k u t') q) (g := fun t' => tcs s (pst (s 40 0 0).toNat (k + 1) (u * (s 40 0 0).toNat + t) t') q) (k := t) (by omega) (by omega) fun i i0 i1' hi => by
            show tcs s (pst (s 40 0 0).toNat (k + 1) (u * (s 40 0 0).toNat + t) i) q = tcs s (pst (s 40 0 0).toNat k u i) q
            rw [pst_other ht hi]
          have k16 : zku K1 105 16 ((F - K1 112 (pst (s 40 0 0).toNat (k + 1) (u * (s 40 0 0).toNat + t) t)) + K1 112 (pst (s 40 0 0).toNat k u t)) 105 16 = dgs (fun q => ena s q - sm (fun t' => tcs s (pst (s 40 0 0).toNat (k + 1) (u * (s 40 0 0).toNat + t) t') q) (s 40 0 0).toNat) := by
            rw [zku_at, if_pos ⟨rfl, rfl⟩, gy2, gx2, ndx_x h, ndx_x h, ← hFe, ← dgs_sub, ← dgs_add]
            refine dgs_cong fun q _ _ => ?_
            rw [hsum q]
            omega
          have f12 : FrS J1 K1 (zup (zup J1 114 0 t (pst (s 40 0 0).toNat (k + 1) (u * (s 40 0 0).toNat + t) t)) 115 0 k t) (zku K1 105 16 ((F - K1 112 (pst (s 40 0 0).toNat (k + 1) (u * (s 40 0 0).toNat + t) t)) + K1 112 (pst (s 40 0 0).toNat k u t))) := by
            refine ⟨fun b x y z w => by rw [zup_ne _ _ _ _ w, zup_ne _ _ _ _ z], fun k hk => by rw [zup_ne _ _ _ _ (by decide), zup_ne _ _ _ _ (by decide)], fun b hb => ?_, fun k hk => ?_⟩
            · funext y
              rw [zku_at, if_neg fun z => hb z.1]
            · rw [zku_at, if_neg fun z => hk z.2]
          have e105 : zup (zup J1 114 0 t (pst (s 40 0 0).toNat (k + 1) (u * (s 40 0 0).toNat + t) t)) 115 0 k t 105 = J1 105 := by rw [zup_ne _ _ _ _ (by decide), zup_ne _ _ _ _ (by decide)]
          have e113 : zup (zup J1 114 0 t (pst (s 40 0 0).toNat (k + 1) (u * (s 40 0 0).toNat + t) t)) 115 0 k t 113 = J1 113 := by rw [zup_ne _ _ _ _ (by decide), zup_ne _ _ _ _ (by decide)]
          generalize zup (zup J1 114 0 t (pst (s 40 0 0).toNat (k + 1) (u * (s 40 0 0).toNat + t) t)) 115 0 k t = J2 at j114 j115 f12 e105 e113 ⊢
          generalize zku K1 105 16 ((F - K1 112 (pst (s 40 0 0).toNat (k + 1) (u * (s 40 0 0).toNat + t) t)) + K1 112 (pst (s 40 0 0).toNat k u t)) = K2 at k16 f12 ⊢
          have hE2 := eqs_frs hE1 f12
          have hK2 := skn_fr hK1 f12
          have s2 : Ssr s J2 K2 (k + 1) (u * (s 40 0 0).toNat + t) := ⟨j114, j115, k16⟩
          have b2 : Bsg s (s 40 0 0).toNat (s 18 0 6).toNat ((u * (s 40 0 0).toNat + t) * (s 40 0 0).toNat ^ d) (J2 105 0 13) (J2 113 0) := by
            rw [e105, e113]
            exact b1
          have ok2 : ∀ t' : Int, 0 ≤ t' → t' < s 40 0 0 → okX s (pst (s 40 0 0).toNat (k + 1) (u * (s 40 0 0).toNat + t) t') := fun t' t0' t1' => by
            by_cases e : t' = t
            · rw [e]
              exact hoky
            · rw [pst_other ht e]
              exact hok t' t0' t1'
          have hge := bsg_ge h hP (T := (s 40 0 0).toNat) (by omega) b2
          have back : ∀ (J3 : zJ) (K3 : zK), FrS J2 K2 J3 K3 → Ssr s J3 K3 (k + 1) (u * (s 40 0 0).toNat + t) → Bsg s (s 40 0 0).toNat (s 18 0 6).toNat ((u * (s 40 0 0).toNat + t + 1) * (s 40 0 0).toNat ^ d) (J3 105 0 13) (J3 113 0) → zGo L xs (D + 1) 42 40 [some (zr 105), some (zi (k : Int)), some (zi R), some (zl F), none, some (zi ((t : Int) + 1)), none, none] [] (zup J3 114 0 t (pst (s 40 0 0).toNat k u t)) (zku K3 105 16 F) Q := by
            intro J3 K3 f3 s3 b3
            obtain ⟨o1, o2, o3⟩ := s3
            obtain ⟨g1, g2, g3, g4⟩ := frs_tr f12 f3
            refine nxt _ _ ⟨fun b x y z w => by rw [zup_ne _ _ _ _ z]; exact g1 b x y z w, fun k hk => by rw [zup_ne _ _ _ _ (by decide)]; exact g2 k hk, fun b hb => ?_, fun k hk => ?_⟩ ⟨fun t' t0' t1' => ?_, fun j hj => ?_, ?_⟩ ?_
            · funext y
              rw [zku_at, if_neg fun z => hb z.1, g3 b hb]
            · rw [zku_at, if_neg fun z => hk z.2]
              exact g4 k hk
            · by_cases e : t' = t
              · rw [e, zup_eq]
              · rw [zup_nk _ _ e, o1 t' t0' t1', pst_other ht e]
            · rw [zup_ne _ _ _ _ (by decide), o2 j (by omega), dgt_next ht hj]
            · rw [zku_at, if_pos ⟨rfl, rfl⟩, hFe]
            · rw [zup_ne _ _ _ _ (by decide), zup_ne _ _ _ _ (by decide)]
              exact b3
          have deep : zCall L xs D 42 [zr 105, zi ((k : Int) + 1)] J2 K2 fun r2 e2 J2 K2 => zaV r2 e2 (0 ≤ (t : Int) ∧ (t : Int) < 4 ∧ zGo L xs (D + 1) 42 40 [some (zr 105), some (zi (k : Int)), some (zi R), some (zl F), none, some (zi ((t : Int) + 1)), none, none] [] (zup J2 114 0 t (pst (s 40 0 0).toNat k u t)) (zku K2 105 16 F) Q) (fun E => Q (.inr E) e2 J2 K2) := by
            rw [ek1]
            refine ihd (k + 1) (u * (s 40 0 0).toNat + t) hL (by omega) hE2 hK2 s2 ok2 b2 (by omega) fun J3 K3 f3 s3 b3 => zaV_of ⟨by omega, by omega, back J3 K3 f3 s3 b3⟩
          refine c31 hL k16 (by omega) (fun z2 => zaI_of ⟨zin_1, fun q => absurd q (by decide), fun _ => ⟨⟨by omega, by omega⟩, ⟨by decide, by decide⟩, fun q => deep, fun q => ?_⟩⟩) (fun z2 => zaI_of ⟨zin_0, fun _ => ⟨by omega, by omega, back J2 K2 (frs_rfl J2 K2) s2 (bsg_skip b2 mle fun v v0 v1 hv => ?_)⟩, fun q => absurd rfl q⟩)
          · have hzr : ∀ t' : Int, 0 ≤ zor (pst (s 40 0 0).toNat (k + 1) (u * (s 40 0 0).toNat + t) t') R ∧ zor (pst (s 40 0 0).toNat (k + 1) (u * (s 40 0 0).toNat + t) t') R < 2 ^ (s 18 0 6).toNat := fun t' => by
              have hp := pst_rng (s 40 0 0).toNat (k + 1) (u * (s 40 0 0).toNat + t) t'
              exact zor_lt (n := (s 18 0 6).toNat) (by omega) hp.1 (by omega) r0 r1
            have hwr := wth_rng h hP (fun t' => zor (pst (s 40 0 0).toNat (k + 1) (u * (s 40 0 0).toNat + t) t') R) (T := (s 40 0 0).toNat) (by omega)
            refine c36 hL hE2 h hP (X := pst (s 40 0 0).toNat (k + 1) (u * (s 40 0 0).toNat + t)) (r := R) hK2.1 (fun t' t0' t1' => ⟨j114 t' t0' t1', hzr t'⟩) hK2.2.2 (by omega) (zaI_of ⟨⟨by omega, by omega⟩, ⟨by omega, by omega⟩, fun q2 => ⟨by omega, by omega, back J2 K2 (frs_rfl J2 K2) s2 (bsg_skip b2 mle fun v v0 v1 hv => ⟨q, ?_⟩)⟩, fun _ => deep⟩)
            refine Int.le_trans (wth_mono h hP (Y := fun t' => zor (pst (s 40 0 0).toNat (k + 1) (u * (s 40 0 0).toNat + t) t') R) (by omega) fun t' _ _ => ?_) q2
            rw [hN] at rb ⊢
            exact sbs_up (by omega) (div_rng v0 v1) r0 (by omega) rb t'
          · refine absurd (grd_test fun q q0 q1 => ?_) z2
            have h1 := vld_eng h hv q
            have h2 : sm (fun t' => tcs s (pst (s 40 0 0).toNat (k + 1) (u * (s 40 0 0).toNat + t) t') q) (s 40 0 0).toNat ≤ sm (fun t' => tcs s (pst (s 40 0 0).toNat (s 18 0 6).toNat v t') q) (s 40 0 0).toNat := sm_mono fun t' _ _ => tcs_mono h (sub v v0 v1 t') q
            have h3 := ena_rng h q
            have h4 : 0 ≤ sm (fun t' => tcs s (pst (s 40 0 0).toNat (k + 1) (u * (s 40 0 0).toNat + t) t') q) (s 40 0 0).toNat := by
              have := sm_mono (f := fun _ => 0) (g := fun t' => tcs s (pst (s 40 0 0).toNat (k + 1) (u * (s 40 0 0).toNat + t) t') q) (n := (s 40 0 0).toNat) fun t' _ _ => tcs_nn s _ q
              have e : sm (fun _ => (0 : Int)) (s 40 0 0).toNat = 0 := sm_zero fun _ _ _ => rfl
              omega
            exact ⟨by omega, by omega⟩
    refine loop _ 0 J K rfl (Nat.zero_le _) (frs_rfl J K) hS ?_
    have e : (u * (s 40 0 0).toNat + 0) * (s 40 0 0).toNat ^ d = u * (s 40 0 0).toNat ^ (d + 1) := by
      rw [Nat.add_zero, Nat.pow_succ, Nat.mul_comm ((s 40 0 0).toNat ^ d) (s 40 0 0).toNat, Nat.mul_assoc]
    rw [e]
    exact hB
