/-! THE SEARCH -/
theorem sbs_dn {s : zJ} {T k m u v : Nat} (hv : v / T ^ m = u) (t : Int) : Sbs s (pst T k u t) (pst T (k + m) v t) := fun j j0 _ hb => (pst_pre hv j0).1 hb
theorem sbs_up {s : zJ} {T k m u v : Nat} {r : Int} (hk : k + m ≤ 30) (hv : v / T ^ m = u) (r0 : 0 ≤ r) (r1 : r < 2147483648) (hr : ∀ j : Int, 0 ≤ j → bt r j = (decide (j < ((k + m : Nat) : Int)) && !decide (j < (k : Int)))) (t : Int) : Sbs s (pst T (k + m) v t) (zor (pst T k u t) r) := fun j j0 _ hb => by
  have hp := pst_rng T k u t
  have h2 : (2 : Int) ^ k ≤ 2 ^ 30 := by
    have := Nat.pow_le_pow_right (n := 2) (by decide) (show k ≤ 30 by omega)
    have e : ((2 ^ k : Nat) : Int) = (2 : Int) ^ k := by simp
    have e2 : ((2 ^ 30 : Nat) : Int) = (2 : Int) ^ 30 := rfl
    omega
  have e30 : (2 : Int) ^ 30 = 1073741824 := rfl
  rw [bt_or hp.1 (by omega) r0 r1, Bool.or_eq_true]
  rcases (pst_pre hv j0).2 hb with z | z
  · exact Or.inl z
  · right
    rw [hr j j0, decide_eq_true z.2, decide_eq_false (by omega)]
    rfl
/-- which are left over -/
theorem rest_ok {k n : Nat} (hk : k < n) (hn : n ≤ 7) : (0 ≤ zand ((2 : Int) ^ n - 1) (zxor (2 * 2 ^ k - 1) (-1)) ∧ zand ((2 : Int) ^ n - 1) (zxor (2 * 2 ^ k - 1) (-1)) < 2 ^ n) ∧ ∀ j : Int, 0 ≤ j → bt (zand ((2 : Int) ^ n - 1) (zxor (2 * 2 ^ k - 1) (-1))) j = (decide (j < (n : Int)) && !decide (j < ((k + 1 : Nat) : Int))) := by
  have bl : ∀ (m : Nat) (j : Int), 0 ≤ j → bt ((2 : Int) ^ m - 1) j = decide (j < (m : Int)) := fun m j j0 => bt_ones m j0
  have p1 := pw7 (n := (n : Int)) (by omega)
  have p2 := pw7 (n := ((k + 1 : Nat) : Int)) (by omega)
  have e1 : ((n : Int)).toNat = n := by omega
  have e2 : (((k + 1 : Nat) : Int)).toNat = k + 1 := by omega
  rw [e1] at p1
  rw [e2] at p2
  have e3 : (2 : Int) * 2 ^ k = 2 ^ (k + 1) := by rw [Int.pow_succ, Int.mul_comm]
  rw [e3]
  have hz := zandn_n (x := (2 : Int) ^ n - 1) (y := (2 : Int) ^ (k + 1) - 1) (by omega) (by omega) (by omega) (by omega)
  refine ⟨⟨hz.1, by omega⟩, fun j j0 => ?_⟩
  rw [hz.2.2 j j0, bl n j j0, bl (k + 1) j j0]
def FrS (J : zJ) (K : zK) (J' : zJ) (K' : zK) : Prop := (∀ b : Nat, b ≠ 105 → b ≠ 113 → b ≠ 114 → b ≠ 115 → J' b = J b) ∧ (∀ k : Int, k ≠ 13 → J' 105 0 k = J 105 0 k) ∧ (∀ b : Nat, b ≠ 105 → K' b = K b) ∧ ∀ k : Int, k ≠ 16 → K' 105 k = K 105 k
theorem frs_rfl (J : zJ) (K : zK) : FrS J K J K := ⟨fun _ _ _ _ _ => rfl, fun _ _ => rfl, fun _ _ => rfl, fun _ _ => rfl⟩
theorem frs_tr {J J1 J2 : zJ} {K K1 K2 : zK} (h1 : FrS J K J1 K1) (h2 : FrS J1 K1 J2 K2) : FrS J K J2 K2 := ⟨fun b a c d e => (h2.1 b a c d e).trans (h1.1 b a c d e), fun k hk => (h2.2.1 k hk).trans (h1.2.1 k hk), fun b hb => (h2.2.2.1 b hb).trans (h1.2.2.1 b hb), fun k hk => (h2.2.2.2 k hk).trans (h1.2.2.2 k hk)⟩
/-- where the search stands -/
def Ssr (s J : zJ) (K : zK) (k u : Nat) : Prop := (∀ t : Int, 0 ≤ t → t < s 40 0 0 → J 114 0 t = pst (s 40 0 0).toNat k u t) ∧ (∀ j : Nat, j < k → J 115 0 j = dgt (s 40 0 0).toNat k u j) ∧ K 105 16 = dgs (fun q => ena s q - sm (fun t => tcs s (pst (s 40 0 0).toNat k u t) q) (s 40 0 0).toNat)
/-- what it knows -/
def Skn (s J : zJ) (K : zK) : Prop := Gtb s J K (2 ^ (s 18 0 6).toNat) ∧ J 105 0 15 = opb s ∧ ∀ t w : Int, 0 ≤ t → t < s 40 0 0 → 0 ≤ w → w < s 18 0 14 → J 116 0 (t * 12 + w) = fw s w (s 41 0 t)
theorem skn_fr {s J J' : zJ} {K K' : zK} (h : Skn s J K) (hf : FrS J K J' K') : Skn s J' K' := by
  obtain ⟨h1, h2, h3⟩ := h
  obtain ⟨f1, f2, f3, f4⟩ := hf
  refine ⟨gtb_eq h1 (fun b x y => f1 b (by omega) (by omega) (by omega) (by omega)) (f3 112 (by decide)), ?_, ?_⟩
  · rw [f2 15 (by decide)]
    exact h2
  · rw [f1 116 (by decide) (by decide) (by decide) (by decide)]
    exact h3
theorem eqs_frs {s J J' : zJ} {K K' : zK} (h : EqS s J) (hf : FrS J K J' K') : EqS s J' := fun b x y => (hf.1 b (by omega) (by omega) (by omega) (by omega)).trans (h b x y)
theorem zor_x0 {x : Int} (x0 : 0 ≤ x) (x1 : x < 2147483648) : zor x 0 = x := by
  rw [zor_n x0 x1 (Int.le_refl 0) (by decide)]
  have : x.toNat ||| (0 : Int).toNat = x.toNat := Nat.or_zero _
  rw [this]
  omega
theorem c37 {L : Nat} {xs : Nat → Int32} (hL : L ≤ 3072) {D : Nat} {J : zJ} {K : zK} {Q : zR → Nat → zJ → zK → Prop} {s : zJ} (hE : EqS s J) (h : LW s) (hP : PW s) {u : Nat} (hK : Skn s J K) (hS : Ssr s J K (s 18 0 6).toNat u) (hok : ∀ t : Int, 0 ≤ t → t < s 40 0 0 → okX s (pst (s 40 0 0).toNat (s 18 0 6).toNat u t)) (hB : Bsg s (s 40 0 0).toNat (s 18 0 6).toNat u (J 105 0 13) (J 113 0)) (hD : 3 ≤ D) (hQ : ∀ (J' : zJ) (K' : zK), FrS J K J' K' → Ssr s J' K' (s 18 0 6).toNat u → Bsg s (s 40 0 0).toNat (s 18 0 6).toNat (u + 1) (J' 105 0 13) (J' 113 0) → Q (.inl none) 0 J' K') : zCall L xs D 37 [zr 105] J K Q := by
  obtain ⟨D, rfl⟩ : ∃ d, D = d + 1 := ⟨D - 1, by omega⟩
  have hn := lw_n h
  have hpn := pw_n hP
  have p7 := pw7 (n := s 18 0 6) (by omega)
  obtain ⟨hG, hop, h116⟩ := id hK
  obtain ⟨s1, s2, s3⟩ := id hS
  have hTT : (((s 40 0 0).toNat : Nat) : Int) = s 40 0 0 := by omega
  have hge := bsg_ge h hP (T := (s 40 0 0).toNat) (by omega) hB
  have hX : ∀ t : Int, 0 ≤ t → t < s 40 0 0 → J 114 0 t = pst (s 40 0 0).toNat (s 18 0 6).toNat u t ∧ 0 ≤ pst (s 40 0 0).toNat (s 18 0 6).toNat u t ∧ pst (s 40 0 0).toNat (s 18 0 6).toNat u t < 2 ^ (s 18 0 6).toNat := fun t t0 t1 => ⟨s1 t t0 t1, (pst_rng _ _ _ _).1, (pst_rng _ _ _ _).2⟩
  have hz : ∀ t : Int, zor (pst (s 40 0 0).toNat (s 18 0 6).toNat u t) 0 = pst (s 40 0 0).toNat (s 18 0 6).toNat u t := fun t => by
    have := pst_rng (s 40 0 0).toNat (s 18 0 6).toNat u t
    exact zor_x0 this.1 (by omega)
  refine z37 hL ?_
  refine c32 hL hE h hP hG hX (by omega) (fun he => zaI_of ⟨zin_1, fun _ => ?_, fun q => absurd q (by decide)⟩) (fun he => zaI_of ⟨zin_0, fun q => absurd rfl q, fun _ => ?_⟩)
  · have hv : vld s (pst (s 40 0 0).toNat (s 18 0 6).toNat u) (s 40 0 0).toNat := ⟨fun t t0 t1 => hok t t0 (by omega), he⟩
    have hw := wth_rng h hP (pst (s 40 0 0).toNat (s 18 0 6).toNat u) (T := (s 40 0 0).toNat) (by omega)
    refine c36 hL hE h hP (X := pst (s 40 0 0).toNat (s 18 0 6).toNat u) hG (fun t t0 t1 => by rw [hz]; exact hX t t0 t1) h116 (by omega) (zaI_of ?_)
    have ew : wth s (fun t => zor (pst (s 40 0 0).toNat (s 18 0 6).toNat u t) 0) (s 40 0 0).toNat = wth s (pst (s 40 0 0).toNat (s 18 0 6).toNat u) (s 40 0 0).toNat := wth_cong fun t _ _ => hz t
    rw [ew]
    refine ⟨⟨by omega, by omega⟩, ⟨by omega, by omega⟩, fun q => ?_, fun q => ⟨by omega, by decide, by decide, by decide, by decide, by decide, ?_⟩⟩
    · refine hQ J K (frs_rfl J K) hS (bsg_skip hB (by omega) fun v v0 v1 hvv => ?_)
      have e : v = u := by omega
      rw [e]
      exact ⟨by omega, q⟩
    · have e13 : zcp (zup J 105 0 13 (wth s (pst (s 40 0 0).toNat (s 18 0 6).toNat u) (s 40 0 0).toNat)) 115 113 0 0 7 105 0 13 = wth s (pst (s 40 0 0).toNat (s 18 0 6).toNat u) (s 40 0 0).toNat := by rw [zcp_ne _ _ _ _ (by decide), zup_eq]
      have e113 : ∀ j : Nat, j < (s 18 0 6).toNat → zcp (zup J 105 0 13 (wth s (pst (s 40 0 0).toNat (s 18 0 6).toNat u) (s 40 0 0).toNat)) 115 113 0 0 7 113 0 j = dgt (s 40 0 0).toNat (s 18 0 6).toNat u j := fun j hj => by
        rw [zcp_at, if_pos ⟨rfl, rfl, by omega, by omega⟩, zup_ne _ _ _ _ (by decide)]
        have e : (0 : Int) + ((j : Int) - 0) = j := by omega
        rw [e]
        exact s2 j hj
      refine hQ _ K ⟨fun b x y z w => by rw [zcp_ne _ _ _ _ y, zup_ne _ _ _ _ x], fun k hk => by rw [zcp_ne _ _ _ _ (by decide), zup_nk _ _ hk], fun _ _ => rfl, fun _ _ => rfl⟩ ⟨fun t t0 t1 => ?_, fun j hj => ?_, s3⟩ ?_
      · rw [zcp_ne _ _ _ _ (by decide), zup_ne _ _ _ _ (by decide)]
        exact s1 t t0 t1
      · rw [zcp_ne _ _ _ _ (by decide), zup_ne _ _ _ _ (by decide)]
        exact s2 j hj
      · rw [e13]
        exact bsg_take hB hv rfl q e113
  · refine hQ J K (frs_rfl J K) hS (bsg_skip hB (by omega) fun v v0 v1 hvv => ?_)
    have e : v = u := by omega
    rw [e] at hvv
    obtain ⟨_, tk, hh⟩ := hvv
    rw [he] at hh
    cases hh
