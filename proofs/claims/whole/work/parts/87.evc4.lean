/-! THE EVENING in the class: prepare, setLate, setOut, play; who reaches when, rows, harm -/
/-- carriages times minutes, if each came alone -/
def aln (s : zJ) : Int := sm (fun k => s 25 0 k * (s 51 0 k + dep s (s 24 0 k))) (s 18 0 6).toNat
def twb : Bool := (List.range 128).all fun x => decide (zand (x : Int) ((x : Int) - 1) = 0) == decide (cnt (fun k => bt (x : Int) k) 7 ≤ 1)
theorem twb_ok : twb = true := by decide +kernel
theorem two_bits {x : Int} (h0 : 0 ≤ x) (h1 : x < 128) : zand x (x - 1) = 0 ↔ cnt (fun k => bt x k) 7 ≤ 1 := by
  have hb := twb_ok
  unfold twb at hb
  rw [List.all_eq_true] at hb
  have hx := hb x.toNat (List.mem_range.mpr (by omega))
  have e : ((x.toNat : Nat) : Int) = x := by omega
  rw [e, beq_iff_eq, decide_eq_decide] at hx
  exact hx
theorem cnt_bs7 {P : Int → Bool} {n : Nat} (h : n ≤ 7) : cnt (fun k => bt (bs P n) k) 7 = cnt P n := by
  have hb := bs_lt P n
  have h1 := pct_wk hb.1 hb.2 h
  unfold pct at h1
  rw [h1]
  exact cnt_cong fun i h0 h1 => by
    rw [bt_bs P n i h0]
    simp [h1]
theorem c14g {L : Nat} {xs : Nat → Int32} (hL : L ≤ 3072) {D : Nat} {J : zJ} {K : zK} {Q : zR → Nat → zJ → zK → Prop} {s : zJ} {m : Int} (hm : 0 ≤ m ∧ m ≤ 12) (hR : J 117 0 4 = bs (hlt s) m.toNat) {p : Int} (hD : 1 ≤ D) (h0 : 0 ≤ p) (h1 : p < m) (hQ : Q (.inl (some (zi (zb (hlt s p))))) 0 J K) : zCall L xs D 14 [zr 117, zi p] J K Q := by
  obtain ⟨D, rfl⟩ : ∃ d, D = d + 1 := ⟨D - 1, by omega⟩
  have hb := bs_lt (hlt s) m.toNat
  have hb2 := pw_31 (n := m.toNat) (by omega)
  refine z14 hL ?_
  rw [hR]
  simp only [bt_shz hb.1 (show bs (hlt s) m.toNat < 2147483648 by omega), zb_0, zb_1, bt_bs _ _ _ h0]
  have e : decide (p < ((m.toNat : Nat) : Int)) = true := decide_eq_true (by omega)
  simp only [e, Bool.true_and]
  refine ⟨⟨by omega, by omega⟩, h0, by omega, zin_zb _, fun q => ⟨by simp, ?_⟩, fun q => ⟨by simp, ?_⟩⟩
  · rw [q] at hQ
    exact hQ
  · rw [q] at hQ
    exact hQ
theorem c20 {L : Nat} {xs : Nat → Int32} (hL : L ≤ 3072) {D : Nat} {J : zJ} {K : zK} {Q : zR → Nat → zJ → zK → Prop} {s : zJ} (hE : EqS s J) (h : LW s) (hT : TW s) (hP : PW s) (hD : 3 ≤ D) (hQ : ∀ J', Fr 117 119 J J' → PR s J' (fun p => s 49 0 p) → J' 117 0 11 = aln s → Q (.inl none) 0 J' K) : zCall L xs D 20 [zr 117] J K Q := by
  obtain ⟨D, rfl⟩ : ∃ d, D = d + 1 := ⟨D - 1, by omega⟩
  have hn := lw_n h
  have hpn := pw_n hP
  -- the last loop
  have last : ∀ (n : Nat) (x1 : Int) (J1 : zJ), n = (s 18 0 6 - x1).toNat → 0 ≤ x1 → x1 ≤ s 18 0 6 → Fr 117 119 J J1 → PR s J1 (fun p => s 49 0 p) → J1 117 0 11 = sm (fun k => s 25 0 k * (s 51 0 k + dep s (s 24 0 k))) x1.toNat → zGo L xs (D + 1) 20 139 [some (zr 117), some (zi x1), none, none] [] J1 K Q := by
    intro n; induction n using Nat.strongRecOn with
    | _ n ih =>
    intro x1 J1 hm h0 h1 hF hPR hal
    have hE1 := eqs_fr hE hF (by omega)
    have e18 := hE1 18 (by decide) (by decide)
    have e24 := hE1 24 (by decide) (by decide)
    have e25 := hE1 25 (by decide) (by decide)
    have e51 := hE1 51 (by decide) (by decide)
    refine z20_139 hL ?_
    rw [e18, e24, e25, e51]
    by_cases hc : x1 < s 18 0 6
    · have hk := lw_k h h0 hc
      refine ⟨⟨by omega, by omega⟩, ⟨by omega, by omega⟩, fun _ => by omega, fun _ => ⟨by omega, by omega, by omega, by omega, by omega, by omega, ?_⟩⟩
      refine c121 hL hE1 h hT (by omega) (by omega) (by omega) (by omega) (by omega) (zaI_of ?_)
      refine ih _ (by omega) (x1 + 1) _ rfl (by omega) (by omega) (fr_up hF (by decide) (by decide) _ _ _) ?_ ?_
      · unfold PR at hPR ⊢
        rw [zup_nk _ _ (by decide), zup_ne _ _ _ _ (by decide), zup_ne _ _ _ _ (by decide)]
        exact hPR
      · rw [zup_eq, hal, sm_next h0, way_root h _ (by omega) (by omega)]
    · have e : x1 = s 18 0 6 := by omega
      subst e
      exact ⟨⟨by omega, by omega⟩, ⟨by omega, by omega⟩, fun _ => hQ J1 hF hPR hal, fun _ => by omega⟩
  have key : ∀ (n : Nat) (x1 : Int) (J1 : zJ), n = (12 - x1).toNat → 1 ≤ x1 → (x1 ≤ s 18 0 0 ∨ x1 = 1) → Fr 117 119 J J1 → J1 117 0 4 = bs (hlt s) x1.toNat → (∀ p, 1 ≤ p → p < x1 → J1 119 0 p = nxh s p) → (∀ p, 0 ≤ p → p < 12 → J1 118 0 p = s 49 0 p) → zGo L xs (D + 1) 20 25 [some (zr 117), some (zi x1), none, none] [] J1 K Q := by
    intro n; induction n using Nat.strongRecOn with
    | _ n ih =>
    intro x1 J1 hm h0 h1 hF hb hnh hwt
    have hE1 := eqs_fr hE hF (by omega)
    have e18 := hE1 18 (by decide) (by decide)
    have e19 := hE1 19 (by decide) (by decide)
    have e37 := hE1 37 (by decide) (by decide)
    refine z20_25 hL ?_
    rw [e18]
    by_cases hc : x1 < s 18 0 0
    · have hu := lw_up h h0 hc
      have hp := lw_p h (p := x1) (by omega) hc
      have hcm : J1 37 0 x1 = bs (fun k => onb s x1 (s 24 0 k)) (s 18 0 6).toNat := by
        rw [e37]
        exact hT.2.2.2.1 x1 (by omega) hc
      have hcr := bs_lt (fun k => onb s x1 (s 24 0 k)) (s 18 0 6).toNat
      have h7 := pw7 hn.2.2.2.1
      have hzz := zand_le (x := bs (fun k => onb s x1 (s 24 0 k)) (s 18 0 6).toNat) (y := bs (fun k => onb s x1 (s 24 0 k)) (s 18 0 6).toNat - 1) hcr.1 (by omega)
      have htb := two_bits (x := bs (fun k => onb s x1 (s 24 0 k)) (s 18 0 6).toNat) hcr.1 (by omega)
      rw [cnt_bs7 (by omega)] at htb
      have hzin : zin (zand (bs (fun k => onb s x1 (s 24 0 k)) (s 18 0 6).toNat) (bs (fun k => onb s x1 (s 24 0 k)) (s 18 0 6).toNat - 1)) := zin_xs _
      -- behind nextHalt
      have tail : ∀ v, v = nxh s x1 → zCall L xs D 62 [zr 18, zi x1] (zup J1 119 0 x1 v) K fun r1 e1 J2 K2 => zaI r1 e1 (fun x1_ => zin x1_ ∧ (x1_ = (0 : Int) → zGo L xs (D + 1) 20 25 [some (zr 117), some (zi (x1 + 1)), none, none] [] J2 K2 Q) ∧ (x1_ ≠ (0 : Int) → zCall L xs D 81 [zr 40, zi x1] J2 K2 fun r2 e2 J3 K3 => zaI r2 e2 (fun x2_ => zin x2_ ∧ (x2_ ≠ (0 : Int) → zGo L xs (D + 1) 20 25 [some (zr 117), some (zi (x1 + 1)), none, none] [] J3 K3 Q) ∧ (x2_ = (0 : Int) → zin (zand (J1 37 0 x1) ((J1 37 0 x1) - 1)) ∧ ((zand (J1 37 0 x1) ((J1 37 0 x1) - 1)) = (0 : Int) → zGo L xs (D + 1) 20 25 [some (zr 117), some (zi (x1 + 1)), none, none] [] J3 K3 Q) ∧ ((zand (J1 37 0 x1) ((J1 37 0 x1) - 1)) ≠ (0 : Int) → 0 ≤ x1 ∧ x1 < 32 ∧ zGo L xs (D + 1) 20 25 [some (zr 117), some (zi (x1 + 1)), none, none] [] (zup J3 117 0 4 (zor (J3 117 0 4) (1 * 2 ^ (x1.toNat)))) K3 Q))) (fun E => Q (.inr E) e2 J3 K3))) (fun E => Q (.inr E) e1 J2 K2) := by
        intro v hv
        have hF2 : Fr 117 119 J (zup J1 119 0 x1 v) := fr_up hF (by decide) (by decide) _ _ _
        have hE2 := eqs_fr hE hF2 (by omega)
        have hnh2 : ∀ J3 : zJ, J3 119 = zup J1 119 0 x1 v 119 → ∀ p, 1 ≤ p → p < x1 + 1 → J3 119 0 p = nxh s p := by
          intro J3 e3 p p0 p1
          rw [e3, zup_at]
          split
          · next q => rw [hv, q.2.2]
          · next q =>
            refine hnh p p0 ?_
            rcases Int.lt_or_le p x1 with y | y
            · exact y
            · exact absurd ⟨rfl, rfl, by omega⟩ q
        have e4 : zup J1 119 0 x1 v 117 = J1 117 := zup_ne _ _ _ _ (by decide)
        have e8 : zup J1 119 0 x1 v 118 = J1 118 := zup_ne _ _ _ _ (by decide)
        have no : hlt s x1 = false → zGo L xs (D + 1) 20 25 [some (zr 117), some (zi (x1 + 1)), none, none] [] (zup J1 119 0 x1 v) K Q := by
          intro hh
          refine ih _ (by omega) (x1 + 1) _ rfl (by omega) (by omega) hF2 ?_ (hnh2 _ rfl) (by rw [e8]; exact hwt)
          rw [e4, hb, bs_no (by omega) hh]
        refine c62 hL hE2 h (by omega) (by omega) hc (zaI_of ⟨zin_zb _, fun q => no ?_, fun q => ?_⟩)
        · unfold hlt opn
          rw [zb_0.mp q]
          simp
        · refine c81 hL hE2 (by omega) ⟨by omega, by omega⟩ (by omega) (by omega) (zaI_of ⟨zin_zb _, fun y => no ?_, fun y => ?_⟩)
          · unfold hlt opn
            rw [zb_1.mp y]
            simp
          · rw [hcm]
            refine ⟨hzin, fun z => no ?_, fun z => ⟨by omega, by omega, ?_⟩⟩
            · have := htb.mp z
              unfold hlt
              rw [decide_eq_false (show ¬ 2 ≤ cnt (fun k => onb s x1 (s 24 0 k)) (s 18 0 6).toNat by omega)]
              simp
            · have hh : hlt s x1 = true := by
                have : ¬ cnt (fun k => onb s x1 (s 24 0 k)) (s 18 0 6).toNat ≤ 1 := fun q => z (htb.mpr q)
                unfold hlt opn
                rw [zb_1.mp q, zb_0.mp y, decide_eq_true h0, decide_eq_true (show 2 ≤ cnt (fun k => onb s x1 (s 24 0 k)) (s 18 0 6).toNat by omega)]
                rfl
              refine ih _ (by omega) (x1 + 1) _ rfl (by omega) (by omega) (fr_up hF2 (by decide) (by decide) _ _ _) ?_ (hnh2 _ (zup_ne _ _ _ _ (by decide))) (by rw [zup_ne _ _ _ _ (by decide), e8]; exact hwt)
              rw [zup_eq, e4, hb, bs_or (by omega) (by omega) hh]
      rw [e19]
      refine ⟨⟨by omega, by omega⟩, ⟨by omega, by omega⟩, fun _ => by omega, fun _ => ⟨by omega, by omega, ⟨by omega, by omega⟩, fun q => ⟨by omega, by omega, by omega, by omega, ?_⟩, fun q => ?_⟩⟩
      · refine tail _ ?_
        unfold nxh
        rw [nhf, if_pos (Or.inl q)]
      · refine c14g hL (m := x1) ⟨by omega, by omega⟩ hb (by omega) (by omega) (by omega) (zaI_of ⟨zin_zb _, fun y => ⟨by omega, by omega, by omega, by omega, by omega, by omega, ?_⟩, fun y => ⟨by omega, by omega, by omega, by omega, ?_⟩⟩)
        · refine tail _ ?_
          rw [hnh _ (by omega) (by omega), nxh_up h h0 hc]
          unfold ath
          rw [if_neg]
          rintro (z | z)
          · exact q z
          · rw [zb_0.mp y] at z
            cases z
        · refine tail _ ?_
          unfold nxh
          rw [nhf, if_pos (Or.inr (zb_1.mp y))]
    · refine ⟨⟨by omega, by omega⟩, ⟨by omega, by omega⟩, fun _ => ?_, fun _ => by omega⟩
      refine last _ 0 _ rfl (by omega) (by omega) (fr_up hF (by decide) (by decide) _ _ _) ⟨?_, ?_, ?_⟩ (by rw [zup_eq]; rfl)
      · rw [zup_nk _ _ (by decide), hb]
        rcases h1 with q | q
        · have : x1 = s 18 0 0 := by omega
          rw [this]
        · have e1 : bs (hlt s) (1 : Int).toNat = 0 := by
            have := bs_no (P := hlt s) (i := 0) (by decide) (by unfold hlt; simp)
            exact this
          rw [q, e1]
          rcases Int.lt_or_le (s 18 0 0) 1 with y | y
          · have : s 18 0 0 = 0 := by omega
            rw [this]
            rfl
          · have : s 18 0 0 = 1 := by omega
            rw [this]
            exact e1.symm
      · intro p p0 p1
        rw [zup_ne _ _ _ _ (by decide)]
        exact hnh p p0 (by omega)
      · intro p p0 p1
        rw [zup_ne _ _ _ _ (by decide)]
        exact ⟨hwt p (by omega) (by omega), pw_w hP (by omega) (by omega)⟩
  refine z20 hL ⟨by omega, by decide, by decide, by decide, by decide, by decide, ?_⟩
  refine key _ 1 _ rfl (by omega) (by omega) (fr_up (fr_cp (fr_rfl 117 119 J) (by decide) (by decide) _ _ _) (by decide) (by decide) _ _ _) ?_ (fun p p0 p1 => by omega) (fun p p0 p1 => ?_)
  · rw [zup_eq]
    have := bs_no (P := hlt s) (i := 0) (by decide) (by unfold hlt; simp)
    exact this.symm
  · rw [zup_ne _ _ _ _ (by decide), zcp_at, if_pos ⟨rfl, rfl, p0, by omega⟩, hE 49 (by decide) (by decide)]
    congr 1
    omega
theorem c23 {L : Nat} {xs : Nat → Int32} (hL : L ≤ 3072) {D : Nat} {J : zJ} {K : zK} {Q : zR → Nat → zJ → zK → Prop} {s : zJ} (hE : EqS s J) (h : LW s) {x : Int} (hD : 1 ≤ D) (hx : 0 ≤ x ∧ x < 2147483648) (hQ : ∀ J' : zJ, (∀ b : Nat, b ≠ 120 → J' b = J b) → (∀ k, 0 ≤ k → k < s 18 0 6 → J' 120 0 k = if bt x k then s 27 0 k else 0) → Q (.inl none) 0 J' K) : zCall L xs D 23 [zr 117, zi x] J K Q := by
  obtain ⟨D, rfl⟩ : ∃ d, D = d + 1 := ⟨D - 1, by omega⟩
  have hn := lw_n h
  have key : ∀ (n : Nat) (x2 : Int) (J1 : zJ), n = (s 18 0 6 - x2).toNat → 0 ≤ x2 → x2 ≤ s 18 0 6 → (∀ b : Nat, b ≠ 120 → J1 b = J b) → (∀ k, 0 ≤ k → k < x2 → J1 120 0 k = if bt x k then s 27 0 k else 0) → zGo L xs (D + 1) 23 2 [some (zr 117), some (zi x), some (zi x2)] [] J1 K Q := by
    intro n; induction n using Nat.strongRecOn with
    | _ n ih =>
    intro x2 J1 hm h0 h1 hF hre
    have e18 : J1 18 = s 18 := (hF 18 (by decide)).trans (hE 18 (by decide) (by decide))
    have e27 : J1 27 = s 27 := (hF 27 (by decide)).trans (hE 27 (by decide) (by decide))
    refine z23_2 hL ?_
    simp only [e18, e27, bt_shz hx.1 hx.2, zb_0, zb_1]
    by_cases hc : x2 < s 18 0 6
    · have step : ∀ v, v = (if bt x x2 then s 27 0 x2 else 0) → zGo L xs (D + 1) 23 2 [some (zr 117), some (zi x), some (zi (x2 + 1))] [] (zup J1 120 0 x2 v) K Q := by
        intro v hv
        refine ih _ (by omega) (x2 + 1) _ rfl (by omega) (by omega) (fun b hb => by rw [zup_ne _ _ _ _ hb]; exact hF b hb) fun k k0 k1 => ?_
        rw [zup_at]
        split
        · next q => rw [hv, q.2.2]
        · next q =>
          refine hre k k0 ?_
          rcases Int.lt_or_le k x2 with y | y
          · exact y
          · exact absurd ⟨rfl, rfl, by omega⟩ q
      refine ⟨⟨by omega, by omega⟩, ⟨by omega, by omega⟩, fun _ => by omega, fun _ => ⟨⟨by omega, by omega⟩, h0, by omega, zin_zb _, fun q => ⟨h0, by omega, step _ (by rw [q]; rfl)⟩, fun q => ⟨h0, by omega, h0, by omega, step _ (by rw [q]; rfl)⟩⟩⟩
    · have e : x2 = s 18 0 6 := by omega
      subst e
      exact ⟨⟨by omega, by omega⟩, ⟨by omega, by omega⟩, fun _ => hQ J1 hF hre, fun _ => by omega⟩
  exact z23 hL (key _ 0 J rfl (by omega) (by omega) (fun _ _ => rfl) fun k k0 k1 => by omega)
theorem c24 {L : Nat} {xs : Nat → Int32} (hL : L ≤ 3072) {D : Nat} {J : zJ} {K : zK} {Q : zR → Nat → zJ → zK → Prop} {s : zJ} (hE : EqS s J) (h : LW s) (hT : TW s) {w st : Int → Int} (hPR : PR s J w) (hD : 2 ≤ D) (hst : ∀ k, 0 ≤ k → k < s 18 0 6 → s 51 0 k + J 120 0 k = st k) (hQ : ∀ J' : zJ, (∀ b : Nat, b < 122 ∨ 126 < b → J' b = J b) → CR s J' (ev0 s st) 0 [] → Q (.inl none) 0 J' K) : zCall L xs D 24 [zr 117] J K Q := by
  obtain ⟨D, rfl⟩ : ∃ d, D = d + 1 := ⟨D - 1, by omega⟩
  have hn := lw_n h
  have key : ∀ (n : Nat) (x1 : Int) (J1 : zJ), n = (s 18 0 6 - x1).toNat → 0 ≤ x1 → x1 ≤ s 18 0 6 → (∀ b : Nat, b < 122 ∨ 126 < b → J1 b = J b) → (∀ k, 0 ≤ k → k < x1 → J1 122 0 k = ath s (s 24 0 k) ∧ J1 123 0 k = mnt s (s 24 0 k) (st k) ∧ Rc J1 k [k]) → zGo L xs (D + 1) 24 2 [some (zr 117), some (zi x1), none, none] [] J1 K Q := by
    intro n; induction n using Nat.strongRecOn with
    | _ n ih =>
    intro x1 J1 hm h0 h1 hF hre
    have hE1 : EqS s J1 := fun b a c => (hF b (by omega)).trans (hE b a c)
    have e18 := hE1 18 (by decide) (by decide)
    have e24 := hE1 24 (by decide) (by decide)
    have e51 := hE1 51 (by decide) (by decide)
    have hPR1 : PR s J1 w := by
      unfold PR at hPR ⊢
      rw [hF 117 (by decide), hF 118 (by decide), hF 119 (by decide)]
      exact hPR
    refine z24_2 hL ?_
    rw [e18, e24]
    by_cases hc : x1 < s 18 0 6
    · have hk := lw_k h h0 hc
      have hs1 := hst x1 h0 hc
      have e120 : J1 120 = J 120 := hF 120 (by decide)
      have hlb : lbt [x1] = 1 * 2 ^ x1.toNat := by
        have hl := lbt_rng [x1]
        have hp0 := pw_pos x1.toNat
        rw [Int.one_mul]
        refine bt_ext hl.1 (by omega) fun k hk => ?_
        rw [bt_lbt (fun k q => by rw [List.mem_singleton] at q; omega) hk, bt_pow h0 hk]
        simp only [List.mem_singleton]
        exact decide_eq_decide.mpr (by omega)
      have step : ∀ (u v : Int), u = ath s (s 24 0 x1) → v = mnt s (s 24 0 x1) (st x1) → zCall L xs D 1 [zr 121, zi x1, zi u, zi v] J1 K fun r3 e3 J3 K3 => zaV r3 e3 (zGo L xs (D + 1) 24 2 [some (zr 117), some (zi (x1 + 1)), none, none] [] J3 K3 Q) (fun E => Q (.inr E) e3 J3 K3) := by
        intro u v hu hv
        obtain ⟨D', rfl⟩ : ∃ d, D = d + 1 := ⟨D - 1, by omega⟩
        refine z1 hL ⟨by omega, by omega, by omega, by omega, by omega, by omega, by omega, by omega, by omega, by omega, by omega, by omega, zaV_of ?_⟩
        refine ih _ (by omega) (x1 + 1) _ rfl (by omega) (by omega) (fun b hb => ?_) fun k k0 k1 => ?_
        · rw [zup_ne _ _ _ _ (by omega), zup_ne _ _ _ _ (by omega), zup_ne _ _ _ _ (by omega), zup_ne _ _ _ _ (by omega), zup_ne _ _ _ _ (by omega)]
          exact hF b hb
        · by_cases e : k = x1
          · subst e
            refine ⟨by simp only [zup_at, Nat.reduceEqDiff, Int.reduceEq, eq_self, true_and, and_true, false_and, and_false, if_true, if_false]; exact hu, by simp only [zup_at, Nat.reduceEqDiff, Int.reduceEq, eq_self, true_and, and_true, false_and, and_false, if_true, if_false]; exact hv, by simp only [zup_at, Nat.reduceEqDiff, Int.reduceEq, eq_self, true_and, and_true, false_and, and_false, if_true, if_false]; exact hlb.symm, by simp only [zup_at, Nat.reduceEqDiff, Int.reduceEq, eq_self, true_and, and_true, false_and, and_false, if_true, if_false]; rfl, ?_⟩
            show _ = (-1 : Int)
            simp only [zup_at, Nat.reduceEqDiff, Int.reduceEq, eq_self, true_and, and_true, false_and, and_false, if_true, if_false]
          · have hr := hre k k0 (by omega)
            refine ⟨?_, ?_, ?_, ?_, ?_⟩
            · simp only [zup_at, Nat.reduceEqDiff, Int.reduceEq, eq_self, true_and, and_true, false_and, and_false, if_true, if_false]
              rw [if_neg e]
              exact hr.1
            · simp only [zup_at, Nat.reduceEqDiff, Int.reduceEq, eq_self, true_and, and_true, false_and, and_false, if_true, if_false]
              rw [if_neg e]
              exact hr.2.1
            · simp only [zup_at, Nat.reduceEqDiff, Int.reduceEq, eq_self, true_and, and_true, false_and, and_false, if_true, if_false]
              rw [if_neg e]
              exact hr.2.2.1
            · simp only [zup_at, Nat.reduceEqDiff, Int.reduceEq, eq_self, true_and, and_true, false_and, and_false, if_true, if_false]
              rw [if_neg e]
              exact hr.2.2.2.1
            · have h6 : J1 126 0 k = -1 := hr.2.2.2.2
              show _ = (-1 : Int)
              simp only [zup_at, Nat.reduceEqDiff, Int.reduceEq, eq_self, true_and, and_true, false_and, and_false, if_true, if_false]
              rw [if_neg e]
              exact h6
      refine ⟨⟨by omega, by omega⟩, ⟨by omega, by omega⟩, fun _ => by omega, fun _ => ⟨h0, by omega, ?_⟩⟩
      have har := ath_rng h (s 24 0 x1) (by omega) (by omega)
      refine c14 hL h hPR1 (by omega) (by omega) (by omega) (zaI_of ⟨zin_zb _, fun q => ⟨by omega, by omega, by omega, by omega, by omega, by omega, ?_⟩, fun q => ⟨by omega, by omega, by omega, by omega, ?_⟩⟩)
      · have ea : nxh s (s 24 0 x1) = ath s (s 24 0 x1) := by
          unfold ath
          rw [if_neg]
          rintro (y | y)
          · omega
          · rw [zb_0.mp q] at y
            cases y
        rw [hPR1.2.1 _ (by omega) (by omega), e51, e120, hs1, ea]
        refine c121 hL hE1 h hT (by omega) (by omega) (by omega) (by omega) (by omega) (zaI_of (step _ _ rfl rfl))
      · have ea : s 24 0 x1 = ath s (s 24 0 x1) := (ath_h (zb_1.mp q)).symm
        rw [e51, e120, hs1]
        refine c121 hL hE1 h hT (by omega) (by omega) (by omega) (by omega) (by omega) (zaI_of (step _ _ ea ?_))
        unfold mnt
        rw [← ea]
    · have e : x1 = s 18 0 6 := by omega
      subst e
      refine ⟨⟨by omega, by omega⟩, ⟨by omega, by omega⟩, fun _ => hQ J1 hF fun g g0 g1 => ?_, fun _ => by omega⟩
      have hk := lw_k h g0 g1
      have hr := hre g g0 g1
      refine ⟨fun q => ?_, fun _ => ⟨⟨fun q => absurd q (by simp), fun _ => ⟨hr.1, hr.2.1⟩⟩, hr.2.2⟩⟩
      simp only [ev0] at q
      omega
  exact z24 hL (key _ 0 J rfl (by omega) (by omega) (fun _ _ => rfl) fun k k0 k1 => by omega)
/-- from the beginning of an evening to its end: setOut, travel -/
theorem evT_F {s : zJ} {w st : Int → Int} (h : LW s) : evT s w (s 18 0 0 - 1).toNat (s 18 0 0 - 1) (ev0 s st) = evF s w st ∨ s 18 0 0 = 0 := by
  have hn := lw_n h
  by_cases h0 : s 18 0 0 = 0
  · exact Or.inr h0
  · left
    have := evD_T (s := s) (w := w) (s 18 0 0 - 1).toNat 0 (ev0 s st)
    rw [Nat.zero_add, evD] at this
    unfold evF
    rw [this]
    congr 1
    omega
theorem c_out {L : Nat} {xs : Nat → Int32} (hL : L ≤ 3072) {D : Nat} {J : zJ} {K : zK} {P : zJ → zK → Prop} {C3 C4 : Nat → zJ → zK → Nat → Prop} {s : zJ} (hE : EqS s J) (h : LW s) (hT : TW s) {w st : Int → Int} (hPR : PR s J w) (hD : 6 ≤ D) (hst : ∀ k, 0 ≤ k → k < s 18 0 6 → s 51 0 k + J 120 0 k = st k ∧ 0 ≤ st k ∧ st k ≤ 2000) (hQ : ∀ J', FrT J J' → CR s J' (evF s w st) 0 [] → P J' K) : zCall L xs D 24 [zr 117] J K fun r3 e3 J3 K3 => zaV r3 e3 (zCall L xs D 27 [zr 117, zi ((J3 18 0 0) - 1), zi 1] J3 K3 fun r4 e4 J4 K4 => zaV r4 e4 (P J4 K4) (C4 e4 J4 K4)) (C3 e3 J3 K3) := by
  have hn := lw_n h
  refine c24 hL hE h hT hPR (by omega) (fun k k0 k1 => (hst k k0 k1).1) fun J1 hF hC => zaV_of ?_
  have hF1 : FrT J J1 := ⟨fun b x y => hF b (by omega), fun k hk => by rw [hF 117 (by decide)]⟩
  have hE1 := ft_eqs hE hF1
  rw [hE1 18 (by decide) (by decide)]
  have hO := ev0_ok h (st := st) fun k k0 k1 => (hst k k0 k1).2
  refine c27 hL hE1 h hT (c := (s 18 0 0 - 1).toNat) (T := 2000) (by omega) (by omega) (by omega) (fun _ => hO) (by omega) (by decide) (ft_pr hPR hF1) hC (by
    by_cases h0 : s 18 0 0 = 0
    · exact Or.inr ⟨by omega, by omega, zin_1⟩
    · exact Or.inl (by omega)) fun J2 hF2 hC2 => zaV_of (hQ J2 (ft_tr hF1 hF2) ?_)
  rcases evT_F h (w := w) (st := st) with q | q
  · rw [q] at hC2
    exact hC2
  · intro g g0 g1
    have hk := lw_k h g0 g1
    omega
theorem c19 {L : Nat} {xs : Nat → Int32} (hL : L ≤ 3072) {D : Nat} {J : zJ} {K : zK} {Q : zR → Nat → zJ → zK → Prop} {s : zJ} (hE : EqS s J) (h : LW s) (hT : TW s) (hP : PW s) {x : Int} (hD : 8 ≤ D) (hx : 0 ≤ x ∧ x < 2147483648) (hQ : ∀ J', Fr 117 133 J J' → PR s J' (fun p => s 49 0 p) → J' 117 0 11 = aln s → (∀ k, 0 ≤ k → k < s 18 0 6 → J' 120 0 k = if bt x k then s 27 0 k else 0) → CR s J' (evF s (fun p => s 49 0 p) (stl s x)) 0 [] → Q (.inl none) 0 J' K) : zCall L xs D 19 [zr 117, zi x] J K Q := by
  obtain ⟨D, rfl⟩ : ∃ d, D = d + 1 := ⟨D - 1, by omega⟩
  refine z19 hL ?_
  refine c20 hL hE h hT hP (by omega) fun J1 hF1 hPR1 hal1 => zaV_of ?_
  have hE1 := eqs_fr hE hF1 (by omega)
  refine c23 hL hE1 h (by omega) hx fun J2 hF2 hl2 => zaV_of ?_
  have hE2 : EqS s J2 := fun b a c => (hF2 b (by omega)).trans (hE1 b a c)
  have hPR2 : PR s J2 (fun p => s 49 0 p) := by
    unfold PR at hPR1 ⊢
    rw [hF2 117 (by decide), hF2 118 (by decide), hF2 119 (by decide)]
    exact hPR1
  refine c_out hL hE2 h hT hPR2 (by omega) (st := stl s x) (fun k k0 k1 => ⟨by rw [hl2 k k0 k1]; rfl, stl_rng h hP x k0 k1⟩) fun J3 hF3 hC3 => ?_
  refine hQ J3 (fun b hb => ?_) (ft_pr hPR2 hF3) ?_ (fun k k0 k1 => ?_) hC3
  · rw [hF3.1 b (by omega) (by omega), hF2 b (by omega), hF1 b (by omega)]
  · rw [hF3.2 11 (by decide), hF2 117 (by decide)]
    exact hal1
  · rw [hF3.1 120 (by decide) (by decide)]
    exact hl2 k k0 k1
/-- rows at the root -/
theorem cr_root {s J : zJ} {E : Ev} {T : Int} (hE : EO s E 0 T) (hC : CR s J E 0 []) {g : Int} (h0 : 0 ≤ g) (h1 : g < s 18 0 6) : zin (J 122 0 g) ∧ ((J 122 0 g = 0 ∧ E.2.2 g = 0 ∧ J 123 0 g = E.2.1 g ∧ Rc J g (E.1 g)) ∨ (J 122 0 g ≠ 0 ∧ E.2.2 g ≠ 0)) := by
  have hc := hC g h0 h1
  have hl := hE.1 g h0 h1
  rcases Int.lt_or_le (E.2.2 g) 0 with q | q
  · rw [hc.1 q]
    exact ⟨⟨by decide, by decide⟩, Or.inr ⟨by decide, by omega⟩⟩
  · have hb := (hE.2.1 g h0 h1 q).1
    have hr := hc.2 q
    have e : E.2.2 g = 0 := by omega
    have ha := hr.1.2 (by simp)
    rw [e] at ha
    have e0 : ath s 0 = 0 := by
      unfold ath
      rw [if_pos (Or.inl rfl)]
    have em : mnt s 0 (E.2.1 g) = E.2.1 g := by
      unfold mnt
      rw [e0, way_self]
      omega
    rw [e0, em] at ha
    rw [ha.1]
    exact ⟨zin_0, Or.inl ⟨rfl, e, ha.2, hr.2⟩⟩
theorem c21 {L : Nat} {xs : Nat → Int32} (hL : L ≤ 3072) {D : Nat} {J : zJ} {K : zK} {Q : zR → Nat → zJ → zK → Prop} {s : zJ} (hE : EqS s J) (h : LW s) {E : Ev} {T k : Int} (hO : EO s E 0 T) (hC : CR s J E 0 []) (hD : 1 ≤ D) (k0 : 0 ≤ k) (k1 : k < s 18 0 6) (hQ : Q (.inl (some (zi (rch s E k)))) 0 J K) : zCall L xs D 21 [zr 117, zi k] J K Q := by
  obtain ⟨D, rfl⟩ : ∃ d, D = d + 1 := ⟨D - 1, by omega⟩
  have hn := lw_n h
  have e18 := hE 18 (by decide) (by decide)
  have key : ∀ (n : Nat) (x2 : Int), n = (s 18 0 6 - x2).toNat → 0 ≤ x2 → x2 ≤ s 18 0 6 → (∀ g, 0 ≤ g → g < x2 → (decide (E.2.2 g = 0) && decide (k ∈ E.1 g)) = false) → zGo L xs (D + 1) 21 2 [some (zr 117), some (zi k), some (zi x2)] [] J K Q := by
    intro n; induction n using Nat.strongRecOn with
    | _ n ih =>
    intro x2 hm h0 h1 hf
    refine z21_2 hL ?_
    rw [e18]
    by_cases hc : x2 < s 18 0 6
    · have next : (decide (E.2.2 x2 = 0) && decide (k ∈ E.1 x2)) = false → zGo L xs (D + 1) 21 2 [some (zr 117), some (zi k), some (zi (x2 + 1))] [] J K Q := by
        intro hb
        refine ih _ (by omega) (x2 + 1) rfl (by omega) (by omega) fun g g0 g1 => ?_
        by_cases e : g = x2
        · rw [e]
          exact hb
        · exact hf g g0 (by omega)
      obtain ⟨hz, hr⟩ := cr_root hO hC h0 hc
      rcases hr with ⟨a, b, c, d⟩ | ⟨a, b⟩
      · have hlb := lbt_rng (E.1 x2)
        have hbx := hO.2.1 x2 h0 hc (by omega)
        have kk : ∀ y ∈ E.1 x2, 0 ≤ y ∧ y < 7 := fun y hy => by
          have := hbx.2.2.2.1 y hy
          omega
        rw [a, c, d.1]
        simp only [bt_shz hlb.1 (show lbt (E.1 x2) < 2147483648 by omega), zb_0, zb_1, bt_lbt kk k0]
        refine ⟨⟨by omega, by omega⟩, ⟨by omega, by omega⟩, fun _ => by omega, fun _ => ⟨h0, by omega, zin_0, fun q => absurd rfl q, fun _ => ⟨h0, by omega, ⟨by omega, by omega⟩, k0, by omega, zin_zb _, fun q => next ?_, fun q => ⟨h0, by omega, ?_⟩⟩⟩⟩
        · rw [q]
          simp
        · have ho : own s E k = x2 := own_eq hO k0 k1 h0 hc b (of_decide_eq_true q)
          unfold rch at hQ
          rw [ho] at hQ
          exact hQ
      · exact ⟨⟨by omega, by omega⟩, ⟨by omega, by omega⟩, fun _ => by omega, fun _ => ⟨h0, by omega, hz, fun _ => next (by simp [b]), fun q => absurd q a⟩⟩
    · have ho := own_ok hO k0 k1
      have := hf _ ho.1 (by omega)
      simp [ho.2.2.1, ho.2.2.2] at this
  exact z21 hL (key _ 0 rfl (by omega) (by omega) fun g g0 g1 => by omega)
theorem c22 {L : Nat} {xs : Nat → Int32} (hL : L ≤ 3072) {D : Nat} {J : zJ} {K : zK} {Q : zR → Nat → zJ → zK → Prop} {s : zJ} (hE : EqS s J) (h : LW s) {E : Ev} {T : Int} (hO : EO s E 0 T) (hC : CR s J E 0 []) (hD : 1 ≤ D) (hQ : Q (.inl (some (zi (rws s E)))) 0 J K) : zCall L xs D 22 [zr 117] J K Q := by
  obtain ⟨D, rfl⟩ : ∃ d, D = d + 1 := ⟨D - 1, by omega⟩
  have hn := lw_n h
  have e18 := hE 18 (by decide) (by decide)
  have key : ∀ (n : Nat) (x2 : Int), n = (s 18 0 6 - x2).toNat → 0 ≤ x2 → x2 ≤ s 18 0 6 → zGo L xs (D + 1) 22 4 [some (zr 117), some (zi (cnt (fun g => decide (E.2.2 g = 0)) x2.toNat)), some (zi x2)] [] J K Q := by
    intro n; induction n using Nat.strongRecOn with
    | _ n ih =>
    intro x2 hm h0 h1
    refine z22_4 hL ?_
    rw [e18]
    by_cases hc : x2 < s 18 0 6
    · have hi := ih _ (by omega) (x2 + 1) rfl (by omega) (by omega)
      rw [cnt_next h0] at hi
      obtain ⟨hz, hr⟩ := cr_root hO hC h0 hc
      refine ⟨⟨by omega, by omega⟩, ⟨by omega, by omega⟩, fun _ => by omega, fun _ => ⟨h0, by omega, hz, fun q => ?_, fun q => ?_⟩⟩
      · rcases hr with ⟨a, b, c, d⟩ | ⟨a, b⟩
        · exact absurd a q
        · rw [decide_eq_false b, zb_f, Int.add_zero] at hi
          exact hi
      · rcases hr with ⟨a, b, c, d⟩ | ⟨a, b⟩
        · rw [decide_eq_true b, zb_t] at hi
          exact hi
        · exact absurd q a
    · have e : x2 = s 18 0 6 := by omega
      rw [e]
      exact ⟨⟨by omega, by omega⟩, ⟨by omega, by omega⟩, fun _ => hQ, fun _ => by omega⟩
  exact z22 hL (key _ 0 rfl (by omega) (by omega))
theorem sm_swap (f : Int → Int → Int) (m : Nat) : ∀ n : Nat, sm (fun i => sm (fun j => f i j) m) n = sm (fun j => sm (fun i => f i j) n) m
  | 0 => (sm_zero fun _ _ _ => rfl).symm
  | n + 1 => by
    rw [sm, sm_swap f m n, ← sm_add]
    rfl
theorem sm_mul (c : Int) (f : Int → Int) : ∀ n : Nat, sm (fun i => c * f i) n = c * sm f n
  | 0 => by simp [sm]
  | n + 1 => by rw [sm, sm, sm_mul c f n, Int.mul_add]
theorem sm_mulr (c : Int) (f : Int → Int) : ∀ n : Nat, sm (fun i => f i * c) n = sm f n * c
  | 0 => by simp [sm]
  | n + 1 => by rw [sm, sm, sm_mulr c f n, Int.add_mul]
theorem sm_sub (f g : Int → Int) : ∀ n : Nat, sm (fun i => f i - g i) n = sm f n - sm g n
  | 0 => rfl
  | n + 1 => by
    rw [sm, sm, sm, sm_sub f g n]
    omega
/-- rows' carriages times minutes are portions' -/
theorem sum_rows {s : zJ} (h : LW s) {E : Ev} {T : Int} (hO : EO s E 0 T) : sm (fun g => if E.2.2 g = 0 then lln s (E.1 g) * E.2.1 g else 0) (s 18 0 6).toNat = sm (fun k => s 25 0 k * rch s E k) (s 18 0 6).toNat := by
  have hn := lw_n h
  have e1 : sm (fun g => if E.2.2 g = 0 then lln s (E.1 g) * E.2.1 g else 0) (s 18 0 6).toNat = sm (fun g => sm (fun k => if E.2.2 g = 0 ∧ k ∈ E.1 g then s 25 0 k * E.2.1 g else 0) (s 18 0 6).toNat) (s 18 0 6).toNat := by
    refine sm_cong fun g g0 g1 => ?_
    by_cases e : E.2.2 g = 0
    · have hb := hO.2.1 g g0 (by omega) (by omega)
      have hkk : ∀ k ∈ E.1 g, 0 ≤ k ∧ k < s 18 0 6 := fun k hk => ⟨(hb.2.2.2.1 k hk).1, (hb.2.2.2.1 k hk).2.1⟩
      rw [if_pos e, ← ldf_lbt h hb.2.2.1 hkk]
      unfold ldf
      rw [← sm_mulr]
      refine sm_cong fun k k0 k1 => ?_
      rw [bt_lbt (fun k hk => by have := hkk k hk; omega) k0]
      by_cases q : k ∈ E.1 g
      · simp [q, e]
      · simp [q]
    · rw [if_neg e]
      refine (sm_zero fun k _ _ => ?_).symm
      rw [if_neg (fun q => e q.1)]
  rw [e1, sm_swap]
  refine sm_cong fun k k0 k1 => ?_
  have ho := own_ok hO k0 (by omega)
  rw [sm_one (k := own s E k) ho.1 (by omega) fun g g0 g1 q => ?_]
  · rw [if_pos ⟨ho.2.2.1, ho.2.2.2⟩]
    rfl
  · rw [if_neg]
    rintro ⟨a, b⟩
    exact q (own_eq hO k0 (by omega) g0 (by omega) a b).symm
theorem hrm_eq {s : zJ} (h : LW s) {E : Ev} {T : Int} (hO : EO s E 0 T) : hrm s E = 60 * (if 0 < rws s E - 1 then rws s E - 1 else 0) + (sm (fun g => if E.2.2 g = 0 then lln s (E.1 g) * E.2.1 g else 0) (s 18 0 6).toNat - aln s) := by
  unfold hrm aln
  rw [sum_rows h hO, ← sm_sub]
  congr 1
  refine sm_cong fun k _ _ => ?_
  rw [← Int.mul_sub]
  congr 1
  omega
theorem c12 {L : Nat} {xs : Nat → Int32} (hL : L ≤ 3072) {D : Nat} {J : zJ} {K : zK} {Q : zR → Nat → zJ → zK → Prop} {s : zJ} (hE : EqS s J) (h : LW s) (hT : TW s) {E : Ev} {T : Int} (hO : EO s E 0 T) (hC : CR s J E 0 []) (hal : J 117 0 11 = aln s) (hD : 1 ≤ D) (hQ : Q (.inl (some (zi (hrm s E)))) 0 J K) : zCall L xs D 12 [zr 117] J K Q := by
  obtain ⟨D, rfl⟩ : ∃ d, D = d + 1 := ⟨D - 1, by omega⟩
  have hn := lw_n h
  have e18 := hE 18 (by decide) (by decide)
  have e39 := hE 39 (by decide) (by decide)
  have key : ∀ (n : Nat) (x3 : Int), n = (s 18 0 6 - x3).toNat → 0 ≤ x3 → x3 ≤ s 18 0 6 → zGo L xs (D + 1) 12 10 [some (zr 117), some (zi (-(aln s) + sm (fun g => if E.2.2 g = 0 then lln s (E.1 g) * E.2.1 g else 0) x3.toNat)), some (zi (cnt (fun g => decide (E.2.2 g = 0)) x3.toNat)), some (zi x3)] [] J K Q := by
    intro n; induction n using Nat.strongRecOn with
    | _ n ih =>
    intro x3 hm h0 h1
    refine z12_10 hL ?_
    rw [e18]
    by_cases hc : x3 < s 18 0 6
    · have hi := ih _ (by omega) (x3 + 1) rfl (by omega) (by omega)
      rw [cnt_next h0, sm_next h0, ← Int.add_assoc] at hi
      obtain ⟨hz, hr⟩ := cr_root hO hC h0 hc
      refine ⟨⟨by omega, by omega⟩, ⟨by omega, by omega⟩, fun _ => by omega, fun _ => ⟨h0, by omega, hz, fun q => ?_, fun q => ?_⟩⟩
      · rcases hr with ⟨a, b, c, d⟩ | ⟨a, b⟩
        · exact absurd a q
        · rw [decide_eq_false b, zb_f, if_neg b, Int.add_zero, Int.add_zero] at hi
          exact hi
      · rcases hr with ⟨a, b, c, d⟩ | ⟨a, b⟩
        · have hlb := lbt_rng (E.1 x3)
          have hbx := hO.2.1 x3 h0 hc (by omega)
          have kk : ∀ y ∈ E.1 x3, 0 ≤ y ∧ y < s 18 0 6 := fun y hy => ⟨(hbx.2.2.2.1 y hy).1, (hbx.2.2.2.1 y hy).2.1⟩
          have hlb2 : lbt (E.1 x3) < 2 ^ (s 18 0 6).toNat := by
            refine bt_bound hlb.1 fun k hk => ?_
            rw [bt_lbt (fun k hk => by have := kk k hk; omega) (by omega)]
            simp only [decide_eq_false_iff_not]
            intro y
            have := kk k y
            omega
          rw [decide_eq_true b, zb_t, if_pos b] at hi
          rw [c, d.1, e39, hT.2.2.2.2.2 _ hlb.1 hlb2, ldf_lbt h hbx.2.2.1 kk]
          exact ⟨h0, by omega, by omega, by omega, h0, by omega, hi⟩
        · exact absurd q a
    · have e : x3 = s 18 0 6 := by omega
      have hcr := cnt_rng (fun g => decide (E.2.2 g = 0)) (s 18 0 6).toNat
      rw [hrm_eq h hO] at hQ
      unfold rws at hQ
      rw [e]
      refine ⟨⟨by omega, by omega⟩, ⟨by omega, by omega⟩, fun _ => ⟨⟨by omega, by omega⟩, zin_1, fun q => ?_, fun q => ?_⟩, fun _ => by omega⟩
      · rw [if_neg (by omega), Int.mul_zero, Int.zero_add] at hQ
        have e2 : ∀ a b : Int, -a + b = b - a := fun a b => by omega
        rw [e2]
        exact hQ
      · rw [if_pos (by omega)] at hQ
        have e2 : ∀ a b c : Int, -a + b + c = c + (b - a) := fun a b c => by omega
        rw [e2]
        exact hQ
  refine z12 hL ?_
  rw [hal]
  have := key _ 0 rfl (by omega) (by omega)
  rw [show (0 : Int).toNat = 0 from rfl, sm, Int.add_zero] at this
  exact this
