/-! THE MODEL: the first row of each set -/
def plB (s : zJ) (x : Int) (k : Int) (p : Int) : Bool := decide (0 < cnt (fun i => onb s p (s 24 0 (sq s x 0 i))) k.toNat)
theorem plB_next {s : zJ} {x k p : Int} (k0 : 0 ≤ k) : plB s x (k + 1) p = (plB s x k p || onb s p (s 24 0 (sq s x 0 k))) := by
  unfold plB
  rw [cnt_next k0]
  have := (cnt_rng (fun i => onb s p (s 24 0 (sq s x 0 i))) k.toNat).1
  cases hh : onb s p (s 24 0 (sq s x 0 k)) with
  | true =>
    rw [Bool.or_true]
    have : zb true = 1 := rfl
    exact decide_eq_true (by omega)
  | false =>
    rw [Bool.or_false]
    have : zb false = 0 := rfl
    rw [this, Int.add_zero]
theorem plB_all {s : zJ} (h : LW s) {x p : Int} (p0 : 0 ≤ p) (p1 : p < s 18 0 0) : plB s x (cbh s x 0) p = svx s x p := by
  unfold plB
  rw [Bool.eq_iff_iff, decide_eq_true_iff, cnt_pos, svx_t, hd_has h x p0 p1]
  constructor
  · rintro ⟨i, i0, i1, i2⟩
    obtain ⟨a1, a2, a3, a4⟩ := sq_in h x _ 0 i rfl (Int.le_refl 0) (by omega) i0 (by omega)
    exact ⟨⟨p0, p1⟩, sq s x 0 i, a1, a2, a3, onb_t.mp i2⟩
  · rintro ⟨_, k, k0, k1, hb, ho⟩
    obtain ⟨s1, s2, s3⟩ := spt_ok h x k0 k1 hb
    exact ⟨spt s x k, s1, by omega, by rw [s3]; exact onb_t.mpr ho⟩
/-- what the model keeps of all sets below m -/
def Mst (s J : zJ) (m : Int) : Prop := ∀ x : Int, 0 ≤ x → x < m → J 531 0 x = cbh s x 0 ∧ (∀ i : Int, 0 ≤ i → i < cbh s x 0 → J 274 x i = sq s x 0 i) ∧ J 532 0 x = bs (svx s x) (s 18 0 0).toNat
def FrT2 (J J' : zJ) : Prop := (∀ b : Nat, b ≠ 142 → b ≠ 274 → b ≠ 531 → b ≠ 532 → b ≠ 533 → J' b = J b) ∧ ∀ k : Int, k ≠ 37 → J' 142 0 k = J 142 0 k
theorem ft2_tr {J J1 J2 : zJ} (h1 : FrT2 J J1) (h2 : FrT2 J1 J2) : FrT2 J J2 := ⟨fun b a c d e f => (h2.1 b a c d e f).trans (h1.1 b a c d e f), fun k hk => (h2.2 k hk).trans (h1.2 k hk)⟩
theorem ml_ft2 {s J J' : zJ} (hM : ML s J) (hf : FrT2 J J') : ML s J' := by
  unfold ML
  rw [hf.1 144 (by decide) (by decide) (by decide) (by decide) (by decide), hf.1 145 (by decide) (by decide) (by decide) (by decide) (by decide), hf.1 170 (by decide) (by decide) (by decide) (by decide) (by decide), hf.1 187 (by decide) (by decide) (by decide) (by decide) (by decide), hf.1 204 (by decide) (by decide) (by decide) (by decide) (by decide)]
  exact hM
theorem bs12 {s : zJ} (h : LW s) (P : Int → Bool) : 0 ≤ bs P (s 18 0 0).toNat ∧ bs P (s 18 0 0).toNat < 4096 := by
  have hn := lw_n h
  have hb := bs_lt P (s 18 0 0).toNat
  have ho2 : (2 : Int) ^ (s 18 0 0).toNat ≤ 4096 := by
    have := Nat.pow_le_pow_right (n := 2) (by decide) (show (s 18 0 0).toNat ≤ 12 by omega)
    have e : ((2 ^ (s 18 0 0).toNat : Nat) : Int) = (2 : Int) ^ (s 18 0 0).toNat := by simp
    have e2 : (2 : Nat) ^ 12 = 4096 := rfl
    omega
  omega
theorem c225 {L : Nat} {xs : Nat → Int32} (hL : L ≤ 3072) {D : Nat} {J : zJ} {K : zK} {Q : zR → Nat → zJ → zK → Prop} {s : zJ} (hM : ML s J) (h : LW s) (hD : 35 ≤ D) (hQ : ∀ J' : zJ, FrT2 J J' → Mst s J' (2 ^ (s 18 0 6).toNat) → Q (.inl none) 0 J' K) : zCall L xs D 225 [zr 142] J K Q := by
  obtain ⟨D, rfl⟩ : ∃ d, D = d + 1 := ⟨D - 1, by omega⟩
  have hn := lw_n h
  have p7 := pw7 (n := s 18 0 6) (by omega)
  have loop : ∀ (n : Nat) (x : Int) (J1 : zJ), n = (2 ^ (s 18 0 6).toNat - x).toNat → 0 ≤ x → x ≤ 2 ^ (s 18 0 6).toNat → FrT2 J J1 → Mst s J1 x → zGo L xs (D + 1) 225 2 [some (zr 142), some (zi x), none, none] [] J1 K Q := by
    intro n; induction n using Nat.strongRecOn with
  | _ n ih =>
    intro x J1 hm x0 x1 f1 m1
    have hM1 := ml_ft2 hM f1
    refine z225_2 hL ?_
    rw [hM1.1.2.1, Int.one_mul]
    refine ⟨by decide, by decide, by omega, by omega, ⟨by omega, by omega⟩, ⟨by omega, by omega⟩, fun q => ?_, fun q => ?_⟩
    · have e : x = 2 ^ (s 18 0 6).toNat := by omega
      rw [e] at m1
      exact hQ J1 f1 m1
    · refine c265 hL hM1 h x0 q (by omega) fun J2 f2 k2 v37 v533 => zaV_of ⟨x0, by omega, x0, by omega, ?_⟩
      have hcb := cbh_nn s x 0
      have hc7 := cbh_7 h x 0
      have f12 : FrT2 J1 J2 := ⟨fun b a c d e f => f2 b a f, k2⟩
      rw [v37]
      -- portions
      have ports : ∀ (m : Nat) (k : Int) (J3 : zJ), m = (cbh s x 0 - k).toNat → 0 ≤ k → k ≤ cbh s x 0 → FrT2 J2 J3 → J3 142 0 37 = cbh s x 0 → J3 533 = J2 533 → (∀ y : Int, y ≠ x → J3 531 0 y = J2 531 0 y ∧ J3 274 y = J2 274 y ∧ J3 532 0 y = J2 532 0 y) → J3 531 0 x = cbh s x 0 → (∀ i : Int, 0 ≤ i → i < k → J3 274 x i = sq s x 0 i) → J3 532 0 x = bs (plB s x k) (s 18 0 0).toNat → zGo L xs (D + 1) 225 38 [some (zr 142), some (zi x), some (zi k), none] [] J3 K Q := by
        intro m
        induction m using Nat.strongRecOn with
        | _ m ihm =>
        intro k J3 hm2 k0 k1 f3 v37' v533' oth v531 v274 v532
        refine z225_38 hL ?_
        rw [v37', v533']
        refine ⟨⟨by omega, by omega⟩, ⟨by omega, by omega⟩, fun q2 => ?_, fun q2 => ⟨x0, by omega, k0, by omega, x0, by omega, k0, by omega, ?_⟩⟩
        · have ek : k = cbh s x 0 := by omega
          rw [ek] at v274 v532
          refine ih _ (by omega) (x + 1) J3 rfl (by omega) (by omega) (ft2_tr f1 (ft2_tr f12 f3)) fun y y0 y1 => ?_
          by_cases e : y = x
          · rw [e]
            refine ⟨v531, v274, v532.trans (bs_cong fun p p0 p1 => plB_all h p0 (by omega))⟩
          · obtain ⟨o1, o2, o3⟩ := oth y e
            obtain ⟨g1, g2, g3⟩ := m1 y y0 (by omega)
            rw [o1, o2, o3, f2 531 (by decide) (by decide), f2 274 (by decide) (by decide), f2 532 (by decide) (by decide)]
            exact ⟨g1, g2, g3⟩
        · obtain ⟨a1, a2, a3, a4⟩ := sq_in h x _ 0 k rfl (Int.le_refl 0) (cbh_N h (x := x) (p := 0) (by omega)) k0 q2
          have hk := lw_k h a1 a2
          rw [v533 k k0 q2]
          -- places
          have places : ∀ (j : Nat) (p : Int) (J4 : zJ), j = (s 18 0 0 - p).toNat → 0 ≤ p → p ≤ s 18 0 0 → FrT2 J2 J4 → (∀ b : Nat, b ≠ 532 → J4 b = zup J3 274 x k (sq s x 0 k) b) → (∀ y : Int, y ≠ x → J4 532 0 y = J3 532 0 y) → J4 532 0 x = bs (fun r => if r < p then plB s x (k + 1) r else plB s x k r) (s 18 0 0).toNat → zGo L xs (D + 1) 225 62 [some (zr 142), some (zi x), some (zi k), some (zi p)] [] J4 K Q := by
            intro j
            induction j using Nat.strongRecOn with
            | _ j ihj =>
            intro p J4 hm3 p0 p1 f4 e4 o4 v4
            have hM4 := ml_ft2 hM1 (ft2_tr f12 f4)
            have e533 : J4 533 = J2 533 := by rw [e4 533 (by decide), zup_ne _ _ _ _ (by decide), v533']
            refine z225_62 hL ?_
            rw [hM4.1.1, e533, v533 k k0 q2, (hM4.2.2.1 _ a1 a2).1]
            refine ⟨by decide, by decide, ⟨by omega, by omega⟩, ⟨by omega, by omega⟩, fun q3 => ?_, fun q3 => ⟨x0, by omega, k0, by omega, a1, by omega, a1, by omega, by decide, by decide, ?_⟩⟩
            · have ep : p = s 18 0 0 := by omega
              refine ihm _ (by omega) (k + 1) J4 rfl (by omega) (by omega) f4 ?_ e533 (fun y hy => ?_) ?_ (fun i i0 i1 => ?_) ?_
              · rw [e4 142 (by decide), zup_ne _ _ _ _ (by decide)]
                exact v37'
              · obtain ⟨o1, o2, o3⟩ := oth y hy
                refine ⟨?_, ?_, (o4 y hy).trans o3⟩
                · rw [e4 531 (by decide), zup_ne _ _ _ _ (by decide)]
                  exact o1
                · rw [e4 274 (by decide)]
                  funext i
                  rw [zup_nj _ _ hy, o2]
              · rw [e4 531 (by decide), zup_ne _ _ _ _ (by decide)]
                exact v531
              · rw [e4 274 (by decide)]
                by_cases e : i = k
                · rw [e, zup_eq]
                · rw [zup_nk _ _ e]
                  exact v274 i i0 (by omega)
              · rw [v4]
                refine bs_cong fun r r0 r1 => ?_
                rw [if_pos (by omega)]
            · have hb4 := bs12 h (fun r => if r < p then plB s x (k + 1) r else plB s x k r)
              have step : ∀ (V : Int), V = (if onb s p (s 24 0 (sq s x 0 k)) then zor (bs (fun r => if r < p then plB s x (k + 1) r else plB s x k r) (s 18 0 0).toNat) (1 * 2 ^ p.toNat) else bs (fun r => if r < p then plB s x (k + 1) r else plB s x k r) (s 18 0 0).toNat) → V = bs (fun r => if r < p + 1 then plB s x (k + 1) r else plB s x k r) (s 18 0 0).toNat := by
                intro V hV
                have hbl := bs_lt (fun r => if r < p then plB s x (k + 1) r else plB s x k r) (s 18 0 0).toNat
                by_cases hh : onb s p (s 24 0 (sq s x 0 k)) = true
                · rw [if_pos hh] at hV
                  have o := bt_or1 (t := bs (fun r => if r < p then plB s x (k + 1) r else plB s x k r) (s 18 0 0).toNat) (k := p) (n := (s 18 0 0).toNat) (by omega) hbl.1 hbl.2 p0 (by omega)
                  rw [hV]
                  refine bs_of o.1.1 fun r r0 => ?_
                  rw [o.2 r r0, bt_bs _ _ r r0]
                  by_cases er : p = r
                  · rw [← er, decide_eq_true rfl, Bool.or_true, if_pos (by omega), plB_next k0, hh, Bool.or_true, decide_eq_true (by omega)]
                    rfl
                  · rw [decide_eq_false er, Bool.or_false]
                    by_cases l : r < p
                    · rw [if_pos l, if_pos (by omega)]
                    · rw [if_neg l, if_neg (by omega)]
                · rw [if_neg hh] at hV
                  rw [hV]
                  refine bs_cong fun r r0 r1 => ?_
                  by_cases er : r = p
                  · rw [er, if_neg (by omega), if_pos (by omega), plB_next k0]
                    have : onb s p (s 24 0 (sq s x 0 k)) = false := by
                      rw [← Bool.not_eq_true]
                      exact hh
                    rw [this, Bool.or_false]
                  · by_cases l : r < p
                    · rw [if_pos l, if_pos (by omega)]
                    · rw [if_neg l, if_neg (by omega)]
              have next : ∀ V : Int, V = bs (fun r => if r < p + 1 then plB s x (k + 1) r else plB s x k r) (s 18 0 0).toNat → zGo L xs (D + 1) 225 62 [some (zr 142), some (zi x), some (zi k), some (zi (p + 1))] [] (zup J4 532 0 x V) K Q := by
                intro V hV
                refine ihj _ (by omega) (p + 1) _ rfl (by omega) (by omega) (ft2_tr f4 ⟨fun b a c d e f => zup_ne _ _ _ _ e, fun k _ => by rw [zup_ne _ _ _ _ (by decide)]⟩) (fun b hb => by rw [zup_ne _ _ _ _ hb]; exact e4 b hb) (fun y hy => by rw [zup_nk _ _ hy]; exact o4 y hy) ?_
                rw [zup_eq]
                exact hV
              refine c247 hL hM4 h (by omega) p0 q3 (by omega) (by omega) (zaI_of ⟨zin_zb _, fun z => ⟨x0, by omega, ?_⟩, fun z => ⟨p0, by omega, x0, by omega, ?_⟩⟩)
              · rw [zb_0] at z
                refine next _ (step _ ?_)
                rw [v4, z, if_neg (by decide)]
                exact zor_x0 hb4.1 (by omega)
              · rw [zb_1] at z
                refine next _ (step _ ?_)
                rw [v4, z, if_pos rfl]
          refine places _ 0 _ rfl (Int.le_refl 0) (by omega) (ft2_tr f3 ⟨fun b a c d e f => zup_ne _ _ _ _ c, fun k _ => by rw [zup_ne _ _ _ _ (by decide)]⟩) (fun _ _ => rfl) (fun y hy => by rw [zup_ne _ _ _ _ (by decide)]) ?_
          rw [zup_ne _ _ _ _ (by decide), v532]
          refine bs_cong fun r r0 r1 => ?_
          rw [if_neg (by omega)]
      refine ports _ 0 _ rfl (Int.le_refl 0) hcb ⟨fun b a c d e f => by rw [zup_ne _ _ _ _ e, zup_ne _ _ _ _ d], fun k _ => by rw [zup_ne _ _ _ _ (by decide), zup_ne _ _ _ _ (by decide)]⟩ ?_ ?_ (fun y hy => ⟨?_, ?_, ?_⟩) ?_ (fun i i0 i1 => by omega) ?_
      · rw [zup_ne _ _ _ _ (by decide), zup_ne _ _ _ _ (by decide)]
        exact v37
      · rw [zup_ne _ _ _ _ (by decide), zup_ne _ _ _ _ (by decide)]
      · rw [zup_ne _ _ _ _ (by decide), zup_nk _ _ hy]
      · rw [zup_ne _ _ _ _ (by decide), zup_ne _ _ _ _ (by decide)]
      · rw [zup_nk _ _ hy, zup_ne _ _ _ _ (by decide)]
      · rw [zup_ne _ _ _ _ (by decide), zup_eq]
      · rw [zup_eq]
        exact (sm_zero fun i _ _ => if_neg (by unfold plB; rw [decide_eq_true_iff]; exact Int.lt_irrefl 0)).symm
  exact z225 hL (loop _ 0 J rfl (Int.le_refl 0) (by omega) ⟨fun _ _ _ _ _ _ => rfl, fun _ _ => rfl⟩ fun x a b => by omega)
