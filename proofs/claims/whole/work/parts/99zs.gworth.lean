/-! THE MODEL: the worth of a grouping -/
theorem jaS_vld {s : zJ} (h : LW s) (X lv : Int → Int) : ∀ t : Nat, ((∀ k : Int, 0 ≤ k → k < t → (jaS s (fun t => sq s (X t) 0) (fun t => cbh s (X t) 0) lv t).1.2 k = 0) ∧ (∀ k : Int, 0 ≤ k → k < t → okX s (X k)) ∧ enQ s (tkA s X t) 0 = some (jaS s (fun t => sq s (X t) 0) (fun t => cbh s (X t) 0) lv t).1.1) ∨ ((∃ k : Int, 0 ≤ k ∧ k < t ∧ (jaS s (fun t => sq s (X t) 0) (fun t => cbh s (X t) 0) lv t).1.2 k ≠ 0) ∧ ((∃ k : Int, 0 ≤ k ∧ k < t ∧ ¬ okX s (X k)) ∨ enQ s (tkA s X t) 0 = none))
  | 0 => Or.inl ⟨fun k a b => by omega, fun k a b => by omega, rfl⟩
  | t + 1 => by
    rcases jaS_vld h X lv t with ⟨a1, a2, a3⟩ | ⟨⟨k, k0, k1, k2⟩, b2⟩
    · have hx := cbh_7 h (X t) 0
      have hr := rit_can h (lv t) hx
      have hrg := enQ_rng h _ _ _ (Int.le_refl 0) (by decide) a3
      have hv := jdW_vi h hx 84 (rit s (X t) (lv t)) _ hrg.1 hrg.2 hr.1
      have et : (rit s (X t) (lv t)).map tri = (rit s (X t) 0).map tri := rit_tri _ _ _ _
      rw [et] at hv
      have hv2 : ((jdW s (sq s (X t) 0) 84 (jit (fun t => cbh s (X t) 0) lv t) (jaS s (fun t => sq s (X t) 0) (fun t => cbh s (X t) 0) lv t).1.1).1 = 0 ∧ (∀ u ∈ viX s (X t), okU s (sq s (X t) 0) u) ∧ enQ s (tkX s (X t)) (jaS s (fun t => sq s (X t) 0) (fun t => cbh s (X t) 0) lv t).1.1 = some (jdW s (sq s (X t) 0) 84 (jit (fun t => cbh s (X t) 0) lv t) (jaS s (fun t => sq s (X t) 0) (fun t => cbh s (X t) 0) lv t).1.1).2.1) ∨ ((jdW s (sq s (X t) 0) 84 (jit (fun t => cbh s (X t) 0) lv t) (jaS s (fun t => sq s (X t) 0) (fun t => cbh s (X t) 0) lv t).1.1).1 ≠ 0 ∧ ((∃ u ∈ viX s (X t), ¬ okU s (sq s (X t) 0) u) ∨ enQ s (tkX s (X t)) (jaS s (fun t => sq s (X t) 0) (fun t => cbh s (X t) 0) lv t).1.1 = none)) := hv
      rw [jaS, tkA, enQ_app, a3]
      rcases hv2 with ⟨c1, c2, c3⟩ | ⟨c1, c2⟩
      · refine Or.inl ⟨fun k k0 k1 => ?_, fun k k0 k1 => ?_, c3⟩
        · show dup (jaS s (fun t => sq s (X t) 0) (fun t => cbh s (X t) 0) lv t).1.2 t _ k = 0
          by_cases e : k = t
          · rw [e, dup_eq]
            exact c1
          · rw [dup_ne _ e]
            exact a1 k k0 (by omega)
        · by_cases e : k = t
          · rw [e]
            exact (okX_u h _).mpr c2
          · exact a2 k k0 (by omega)
      · refine Or.inr ⟨⟨t, by omega, by omega, ?_⟩, ?_⟩
        · show dup (jaS s (fun t => sq s (X t) 0) (fun t => cbh s (X t) 0) lv t).1.2 t _ t ≠ 0
          rw [dup_eq]
          exact c1
        · rcases c2 with ⟨u, hu, z⟩ | z
          · exact Or.inl ⟨t, by omega, by omega, fun y => z ((okX_u h _).mp y u hu)⟩
          · exact Or.inr z
    · rw [jaS, tkA, enQ_app]
      refine Or.inr ⟨⟨k, k0, by omega, ?_⟩, ?_⟩
      · show dup (jaS s (fun t => sq s (X t) 0) (fun t => cbh s (X t) 0) lv t).1.2 t _ k ≠ 0
        rw [dup_ne _ (by omega)]
        exact k2
      · rcases b2 with ⟨k', c0, c1, c2⟩ | z
        · exact Or.inl ⟨k', c0, by omega, c2⟩
        · right
          rw [z]
          rfl
theorem bt_svx {s : zJ} (h : LW s) (x : Int) {p : Int} (p0 : 0 ≤ p) (p1 : p < s 18 0 0) : bt (bs (svx s x) (s 18 0 0).toNat) p = svx s x p := by
  rw [bt_bs _ _ p p0, decide_eq_true (by omega), Bool.true_and]
theorem c310 {L : Nat} {xs : Nat → Int32} (hL : L ≤ 3072) {D : Nat} {J : zJ} {K : zK} {Q : zR → Nat → zJ → zK → Prop} {s : zJ} (hM : ML s J) (h : LW s) {x w t m : Int} (w0 : 0 ≤ w) (w1 : w < s 18 0 14) (t0 : 0 ≤ t) (t4 : t < 4) (hm : J 235 0 t = m) (m0 : 0 ≤ m) (m1 : m ≤ 1439) (hD : 3 ≤ D) (hQ : Q (.inl (some (zi (wvx s x w m)))) 0 J K) : zCall L xs D 310 [zr 142, zi w, zi t, zi (bs (svx s x) (s 18 0 0).toNat)] J K Q := by
  obtain ⟨D, rfl⟩ : ∃ d, D = d + 1 := ⟨D - 1, by omega⟩
  have hn := lw_n h
  have hw := lw_w h w0 w1
  have hfr := fw_rng h w0 w1 m0 m1
  have hbb := bs12 h (svx s x)
  have e204 := (hM.2.2.2.2 w w0 w1).1
  refine z310 hL ?_
  rw [e204, hm, bt_shz hbb.1 (by omega), bt_svx h x (by omega) hw.2.1]
  refine ⟨w0, by omega, w0, by omega, by decide, by decide, t0, t4, ?_⟩
  refine c311 hL hM h (by omega) w0 w1 m0 m1 (zaI_of ⟨⟨by omega, by omega⟩, by omega, by omega, zin_zb _, zin_1, fun z => ⟨by omega, by omega, by omega, by omega, by decide, by decide, ?_⟩, fun z => ?_⟩)
  · have hno : svx s x (s 30 0 w) = false := by
      cases hh : svx s x (s 30 0 w)
      · rfl
      · rw [hh] at z
        exact absurd rfl z
    unfold wvx at hQ
    rw [hno, if_neg (by decide)] at hQ
    have hu := lw_up h (p := s 30 0 w) (by omega) hw.2.1
    have hp := lw_p h (p := s 30 0 w) (by omega) hw.2.1
    have stp : ∀ q : Int, 1 ≤ q → q < s 18 0 0 → svx s x q = false → nrb s (svx s x) q = nrb s (svx s x) (s 19 0 q) := fun q q0 q1 hq => by
      have hu := lw_up h (p := q) q0 q1
      have hp := lw_p h (p := q) (by omega) q1
      rw [Bool.eq_iff_iff, nrb_t, nrb_t]
      constructor
      · rintro ⟨k, k0, k1, k2, k3⟩
        have hle := on_le h (by omega) q (by omega) q1 k3
        by_cases e : k = q
        · rw [e, hq] at k2
          cases k2
        · exact ⟨k, k0, k1, k2, (on_up h (by omega) (by omega) q1).mp k3⟩
      · rintro ⟨k, k0, k1, k2, k3⟩
        have hle := on_le h (by omega) _ (by omega) (by omega) k3
        exact ⟨k, k0, k1, k2, (on_up h (by omega) (by omega) q1).mpr k3⟩
    have key : ∀ (n : Nat) (q : Int), n = q.toNat → 0 ≤ q → q < s 18 0 0 → nrb s (svx s x) (s 30 0 w) = nrb s (svx s x) q → zGo L xs (D + 1) 310 47 [some (zr 142), none, none, some (zi (bs (svx s x) (s 18 0 0).toNat)), none, some (zi (fw s w m)), some (zi q)] [] J K Q := by
      intro n; induction n using Nat.strongRecOn with
  | _ n ih =>
      intro q hmq q0 q1 hq
      refine z310_47 hL ?_
      rw [bt_shz hbb.1 (by omega), bt_svx h x q0 q1]
      refine ⟨⟨by omega, by omega⟩, fun z1 => ?_, fun z1 => ⟨⟨by omega, by omega⟩, q0, by omega, zin_zb _, zin_1, fun z2 => ⟨q0, by omega, q0, by omega, by decide, by decide, ?_⟩, fun z2 => ⟨by omega, by omega, by decide, by decide, ?_⟩⟩⟩
      · have : nrb s (svx s x) q = false := by
          rw [← Bool.not_eq_true, nrb_t]
          rintro ⟨k, k0, k1, k2, k3⟩
          have := on_le h (by omega) q q0 q1 k3
          omega
        rw [hq, this, if_neg (by decide)] at hQ
        exact hQ
      · have hno2 : svx s x q = false := by
          cases hh : svx s x q
          · rfl
          · rw [hh] at z2
            exact absurd rfl z2
        have hu := lw_up h (p := q) (by omega) q1
        have hp := lw_p h (p := q) (by omega) q1
        rw [ml_u hM (by omega) q1]
        exact ih _ (by omega) (s 19 0 q) rfl (by omega) (by omega) (by rw [hq, stp q (by omega) q1 hno2])
      · have hy : svx s x q = true := by
          cases hh : svx s x q
          · rw [hh] at z2
            exact absurd z2 (by decide)
          · rfl
        have : nrb s (svx s x) q = true := nrb_t.mpr ⟨q, by omega, by omega, hy, on_self s q⟩
        rw [hq, this, if_pos rfl] at hQ
        exact hQ
    rw [ml_u hM (by omega) hw.2.1]
    exact key _ (s 19 0 (s 30 0 w)) rfl (by omega) (by omega) (stp _ (by omega) hw.2.1 hno)
  · have hy : svx s x (s 30 0 w) = true := by
      cases hh : svx s x (s 30 0 w)
      · rw [hh] at z
        exact absurd z (by decide)
      · rfl
    unfold wvx at hQ
    rw [hy, if_pos rfl] at hQ
    exact hQ
/-- the sets of a grouping -/
def gst (nd : Int → Int) (n : Nat) (t : Int) : Int := bs (fun j => decide (nd j = t)) n
def FrR (J J' : zJ) : Prop := ∀ b : Nat, b ≠ 229 → b ≠ 234 → b ≠ 255 → b ≠ 256 → b ≠ 257 → b ≠ 258 → b ≠ 260 → b ≠ 261 → J' b = J b
theorem frr_tr {J J1 J2 : zJ} (h1 : FrR J J1) (h2 : FrR J1 J2) : FrR J J2 := fun b c d e f g i j k => (h2 b c d e f g i j k).trans (h1 b c d e f g i j k)
theorem ml_frr {s J J' : zJ} (hM : ML s J) (hf : FrR J J') : ML s J' := by
  have k : ∀ b : Nat, b < 229 → J' b = J b := fun b hb => hf b (by omega) (by omega) (by omega) (by omega) (by omega) (by omega) (by omega) (by omega)
  unfold ML
  rw [k 144 (by decide), k 145 (by decide), k 170 (by decide), k 187 (by decide), k 204 (by decide)]
  exact hM
theorem c234 {L : Nat} {xs : Nat → Int32} (hL : L ≤ 3072) {D : Nat} {J : zJ} {K : zK} {Q : zR → Nat → zJ → zK → Prop} {s : zJ} (hM : ML s J) (h : LW s) (hP : PW s) {nd : Int → Int} (hS : Mst s J (2 ^ (s 18 0 6).toNat)) (hT : J 142 0 15 = s 40 0 0) (hlv : ∀ t : Int, 0 ≤ t → t < s 40 0 0 → J 235 0 t = s 41 0 t) (hsh : ∀ p : Int, 0 ≤ p → p < 12 → J 236 0 p = zb (bt (s 40 0 10) p)) (hnd : ∀ k : Int, 0 ≤ k → k < s 18 0 6 → J 259 0 k = nd k ∧ zin (nd k)) (hD : 26 ≤ D) (hQ : ∀ J' : zJ, FrR J J' → (∀ t : Int, 0 ≤ t → t < s 40 0 0 → J' 234 0 t = cbh s (gst nd (s 18 0 6).toNat t) 0 ∧ ∀ i : Int, 0 ≤ i → i < cbh s (gst nd (s 18 0 6).toNat t) 0 → J' 229 t i = sq s (gst nd (s 18 0 6).toNat t) 0 i) → (vld s (gst nd (s 18 0 6).toNat) (s 40 0 0).toNat → Q (.inl (some (zi (wth s (gst nd (s 18 0 6).toNat) (s 40 0 0).toNat)))) 0 J' K) ∧ (¬ vld s (gst nd (s 18 0 6).toNat) (s 40 0 0).toNat → Q (.inl (some (zi (-2)))) 0 J' K)) : zCall L xs D 234 [zr 142] J K Q := by
  obtain ⟨D, rfl⟩ : ∃ d, D = d + 1 := ⟨D - 1, by omega⟩
  have hn := lw_n h
  have hpn := pw_n hP
  have p7 := pw7 (n := s 18 0 6) (by omega)
  have hX : ∀ t : Int, 0 ≤ gst nd (s 18 0 6).toNat t ∧ gst nd (s 18 0 6).toNat t < 2 ^ (s 18 0 6).toNat := fun t => bs_lt _ _
  have e15 : ∀ {J1 : zJ}, FrR J J1 → J1 142 0 15 = s 40 0 0 := fun f => by
    rw [f 142 (by decide) (by decide) (by decide) (by decide) (by decide) (by decide) (by decide) (by decide)]
    exact hT
  have hTT : (((s 40 0 0).toNat : Nat) : Int) = s 40 0 0 := by omega
  have hRw : Rws s (fun t => sq s (gst nd (s 18 0 6).toNat t) 0) (fun t => cbh s (gst nd (s 18 0 6).toNat t) 0) (s 41 0) (s 40 0 0) := fun t t0 t1 => by
    have htt := pw_t hP t0 t1
    refine ⟨cbh_nn _ _ _, cbh_7 h _ _, by omega, by omega, sq_Inj h _, fun z => cbh_N h z, fun i i0 i1 => ?_⟩
    have i1 : i < cbh s (gst nd (s 18 0 6).toNat t) 0 := i1
    have := sq_in h (gst nd (s 18 0 6).toNat t) _ 0 i rfl (Int.le_refl 0) (cbh_N h (x := gst nd (s 18 0 6).toNat t) (p := 0) (by omega)) i0 i1
    exact ⟨this.1, this.2.1⟩
  -- the worth, when all is judged
  have sums : ∀ (J3 : zJ), FrR J J3 → (∀ t : Int, 0 ≤ t → t < s 40 0 0 → J3 260 0 t = bs (svx s (gst nd (s 18 0 6).toNat t)) (s 18 0 0).toNat) → Q (.inl (some (zi (wth s (gst nd (s 18 0 6).toNat) (s 40 0 0).toNat)))) 0 J3 K → zGo L xs (D + 1) 234 150 [some (zr 142), some (zi 0), some (zi 0), none, none] [] J3 K Q := by
    intro J3 f3 v260 hq
    have hM3 := ml_frr hM f3
    have e235 : ∀ t : Int, 0 ≤ t → t < s 40 0 0 → J3 235 0 t = s 41 0 t := fun t a b => by
      rw [f3 235 (by decide) (by decide) (by decide) (by decide) (by decide) (by decide) (by decide) (by decide)]
      exact hlv t a b
    have outer : ∀ (n : Nat) (w sum : Int), n = (s 18 0 14 - w).toNat → 0 ≤ w → w ≤ s 18 0 14 → sum = sm (fun w => mx0 (fun t => wvx s (gst nd (s 18 0 6).toNat t) w (s 41 0 t)) (s 40 0 0).toNat) w.toNat → zGo L xs (D + 1) 234 150 [some (zr 142), some (zi sum), some (zi w), none, none] [] J3 K Q := by
      intro n; induction n using Nat.strongRecOn with
  | _ n ih =>
      intro w sum hm w0 w1 hs
      refine z234_150 hL ?_
      rw [hM3.1.2.2.2]
      refine ⟨by decide, by decide, ⟨by omega, by omega⟩, ⟨by omega, by omega⟩, fun q => ?_, fun q => ?_⟩
      · have e : w = s 18 0 14 := by omega
        rw [e] at hs
        rw [hs]
        exact hq
      have inner : ∀ (m : Nat) (t best : Int), m = (s 40 0 0 - t).toNat → 0 ≤ t → t ≤ s 40 0 0 → best = mx0 (fun t => wvx s (gst nd (s 18 0 6).toNat t) w (s 41 0 t)) t.toNat → zGo L xs (D + 1) 234 165 [some (zr 142), some (zi sum), some (zi w), some (zi best), some (zi t)] [] J3 K Q := by
        intro m
        induction m using Nat.strongRecOn with
        | _ m ihm =>
        intro t best hm2 t0 t1 hb
        have hbr : 0 ≤ best ∧ best ≤ 99900 := by
          rw [hb]
          exact mx0_rng (by decide) fun i i0 i1 => by
            have := pw_t hP i0 (by omega)
            exact (wvx_rng h (gst nd (s 18 0 6).toNat i) w0 q (by omega) (by omega)).2
        refine z234_165 hL ?_
        rw [e15 f3]
        refine ⟨⟨by omega, by omega⟩, ⟨by omega, by omega⟩, fun q2 => ?_, fun q2 => ⟨t0, by omega, ?_⟩⟩
        · have e : t = s 40 0 0 := by omega
          refine ih _ (by omega) (w + 1) (sum + best) rfl (by omega) (by omega) ?_
          rw [sm_next w0, hs, hb, e]
        · have htt := pw_t hP t0 q2
          have hwr := wvx_rng h (gst nd (s 18 0 6).toNat t) w0 q (m := s 41 0 t) (by omega) (by omega)
          rw [v260 t t0 q2]
          refine c310 hL hM3 h w0 q t0 (by omega) (e235 t t0 q2) (by omega) (by omega) (by omega) (zaI_of ?_)
          refine c268 hL (by omega) ⟨by omega, by omega⟩ ⟨by omega, by omega⟩ (zaI_of ?_)
          refine ihm _ (by omega) (t + 1) _ rfl (by omega) (by omega) ?_
          rw [mx0_next t0, hb]
      exact inner _ 0 0 rfl (Int.le_refl 0) (by omega) rfl
    exact outer _ 0 0 rfl (Int.le_refl 0) (by omega) rfl
  -- errors
  have errs : ∀ (J3 : zJ), FrR J J3 → (∀ t : Int, 0 ≤ t → t < s 40 0 0 → J3 234 0 t = cbh s (gst nd (s 18 0 6).toNat t) 0 ∧ ∀ i : Int, 0 ≤ i → i < cbh s (gst nd (s 18 0 6).toNat t) 0 → J3 229 t i = sq s (gst nd (s 18 0 6).toNat t) 0 i) → (∀ t : Int, 0 ≤ t → t < s 40 0 0 → J3 260 0 t = bs (svx s (gst nd (s 18 0 6).toNat t)) (s 18 0 0).toNat) → JdG s (fun t => sq s (gst nd (s 18 0 6).toNat t) 0) (fun t => cbh s (gst nd (s 18 0 6).toNat t) 0) (s 41 0) (s 40 0 0).toNat (J3 255 0) (J3 256 0) (J3 257 0) → zGo L xs (D + 1) 234 120 [some (zr 142), some (zi 0), none, none, none] [] J3 K Q := by
    intro J3 f3 v229 v260 hj
    obtain ⟨hq1, hq2⟩ := hQ J3 f3 v229
    have hrng := (jaS_rng h hRw (s 40 0 0).toNat (by omega)).2.1
    have key : ∀ (n : Nat) (t : Int), n = (s 40 0 0 - t).toNat → 0 ≤ t → t ≤ s 40 0 0 → (∀ k : Int, 0 ≤ k → k < t → (jaS s (fun t => sq s (gst nd (s 18 0 6).toNat t) 0) (fun t => cbh s (gst nd (s 18 0 6).toNat t) 0) (s 41 0) (s 40 0 0).toNat).1.2 k = 0) → zGo L xs (D + 1) 234 120 [some (zr 142), some (zi t), none, none, none] [] J3 K Q := by
      intro n; induction n using Nat.strongRecOn with
  | _ n ih =>
      intro t hm t0 t1 hz
      refine z234_120 hL ?_
      rw [e15 f3]
      refine ⟨⟨by omega, by omega⟩, ⟨by omega, by omega⟩, fun q => ?_, fun q => ?_⟩
      · refine sums J3 f3 v260 (hq1 ?_)
        rcases jaS_vld h (gst nd (s 18 0 6).toNat) (s 41 0) (s 40 0 0).toNat with ⟨a1, a2, a3⟩ | ⟨⟨k, k0, k1, k2⟩, _⟩
        · exact ⟨fun k k0 k1 => a2 k k0 k1, _, a3⟩
        · exact absurd (hz k k0 (by omega)) k2
      · have hr := hrng t t0 (by omega)
        rw [hj.1 t t0 (by omega)]
        refine ⟨t0, by omega, ⟨by omega, by omega⟩, fun z => ?_, fun z => ?_⟩
        · refine ih _ (by omega) (t + 1) rfl (by omega) (by omega) fun k k0 k1 => ?_
          by_cases e : k = t
          · rw [e]
            exact z
          · exact hz k k0 (by omega)
        · refine hq2 fun hv => ?_
          rcases jaS_vld h (gst nd (s 18 0 6).toNat) (s 41 0) (s 40 0 0).toNat with ⟨a1, a2, a3⟩ | ⟨_, ⟨k, k0, k1, k2⟩ | z2⟩
          · exact z (a1 t t0 (by omega))
          · exact k2 (hv.1 k k0 k1)
          · obtain ⟨_, tk, hh⟩ := hv
            rw [z2] at hh
            cases hh
    exact key _ 0 rfl (Int.le_refl 0) (by omega) fun k a b => by omega
  -- rows
  have trains : ∀ (n : Nat) (t : Int) (J1 : zJ), n = (s 40 0 0 - t).toNat → 0 ≤ t → t ≤ s 40 0 0 → FrR J J1 → (∀ t' : Int, 0 ≤ t' → t' < t → J1 234 0 t' = cbh s (gst nd (s 18 0 6).toNat t') 0 ∧ ∀ i : Int, 0 ≤ i → i < cbh s (gst nd (s 18 0 6).toNat t') 0 → J1 229 t' i = sq s (gst nd (s 18 0 6).toNat t') 0 i) → (∀ t' : Int, 0 ≤ t' → t' < t → J1 260 0 t' = bs (svx s (gst nd (s 18 0 6).toNat t')) (s 18 0 0).toNat) → zGo L xs (D + 1) 234 2 [some (zr 142), some (zi t), none, none, none] [] J1 K Q := by
    intro n; induction n using Nat.strongRecOn with
  | _ n ih =>
    intro t J1 hm t0 t1 f1 v229 v260
    have hM1 := ml_frr hM f1
    have kk : ∀ b : Nat, b < 229 ∨ (234 < b ∧ b < 255) ∨ b = 259 ∨ 261 < b → J1 b = J b := fun b hb => f1 b (by omega) (by omega) (by omega) (by omega) (by omega) (by omega) (by omega) (by omega)
    refine z234_2 hL ?_
    rw [e15 f1]
    refine ⟨⟨by omega, by omega⟩, ⟨by omega, by omega⟩, fun q => ?_, fun q => ?_⟩
    · have et : t = s 40 0 0 := by omega
      refine c255 hL hM1 h (N := s 40 0 0) (by omega) (by omega) hRw (e15 f1) (fun t' a b => ⟨(v229 t' a (by omega)).1, by rw [kk 235 (by decide)]; exact hlv t' a b, (v229 t' a (by omega)).2⟩) (fun p a b => by rw [kk 236 (by decide)]; exact hsh p a b) (by omega) fun J2 f2 hj => zaV_of ?_
      refine errs J2 (frr_tr f1 fun b c d e f g i j k => f2 b e f g i k) (fun t' a b => ?_) (fun t' a b => ?_) hj
      · rw [f2 234 (by decide) (by decide) (by decide) (by decide) (by decide), f2 229 (by decide) (by decide) (by decide) (by decide) (by decide)]
        exact v229 t' a (by omega)
      · rw [f2 260 (by decide) (by decide) (by decide) (by decide) (by decide)]
        exact v260 t' a (by omega)
    · have bits : ∀ (m : Nat) (j x : Int), m = (s 18 0 6 - j).toNat → 0 ≤ j → j ≤ s 18 0 6 → x = bs (fun j => decide (nd j = t)) j.toNat → zGo L xs (D + 1) 234 14 [some (zr 142), some (zi t), some (zi x), some (zi j), none] [] J1 K Q := by
        intro m
        induction m using Nat.strongRecOn with
        | _ m ihm =>
        intro j x hm2 j0 j1 hx
        refine z234_14 hL ?_
        rw [hM1.1.2.1]
        refine ⟨by decide, by decide, ⟨by omega, by omega⟩, ⟨by omega, by omega⟩, fun q2 => ?_, fun q2 => ?_⟩
        · have ej : j = s 18 0 6 := by omega
          rw [ej] at hx
          have hx2 : x = gst nd (s 18 0 6).toNat t := hx
          rw [hx2]
          have hs := hS (gst nd (s 18 0 6).toNat t) (hX t).1 (hX t).2
          have hcb := cbh_nn s (gst nd (s 18 0 6).toNat t) 0
          have hc7 := cbh_7 h (gst nd (s 18 0 6).toNat t) 0
          have hx1 := hX t
          have rows : ∀ (m : Nat) (k : Int) (J2 : zJ), m = (cbh s (gst nd (s 18 0 6).toNat t) 0 - k).toNat → 0 ≤ k → k ≤ cbh s (gst nd (s 18 0 6).toNat t) 0 → (∀ b : Nat, b ≠ 229 → J2 b = J1 b) → (∀ t' : Int, t' ≠ t → J2 229 t' = J1 229 t') → (∀ i : Int, 0 ≤ i → i < k → J2 229 t i = sq s (gst nd (s 18 0 6).toNat t) 0 i) → zGo L xs (D + 1) 234 52 [some (zr 142), some (zi t), some (zi (gst nd (s 18 0 6).toNat t)), some (zi k), none] [] J2 K Q := by
            intro m
            induction m using Nat.strongRecOn with
            | _ m ihr =>
            intro k J2 hm3 k0 k1 f2 o2 v2
            have e531 : J2 531 0 (gst nd (s 18 0 6).toNat t) = cbh s (gst nd (s 18 0 6).toNat t) 0 := by rw [f2 531 (by decide), kk 531 (by decide)]; exact hs.1
            have e532 : J2 532 0 (gst nd (s 18 0 6).toNat t) = bs (svx s (gst nd (s 18 0 6).toNat t)) (s 18 0 0).toNat := by rw [f2 532 (by decide), kk 532 (by decide)]; exact hs.2.2
            refine z234_52 hL ?_
            rw [e531, e532]
            refine ⟨hx1.1, by omega, ⟨by omega, by omega⟩, ⟨by omega, by omega⟩, fun q3 => ⟨hx1.1, by omega, t0, by omega, hx1.1, by omega, t0, by omega, ?_⟩, fun q3 => ⟨t0, by omega, hx1.1, by omega, hx1.1, by omega, k0, by omega, t0, by omega, k0, by omega, ?_⟩⟩
            · refine ih _ (by omega) (t + 1) _ rfl (by omega) (by omega) (frr_tr f1 fun b c d e f g i j k => by rw [zup_ne _ _ _ _ j, zup_ne _ _ _ _ d]; exact f2 b c) (fun t' a b => ?_) (fun t' a b => ?_)
              · rw [zup_ne _ _ _ _ (by decide), zup_ne _ _ _ _ (show (229 : Nat) ≠ 260 by decide), zup_ne _ _ _ _ (show (229 : Nat) ≠ 234 by decide)]
                by_cases e : t' = t
                · rw [e, zup_eq]
                  exact ⟨rfl, fun i i0 i1 => v2 i i0 (by omega)⟩
                · rw [zup_nk _ _ e, o2 t' e, f2 234 (by decide)]
                  exact v229 t' a (by omega)
              · by_cases e : t' = t
                · rw [e, zup_eq]
                · rw [zup_nk _ _ e, zup_ne _ _ _ _ (by decide), f2 260 (by decide)]
                  exact v260 t' a (by omega)
            · have e274 : J2 274 (gst nd (s 18 0 6).toNat t) k = sq s (gst nd (s 18 0 6).toNat t) 0 k := by rw [f2 274 (by decide), kk 274 (by decide)]; exact hs.2.1 k k0 q3
              rw [e274]
              refine ihr _ (by omega) (k + 1) _ rfl (by omega) (by omega) (fun b hb => by rw [zup_ne _ _ _ _ hb]; exact f2 b hb) (fun t' ht' => ?_) fun i i0 i1 => ?_
              · funext i
                rw [zup_nj _ _ ht', o2 t' ht']
              · by_cases e : i = k
                · rw [e, zup_eq]
                · rw [zup_nk _ _ e]
                  exact v2 i i0 (by omega)
          exact rows _ 0 J1 rfl (Int.le_refl 0) hcb (fun _ _ => rfl) (fun _ _ => rfl) fun i a b => by omega
        · obtain ⟨d1, d2⟩ := hnd j j0 q2
          have e259 : J1 259 0 j = nd j := by rw [kk 259 (by decide)]; exact d1
          have hxr : 0 ≤ x ∧ x < 128 := by
            have := bs_lt (fun j => decide (nd j = t)) j.toNat
            have hp := (pw7 (n := j) (by omega)).2
            rw [hx]
            omega
          rw [e259]
          refine ⟨j0, by omega, d2, ⟨by omega, by omega⟩, fun z => ?_, fun z => ⟨j0, by omega, ?_⟩⟩
          · refine ihm _ (by omega) (j + 1) _ rfl (by omega) (by omega) ?_
            rw [zor_x0 hxr.1 (by omega), bs_no (P := fun j => decide (nd j = t)) j0 (decide_eq_false z), hx]
          · refine ihm _ (by omega) (j + 1) _ rfl (by omega) (by omega) ?_
            rw [hx, bs_or (P := fun j => decide (nd j = t)) j0 (by omega) (decide_eq_true z)]
      exact bits _ 0 0 rfl (Int.le_refl 0) (by omega) rfl
  exact z234 hL (trains _ 0 J rfl (Int.le_refl 0) (by omega) (fun _ _ _ _ _ _ _ _ _ => rfl) (fun t' a b => by omega) fun t' a b => by omega)
