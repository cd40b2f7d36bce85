/-! WORTH -/
/-- a train without error serves x -/
def svd (s : zJ) (er : Int → Int) (t x : Int) : Bool := decide (er t = 0) && decide (0 < cnt (fun i => onb s x (s 24 0 (s 43 0 (t * 7 + i)))) (s 42 0 t).toNat)
def nrs (s : zJ) (er : Int → Int) (t x : Int) : Bool := decide (0 < cnt (fun q => decide (1 ≤ q) && (onb s q x && svd s er t q)) 12)
def wtb (s : zJ) (er : Int → Int) (w t : Int) : Int := if svd s er t (s 30 0 w) = true then fw s w (s 41 0 t) else if nrs s er t (s 30 0 w) = true then fw s w (s 41 0 t) / 2 else 0
def wto (s : zJ) (er : Int → Int) (w : Int) : Int := mx0 (fun t => wtb s er w t) (s 40 0 0).toNat
def wta (s : zJ) (er : Int → Int) : Int := sm (fun w => wto s er w) (s 18 0 14).toNat
theorem svd_t {s : zJ} {er : Int → Int} {t x : Int} : svd s er t x = true ↔ er t = 0 ∧ ∃ i : Int, 0 ≤ i ∧ i < (s 42 0 t).toNat ∧ on s x (s 24 0 (s 43 0 (t * 7 + i))) := by
  unfold svd
  rw [Bool.and_eq_true, decide_eq_true_iff, decide_eq_true_iff, cnt_pos]
  simp only [onb_t]
theorem nrs_t {s : zJ} {er : Int → Int} {t x : Int} : nrs s er t x = true ↔ ∃ q : Int, 1 ≤ q ∧ q < 12 ∧ on s q x ∧ svd s er t q = true := by
  unfold nrs
  rw [decide_eq_true_iff, cnt_pos]
  constructor
  · rintro ⟨q, q0, q1, h⟩
    rw [Bool.and_eq_true, Bool.and_eq_true, decide_eq_true_iff, onb_t] at h
    exact ⟨q, h.1, q1, h.2.1, h.2.2⟩
  · rintro ⟨q, q0, q1, h1, h2⟩
    exact ⟨q, by omega, q1, by rw [decide_eq_true q0, onb_t.mpr h1, h2]; rfl⟩
theorem wtb_rng {s : zJ} (h : LW s) (hP : PW s) (er : Int → Int) {w t : Int} (w0 : 0 ≤ w) (w1 : w < s 18 0 14) (t0 : 0 ≤ t) (t1 : t < s 40 0 0) : 0 ≤ wtb s er w t ∧ wtb s er w t ≤ 99900 := by
  have ht := pw_t hP t0 t1
  have := fw_rng h w0 w1 ht.1 ht.2.1
  unfold wtb
  split
  · exact this
  · split <;> omega
theorem wto_rng {s : zJ} (h : LW s) (hP : PW s) (er : Int → Int) {w : Int} (w0 : 0 ≤ w) (w1 : w < s 18 0 14) : 0 ≤ wto s er w ∧ wto s er w ≤ 99900 := mx0_rng (by decide) fun t t0 t1 => (wtb_rng h hP er w0 w1 t0 (by omega)).2
theorem wta_rng {s : zJ} (h : LW s) (hP : PW s) (er : Int → Int) : 0 ≤ wta s er ∧ wta s er ≤ 1198800 := by
  have hn := lw_n h
  have := sm_nn (f := fun w => wto s er w) (c := 99900) (n := (s 18 0 14).toNat) fun w w0 w1 => wto_rng h hP er w0 (by omega)
  unfold wta
  omega
theorem wto_cong {s : zJ} {er er' : Int → Int} (h : ∀ t : Int, 0 ≤ t → t < (s 40 0 0).toNat → er t = er' t) (w : Int) : wto s er w = wto s er' w := by
  unfold wto
  refine mx0_cong fun t t0 t1 => ?_
  have e : ∀ x : Int, svd s er t x = svd s er' t x := fun x => by
    unfold svd
    rw [h t t0 t1]
  unfold wtb nrs
  simp only [e]
theorem wta_cong {s : zJ} {er er' : Int → Int} (h : ∀ t : Int, 0 ≤ t → t < (s 40 0 0).toNat → er t = er' t) : wta s er = wta s er' := by
  unfold wta
  exact sm_cong fun w _ _ => wto_cong h w
theorem c48 {L : Nat} {xs : Nat → Int32} (hL : L ≤ 3072) {D : Nat} {J : zJ} {K : zK} {Q : zR → Nat → zJ → zK → Prop} {s : zJ} (hE : EqS s J) (h : LW s) (hT : TW s) (hP : PW s) {er : Int → Int} {t : Int} (t0 : 0 ≤ t) (t1 : t < s 40 0 0) (her : J 102 0 t = er t) (zer : zin (er t)) (hD : 1 ≤ D) (hQ : ∀ x : Int, 0 ≤ x → x < 4096 → (∀ k : Int, 0 ≤ k → k < 12 → bt x k = svd s er t k) → Q (.inl (some (zi (x)))) 0 J K) : zCall L xs D 48 [zr 101, zi t] J K Q := by
  obtain ⟨D, rfl⟩ : ∃ d, D = d + 1 := ⟨D - 1, by omega⟩
  have hn := lw_n h
  have hpn := pw_n hP
  have htt := pw_t hP t0 t1
  have e12 : (2 : Int) ^ 12 = 4096 := by decide
  refine z48 hL ?_
  rw [her]
  refine ⟨t0, by omega, zer, fun q => ?_, fun q => hQ 0 (by decide) (by decide) fun k k0 k1 => ?_⟩
  · have key : ∀ (n : Nat) (i : Int), n = (s 42 0 t - i).toNat → 0 ≤ i → i ≤ s 42 0 t → zGo L xs (D + 1) 48 15 [some (zr 101), some (zi t), some (zi (bs (fun x => decide (0 < cnt (fun i => onb s x (s 24 0 (s 43 0 (t * 7 + i)))) i.toNat)) 12)), some (zi i)] [] J K Q := by
      intro n; induction n using Nat.strongRecOn with
  | _ n ih =>
      intro i hm h0 h1
      have hb := bs_lt (fun x => decide (0 < cnt (fun i => onb s x (s 24 0 (s 43 0 (t * 7 + i)))) i.toNat)) 12
      refine z48_15 hL ?_
      rw [hE 42 (by decide) (by decide), hE 43 (by decide) (by decide), hE 24 (by decide) (by decide), hE 36 (by decide) (by decide)]
      refine ⟨t0, by omega, ⟨by omega, by omega⟩, ⟨by omega, by omega⟩, fun q2 => ?_, fun q2 => ?_⟩
      · have e : i = s 42 0 t := by omega
        refine hQ _ hb.1 (by omega) fun k k0 k1 => ?_
        rw [bt_bs _ _ k k0, decide_eq_true (p := k < ((12 : Nat) : Int)) (by omega), Bool.true_and, e]
        unfold svd
        rw [decide_eq_true q, Bool.true_and]
      · have hr := pw_r hP t0 t1 h0 q2
        have hk := lw_k h hr.1 hr.2.1
        have hi := ih _ (by omega) (i + 1) rfl (by omega) (by omega)
        refine ⟨by omega, by omega, hr.1, by omega, by omega, by omega, ?_⟩
        rw [hT.2.2.1 _ (by omega) (by omega)]
        have hb2 := bs_lt (fun x => onb s x (s 24 0 (s 43 0 (t * 7 + i)))) 12
        have hz := zor_lt (x := bs (fun x => decide (0 < cnt (fun i => onb s x (s 24 0 (s 43 0 (t * 7 + i)))) i.toNat)) 12) (y := bs (fun x => onb s x (s 24 0 (s 43 0 (t * 7 + i)))) 12) (n := 12) (by decide) hb.1 hb.2 hb2.1 hb2.2
        have e : zor (bs (fun x => decide (0 < cnt (fun i => onb s x (s 24 0 (s 43 0 (t * 7 + i)))) i.toNat)) 12) (bs (fun x => onb s x (s 24 0 (s 43 0 (t * 7 + i)))) 12) = bs (fun x => decide (0 < cnt (fun i => onb s x (s 24 0 (s 43 0 (t * 7 + i)))) (i + 1).toNat)) 12 := by
          refine bs_of hz.1 fun k k0 => ?_
          rw [bt_or hb.1 (by omega) hb2.1 (by omega), bt_bs _ _ k k0, bt_bs _ _ k k0, ← Bool.and_or_distrib_left]
          congr 1
          rw [cnt_next h0]
          have hcr := cnt_rng (fun i => onb s k (s 24 0 (s 43 0 (t * 7 + i)))) i.toNat
          cases onb s k (s 24 0 (s 43 0 (t * 7 + i))) with
          | true =>
            rw [zb_t, Bool.or_true, decide_eq_true (by omega)]
          | false => rw [zb_f, Bool.or_false, Int.add_zero]
        rw [e]
        exact hi
    have h0 := key _ 0 rfl (by decide) (by omega)
    have e0 : bs (fun x => decide (0 < cnt (fun i => onb s x (s 24 0 (s 43 0 (t * 7 + i)))) (0 : Int).toNat)) 12 = 0 := by
      symm
      refine bs_of (by decide) fun k k0 => ?_
      rw [bt_z]
      have : cnt (fun i => onb s k (s 24 0 (s 43 0 (t * 7 + i)))) (0 : Int).toNat = 0 := rfl
      rw [this]
      simp
    rw [e0] at h0
    exact h0
  · rw [bt_z]
    unfold svd
    rw [decide_eq_false q]
    rfl
theorem zand_m2 {x : Int} (x0 : 0 ≤ x) (x1 : x < 4096) : (zand x (-2) = 0 ↔ ∀ k : Int, 1 ≤ k → k < 12 → bt x k = false) ∧ zin (zand x (-2)) := by
  have e : (-2 : Int) = zxor 1 (-1) := by decide
  have hz := zandn_n (x := x) (y := 1) x0 (by omega) (by decide) (by decide)
  rw [← e] at hz
  have hb1 : ∀ k : Int, 0 ≤ k → bt 1 k = decide (k = 0) := fun k k0 => by
    have := bt_pow (j := 0) (k := k) (by decide) k0
    have e2 : (2 : Int) ^ (0 : Int).toNat = 1 := rfl
    rw [e2] at this
    rw [this]
    exact decide_eq_decide.mpr (by omega)
  refine ⟨⟨fun q k k0 k1 => ?_, fun q => ?_⟩, ⟨by omega, by omega⟩⟩
  · have := hz.2.2 k (by omega)
    rw [q, bt_z, hb1 k (by omega), decide_eq_false (by omega), Bool.not_false, Bool.and_true] at this
    exact this.symm
  · refine bt_same hz.1 (by omega) (by decide) (by decide) fun k k0 k1 => ?_
    rw [hz.2.2 k k0, bt_z, hb1 k k0]
    by_cases e2 : k = 0
    · rw [decide_eq_true e2]
      simp
    · rw [q k (by omega) k1]
      rfl
theorem c119 {L : Nat} {xs : Nat → Int32} (hL : L ≤ 3072) {D : Nat} {J : zJ} {K : zK} {Q : zR → Nat → zJ → zK → Prop} {s : zJ} (hE : EqS s J) (h : LW s) (hT : TW s) {p x : Int} (p0 : 0 ≤ p) (p1 : p < s 18 0 0) (x0 : 0 ≤ x) (x1 : x < 4096) (hD : 1 ≤ D) (h1 : (∃ q : Int, 1 ≤ q ∧ q < 12 ∧ bt x q = true ∧ on s q p) → Q (.inl (some (zi (1)))) 0 J K) (h0 : (¬ ∃ q : Int, 1 ≤ q ∧ q < 12 ∧ bt x q = true ∧ on s q p) → Q (.inl (some (zi (0)))) 0 J K) : zCall L xs D 119 [zr 33, zi p, zi x] J K Q := by
  obtain ⟨D, rfl⟩ : ∃ d, D = d + 1 := ⟨D - 1, by omega⟩
  have hn := lw_n h
  have hb := bs_lt (fun x => onb s x p) 12
  have e12 : (2 : Int) ^ 12 = 4096 := by decide
  refine z119 hL ?_
  rw [hE 36 (by decide) (by decide), hT.2.2.1 p p0 p1]
  have hz := zand_le x0 (by omega) hb.1
  have hm := zand_m2 (x := zand x (bs (fun x => onb s x p) 12)) hz.1 (by omega)
  have hbt : ∀ k : Int, 0 ≤ k → k < 12 → bt (zand x (bs (fun x => onb s x p) 12)) k = (bt x k && onb s k p) := fun k k0 k1 => by
    rw [bt_and x0 (by omega) hb.1, bt_bs _ _ k k0, decide_eq_true (p := k < ((12 : Nat) : Int)) (by omega), Bool.true_and]
  refine ⟨p0, by omega, hm.2, fun q => ⟨Or.inl rfl, h0 ?_⟩, fun q => ⟨Or.inr rfl, h1 ?_⟩⟩
  · rintro ⟨k, k0, k1, k2, k3⟩
    have := hm.1.mp q k k0 k1
    rw [hbt k (by omega) k1, k2, onb_t.mpr k3] at this
    cases this
  · apply Classical.byContradiction
    intro hne
    apply q
    refine hm.1.mpr fun k k0 k1 => ?_
    rw [hbt k (by omega) k1, ← Bool.not_eq_true, Bool.and_eq_true, onb_t]
    exact fun z => hne ⟨k, k0, k1, z.1, z.2⟩
theorem c51 {L : Nat} {xs : Nat → Int32} (hL : L ≤ 3072) {D : Nat} {J : zJ} {K : zK} {Q : zR → Nat → zJ → zK → Prop} {s : zJ} (hE : EqS s J) (h : LW s) (hT : TW s) (hP : PW s) {er : Int → Int} {w t : Int} (w0 : 0 ≤ w) (w1 : w < s 18 0 14) (t0 : 0 ≤ t) (t1 : t < s 40 0 0) (her : J 102 0 t = er t) (zer : zin (er t)) (hD : 3 ≤ D) (hQ : Q (.inl (some (zi (wtb s er w t)))) 0 J K) : zCall L xs D 51 [zr 101, zi w, zi t] J K Q := by
  obtain ⟨D, rfl⟩ : ∃ d, D = d + 1 := ⟨D - 1, by omega⟩
  have hn := lw_n h
  have hpn := pw_n hP
  have htt := pw_t hP t0 t1
  have hw := lw_w h w0 w1
  have hf := fw_rng h w0 w1 htt.1 htt.2.1
  unfold wtb at hQ
  refine z51 hL ?_
  refine c48 hL hE h hT hP t0 t1 her zer (by omega) fun x x0 x1 hx => zaI_of ⟨t0, by omega, ?_⟩
  rw [hE 41 (by decide) (by decide)]
  refine c60 hL hE h (by omega) w0 w1 htt.1 htt.2.1 (zaI_of ⟨w0, by omega, ?_⟩)
  rw [hE 30 (by decide) (by decide)]
  refine c120 hL (by omega) (by omega) (by omega) ⟨x0, by omega⟩ (zaI_of ?_)
  rw [hx _ (by omega) (by omega), hE 30 (by decide) (by decide)]
  refine ⟨zin_zb _, fun q => ⟨w0, by omega, ?_⟩, fun q => ?_⟩
  · have q := zb_0.mp q
    rw [if_neg (by rw [q]; simp)] at hQ
    have hiff : nrs s er t (s 30 0 w) = true ↔ ∃ q : Int, 1 ≤ q ∧ q < 12 ∧ bt x q = true ∧ on s q (s 30 0 w) := by
      rw [nrs_t]
      constructor
      · rintro ⟨k, k0, k1, k2, k3⟩
        exact ⟨k, k0, k1, by rw [hx k (by omega) k1]; exact k3, k2⟩
      · rintro ⟨k, k0, k1, k2, k3⟩
        exact ⟨k, k0, k1, k3, by rw [← hx k (by omega) k1]; exact k2⟩
    refine c119 hL hE h hT (by omega) hw.2.1 x0 x1 (by omega) (fun hex => zaI_of ⟨zin_1, fun z => absurd z (by decide), fun _ => ⟨by omega, by omega, by decide, by decide, ?_⟩⟩) (fun hex => zaI_of ⟨zin_0, fun _ => ?_, fun z => absurd rfl z⟩)
    · rw [if_pos (hiff.mpr hex)] at hQ
      exact hQ
    · rw [if_neg (fun z => hex (hiff.mp z))] at hQ
      exact hQ
  · rw [if_pos (zb_1.mp q)] at hQ
    exact hQ
theorem c52 {L : Nat} {xs : Nat → Int32} (hL : L ≤ 3072) {D : Nat} {J : zJ} {K : zK} {Q : zR → Nat → zJ → zK → Prop} {s : zJ} (hE : EqS s J) (h : LW s) (hT : TW s) (hP : PW s) {er : Int → Int} {w : Int} (w0 : 0 ≤ w) (w1 : w < s 18 0 14) (her : ∀ t : Int, 0 ≤ t → t < s 40 0 0 → J 102 0 t = er t ∧ zin (er t)) (hD : 5 ≤ D) (hQ : Q (.inl (some (zi (wto s er w)))) 0 J K) : zCall L xs D 52 [zr 101, zi w] J K Q := by
  obtain ⟨D, rfl⟩ : ∃ d, D = d + 1 := ⟨D - 1, by omega⟩
  have hn := lw_n h
  have hpn := pw_n hP
  refine z52 hL ?_
  have key : ∀ (n : Nat) (t : Int), n = (s 40 0 0 - t).toNat → 0 ≤ t → t ≤ s 40 0 0 → zGo L xs (D + 1) 52 4 [some (zr 101), some (zi w), some (zi (mx0 (fun t => wtb s er w t) t.toNat)), some (zi t)] [] J K Q := by
    intro n; induction n using Nat.strongRecOn with
  | _ n ih =>
    intro t hm h0 h1
    refine z52_4 hL ?_
    rw [hE 40 (by decide) (by decide)]
    refine ⟨⟨by omega, by omega⟩, ⟨by omega, by omega⟩, fun q => ?_, fun q => ?_⟩
    · have e : t = s 40 0 0 := by omega
      subst e
      exact hQ
    · obtain ⟨e1, e2⟩ := her t h0 q
      have hr := wtb_rng h hP er w0 w1 h0 q
      have hm2 := mx0_rng (f := fun t => wtb s er w t) (c := 99900) (by decide) (n := t.toNat) fun t t0 t1 => (wtb_rng h hP er w0 w1 t0 (by omega)).2
      have hi := ih _ (by omega) (t + 1) rfl (by omega) (by omega)
      rw [mx0_next h0] at hi
      exact c51 hL hE h hT hP w0 w1 h0 q e1 e2 (by omega) (zaI_of ⟨⟨by omega, by omega⟩, ⟨by omega, by omega⟩, by omega, hi⟩)
  exact key _ 0 rfl (by decide) (by omega)
theorem c53 {L : Nat} {xs : Nat → Int32} (hL : L ≤ 3072) {D : Nat} {J : zJ} {K : zK} {Q : zR → Nat → zJ → zK → Prop} {s : zJ} (hE : EqS s J) (h : LW s) (hT : TW s) (hP : PW s) {er : Int → Int} (her : ∀ t : Int, 0 ≤ t → t < s 40 0 0 → J 102 0 t = er t ∧ zin (er t)) (hD : 6 ≤ D) (hQ : Q (.inl (some (zi (wta s er)))) 0 J K) : zCall L xs D 53 [zr 101] J K Q := by
  obtain ⟨D, rfl⟩ : ∃ d, D = d + 1 := ⟨D - 1, by omega⟩
  have hn := lw_n h
  refine z53 hL ?_
  have key : ∀ (n : Nat) (w : Int), n = (s 18 0 14 - w).toNat → 0 ≤ w → w ≤ s 18 0 14 → zGo L xs (D + 1) 53 4 [some (zr 101), some (zi (sm (fun w => wto s er w) w.toNat)), some (zi w)] [] J K Q := by
    intro n; induction n using Nat.strongRecOn with
  | _ n ih =>
    intro w hm h0 h1
    refine z53_4 hL ?_
    rw [hE 18 (by decide) (by decide)]
    refine ⟨⟨by omega, by omega⟩, ⟨by omega, by omega⟩, fun q => ?_, fun q => ?_⟩
    · have e : w = s 18 0 14 := by omega
      subst e
      exact hQ
    · have hi := ih _ (by omega) (w + 1) rfl (by omega) (by omega)
      rw [sm_next h0] at hi
      exact c52 hL hE h hT hP h0 q her (by omega) (zaI_of hi)
  exact key _ 0 rfl (by decide) (by omega)
/-! the model -/
theorem c288 {L : Nat} {xs : Nat → Int32} (hL : L ≤ 3072) {D : Nat} {J : zJ} {K : zK} {Q : zR → Nat → zJ → zK → Prop} {s : zJ} (hM : ML s J) (h : LW s) (hP : PW s) (hC : MC s J) {er : Int → Int} {t x : Int} (t0 : 0 ≤ t) (t1 : t < s 40 0 0) (x0 : 0 ≤ x) (x1 : x < s 18 0 0) (her : J 255 0 t = er t) (zer : zin (er t)) (hD : 2 ≤ D) (hQ : Q (.inl (some (zi (zb (svd s er t x))))) 0 J K) : zCall L xs D 288 [zr 142, zi t, zi x] J K Q := by
  obtain ⟨D, rfl⟩ : ∃ d, D = d + 1 := ⟨D - 1, by omega⟩
  have hn := lw_n h
  have hpn := pw_n hP
  have htt := pw_t hP t0 t1
  have hmt := mc_t hC t0 t1
  refine z288 hL ?_
  have no : svd s er t x = false → Q (.inl (some (zi (0)))) 0 J K := fun z => by
    rw [z] at hQ
    exact hQ
  have key : ∀ (n : Nat) (i : Int), n = (s 42 0 t - i).toNat → 0 ≤ i → i ≤ s 42 0 t → (∀ j : Int, 0 ≤ j → j < i → ¬ on s x (s 24 0 (s 43 0 (t * 7 + j)))) → zGo L xs (D + 1) 288 2 [some (zr 142), some (zi t), some (zi x), some (zi i)] [] J K Q := by
    intro n; induction n using Nat.strongRecOn with
  | _ n ih =>
    intro i hm h0 h1 hf
    refine z288_2 hL ?_
    rw [hmt.1, her]
    refine ⟨t0, by omega, ⟨by omega, by omega⟩, ⟨by omega, by omega⟩, fun q => ⟨Or.inl rfl, no ?_⟩, fun q => ⟨t0, by omega, zer, fun q2 => ⟨Or.inl rfl, no ?_⟩, fun q2 => ?_⟩⟩
    · rw [← Bool.not_eq_true, svd_t]
      rintro ⟨_, j, j0, j1, j2⟩
      exact hf j j0 (by omega) j2
    · unfold svd
      rw [decide_eq_false q2]
      rfl
    · have hr := pw_r hP t0 t1 h0 q
      have hk := lw_k h hr.1 hr.2.1
      rw [hmt.2.2 i h0 q, (ml_k hM hr.1 hr.2.1).1]
      refine ⟨t0, by omega, t0, by omega, h0, by omega, hr.1, by omega, hr.1, by omega, by decide, by decide, ?_⟩
      refine c247 hL hM h (by omega) x0 x1 (by omega) (by omega) (zaI_of ⟨zin_zb _, fun z => ?_, fun z => ⟨Or.inr rfl, ?_⟩⟩)
      · refine ih _ (by omega) (i + 1) rfl (by omega) (by omega) fun j j0 j1 => ?_
        by_cases e : j = i
        · rw [e]
          exact onb_f.mp (zb_0.mp z)
        · exact hf j j0 (by omega)
      · have : svd s er t x = true := svd_t.mpr ⟨q2, i, h0, by omega, onb_t.mp (zb_1.mp z)⟩
        rw [this] at hQ
        exact hQ
  exact key _ 0 rfl (by decide) (by omega) fun j j0 j1 => by omega
theorem c289 {L : Nat} {xs : Nat → Int32} (hL : L ≤ 3072) {D : Nat} {J : zJ} {K : zK} {Q : zR → Nat → zJ → zK → Prop} {s : zJ} (hM : ML s J) (h : LW s) (hP : PW s) (hC : MC s J) {er : Int → Int} {t x : Int} (t0 : 0 ≤ t) (t1 : t < s 40 0 0) (x0 : 1 ≤ x) (x1 : x < s 18 0 0) (her : J 255 0 t = er t) (zer : zin (er t)) (hno : svd s er t x = false) (hD : 4 ≤ D) (hQ : Q (.inl (some (zi (zb (nrs s er t x))))) 0 J K) : zCall L xs D 289 [zr 142, zi t, zi x] J K Q := by
  obtain ⟨D, rfl⟩ : ∃ d, D = d + 1 := ⟨D - 1, by omega⟩
  have hn := lw_n h
  have hpn := pw_n hP
  have key : ∀ (n : Nat) (q : Int), n = q.toNat → 0 ≤ q → q < s 18 0 0 → (nrs s er t x = true ↔ ∃ k : Int, 1 ≤ k ∧ k < 12 ∧ on s k q ∧ svd s er t k = true) → zGo L xs (D + 1) 289 9 [some (zr 142), some (zi t), none, some (zi q)] [] J K Q := by
    intro n; induction n using Nat.strongRecOn with
  | _ n ih =>
    intro q hm q0 q1 hq
    refine z289_9 hL ⟨⟨by omega, by omega⟩, fun z => ⟨Or.inl rfl, ?_⟩, fun z => ?_⟩
    · have : nrs s er t x = false := by
        rw [← Bool.not_eq_true, hq]
        rintro ⟨k, k0, k1, k2, _⟩
        have := on_le h (by omega) q q0 q1 k2
        omega
      rw [this] at hQ
      exact hQ
    · have hu := lw_up h (p := q) (by omega) q1
      have hp := lw_p h q0 q1
      refine c288 hL hM h hP hC t0 t1 q0 q1 her zer (by omega) (zaI_of ⟨zin_zb _, fun z2 => ⟨q0, by omega, q0, by omega, by decide, by decide, ?_⟩, fun z2 => ⟨Or.inr rfl, ?_⟩⟩)
      · rw [ml_u hM (by omega) q1]
        have hlt : (s 19 0 q).toNat < n := by clear hq; omega
        refine ih _ hlt (s 19 0 q) rfl (by omega) (by omega) ?_
        rw [hq]
        constructor
        · rintro ⟨k, k0, k1, k2, k3⟩
          have hle := on_le h (by omega) q q0 q1 k2
          by_cases e : k = q
          · rw [e, zb_0.mp z2] at k3
            cases k3
          · exact ⟨k, k0, k1, (on_up h (by omega) (by omega) q1).mp k2, k3⟩
        · rintro ⟨k, k0, k1, k2, k3⟩
          have hle := on_le h (by omega) _ (by omega) (by omega) k2
          exact ⟨k, k0, k1, (on_up h (by omega) (by omega) q1).mpr k2, k3⟩
      · have : nrs s er t x = true := hq.mpr ⟨q, by omega, by omega, on_self s q, zb_1.mp z2⟩
        rw [this] at hQ
        exact hQ
  have hu := lw_up h (p := x) x0 x1
  have hp := lw_p h (p := x) (by omega) x1
  refine z289 hL ⟨by omega, by omega, by omega, by omega, by decide, by decide, ?_⟩
  rw [ml_u hM x0 x1]
  refine key _ (s 19 0 x) rfl (by omega) (by omega) ?_
  rw [nrs_t]
  constructor
  · rintro ⟨k, k0, k1, k2, k3⟩
    have hle := on_le h (by omega) x (by omega) x1 k2
    by_cases e : k = x
    · rw [e, hno] at k3
      cases k3
    · exact ⟨k, k0, k1, (on_up h (by omega) (by omega) x1).mp k2, k3⟩
  · rintro ⟨k, k0, k1, k2, k3⟩
    have hle := on_le h (by omega) _ (by omega) (by omega) k2
    exact ⟨k, k0, k1, (on_up h (by omega) (by omega) x1).mpr k2, k3⟩
theorem c312 {L : Nat} {xs : Nat → Int32} (hL : L ≤ 3072) {D : Nat} {J : zJ} {K : zK} {Q : zR → Nat → zJ → zK → Prop} {s : zJ} (hM : ML s J) (h : LW s) (hP : PW s) (hC : MC s J) {er : Int → Int} {w : Int} (w0 : 0 ≤ w) (w1 : w < s 18 0 14) (her : ∀ t : Int, 0 ≤ t → t < s 40 0 0 → J 255 0 t = er t ∧ zin (er t)) (hD : 6 ≤ D) (hQ : Q (.inl (some (zi (wto s er w)))) 0 J K) : zCall L xs D 312 [zr 142, zi w] J K Q := by
  obtain ⟨D, rfl⟩ : ∃ d, D = d + 1 := ⟨D - 1, by omega⟩
  have hn := lw_n h
  have hpn := pw_n hP
  have hw := lw_w h w0 w1
  have hmw := ml_w hM w0 w1
  refine z312 hL ?_
  have key : ∀ (n : Nat) (t : Int), n = (s 40 0 0 - t).toNat → 0 ≤ t → t ≤ s 40 0 0 → zGo L xs (D + 1) 312 4 [some (zr 142), some (zi w), some (zi (mx0 (fun t => wtb s er w t) t.toNat)), some (zi t), none] [] J K Q := by
    intro n; induction n using Nat.strongRecOn with
  | _ n ih =>
    intro t hm h0 h1
    refine z312_4 hL ?_
    rw [(mc_n hC).1]
    refine ⟨⟨by omega, by omega⟩, ⟨by omega, by omega⟩, fun q => ?_, fun q => ⟨h0, by omega, ?_⟩⟩
    · have e : t = s 40 0 0 := by omega
      subst e
      exact hQ
    · obtain ⟨e1, e2⟩ := her t h0 q
      have htt := pw_t hP h0 q
      have hf := fw_rng h w0 w1 htt.1 htt.2.1
      have hm2 := mx0_rng (f := fun t => wtb s er w t) (c := 99900) (by decide) (n := t.toNat) fun t t0 t1 => (wtb_rng h hP er w0 w1 t0 (by omega)).2
      have hi := ih _ (by omega) (t + 1) rfl (by omega) (by omega)
      rw [mx0_next h0] at hi
      rw [(mc_t hC h0 q).2.1]
      refine c311 hL hM h (by omega) w0 w1 htt.1 htt.2.1 (zaI_of ⟨w0, by omega, w0, by omega, by decide, by decide, ?_⟩)
      rw [hmw.1]
      refine c288 hL hM h hP hC h0 q (by omega) hw.2.1 e1 e2 (by omega) (zaI_of ⟨zin_zb _, fun z => ⟨w0, by omega, w0, by omega, by decide, by decide, ?_⟩, fun z => ?_⟩)
      · have z := zb_0.mp z
        have hd : wtb s er w t = if nrs s er t (s 30 0 w) = true then fw s w (s 41 0 t) / 2 else 0 := by
          unfold wtb
          rw [if_neg (by rw [z]; simp)]
        rw [hmw.1]
        refine c289 hL hM h hP hC h0 q hw.1 hw.2.1 e1 e2 z (by omega) (zaI_of ⟨zin_zb _, fun z2 => ?_, fun z2 => ⟨by omega, by omega, by decide, by decide, ?_⟩⟩)
        · rw [if_neg (by rw [zb_0.mp z2]; simp)] at hd
          rw [hd] at hi
          exact c268 hL (by omega) ⟨by omega, by omega⟩ zin_0 (zaI_of hi)
        · rw [if_pos (zb_1.mp z2)] at hd
          rw [hd] at hi
          exact c268 hL (by omega) ⟨by omega, by omega⟩ ⟨by omega, by omega⟩ (zaI_of hi)
      · have hd : wtb s er w t = fw s w (s 41 0 t) := by
          unfold wtb
          rw [if_pos (zb_1.mp z)]
        rw [hd] at hi
        exact c268 hL (by omega) ⟨by omega, by omega⟩ ⟨by omega, by omega⟩ (zaI_of hi)
  exact key _ 0 rfl (by decide) (by omega)
theorem c309 {L : Nat} {xs : Nat → Int32} (hL : L ≤ 3072) {D : Nat} {J : zJ} {K : zK} {Q : zR → Nat → zJ → zK → Prop} {s : zJ} (hM : ML s J) (h : LW s) (hP : PW s) (hC : MC s J) {er : Int → Int} (her : ∀ t : Int, 0 ≤ t → t < s 40 0 0 → J 255 0 t = er t ∧ zin (er t)) (hD : 7 ≤ D) (hQ : Q (.inl (some (zi (wta s er)))) 0 J K) : zCall L xs D 309 [zr 142] J K Q := by
  obtain ⟨D, rfl⟩ : ∃ d, D = d + 1 := ⟨D - 1, by omega⟩
  have hn := lw_n h
  obtain ⟨-, -, -, hm3⟩ := ml_n hM
  refine z309 hL ?_
  have key : ∀ (n : Nat) (w : Int), n = (s 18 0 14 - w).toNat → 0 ≤ w → w ≤ s 18 0 14 → zGo L xs (D + 1) 309 4 [some (zr 142), some (zi (sm (fun w => wto s er w) w.toNat)), some (zi w)] [] J K Q := by
    intro n; induction n using Nat.strongRecOn with
  | _ n ih =>
    intro w hm h0 h1
    refine z309_4 hL ?_
    rw [hm3]
    refine ⟨by decide, by decide, ⟨by omega, by omega⟩, ⟨by omega, by omega⟩, fun q => ?_, fun q => ?_⟩
    · have e : w = s 18 0 14 := by omega
      subst e
      exact hQ
    · have hi := ih _ (by omega) (w + 1) rfl (by omega) (by omega)
      rw [sm_next h0] at hi
      exact c312 hL hM h hP hC h0 q her (by omega) (zaI_of hi)
  exact key _ 0 rfl (by decide) (by omega)
theorem op15 {G : zJ → zK → Prop} (hG : GOk G) : ∀ a : Int, zin a → OpW (Inv G) 351 4 188 308 zin [zi a] := by
  intro a ha
  intro L xs D D2 J K hL hD hD2 hI; obtain ⟨⟨hW, hT, hP, hM, hC, hTp, hF, hIm⟩, hg⟩ := id hI; have hE := eqs_rfl J; have hn := lw_n hW; have hpn := pw_n hP
  obtain ⟨D, rfl⟩ : ∃ d, D = d + 1 := ⟨D - 1, by omega⟩
  obtain ⟨D2, rfl⟩ : ∃ d, D2 = d + 1 := ⟨D2 - 1, by omega⟩
  have hr := jaP_rng hW hP (t := (J 40 0 0).toNat) (by omega)
  have bad : ¬ (-1 ≤ a ∧ a < J 18 0 14) → zCall L xs (D2 + 1) 308 [zr 142, zi a] J K fun r2 e2 J2 K2 => (∃ v2, r2 = .inl (some (zi v2)) ∧ zin v2) ∧ e2 = 0 ∧ J2 142 0 0 = 1 ∧ Inv G J2 K2 := by
    intro hc
    have hM0 := ml_fm hM (fm_t J 0)
    have t0 : zup J 142 0 0 0 142 0 0 = 0 := zup_eq _ _ _ _ _
    have fin := fin_x hG hI (fc_rfl J) (fm_t2 J 0 1) rfl (zup_eq _ _ _ _ _) 0 zin_0
    obtain ⟨-, -, -, hm3⟩ := ml_n hM
    refine z308 hL ⟨by decide, by decide, ?_⟩
    rw [hm3]
    refine c240 hL (by omega) ha ⟨by decide, by decide⟩ ⟨by omega, by omega⟩ (zaI_of ⟨zin_zb _, fun q => by rw [zb_1, decide_eq_true_iff] at q; omega, fun _ => ?_⟩)
    exact c195T hL (by omega) t0 (by decide) (zaI_of ⟨zin_1, fun q => absurd q (by decide), fun _ => fin⟩)
  refine z188 hL ⟨ha, ⟨by decide, by decide⟩, fun _ => ⟨by omega, Or.inr ⟨0, 1, rfl, rfl, zonb_ok (by decide +kernel), by decide, by decide, ?_⟩⟩, fun g0 => ⟨ha, ⟨by omega, by omega⟩, fun g1 => ?_, fun _ => ⟨by omega, Or.inr ⟨0, 1, rfl, rfl, zonb_ok (by decide +kernel), by decide, by decide, ?_⟩⟩⟩⟩
  · exact bad (by omega)
  · refine c46 hL hE hW hT hP (by omega) fun J1 f1 hj => zaV_of ?_
    have fc : FrC J J1 := fun b hb => f1 b (by omega)
    have hE1 := fc_eqs fc
    have her : ∀ t : Int, 0 ≤ t → t < J 40 0 0 → J1 102 0 t = (jaP J (J 40 0 0).toNat).1.2 t ∧ zin ((jaP J (J 40 0 0).toNat).1.2 t) := fun t x y => by
      have := hr.2.1 t x (by omega)
      exact ⟨hj.1 t x (by omega), ⟨by omega, by omega⟩⟩
    have model : ∀ (v x : Int), (a ≠ -1 → v = wto J (jaP J (J 40 0 0).toNat).1.2 a) → (a = -1 → v = wta J (jaP J (J 40 0 0).toNat).1.2) → zCall L xs (D2 + 1) 308 [zr 142, zi a] J1 (zku K 561 0 x) fun r2 e2 J2 K2 => r2 = .inl (some (zi v)) ∧ e2 = 0 ∧ J2 142 0 0 = 0 ∧ K2 561 0 = x ∧ Inv G J2 K2 := by
      intro v x hv1 hv2
      have t1 : zup J1 142 0 0 0 142 0 0 = 0 := zup_eq _ _ _ _ _
      have hM1 := ml_fm (ml_fc hM fc) (fm_t J1 0)
      have hC1 := mc_fm (mc_fc hC fc) (fm_t J1 0)
      obtain ⟨-, -, -, hm3⟩ := ml_n (ml_fc hM fc)
      refine z308 hL ⟨by decide, by decide, ?_⟩
      rw [hm3]
      refine c240 hL (by omega) ha ⟨by decide, by decide⟩ ⟨by omega, by omega⟩ (zaI_of ⟨zin_zb _, fun _ => ?_, fun q => by rw [zb_0, decide_eq_false_iff_not] at q; omega⟩)
      refine c195F hL (by omega) t1 (zaI_of ⟨zin_0, fun _ => ?_, fun q => absurd rfl q⟩)
      refine c255p hL hM1 hW hP hC1 (by omega) fun J2 f2 hg => zaV_of ?_
      have fm := fm_tr (fm_t J1 0) (fm_jd f2)
      have hM2 := ml_fm (ml_fc hM fc) fm
      have hC2 := mc_fm (mc_fc hC fc) fm
      have her2 : ∀ t : Int, 0 ≤ t → t < J 40 0 0 → J2 255 0 t = (jaP J (J 40 0 0).toNat).1.2 t ∧ zin ((jaP J (J 40 0 0).toNat).1.2 t) := fun t x y => by
        have := hr.2.1 t x (by omega)
        exact ⟨hg.1 t x (by omega), ⟨by omega, by omega⟩⟩
      have fin : ∀ v : Int, (Sum.inl (some (zi v)) : zR) = .inl (some (zi v)) ∧ (0 : Nat) = 0 ∧ J2 142 0 0 = 0 ∧ (zku K 561 0 x) 561 0 = x ∧ Inv G J2 (zku K 561 0 x) := fun v => ⟨rfl, rfl, by rw [f2 142 (by decide) (by decide) (by decide) (by decide) (by decide)]; exact t1, zku_o K x, inv_q hG hI fc fm (zku_n _ _ (by decide))⟩
      refine ⟨ha, ⟨by decide, by decide⟩, fun q => ?_, fun q => ?_⟩
      · rw [hv1 q]
        exact c312 hL hM2 hW hP hC2 (by omega) g1 her2 (by omega) (zaI_of (fin _))
      · rw [hv2 q]
        exact c309 hL hM2 hW hP hC2 her2 (by omega) (zaI_of (fin _))
    refine ⟨ha, ⟨by decide, by decide⟩, fun q => ?_, fun q => ?_⟩
    · have hw := wto_rng hW hP (jaP J (J 40 0 0).toNat).1.2 (w := a) (by omega) g1
      refine c52 hL hE1 hW hT hP (by omega) g1 her (by omega) (zaI_of (Or.inl ⟨_, rfl, rfl, ⟨by omega, by omega⟩, fun x => model _ x (fun _ => rfl) (fun z => absurd z q)⟩))
    · have hw := wta_rng hW hP (jaP J (J 40 0 0).toNat).1.2
      refine c53 hL hE1 hW hT hP her (by omega) (zaI_of (Or.inl ⟨_, rfl, rfl, ⟨by omega, by omega⟩, fun x => model _ x (fun z => absurd q z) (fun _ => rfl)⟩))
  · exact bad (by omega)
