/-! MEAN HARM -/
def pd (f : Int → Int) : Nat → Int
  | 0 => 1
  | n + 1 => pd f n * f n
theorem pd_next {f : Int → Int} {i : Int} (h0 : 0 ≤ i) : pd f (i + 1).toNat = pd f i.toNat * f i := by
  have e : (i + 1).toNat = i.toNat + 1 := by omega
  have e2 : ((i.toNat : Nat) : Int) = i := by omega
  rw [e, pd, e2]
def chb (s : zJ) (k : Int) : Bool := decide (0 < s 26 0 k)
def chs (s : zJ) : Int := bs (chb s) (s 18 0 6).toNat
/-- whether only such are late as have a chance -/
def okl (s : zJ) (x : Int) : Bool := decide (∀ k : Fin (s 18 0 6).toNat, bt x (k.val : Int) = true → chb s (k.val : Int) = true)
theorem okl_t {s : zJ} {x : Int} : okl s x = true ↔ ∀ k, 0 ≤ k → k < s 18 0 6 → bt x k = true → chb s k = true := by
  unfold okl
  rw [decide_eq_true_iff]
  constructor
  · intro h k k0 k1
    have := h ⟨k.toNat, by omega⟩
    have e : (((k.toNat : Nat)) : Int) = k := by omega
    simp only [e] at this
    exact this
  · intro h k
    exact h k.val (by omega) (by have := k.isLt; omega)
def wgf (s : zJ) (x k : Int) : Int := if chb s k then (if bt x k then s 26 0 k else 20 - s 26 0 k) else 1
def wgt (s : zJ) (x : Int) : Int := pd (wgf s x) (s 18 0 6).toNat
def mnf (s : zJ) (w : Int → Int) (x : Int) : Int := if okl s x then wgt s x * hrm s (evF s w (stl s x)) else 0
def men (s : zJ) (w : Int → Int) : Int := sm (mnf s w) (2 ^ (s 18 0 6).toNat)
theorem ev_okw {s : zJ} (hW : LW s) (hP : PW s) (w : Int → Int) (x : Int) : EO s (evF s w (stl s x)) 0 13000 := evF_ok hW fun k k0 k1 => stl_rng hW hP x k0 k1
/-- those of no set beyond the chances' -/
theorem okl_le {s : zJ} (hW : LW s) {x : Int} (x0 : 0 ≤ x) (x1 : x < 2 ^ (s 18 0 6).toNat) (h : okl s x = true) : x ≤ chs s := by
  have hn := lw_n hW
  have hc := bs_lt (chb s) (s 18 0 6).toNat
  rw [okl_t] at h
  have e : x.toNat ||| (chs s).toNat = (chs s).toNat := by
    apply Nat.eq_of_testBit_eq
    intro i
    rw [Nat.testBit_or]
    by_cases hi : x.toNat.testBit i = true
    · have hb : bt x (i : Int) = true := by
        unfold bt
        rw [Int.toNat_natCast]
        exact hi
      have hi2 : (i : Int) < s 18 0 6 := by
        rcases Int.lt_or_le (i : Int) (s 18 0 6) with q | q
        · exact q
        · rw [bt_lt x0 x1 (by omega)] at hb
          cases hb
      have hch := h i (by omega) hi2 hb
      have : bt (chs s) (i : Int) = true := by
        unfold chs
        rw [bt_bs _ _ _ (by omega), hch]
        simp
        omega
      unfold bt at this
      rw [Int.toNat_natCast] at this
      rw [hi, this]
      rfl
    · simp [hi]
  have : x.toNat ≤ x.toNat ||| (chs s).toNat := Nat.left_le_or
  rw [e] at this
  unfold chs at this ⊢
  omega
/-- the class's test of it -/
theorem okl_and {s : zJ} (hW : LW s) {x : Int} (x0 : 0 ≤ x) (x1 : x < 2 ^ (s 18 0 6).toNat) : (zand x (zxor (chs s) (-1)) = 0 ↔ okl s x = true) ∧ zin (zand x (zxor (chs s) (-1))) := by
  have hn := lw_n hW
  have h7 := pw7 hn.2.2.2.1
  have hc := bs_lt (chb s) (s 18 0 6).toNat
  have hz := zandn_n (x := x) (y := chs s) x0 (by omega) hc.1 (by unfold chs; omega)
  refine ⟨?_, ⟨by omega, by omega⟩⟩
  rw [okl_t]
  constructor
  · intro e k k0 k1 hb
    have h3 := hz.2.2 k k0
    rw [e, bt_zero, hb] at h3
    unfold chs at h3
    rw [bt_bs _ _ _ k0] at h3
    simp only [Bool.true_and] at h3
    cases hch : chb s k with
    | true => rfl
    | false =>
      rw [hch] at h3
      simp at h3
  · intro hh
    refine bt_ext hz.1 (by decide) fun k k0 => ?_
    rw [hz.2.2 k k0, bt_zero]
    cases hb : bt x k with
    | false => rfl
    | true =>
      have hk : k < s 18 0 6 := by
        rcases Int.lt_or_le k (s 18 0 6) with q | q
        · exact q
        · rw [bt_lt x0 x1 (by omega)] at hb
          cases hb
      unfold chs
      rw [bt_bs _ _ _ k0, hh k k0 hk hb]
      simp
      omega
theorem sm_more {f : Int → Int} {m : Nat} : ∀ {n : Nat}, m ≤ n → (∀ i : Int, (m : Int) ≤ i → i < n → f i = 0) → sm f n = sm f m
  | 0, h, _ => by
    have : m = 0 := by omega
    rw [this]
  | n + 1, h, hz => by
    by_cases e : m = n + 1
    · rw [e]
    · rw [sm, sm_more (n := n) (by omega) fun i a b => hz i a (by omega), hz n (by omega) (by omega), Int.add_zero]
theorem men_eq {s : zJ} (hW : LW s) (w : Int → Int) : men s w = sm (mnf s w) (chs s + 1).toNat := by
  have hn := lw_n hW
  have hc := bs_lt (chb s) (s 18 0 6).toNat
  unfold men
  have e : ((2 ^ (s 18 0 6).toNat : Nat) : Int) = 2 ^ (s 18 0 6).toNat := by simp
  refine sm_more ?_ fun i a b => ?_
  · unfold chs
    omega
  · unfold mnf
    rw [if_neg]
    intro q
    have := okl_le hW (x := i) (by unfold chs at a; omega) (by omega) q
    unfold chs at this a
    omega
theorem c9 {L : Nat} {xs : Nat → Int32} (hL : L ≤ 3072) {D : Nat} {J : zJ} {K : zK} {Q : zR → Nat → zJ → zK → Prop} {s : zJ} (hE : EqS s J) (h : LW s) (hD : 1 ≤ D) (hQ : Q (.inl (some (zi (chs s)))) 0 J K) : zCall L xs D 9 [zr 117] J K Q := by
  obtain ⟨D, rfl⟩ : ∃ d, D = d + 1 := ⟨D - 1, by omega⟩
  have hn := lw_n h
  have e18 := hE 18 (by decide) (by decide)
  have e26 := hE 26 (by decide) (by decide)
  have key : ∀ (n : Nat) (x2 : Int), n = (s 18 0 6 - x2).toNat → 0 ≤ x2 → x2 ≤ s 18 0 6 → zGo L xs (D + 1) 9 4 [some (zr 117), some (zi (bs (chb s) x2.toNat)), some (zi x2)] [] J K Q := by
    intro n; induction n using Nat.strongRecOn with
    | _ n ih =>
    intro x2 hm h0 h1
    refine z9_4 hL ?_
    rw [e18, e26]
    by_cases hc : x2 < s 18 0 6
    · have hi := ih _ (by omega) (x2 + 1) rfl (by omega) (by omega)
      have hk := lw_k h h0 hc
      refine ⟨⟨by omega, by omega⟩, ⟨by omega, by omega⟩, fun _ => by omega, fun _ => ⟨h0, by omega, ⟨by omega, by omega⟩, fun q => ?_, fun q => ⟨h0, by omega, ?_⟩⟩⟩
      · rw [bs_no h0 (decide_eq_false (by omega))] at hi
        exact hi
      · rw [← bs_or h0 (by omega) (decide_eq_true q)] at hi
        exact hi
    · have e : x2 = s 18 0 6 := by omega
      rw [e]
      exact ⟨⟨by omega, by omega⟩, ⟨by omega, by omega⟩, fun _ => hQ, fun _ => by omega⟩
  exact z9 hL (key _ 0 rfl (by omega) (by omega))
theorem c28 {L : Nat} {xs : Nat → Int32} (hL : L ≤ 3072) {D : Nat} {J : zJ} {K : zK} {Q : zR → Nat → zJ → zK → Prop} {s : zJ} (hE : EqS s J) (h : LW s) {x : Int} (hx : 0 ≤ x ∧ x < 2147483648) (hD : 1 ≤ D) (hQ : Q (.inl (some (zl (wgt s x)))) 0 J K) : zCall L xs D 28 [zr 117, zi x, zi (chs s)] J K Q := by
  obtain ⟨D, rfl⟩ : ∃ d, D = d + 1 := ⟨D - 1, by omega⟩
  have hn := lw_n h
  have h7 := pw7 hn.2.2.2.1
  have hcs := bs_lt (chb s) (s 18 0 6).toNat
  have hcs2 : 0 ≤ chs s ∧ chs s < 2 ^ (s 18 0 6).toNat := hcs
  have e18 := hE 18 (by decide) (by decide)
  have e26 := hE 26 (by decide) (by decide)
  have key : ∀ (n : Nat) (x5 : Int), n = (s 18 0 6 - x5).toNat → 0 ≤ x5 → x5 ≤ s 18 0 6 → zGo L xs (D + 1) 28 5 [some (zr 117), some (zi x), some (zi (chs s)), some (zl (pd (wgf s x) x5.toNat)), none, some (zi x5)] [] J K Q := by
    intro n; induction n using Nat.strongRecOn with
    | _ n ih =>
    intro x5 hm h0 h1
    refine z28_5 hL ?_
    rw [e18, e26]
    have hb : bt (chs s) x5 = (decide (x5 < (((s 18 0 6).toNat : Nat) : Int)) && chb s x5) := by
      unfold chs
      rw [bt_bs _ _ _ h0]
    simp only [bt_shz hx.1 hx.2, bt_shz hcs2.1 (show chs s < 2147483648 by omega), zb_0, zb_1]
    by_cases hc : x5 < s 18 0 6
    · have hi := ih _ (by omega) (x5 + 1) rfl (by omega) (by omega)
      rw [pd_next h0] at hi
      have hk := lw_k h h0 hc
      rw [decide_eq_true (show x5 < (((s 18 0 6).toNat : Nat) : Int) by omega), Bool.true_and] at hb
      rw [hb]
      unfold wgf at hi
      refine ⟨⟨by omega, by omega⟩, ⟨by omega, by omega⟩, fun _ => by omega, fun _ => ⟨by unfold chs; exact ⟨by omega, by omega⟩, h0, by omega, zin_zb _, fun q => ?_, fun q => ⟨⟨by omega, by omega⟩, h0, by omega, zin_zb _, fun y => ⟨h0, by omega, ⟨by omega, by omega⟩, ?_⟩, fun y => ⟨h0, by omega, ⟨by omega, by omega⟩, ?_⟩⟩⟩⟩
      · rw [q, if_neg (by decide), Int.mul_one] at hi
        exact hi
      · rw [q, y, if_pos rfl, if_neg (by decide)] at hi
        exact hi
      · rw [q, y, if_pos rfl, if_pos rfl] at hi
        exact hi
    · have e : x5 = s 18 0 6 := by omega
      rw [e]
      exact ⟨⟨by omega, by omega⟩, ⟨by omega, by omega⟩, fun _ => hQ, fun _ => by omega⟩
  exact z28 hL (key _ 0 rfl (by omega) (by omega))
theorem ft_117 {J J' : zJ} (h : FrT J J') : Fr 117 133 J J' := fun b hb => h.1 b (by omega) (by omega)
/-- an evening with a set late, out of what is prepared -/
theorem c_late {L : Nat} {xs : Nat → Int32} (hL : L ≤ 3072) {D : Nat} {J : zJ} {K : zK} {P : zJ → zK → Prop} {C2 C3 C4 : Nat → zJ → zK → Nat → Prop} {s : zJ} (hE : EqS s J) (h : LW s) (hT : TW s) (hP : PW s) {w : Int → Int} (hPR : PR s J w) (hal : J 117 0 11 = aln s) {x : Int} (hx : 0 ≤ x ∧ x < 2147483648) (hD : 6 ≤ D) (hQ : ∀ J', Fr 117 133 J J' → (∀ k : Int, k ≠ 10 → J' 117 0 k = J 117 0 k) → J' 118 = J 118 → PR s J' w → J' 117 0 11 = aln s → CR s J' (evF s w (stl s x)) 0 [] → P J' K) : zCall L xs D 23 [zr 117, zi x] J K fun r2 e2 J2 K2 => zaV r2 e2 (zCall L xs D 24 [zr 117] J2 K2 fun r3 e3 J3 K3 => zaV r3 e3 (zCall L xs D 27 [zr 117, zi ((J3 18 0 0) - 1), zi 1] J3 K3 fun r4 e4 J4 K4 => zaV r4 e4 (P J4 K4) (C4 e4 J4 K4)) (C3 e3 J3 K3)) (C2 e2 J2 K2) := by
  refine c23 hL hE h (by omega) hx fun J2 hF2 hl2 => zaV_of ?_
  have hE2 : EqS s J2 := fun b a c => (hF2 b (by omega)).trans (hE b a c)
  have hPR2 : PR s J2 w := by
    unfold PR at hPR ⊢
    rw [hF2 117 (by decide), hF2 118 (by decide), hF2 119 (by decide)]
    exact hPR
  refine c_out hL hE2 h hT hPR2 (by omega) (st := stl s x) (fun k k0 k1 => ⟨by rw [hl2 k k0 k1]; rfl, stl_rng h hP x k0 k1⟩) fun J3 hF3 hC3 => ?_
  refine hQ J3 (fun b hb => ?_) (fun k hk => ?_) ?_ (ft_pr hPR2 hF3) ?_ hC3
  · rw [hF3.1 b (by omega) (by omega), hF2 b (by omega)]
  · rw [hF3.2 k hk, hF2 117 (by decide)]
  · rw [hF3.1 118 (by decide) (by decide), hF2 118 (by decide)]
  · rw [hF3.2 11 (by decide), hF2 117 (by decide)]
    exact hal
theorem c18 {L : Nat} {xs : Nat → Int32} (hL : L ≤ 3072) {D : Nat} {J : zJ} {K : zK} {Q : zR → Nat → zJ → zK → Prop} {s : zJ} (hE : EqS s J) (h : LW s) (hT : TW s) (hP : PW s) (hD : 9 ≤ D) (hQ : ∀ J', Fr 117 133 J J' → Q (.inl (some (zl (men s (fun p => s 49 0 p))))) 0 J' K) : zCall L xs D 18 [zr 117] J K Q := by
  obtain ⟨D, rfl⟩ : ∃ d, D = d + 1 := ⟨D - 1, by omega⟩
  have hn := lw_n h
  have h7 := pw7 hn.2.2.2.1
  have hcs := bs_lt (chb s) (s 18 0 6).toNat
  have hcs2 : 0 ≤ chs s ∧ chs s < 2 ^ (s 18 0 6).toNat := hcs
  rw [men_eq h] at hQ
  refine z18 hL ?_
  refine c20 hL hE h hT hP (by omega) fun J1 hF1 hPR1 hal1 => zaV_of ?_
  have hE1 := eqs_fr hE hF1 (by omega)
  refine c9 hL hE1 h (by omega) (zaI_of ?_)
  have key : ∀ (n : Nat) (x4 : Int) (J2 : zJ), n = (chs s + 1 - x4).toNat → 0 ≤ x4 → x4 ≤ chs s + 1 → Fr 117 133 J J2 → PR s J2 (fun p => s 49 0 p) → J2 117 0 11 = aln s → zGo L xs (D + 1) 18 14 [some (zr 117), some (zi (chs s)), some (zl (sm (mnf s (fun p => s 49 0 p)) x4.toNat)), none, some (zi x4)] [] J2 K Q := by
    intro n; induction n using Nat.strongRecOn with
    | _ n ih =>
    intro x4 J2 hm h0 h1 hF2 hPR2 hal2
    have hE2 := eqs_fr hE hF2 (by omega)
    refine z18_14 hL ?_
    by_cases hc : x4 ≤ chs s
    · have hoa := okl_and h (x := x4) h0 (by omega)
      refine ⟨⟨by omega, by omega⟩, ⟨by omega, by omega⟩, fun _ => by omega, fun _ => ⟨hoa.2, fun q => ?_, fun q => ?_⟩⟩
      · have hi := ih _ (by omega) (x4 + 1) J2 rfl (by omega) (by omega) hF2 hPR2 hal2
        rw [sm_next h0] at hi
        unfold mnf at hi
        rw [if_neg (fun y => q (hoa.1.mpr y)), Int.add_zero] at hi
        exact hi
      · have hok := hoa.1.mp q
        refine c_late hL hE2 h hT hP hPR2 hal2 (x := x4) ⟨by omega, by omega⟩ (by omega) fun J3 hF3 hf3 _ hPR3 hal3 hC3 => ?_
        have hF3' := fr_tr hF2 hF3
        have hE3 := eqs_fr hE hF3' (by omega)
        have hO := ev_okw h hP (fun p => s 49 0 p) x4
        have hr := hrm_rng h hP hO (by decide)
        refine c28 hL hE3 h (x := x4) ⟨by omega, by omega⟩ (by omega) (zaL_of ?_)
        refine c12 hL hE3 h hT hO hC3 hal3 (by omega) (zaI_of ⟨⟨by omega, by omega⟩, ?_⟩)
        have hi := ih _ (by omega) (x4 + 1) J3 rfl (by omega) (by omega) hF3' hPR3 hal3
        rw [sm_next h0] at hi
        have e : mnf s (fun p => s 49 0 p) x4 = wgt s x4 * hrm s (evF s (fun p => s 49 0 p) (stl s x4)) := by
          unfold mnf
          rw [if_pos hok]
        rw [e] at hi
        exact hi
    · have e : x4 = chs s + 1 := by omega
      subst e
      exact ⟨⟨by omega, by omega⟩, ⟨by omega, by omega⟩, fun _ => hQ J2 hF2, fun q => by omega⟩
  exact key _ 0 J1 rfl (by omega) (by omega) (fr_wk hF1 (by decide) (by decide)) hPR1 hal1
/-- the model's mean, with any waits -/
theorem c267 {L : Nat} {xs : Nat → Int32} (hL : L ≤ 3072) {D : Nat} {J : zJ} {K : zK} {Q : zR → Nat → zJ → zK → Prop} {s : zJ} (hM : ML s J) (h : LW s) (hP : PW s) (hC : ME s J) {w : Int → Int} (hD : 12 ≤ D) (hQ : ∀ J', FrG J J' → Q (.inl (some (zl (men s w)))) 0 J' K) (hw : ∀ p, 1 ≤ p → p < s 18 0 0 → J 237 0 p = w p ∧ 0 ≤ w p ∧ w p ≤ 60) : zCall L xs D 267 [zr 142] J K Q := by
  obtain ⟨D, rfl⟩ : ∃ d, D = d + 1 := ⟨D - 1, by omega⟩
  have hn := lw_n h
  have h7 := pw7 hn.2.2.2.1
  have e2 : ((2 ^ (s 18 0 6).toNat : Nat) : Int) = 2 ^ (s 18 0 6).toNat := by simp
  have key : ∀ (n : Nat) (x3 : Int) (J1 : zJ), n = ((2 : Int) ^ (s 18 0 6).toNat - x3).toNat → 0 ≤ x3 → x3 ≤ 2 ^ (s 18 0 6).toNat → FrG J J1 → zGo L xs (D + 1) 267 4 [some (zr 142), some (zl (sm (mnf s w) x3.toNat)), none, some (zi x3), none, none, none, none, none] [] J1 K Q := by
    intro n; induction n using Nat.strongRecOn with
    | _ n ih =>
    intro x3 J1 hm h0 h1 hF1
    have hM1 := ml_fm hM (fg_fm hF1)
    have hC1 := me_fm hC (fg_fm hF1)
    have em := (ml_n hM1).2.1
    refine z267_4 hL ?_
    rw [em, Int.one_mul]
    by_cases hc : x3 < 2 ^ (s 18 0 6).toNat
    · have inner : ∀ (m : Nat) (x7 : Int) (b : Bool), m = (s 18 0 6 - x7).toNat → 0 ≤ x7 → x7 ≤ s 18 0 6 → (b = true ↔ ∀ k, 0 ≤ k → k < x7 → bt x3 k = true → chb s k = true) → zGo L xs (D + 1) 267 25 [some (zr 142), some (zl (sm (mnf s w) x3.toNat)), none, some (zi x3), some (zl (pd (wgf s x3) x7.toNat)), none, some (zi (zb b)), some (zi x7), none] [] J1 K Q := by
        intro m; induction m using Nat.strongRecOn with
        | _ m ihm =>
        intro x7 b hm7 b0 b1 hb
        refine z267_25 hL ?_
        rw [em]
        simp only [bt_shz h0 (show x3 < 2147483648 by omega), zb_e1, zb_n1]
        by_cases hc7 : x7 < s 18 0 6
        · have hk := lw_k h b0 hc7
          have emk := (ml_k hM1 b0 hc7).2.2.1
          -- from the product on
          have prod : ∀ b2 : Bool, (b2 = true ↔ ∀ k, 0 ≤ k → k < x7 + 1 → bt x3 k = true → chb s k = true) → zGo L xs (D + 1) 267 80 [some (zr 142), some (zl (sm (mnf s w) x3.toNat)), none, some (zi x3), some (zl (pd (wgf s x3) x7.toNat)), none, none, some (zi x7), some (zi (zb (bt x3 x7)))] [zi (zb b2)] J1 K Q := by
            intro b2 hb2
            have hi := ihm _ (by omega) (x7 + 1) b2 rfl (by omega) (by omega) hb2
            rw [pd_next b0] at hi
            unfold wgf chb at hi
            refine z267_80 hL ?_
            rw [emk]
            refine ⟨b0, by omega, b0, by omega, by decide, by decide, ⟨by omega, by omega⟩, fun q => ?_, fun q => ⟨zin_zb _, fun y => ⟨b0, by omega, b0, by omega, by decide, by decide, ⟨by omega, by omega⟩, ?_⟩, fun y => ⟨b0, by omega, b0, by omega, by decide, by decide, ⟨by omega, by omega⟩, ?_⟩⟩⟩
            · refine z267_130 hL ?_
              rw [if_neg (by simp; omega), Int.mul_one] at hi
              exact hi
            · refine z267_127 hL (z267_130 hL ?_)
              rw [zb_0.mp y, if_pos (decide_eq_true q), if_neg (by decide)] at hi
              exact hi
            · refine z267_127 hL (z267_130 hL ?_)
              rw [zb_1.mp y, if_pos (decide_eq_true q), if_pos rfl] at hi
              exact hi
          have step : ∀ b2 : Bool, (b2 = true ↔ ∀ k, 0 ≤ k → k < x7 + 1 → bt x3 k = true → chb s k = true) ↔ (b2 = true ↔ (b = true ∧ (bt x3 x7 = true → chb s x7 = true))) := by
            intro b2
            have : (∀ k, 0 ≤ k → k < x7 + 1 → bt x3 k = true → chb s k = true) ↔ (b = true ∧ (bt x3 x7 = true → chb s x7 = true)) := by
              rw [hb]
              constructor
              · intro hh
                exact ⟨fun k k0 k1 => hh k k0 (by omega), hh x7 b0 (by omega)⟩
              · rintro ⟨h1, h2⟩ k k0 k1
                by_cases e : k = x7
                · rw [e]
                  exact h2
                · exact h1 k k0 (by omega)
            rw [this]
          have go : ∀ s0, s0 = zb (bt x3 x7) → zGo L xs (D + 1) 267 51 [some (zr 142), some (zl (sm (mnf s w) x3.toNat)), none, some (zi x3), some (zl (pd (wgf s x3) x7.toNat)), none, some (zi (zb b)), some (zi x7), none] [zi s0] J1 K Q := by
            intro s0 hs0
            subst hs0
            refine z267_51 hL ?_
            rw [emk]
            refine ⟨zin_zb _, fun q => ?_, fun q => ⟨zin_zb _, fun y => ?_, fun y => ⟨b0, by omega, b0, by omega, by decide, by decide, ⟨by omega, by omega⟩, fun z => ?_, fun z => ?_⟩⟩⟩
            · refine z267_79 hL ?_
              exact prod false ((step false).mpr ⟨fun z => (by cases z), fun z => (by rw [zb_0.mp q] at z; cases z.1)⟩)
            · refine z267_75 hL ?_
              exact prod true ((step true).mpr ⟨fun _ => ⟨zb_1.mp q, fun z => by rw [zb_0.mp y] at z; cases z⟩, fun _ => rfl⟩)
            · refine z267_79 hL ?_
              refine prod false ((step false).mpr ⟨fun v => (by cases v), fun v => ?_⟩)
              have := v.2 (zb_1.mp y)
              unfold chb at this
              simp at this
              omega
            · refine z267_75 hL ?_
              exact prod true ((step true).mpr ⟨fun _ => ⟨zb_1.mp q, fun _ => decide_eq_true z⟩, fun _ => rfl⟩)
          refine ⟨by decide, by decide, ⟨by omega, by omega⟩, ⟨by omega, by omega⟩, fun _ => by omega, fun _ => ⟨⟨by omega, by omega⟩, b0, by omega, zin_zb _, zin_1, fun q => go 0 (by rw [q]; rfl), fun q => go 1 (by rw [q]; rfl)⟩⟩
        · have e : x7 = s 18 0 6 := by omega
          subst e
          have hbo : b = okl s x3 := by
            rw [Bool.eq_iff_iff, hb, okl_t]
          refine ⟨by decide, by decide, ⟨by omega, by omega⟩, ⟨by omega, by omega⟩, fun _ => ⟨zin_zb _, fun q => z267_153 hL ?_, fun q => ?_⟩, fun _ => by omega⟩
          · have hi := ih _ (by omega) (x3 + 1) J1 rfl (by omega) (by omega) hF1
            rw [sm_next h0] at hi
            unfold mnf at hi
            rw [← hbo, zb_0.mp q, if_neg (by decide), Int.add_zero] at hi
            exact hi
          · have hO := ev_okw h hP w x3
            have hr := hrm_rng h hP hO (by decide)
            refine c236 hL hM1 h hP hC1 (w := w) (by omega) ⟨by omega, by omega⟩ (fun p p0 p1 => by rw [hF1.1 237 (by decide) (by decide)]; exact hw p p0 p1) fun J2 hF2 => zaI_of ⟨⟨by omega, by omega⟩, z267_153 hL ?_⟩
            have hi := ih _ (by omega) (x3 + 1) J2 rfl (by omega) (by omega) (fg_tr hF1 hF2)
            rw [sm_next h0] at hi
            have e9 : mnf s w x3 = wgt s x3 * hrm s (evF s w (stl s x3)) := by
              unfold mnf
              rw [← hbo, zb_1.mp q, if_pos rfl]
            rw [e9] at hi
            exact hi
      refine ⟨by decide, by decide, by omega, by omega, ⟨by omega, by omega⟩, ⟨by omega, by omega⟩, fun _ => by omega, fun _ => ?_⟩
      exact inner _ 0 true rfl (by omega) (by omega) ⟨fun _ k k0 k1 => by omega, fun _ => rfl⟩
    · have e : x3 = 2 ^ (s 18 0 6).toNat := by omega
      have e3 : x3.toNat = 2 ^ (s 18 0 6).toNat := by omega
      rw [e3]
      exact ⟨by decide, by decide, by omega, by omega, ⟨by omega, by omega⟩, ⟨by omega, by omega⟩, fun _ => hQ J1 hF1, fun _ => by omega⟩
  exact z267 hL (key _ 0 J rfl (by omega) (by omega) (fg_rfl J))
theorem op25 {G : zJ → zK → Prop} (hG : GOk G) : OpL (Inv G) 163 266 := by
  intro L xs D J K hL hD hI; obtain ⟨⟨hW, hT, hP, hM, hC, hTp, hF, hIm⟩, hg⟩ := id hI; have hE := eqs_rfl J; have hn := lw_n hW; have hpn := pw_n hP
  obtain ⟨D, rfl⟩ : ∃ d, D = d + 1 := ⟨D - 1, by omega⟩
  refine z163 hL ?_
  refine c18 hL hE hW hT hP (by omega) fun J1 hF1 => zaL_of ⟨_, rfl, rfl, ?_⟩
  have f1 : FrC J J1 := fc_fr (fc_rfl J) hF1 (by decide)
  have f2 := fm_t J1 0
  have hM1 := ml_fm (ml_fc hM f1) f2
  have hC2 := mc_fm (mc_fc hC f1) f2
  refine z266 hL ?_
  refine c267 hL hM1 hW hP (me_of hC2) (by omega) (fun J2 hF2 => zaL_of ⟨rfl, rfl, ?_⟩) (mw_ok hW hP hC2)
  exact inv_q hG hI f1 (fm_tr f2 (fg_fm hF2)) rfl
