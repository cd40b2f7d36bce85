/-! WHAT ONE LATE PORTION SPOILS -/
def sta (s : zJ) (a m k : Int) : Int := s 51 0 k + (if k = a then m else 0)
def spf (s : zJ) (a m x : Int) (p : Int) : Int := if p = a then 0 else if rch s (evF s (fun p => s 49 0 p) (sta s a m)) p - rch s (evF s (fun p => s 49 0 p) (stl s 0)) p ≤ 0 then 0 else if x = 0 then 1 else rch s (evF s (fun p => s 49 0 p) (sta s a m)) p - rch s (evF s (fun p => s 49 0 p) (stl s 0)) p
theorem sta_rng {s : zJ} (hW : LW s) (hP : PW s) {a m : Int} (m0 : 0 ≤ m) (m1 : m ≤ 240) {k : Int} (k0 : 0 ≤ k) (k1 : k < s 18 0 6) : 0 ≤ sta s a m k ∧ sta s a m k ≤ 2000 := by
  have hn := lw_n hW
  have h1 := pw_e hP k0 (by omega)
  unfold sta
  split <;> omega
theorem bt_z (k : Int) : bt 0 k = false := by
  unfold bt
  simp
theorem stl_0 (s : zJ) (k : Int) : stl s 0 k = s 51 0 k := by
  unfold stl
  rw [bt_z]
  simp
theorem spf_rng {s : zJ} (hW : LW s) (hP : PW s) {a m x p : Int} (m0 : 0 ≤ m) (m1 : m ≤ 240) (p0 : 0 ≤ p) (p1 : p < s 18 0 6) : 0 ≤ spf s a m x p ∧ spf s a m x p ≤ 13000 := by
  have h1 := rch_rng (evF_ok hW (w := fun p => s 49 0 p) (st := sta s a m) fun k k0 k1 => sta_rng hW hP (a := a) m0 m1 k0 k1) p0 p1
  have h2 := rch_rng (ev_ok hW hP 0) p0 p1
  unfold spf
  split
  · omega
  · split
    · omega
    · split <;> omega
theorem sm_le {f : Int → Int} {c : Int} : ∀ {n : Nat}, (∀ i : Int, 0 ≤ i → i < n → 0 ≤ f i ∧ f i ≤ c) → 0 ≤ sm f n ∧ sm f n ≤ n * c
  | 0, _ => by simp [sm]
  | n + 1, h => by
    have h1 := sm_le (n := n) fun i h0 h1 => h i h0 (by omega)
    have h2 := h n (by omega) (by omega)
    rw [sm]
    have e : ((n + 1 : Nat) : Int) * c = n * c + c := by
      have : ((n + 1 : Nat) : Int) = n + 1 := by omega
      rw [this, Int.add_mul, Int.one_mul]
    omega
theorem c25 {L : Nat} {xs : Nat → Int32} (hL : L ≤ 3072) {D : Nat} {J : zJ} {K : zK} {Q : zR → Nat → zJ → zK → Prop} {s : zJ} (hE : EqS s J) (h : LW s) (hT : TW s) (hP : PW s) {a m x : Int} (hD : 10 ≤ D) (a0 : 0 ≤ a) (a1 : a < s 18 0 6) (m0 : 0 ≤ m) (m1 : m ≤ 240) (hx : x = 0 ∨ x = 1) (hQ : ∀ J', Fr 117 135 J J' → Q (.inl (some (zi (sm (spf s a m x) (s 18 0 6).toNat)))) 0 J' K) : zCall L xs D 25 [zr 117, zi a, zi m, zi x] J K Q := by
  obtain ⟨D, rfl⟩ : ∃ d, D = d + 1 := ⟨D - 1, by omega⟩
  have hn := lw_n h
  have hO := ev_ok h hP 0
  have hO2 := evF_ok h (w := fun p => s 49 0 p) (st := sta s a m) fun k k0 k1 => sta_rng h hP m0 m1 k0 k1
  refine z25 hL ?_
  refine c19 hL hE h hT hP (by omega) (by decide) fun J1 hF1 hPR1 hal1 hlt1 hC1 => zaV_of ?_
  have key : ∀ (n : Nat) (x4 : Int) (J2 : zJ), n = (s 18 0 6 - x4).toNat → 0 ≤ x4 → x4 ≤ s 18 0 6 → (∀ b : Nat, b ≠ 135 → J2 b = J1 b) → (∀ k : Int, 0 ≤ k → k < x4 → J2 135 0 k = rch s (evF s (fun p => s 49 0 p) (stl s 0)) k) → zGo L xs (D + 1) 25 8 [some (zr 117), some (zi a), some (zi m), some (zi x), some (zi x4), none, none] [] J2 K Q := by
    intro n; induction n using Nat.strongRecOn with
    | _ n ih =>
    intro x4 J2 hm h0 h1 hF2 hu2
    have hE2 : EqS s J2 := fun b p q => by rw [hF2 b (by omega), hF1 b (by omega)]; exact hE b p q
    have hC2 : CR s J2 (evF s (fun p => s 49 0 p) (stl s 0)) 0 [] := cr_eq hC1 (hF2 _ (by decide)) (hF2 _ (by decide)) (hF2 _ (by decide)) (hF2 _ (by decide)) (hF2 _ (by decide))
    refine z25_8 hL ?_
    rw [hE2 18 (by decide) (by decide)]
    by_cases hc : x4 < s 18 0 6
    · refine ⟨⟨by omega, by omega⟩, ⟨by omega, by omega⟩, fun _ => by omega, fun _ => ?_⟩
      refine c21 hL hE2 h hO hC2 (by omega) h0 hc (zaI_of ⟨by omega, by omega, ?_⟩)
      refine ih _ (by omega) (x4 + 1) _ rfl (by omega) (by omega) (fun b hb => by rw [zup_ne _ _ _ _ hb]; exact hF2 b hb) fun k k0 k1 => ?_
      rw [zup_at]
      by_cases e : k = x4
      · rw [if_pos ⟨rfl, rfl, e⟩, e]
      · rw [if_neg (fun z => e z.2.2)]
        exact hu2 k k0 (by omega)
    · have e : x4 = s 18 0 6 := by omega
      subst e
      refine ⟨⟨by omega, by omega⟩, ⟨by omega, by omega⟩, fun _ => ⟨by omega, by omega, ?_⟩, fun q => by omega⟩
      have hE3 : EqS s (zup J2 120 0 a m) := fun b p q => by rw [zup_ne _ _ _ _ (by omega)]; exact hE2 b p q
      have hPR3 : PR s (zup J2 120 0 a m) (fun p => s 49 0 p) := by
        unfold PR at hPR1 ⊢
        rw [zup_ne _ _ _ _ (by decide), zup_ne _ _ _ _ (by decide), zup_ne _ _ _ _ (by decide), hF2 117 (by decide), hF2 118 (by decide), hF2 119 (by decide)]
        exact hPR1
      refine c_out hL hE3 h hT hPR3 (by omega) (st := sta s a m) (fun k k0 k1 => ⟨?_, sta_rng h hP m0 m1 k0 k1⟩) fun J4 hF4 hC4 => ?_
      · rw [zup_at]
        unfold sta
        by_cases e : k = a
        · rw [if_pos ⟨rfl, rfl, e⟩, if_pos e]
        · rw [if_neg (fun z => e z.2.2), if_neg e, hF2 120 (by decide), hlt1 k k0 k1, bt_z]
          simp
      have hE4 := ft_eqs hE3 hF4
      have hu4 : ∀ k : Int, 0 ≤ k → k < s 18 0 6 → J4 135 0 k = rch s (evF s (fun p => s 49 0 p) (stl s 0)) k := fun k k0 k1 => by
        rw [hF4.1 135 (by decide) (by decide), zup_ne _ _ _ _ (by decide)]
        exact hu2 k k0 k1
      have hF4' : Fr 117 135 J J4 := fun b hb => by rw [hF4.1 b (by omega) (by omega), zup_ne _ _ _ _ (by omega), hF2 b (by omega), hF1 b (by omega)]
      have last : ∀ (n : Nat) (x5 : Int), n = (s 18 0 6 - x5).toNat → 0 ≤ x5 → x5 ≤ s 18 0 6 → zGo L xs (D + 1) 25 70 [some (zr 117), some (zi a), none, some (zi x), some (zi (sm (spf s a m x) x5.toNat)), some (zi x5), none] [] J4 K Q := by
        intro n; induction n using Nat.strongRecOn with
        | _ n ih =>
        intro x5 hm h0 h1
        refine z25_70 hL ?_
        rw [hE4 18 (by decide) (by decide)]
        by_cases hc : x5 < s 18 0 6
        · have r1 := rch_rng hO h0 hc
          have r2 := rch_rng hO2 h0 hc
          have hi := ih _ (by omega) (x5 + 1) rfl (by omega) (by omega)
          rw [sm_next h0] at hi
          unfold spf at hi
          refine ⟨⟨by omega, by omega⟩, ⟨by omega, by omega⟩, fun _ => by omega, fun _ => ?_⟩
          refine c21 hL hE4 h hO2 hC4 (by omega) h0 hc (zaI_of ?_)
          rw [hu4 x5 h0 hc]
          refine ⟨by omega, by omega, ⟨by omega, by omega⟩, ⟨by omega, by omega⟩, fun q => ?_, fun q => ⟨⟨by omega, by omega⟩, fun q2 => ?_, fun q2 => ⟨?_, fun q3 => ?_, fun q3 => ?_⟩⟩⟩
          · rw [if_pos q, Int.add_zero] at hi
            exact hi
          · rw [if_neg q, if_pos q2, Int.add_zero] at hi
            exact hi
          · rcases hx with z | z <;> rw [z] <;> first | exact zin_0 | exact zin_1
          · rw [if_neg q, if_neg (by omega), if_pos q3] at hi
            exact hi
          · rw [if_neg q, if_neg (by omega), if_neg q3] at hi
            exact hi
        · have e : x5 = s 18 0 6 := by omega
          subst e
          exact ⟨⟨by omega, by omega⟩, ⟨by omega, by omega⟩, fun _ => hQ J4 hF4', fun q => by omega⟩
      exact last _ 0 rfl (by decide) (by omega)
  exact key _ 0 J1 rfl (by decide) (by omega) (fun _ _ => rfl) (fun k k0 k1 => by omega)
theorem op28 {G : zJ → zK → Prop} (hG : GOk G) : ∀ a b c : Int, zin a → zin b → zin c → OpW (Inv G) 346 7 182 295 zin [zi a, zi b, zi c] := by
  intro a b c ha hb hcc
  intro L xs D D2 J K hL hD hD2 hI; obtain ⟨⟨hW, hT, hP, hM, hC, hTp, hF, hIm⟩, hg⟩ := id hI; have hE := eqs_rfl J; have hn := lw_n hW; have hpn := pw_n hP
  obtain ⟨D, rfl⟩ : ∃ d, D = d + 1 := ⟨D - 1, by omega⟩
  obtain ⟨D2, rfl⟩ : ∃ d, D2 = d + 1 := ⟨D2 - 1, by omega⟩
  have bad : ¬ (0 ≤ a ∧ a < J 18 0 6 ∧ 0 ≤ b ∧ b ≤ 240 ∧ 0 ≤ c ∧ c ≤ 1) → zCall L xs (D2 + 1) 295 [zr 142, zi a, zi b, zi c] J K fun r2 e2 J2 K2 => (∃ v2, r2 = .inl (some (zi v2)) ∧ zin v2) ∧ e2 = 0 ∧ J2 142 0 0 = 1 ∧ Inv G J2 K2 := by
    intro hc
    have hM0 := ml_fm hM (fm_t J 0)
    have t0 : zup J 142 0 0 0 142 0 0 = 0 := zup_eq _ _ _ _ _
    have fin := fin_x hG hI (fc_rfl J) (fm_t2 J 0 1) rfl (zup_eq _ _ _ _ _) 0 zin_0
    refine z295 hL ?_
    refine c249 hL hM0 hW (by omega) ha (zaI_of ⟨zin_zb _, fun q => ?_, fun q => ?_⟩)
    · exact c195T hL (by omega) t0 (by decide) (zaI_of ⟨zin_1, fun q => absurd q (by decide), fun _ => fin⟩)
    · refine c240 hL (by omega) hb zin_0 ⟨by omega, by omega⟩ (zaI_of ⟨zin_zb _, fun q2 => ?_, fun q2 => ?_⟩)
      · exact c195T hL (by omega) t0 (by decide) (zaI_of ⟨zin_1, fun q => absurd q (by decide), fun _ => fin⟩)
      · refine c240 hL (by omega) hcc zin_0 zin_1 (zaI_of ⟨zin_zb _, fun q3 => ?_, fun q3 => ?_⟩)
        · rw [zb_1, decide_eq_true_iff] at q q2 q3
          omega
        · exact c195T hL (by omega) t0 (by decide) (zaI_of ⟨zin_1, fun q => absurd q (by decide), fun _ => fin⟩)
  have good : 0 ≤ a → a < J 18 0 6 → 0 ≤ b → b ≤ 240 → c = 0 ∨ c = 1 → ∀ J1 : zJ, Fr 117 135 J J1 → ∀ x : Int, zCall L xs (D2 + 1) 295 [zr 142, zi a, zi b, zi c] J1 (zku K 561 0 x) fun r2 e2 J2 K2 => r2 = .inl (some (zi (sm (spf J a b c) (J 18 0 6).toNat))) ∧ e2 = 0 ∧ J2 142 0 0 = 0 ∧ K2 561 0 = x ∧ Inv G J2 K2 := by
    intro h0 h1 g0 g1 hx J1 hF1 x
    have f1 : FrC J J1 := fc_fr (fc_rfl J) hF1 (by decide)
    have f2 := fm_t J1 0
    have hM1 := ml_fm (ml_fc hM f1) f2
    have hC2 := mc_fm (mc_fc hC f1) f2
    have t0 : zup J1 142 0 0 0 142 0 0 = 0 := zup_eq _ _ _ _ _
    refine z295 hL ?_
    refine c249 hL hM1 hW (by omega) ha (zaI_of ⟨zin_zb _, fun q => by rw [zb_0, decide_eq_false_iff_not] at q; omega, fun _ => ?_⟩)
    refine c240 hL (by omega) hb zin_0 ⟨by omega, by omega⟩ (zaI_of ⟨zin_zb _, fun q => by rw [zb_0, decide_eq_false_iff_not] at q; omega, fun _ => ?_⟩)
    refine c240 hL (by omega) hcc zin_0 zin_1 (zaI_of ⟨zin_zb _, fun _ => ?_, fun q => by rw [zb_0, decide_eq_false_iff_not] at q; omega⟩)
    refine c195F hL (by omega) t0 (zaI_of ⟨zin_0, fun _ => ?_, fun q => absurd rfl q⟩)
    refine c229 hL hM1 hW hP (me_of hC2) (by omega) (by decide) (mw_ok hW hP hC2) fun J2 hF2 _ hre => zaV_of ?_
    have f3 : FrM J1 J2 := fm_tr f2 (fg_fm hF2)
    have t2 : J2 142 0 0 = 0 := by rw [hF2.2 0 (by decide) (by decide)]; exact t0
    have hO := ev_ok hW hP 0
    have hO2 := evF_ok hW (w := fun p => J 49 0 p) (st := sta J a b) fun k k0 k1 => sta_rng hW hP g0 g1 k0 k1
    have e144 : ∀ J' : zJ, FrM J1 J' → J' 144 0 1 = J 18 0 6 := fun J' hF => (ml_fm (ml_fc hM f1) hF).1.2.1
    have k1 : ∀ (n : Nat) (x4 : Int) (J3 : zJ), n = (J 18 0 6 - x4).toNat → 0 ≤ x4 → x4 ≤ J 18 0 6 → (∀ d : Nat, d ≠ 556 → J3 d = J2 d) → (∀ k : Int, 0 ≤ k → k < x4 → J3 556 0 k = rch J (evF J (fun p => J 49 0 p) (stl J 0)) k) → (∀ J4 : zJ, (∀ d : Nat, d ≠ 556 → J4 d = J2 d) → (∀ k : Int, 0 ≤ k → k < J 18 0 6 → J4 556 0 k = rch J (evF J (fun p => J 49 0 p) (stl J 0)) k) → zGo L xs (D2 + 1) 295 90 [some (zr 142), some (zi a), some (zi b), some (zi c), some (zi 0), none] [] J4 (zku K 561 0 x) fun r2 e2 J2 K2 => r2 = .inl (some (zi (sm (spf J a b c) (J 18 0 6).toNat))) ∧ e2 = 0 ∧ J2 142 0 0 = 0 ∧ K2 561 0 = x ∧ Inv G J2 K2) → zGo L xs (D2 + 1) 295 56 [some (zr 142), some (zi a), some (zi b), some (zi c), some (zi x4), none] [] J3 (zku K 561 0 x) fun r2 e2 J2 K2 => r2 = .inl (some (zi (sm (spf J a b c) (J 18 0 6).toNat))) ∧ e2 = 0 ∧ J2 142 0 0 = 0 ∧ K2 561 0 = x ∧ Inv G J2 K2 := by
      intro n; induction n using Nat.strongRecOn with
      | _ n ih =>
      intro x4 J3 hm a0 a1 hF3 hu3 hQ
      refine z295_56 hL ?_
      rw [hF3 144 (by decide), e144 J2 f3]
      by_cases hc : x4 < J 18 0 6
      · refine ⟨by decide, by decide, ⟨by omega, by omega⟩, ⟨by omega, by omega⟩, fun _ => by omega, fun _ => ⟨by omega, by omega, by omega, by omega, ?_⟩⟩
        refine ih _ (by omega) (x4 + 1) _ rfl (by omega) (by omega) (fun d hd => by rw [zup_ne _ _ _ _ hd]; exact hF3 d hd) (fun k k0 k1 => ?_) hQ
        rw [zup_at]
        by_cases e : k = x4
        · rw [if_pos ⟨rfl, rfl, e⟩, e, hF3 554 (by decide)]
          exact hre x4 a0 hc
        · rw [if_neg (fun z => e z.2.2)]
          exact hu3 k k0 (by omega)
      · have e : x4 = J 18 0 6 := by omega
        subst e
        exact ⟨by decide, by decide, ⟨by omega, by omega⟩, ⟨by omega, by omega⟩, fun _ => hQ J3 hF3 hu3, fun q => by omega⟩
    refine k1 _ 0 J2 rfl (by decide) (by omega) (fun _ _ => rfl) (fun k k0 k1 => by omega) ?_
    intro J4 hF4 hu4
    have k2 : ∀ (n : Nat) (x4 : Int) (J5 : zJ), n = (J 18 0 6 - x4).toNat → 0 ≤ x4 → x4 ≤ J 18 0 6 → (∀ d : Nat, d ≠ 553 → J5 d = J4 d) → (∀ k : Int, 0 ≤ k → k < x4 → J5 553 0 k = J 51 0 k) → zGo L xs (D2 + 1) 295 90 [some (zr 142), some (zi a), some (zi b), some (zi c), some (zi x4), none] [] J5 (zku K 561 0 x) fun r2 e2 J2 K2 => r2 = .inl (some (zi (sm (spf J a b c) (J 18 0 6).toNat))) ∧ e2 = 0 ∧ J2 142 0 0 = 0 ∧ K2 561 0 = x ∧ Inv G J2 K2 := by
      intro n; induction n using Nat.strongRecOn with
      | _ n ih =>
      intro x4 J5 hm a0 a1 hF5 hs5
      refine z295_90 hL ?_
      rw [hF5 144 (by decide), hF4 144 (by decide), e144 J2 f3]
      by_cases hc : x4 < J 18 0 6
      · refine ⟨by decide, by decide, ⟨by omega, by omega⟩, ⟨by omega, by omega⟩, fun _ => by omega, fun _ => ⟨by omega, by omega, by omega, by omega, ?_⟩⟩
        refine ih _ (by omega) (x4 + 1) _ rfl (by omega) (by omega) (fun d hd => by rw [zup_ne _ _ _ _ hd]; exact hF5 d hd) (fun k k0 k1 => ?_)
        rw [zup_at]
        by_cases e : k = x4
        · rw [if_pos ⟨rfl, rfl, e⟩, e, hF5 238 (by decide), hF4 238 (by decide)]
          exact (mc_k (mc_fm (mc_fc hC f1) f3) a0 hc).1
        · rw [if_neg (fun z => e z.2.2)]
          exact hs5 k k0 (by omega)
      · have e : x4 = J 18 0 6 := by omega
        subst e
        refine ⟨by decide, by decide, ⟨by omega, by omega⟩, ⟨by omega, by omega⟩, fun _ => ⟨by omega, by omega, by omega, by omega, ?_⟩, fun q => by omega⟩
        rw [hs5 a h0 h1]
        have n6 : ∀ d : Nat, d ≠ 553 → d ≠ 556 → zup J5 553 0 a (J 51 0 a + b) d = J2 d := fun d p q => by rw [zup_ne _ _ _ _ p, hF5 d p, hF4 d q]
        have f6 : FrM J1 (zup J5 553 0 a (J 51 0 a + b)) := by
          refine ⟨fun d p q => by rw [n6 d (by omega) (by omega)]; exact f3.1 d p q, ?_⟩
          rw [n6 142 (by decide) (by decide)]
          exact f3.2
        have hM6 := ml_fm (ml_fc hM f1) f6
        have hC6 := mc_fm (mc_fc hC f1) f6
        refine c228 hL hM6 hW (w := fun p => J 49 0 p) (st := sta J a b) (by omega) (fun k k0 k1 => ⟨?_, sta_rng hW hP g0 g1 k0 k1⟩) (mw_ok hW hP hC6) (fun p p0 p1 => (mc_p hC6 (by omega) (by omega)).1) fun J7 hF7 _ hr7 => zaV_of ?_
        · rw [zup_at]
          unfold sta
          by_cases e : k = a
          · rw [if_pos ⟨rfl, rfl, e⟩, if_pos e, e]
          · rw [if_neg (fun z => e z.2.2), if_neg e, hs5 k k0 k1, Int.add_zero]
        have f7 : FrM J1 J7 := fm_tr f6 (fg_fm hF7)
        have u7 : ∀ k : Int, 0 ≤ k → k < J 18 0 6 → J7 556 0 k = rch J (evF J (fun p => J 49 0 p) (stl J 0)) k := fun k k0 k1 => by
          rw [hF7.1 556 (by decide) (by decide), zup_ne _ _ _ _ (by decide), hF5 556 (by decide)]
          exact hu4 k k0 k1
        have t7 : J7 142 0 0 = 0 := by rw [hF7.2 0 (by decide) (by decide), n6 142 (by decide) (by decide)]; exact t2
        have last : ∀ (n : Nat) (x5 : Int), n = (J 18 0 6 - x5).toNat → 0 ≤ x5 → x5 ≤ J 18 0 6 → zGo L xs (D2 + 1) 295 141 [some (zr 142), some (zi a), none, some (zi c), some (zi (sm (spf J a b c) x5.toNat)), some (zi x5)] [] J7 (zku K 561 0 x) fun r2 e2 J2 K2 => r2 = .inl (some (zi (sm (spf J a b c) (J 18 0 6).toNat))) ∧ e2 = 0 ∧ J2 142 0 0 = 0 ∧ K2 561 0 = x ∧ Inv G J2 K2 := by
          intro n; induction n using Nat.strongRecOn with
          | _ n ih =>
          intro x5 hm a0 a1
          refine z295_141 hL ?_
          rw [e144 J7 f7]
          by_cases hc : x5 < J 18 0 6
          · have r1 := rch_rng hO a0 hc
            have r2 := rch_rng hO2 a0 hc
            have hi := ih _ (by omega) (x5 + 1) rfl (by omega) (by omega)
            rw [sm_next a0] at hi
            unfold spf at hi
            rw [u7 x5 a0 hc, hr7 x5 a0 hc]
            refine ⟨by decide, by decide, ⟨by omega, by omega⟩, ⟨by omega, by omega⟩, fun _ => by omega, fun _ => ⟨⟨by omega, by omega⟩, ⟨by omega, by omega⟩, fun q => ?_, fun q => ⟨by omega, by omega, by omega, by omega, ⟨by omega, by omega⟩, ⟨by omega, by omega⟩, fun q2 => ?_, fun q2 => ⟨hcc, fun q3 => ⟨by omega, by omega, by omega, by omega, ?_⟩, fun q3 => ?_⟩⟩⟩⟩
            · rw [if_pos q, Int.add_zero] at hi
              exact hi
            · rw [if_neg q, if_pos (by omega), Int.add_zero] at hi
              exact hi
            · rw [if_neg q, if_neg (by omega), if_neg q3] at hi
              exact hi
            · rw [if_neg q, if_neg (by omega), if_pos q3] at hi
              exact hi
          · have e : x5 = J 18 0 6 := by omega
            subst e
            exact ⟨by decide, by decide, ⟨by omega, by omega⟩, ⟨by omega, by omega⟩, fun _ => ⟨rfl, rfl, t7, zku_o K x, inv_q hG hI f1 f7 (zku_n _ _ (by decide))⟩, fun q => by omega⟩
        exact last _ 0 rfl (by decide) (by omega)
    exact k2 _ 0 J4 rfl (by decide) (by omega) (fun _ _ => rfl) (fun k k0 k1 => by omega)
  have run : 0 ≤ a → a < J 18 0 6 → 0 ≤ b → b ≤ 240 → c = 0 ∨ c = 1 → zin (sm (spf J a b c) (J 18 0 6).toNat) := by
    intro h0 h1 g0 g1 hx
    have := sm_le (f := spf J a b c) (c := 13000) (n := (J 18 0 6).toNat) fun i i0 i1 => spf_rng hW hP g0 g1 i0 (by omega)
    exact ⟨by omega, by omega⟩
  refine z182 hL ?_
  refine c167 hL hE hW (by omega) ha (fun h0 h1 => zaV_of ?_) fun hc => zaV_ex (Or.inr ⟨0, 1, rfl, rfl, zonb_ok (by decide +kernel), by decide, by decide, ?_⟩)
  · refine ⟨hb, fun _ => ⟨by omega, Or.inr ⟨0, 1, rfl, rfl, zonb_ok (by decide +kernel), by decide, by decide, ?_⟩⟩, fun g0 => ⟨hb, ⟨by omega, by omega⟩, fun g1 => ⟨hcc, fun q => ⟨hcc, zin_1, fun q2 => ?_, fun q2 => ?_⟩, fun q => ⟨hcc, zin_1, fun q2 => ⟨hcc, zin_1, fun q3 => ?_, fun q3 => ?_⟩, fun q2 => ⟨by omega, Or.inr ⟨0, 1, rfl, rfl, zonb_ok (by decide +kernel), by decide, by decide, ?_⟩⟩⟩⟩, fun _ => ⟨by omega, Or.inr ⟨0, 1, rfl, rfl, zonb_ok (by decide +kernel), by decide, by decide, ?_⟩⟩⟩⟩
    · exact bad (by omega)
    · subst q
      exact c25 hL hE hW hT hP (by omega) h0 h1 g0 g1 (Or.inl rfl) fun J1 hF1 => zaI_of (Or.inl ⟨_, rfl, rfl, run h0 h1 g0 g1 (Or.inl rfl), good h0 h1 g0 g1 (Or.inl rfl) J1 hF1⟩)
    · omega
    · omega
    · subst q3
      exact c25 hL hE hW hT hP (by omega) h0 h1 g0 g1 (Or.inr rfl) fun J1 hF1 => zaI_of (Or.inl ⟨_, rfl, rfl, run h0 h1 g0 g1 (Or.inr rfl), good h0 h1 g0 g1 (Or.inr rfl) J1 hF1⟩)
    · exact bad (by omega)
    · exact bad (by omega)
  · exact bad (by omega)
