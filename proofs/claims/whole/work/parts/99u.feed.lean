/-! FEED -/
def sg (v : Int) : Int := if v < 128 then v else v - 256
theorem zi2b_ok (y : Int) : zi2b y = sg (y % 256) := by
  unfold zi2b sg
  rw [Int8.toInt_toInt32, Int32.toInt_toInt8, Int32.toInt_ofInt]
  have e1 : Int32.size = 4294967296 := rfl
  have e2 : (2 : Nat) ^ 8 = 256 := rfl
  rw [e1, e2]
  unfold Int.bmod
  simp only
  omega
theorem zbyte_ok (y : Int) : zbyte (zi2b y) = sg (y % 256) := by
  have h : zbyte (zi2b y) = zi2b (zi2b y) := rfl
  rw [h, zi2b_ok, zi2b_ok]
  unfold sg
  omega
theorem zand_255 {z : Int} : zand z 255 = z % 256 := by
  have h : zand z 255 = zand (z % 4294967296) 255 := by
    unfold zand
    rw [ofInt_mod (x := z) (y := z % 4294967296) (by omega)]
  have h2 : zand (z % 4294967296) 255 = z % 4294967296 % 256 := by
    unfold zand
    rw [zo_n (by omega), zo_n (by decide), zo_and]
    have e : (255 : Int).toNat = 2 ^ 8 - 1 := by decide
    rw [e, Nat.and_two_pow_sub_one_eq_mod, zo_t (by omega)]
    omega
  rw [h, h2]
  omega
/-- a byte of an int -/
def byt (x sh : Int) : Int := x / 2 ^ sh.toNat % 256
theorem byt_rng (x sh : Int) : 0 ≤ byt x sh ∧ byt x sh < 256 := by
  unfold byt
  omega
theorem byt_u {x sh : Int} (h : sh = 24 ∨ sh = 16 ∨ sh = 8 ∨ sh = 0) : x % 4294967296 / 2 ^ sh.toNat % 256 = byt x sh := by
  unfold byt
  rcases h with z | z | z | z <;> subst z
  · have e : (2 : Int) ^ (24 : Int).toNat = 16777216 := by decide
    rw [e]
    omega
  · have e : (2 : Int) ^ (16 : Int).toNat = 65536 := by decide
    rw [e]
    omega
  · have e : (2 : Int) ^ (8 : Int).toNat = 256 := by decide
    rw [e]
    omega
  · have e : (2 : Int) ^ (0 : Int).toNat = 1 := by decide
    rw [e]
    omega
/-- the tape of the class from T on -/
def Tpd (J J' : zJ) (T m : Int) (g : Int → Int) : Prop := (∀ b : Nat, b ≠ 0 → b ≠ 1 → J' b = J b) ∧ (∀ k : Int, k ≠ 1 → J' 0 0 k = J 0 0 k) ∧ J' 0 0 1 = T + m ∧ (∀ k : Int, 0 ≤ k → k < T → J' 1 0 k = J 1 0 k) ∧ ∀ k : Int, 0 ≤ k → k < m → J' 1 0 (T + k) = sg (g k)
theorem c183 {L : Nat} {xs : Nat → Int32} (hL : L ≤ 3072) {D : Nat} {J : zJ} {K : zK} {Q : zR → Nat → zJ → zK → Prop} {x T : Int} (hT : J 0 0 1 = T) (T0 : 0 ≤ T) (T1 : T + 4 ≤ 500) (hD : 1 ≤ D) (hQ : ∀ J' : zJ, Tpd J J' T 4 (fun k => byt x (24 - 8 * k)) → Q (.inl none) 0 J' K) : zCall L xs D 183 [zr 0, zi x] J K Q := by
  obtain ⟨D, rfl⟩ : ∃ d, D = d + 1 := ⟨D - 1, by omega⟩
  refine z183 hL ?_
  have key : ∀ (n : Nat) (k : Int) (J1 : zJ), n = (4 - k).toNat → 0 ≤ k → k ≤ 4 → Tpd J J1 T k (fun k => byt x (24 - 8 * k)) → zGo L xs (D + 1) 183 3 [some (zr 0), some (zi x), some (zi (24 - 8 * k))] [] J1 K Q := by
    intro n; induction n using Nat.strongRecOn with
  | _ n ih =>
    intro k J1 hm h0 h1 hp
    obtain ⟨p1, p2, p3, p4, p5⟩ := id hp
    refine z183_3 hL ⟨⟨by omega, by omega⟩, fun q => ?_, fun q => ?_⟩
    · have e : k = 4 := by omega
      subst e
      exact hQ J1 hp
    · rw [p3, zbyte_ok, byt_u (by omega)]
      have e : 24 - 8 * k + -8 = 24 - 8 * (k + 1) := by omega
      rw [e]
      refine ⟨q, by omega, by omega, by omega, ih _ (by omega) (k + 1) _ rfl (by omega) (by omega) ⟨fun b b1 b2 => ?_, fun j hj => ?_, ?_, fun j j0 j1 => ?_, fun j j0 j1 => ?_⟩⟩
      · rw [zup_ne _ _ _ _ b1, zup_ne _ _ _ _ b2]
        exact p1 b b1 b2
      · rw [zup_nk _ _ hj, zup_ne _ _ _ _ (by decide)]
        exact p2 j hj
      · rw [zup_eq]
        omega
      · rw [zup_ne _ _ _ _ (by decide), zup_nk _ _ (by omega)]
        exact p4 j j0 j1
      · rw [zup_ne _ _ _ _ (by decide)]
        by_cases e : j = k
        · rw [e, zup_eq]
        · rw [zup_nk _ _ (by omega)]
          exact p5 j j0 (by omega)
  exact key _ 0 J rfl (by decide) (by decide) ⟨fun _ _ _ => rfl, fun _ _ => rfl, by omega, fun _ _ _ => rfl, fun j j0 j1 => by omega⟩
theorem tpd_add {J J1 J2 : zJ} {T m n : Int} {g g2 : Int → Int} (m0 : 0 ≤ m) (T0 : 0 ≤ T) (h1 : Tpd J J1 T m g) (h2 : Tpd J1 J2 (T + m) n g2) : Tpd J J2 T (m + n) (fun k => if k < m then g k else g2 (k - m)) := by
  obtain ⟨p1, p2, p3, p4, p5⟩ := h1
  obtain ⟨q1, q2, q3, q4, q5⟩ := h2
  refine ⟨fun b b1 b2 => (q1 b b1 b2).trans (p1 b b1 b2), fun k hk => (q2 k hk).trans (p2 k hk), by omega, fun k k0 k1 => (q4 k k0 (by omega)).trans (p4 k k0 k1), fun k k0 k1 => ?_⟩
  by_cases e : k < m
  · simp only [e, if_true]
    rw [q4 (T + k) (by omega) (by omega)]
    exact p5 k k0 e
  · simp only [e, if_false]
    have := q5 (k - m) (by omega) (by omega)
    have e2 : T + m + (k - m) = T + k := by omega
    rw [e2] at this
    exact this
def fdg (a b c d e k : Int) : Int := byt (if k < 4 then a else if k < 8 then b else if k < 12 then c else if k < 16 then d else e) (24 - 8 * (k % 4))
theorem inv_t {G : zJ → zK → Prop} (hG : GOk G) {J J2 : zJ} {K : zK} (h : Inv G J K) (e1 : ∀ b : Nat, b ≠ 0 → b ≠ 1 → b ≠ 142 → b ≠ 143 → J2 b = J b) (e0 : ∀ k : Int, k ≠ 1 → J2 0 0 k = J 0 0 k) (em : ∀ k : Int, k ≠ 0 → k ≠ 1 → J2 142 0 k = J 142 0 k) (hT : TP J2) : Inv G J2 K := by
  obtain ⟨⟨h1, h2, h3, h4, h5, h6, h7, h8⟩, hg⟩ := h
  have ac : ∀ b : Nat, 2 ≤ b → b ≤ 141 → J2 b = J b := fun b x y => e1 b (by omega) (by omega) (by omega) (by omega)
  have am : ∀ b : Nat, 144 ≤ b → J2 b = J b := fun b x => e1 b (by omega) (by omega) (by omega) (by omega)
  have ac2 : ∀ b : Nat, 18 ≤ b → b ≤ 39 → J2 b = J b := fun b x y => ac b (by omega) (by omega)
  refine ⟨⟨lw_eq h1 fun b x y => ac b (by omega) (by omega), tw_s h2 ac2, pw_s h3 (ac _ (by decide) (by decide)) (ac _ (by decide) (by decide)) (ac _ (by decide) (by decide)) fun b x y => ac b (by omega) (by omega), ?_, ?_, hT, ?_, ?_⟩, ?_⟩
  · exact ml_s (ml_eq h4 (am _ (by decide)) (am _ (by decide)) (am _ (by decide)) (am _ (by decide)) (am _ (by decide))) ac2
  · have := mc_eq h5 (em 15 (by decide) (by decide)) (em 16 (by decide) (by decide)) (am _ (by decide)) (am _ (by decide)) (am _ (by decide)) (am _ (by decide)) (am _ (by decide)) (am _ (by decide)) (am _ (by decide)) (am _ (by decide))
    exact mp_s this (ac _ (by decide) (by decide)) fun b x y => ac b (by omega) (by omega)
  · rw [e0 2 (by decide), em 3 (by decide) (by decide), em 14 (by decide) (by decide), ac 18 (by decide) (by decide)]
    exact h7
  · rw [e0 8 (by decide), em 17 (by decide) (by decide)]
    refine ⟨h8.1, h8.2.1, h8.2.2.1, fun i hi => ?_⟩
    exact im_s (by omega) (h8.2.2.2 i hi) ac2 (fun b x y => ac b (by omega) (by omega)) (am _ (by decide))
  · exact hG.1 J J2 K K hg ac2 (by rw [ac 40 (by decide) (by decide)]) (by rw [ac 40 (by decide) (by decide)]) (fun t _ _ => by rw [ac 41 (by decide) (by decide)]) (fun b x y => ac b (by omega) (by omega)) (by rw [ac 105 (by decide) (by decide)]) (by rw [ac 105 (by decide) (by decide)]) rfl
theorem op0 {G : zJ → zK → Prop} (hG : GOk G) : ∀ a b c d e : Int, zin a → zin b → zin c → zin d → zin e → OpD (Inv G) 153 221 [zi a, zi b, zi c, zi d, zi e] := by
  intro a b c d e ha hb hc hd he
  intro L xs D J K hL hD hI; obtain ⟨⟨hW, hT, hP, hM, hC, hTp, hF, hIm⟩, hg⟩ := id hI; have hE := eqs_rfl J; have hn := lw_n hW; have hpn := pw_n hP
  obtain ⟨D, rfl⟩ : ∃ d, D = d + 1 := ⟨D - 1, by omega⟩
  obtain ⟨tp1, tp2, tp3, tp4⟩ := id hTp
  refine z153 hL ⟨⟨by omega, by omega⟩, ⟨by omega, by omega⟩, fun q => ?_, fun q => ⟨_, rfl, rfl, ⟨by decide, by decide⟩, ?_⟩⟩
  · refine c183 hL rfl tp1 (by omega) (by omega) fun J1 g1 => zaV_of ?_
    refine c183 hL g1.2.2.1 (by omega) (by omega) (by omega) fun J2 g2 => zaV_of ?_
    refine c183 hL g2.2.2.1 (by omega) (by omega) (by omega) fun J3 g3 => zaV_of ?_
    refine c183 hL g3.2.2.1 (by omega) (by omega) (by omega) fun J4 g4 => zaV_of ?_
    refine c183 hL g4.2.2.1 (by omega) (by omega) (by omega) fun J5 g5 => zaV_of ?_
    have t2 := tpd_add (by decide) tp1 g1 g2
    rw [show J 0 0 1 + 4 + 4 = J 0 0 1 + (4 + 4) by omega] at g3
    have t3 := tpd_add (by decide) tp1 t2 g3
    rw [show J 0 0 1 + 4 + 4 + 4 = J 0 0 1 + (4 + 4 + 4) by omega] at g4
    have t4 := tpd_add (by decide) tp1 t3 g4
    rw [show J 0 0 1 + 4 + 4 + 4 + 4 = J 0 0 1 + (4 + 4 + 4 + 4) by omega] at g5
    have t5 := tpd_add (by decide) tp1 t4 g5
    obtain ⟨p1, p2, p3, p4, p5⟩ := t5
    have p6 : ∀ k : Int, 0 ≤ k → k < 20 → J5 1 0 (J 0 0 1 + k) = sg (fdg a b c d e k) := by
      intro k k0 k1
      rw [p5 k k0 (by omega)]
      congr 1
      unfold fdg
      simp only
      by_cases q1 : k < 4
      · have z1 : k < 8 := by omega
        have z2 : k < 12 := by omega
        have z3 : k < 16 := by omega
        simp only [q1, z1, z2, z3, show (4 : Int) + 4 = 8 by decide, show (8 : Int) + 4 = 12 by decide, show (12 : Int) + 4 = 16 by decide, if_true]
        congr 1
        omega
      · by_cases q2 : k < 8
        · have z2 : k < 12 := by omega
          have z3 : k < 16 := by omega
          simp only [q1, q2, z2, z3, show (4 : Int) + 4 = 8 by decide, show (8 : Int) + 4 = 12 by decide, show (12 : Int) + 4 = 16 by decide, if_true, if_false]
          congr 1
          omega
        · by_cases q3 : k < 12
          · have z3 : k < 16 := by omega
            simp only [q1, q2, q3, z3, show (4 : Int) + 4 = 8 by decide, show (8 : Int) + 4 = 12 by decide, show (12 : Int) + 4 = 16 by decide, if_true, if_false]
            congr 1
            omega
          · by_cases q4 : k < 16
            · simp only [q1, q2, q3, q4, show (4 : Int) + 4 = 8 by decide, show (8 : Int) + 4 = 12 by decide, show (12 : Int) + 4 = 16 by decide, if_true, if_false]
              congr 1
              omega
            · simp only [q1, q2, q3, q4, show (4 : Int) + 4 = 8 by decide, show (8 : Int) + 4 = 12 by decide, show (12 : Int) + 4 = 16 by decide, if_false]
              congr 1
              omega
    have p3' : J5 0 0 1 = J 0 0 1 + 20 := by omega
    refine ⟨_, rfl, rfl, by rw [p3']; exact ⟨by omega, by omega⟩, ?_⟩
    have e142 : J5 142 = J 142 := p1 142 (by decide) (by decide)
    have e143 : J5 143 = J 143 := p1 143 (by decide) (by decide)
    rw [p3']
    refine z221 hL ?_
    rw [e142, tp3]
    refine ⟨⟨by omega, by omega⟩, ⟨by omega, by omega⟩, fun _ => ?_, fun q2 => by omega⟩
    have key : ∀ (n : Nat) (k : Int) (J6 : zJ), n = (20 - k).toNat → 0 ≤ k → k ≤ 20 → (∀ b : Nat, b ≠ 142 → b ≠ 143 → J6 b = J5 b) → (∀ j : Int, j ≠ 0 → j ≠ 1 → J6 142 0 j = J5 142 0 j) → J6 142 0 1 = J 0 0 1 + k → (∀ j : Int, 0 ≤ j → j < J 0 0 1 → J6 143 0 j = J 143 0 j) → (∀ j : Int, 0 ≤ j → j < k → J6 143 0 (J 0 0 1 + j) = fdg a b c d e j) → zGo L xs (D + 1) 221 23 [some (zr 142), some (zi a), some (zi b), some (zi c), some (zi d), some (zi e), some (zi k), none] [] J6 K fun r2 e2 J2 K2 => r2 = .inl (some (zi (J 0 0 1 + 20))) ∧ e2 = 0 ∧ Inv G J2 K2 := by
      intro n; induction n using Nat.strongRecOn with
  | _ n ih =>
      intro k J6 hm h0 h1 f1 f2 f3 f4 f5
      have step : ∀ y : Int, y = (if k < 4 then a else if k < 8 then b else if k < 12 then c else if k < 16 then d else e) → k < 20 → zGo L xs (D + 1) 221 23 [some (zr 142), some (zi a), some (zi b), some (zi c), some (zi d), some (zi e), some (zi (k + 1)), none] [] (zup (zup J6 143 0 (J 0 0 1 + k) (zand (y / 2 ^ ((24 - (8 * (k % 4))).toNat)) 255)) 142 0 1 ((J 0 0 1 + k) + 1)) K fun r2 e2 J2 K2 => r2 = .inl (some (zi (J 0 0 1 + 20))) ∧ e2 = 0 ∧ Inv G J2 K2 := by
        intro y hy hk
        refine ih _ (by omega) (k + 1) _ rfl (by omega) (by omega) (fun b b1 b2 => ?_) (fun j j0 j1 => ?_) ?_ (fun j j0 j1 => ?_) (fun j j0 j1 => ?_)
        · rw [zup_ne _ _ _ _ b1, zup_ne _ _ _ _ b2]
          exact f1 b b1 b2
        · rw [zup_nk _ _ j1, zup_ne _ _ _ _ (by decide)]
          exact f2 j j0 j1
        · rw [zup_eq]
          omega
        · rw [zup_ne _ _ _ _ (by decide), zup_nk _ _ (by omega)]
          exact f4 j j0 j1
        · rw [zup_ne _ _ _ _ (by decide)]
          by_cases e2 : j = k
          · rw [e2, zup_eq, zand_255, hy]
            rfl
          · rw [zup_nk _ _ (by omega)]
            exact f5 j j0 (by omega)
      refine z221_23 hL ?_
      rw [f3]
      have z20 : zin k := ⟨by omega, by omega⟩
      refine ⟨z20, ⟨by omega, by omega⟩, fun q20 => ?_, fun q20 => ⟨z20, ⟨by omega, by omega⟩, fun g4 => ⟨z20, ⟨by omega, by omega⟩, fun g8 => ⟨z20, ⟨by omega, by omega⟩, fun g12 => ⟨z20, ⟨by omega, by omega⟩, fun g16 => ?_, fun g16 => ?_⟩, fun g12 => ?_⟩, fun g8 => ?_⟩, fun g4 => ?_⟩⟩
      · have e20 : k = 20 := by omega
        subst e20
        refine ⟨rfl, rfl, inv_t hG hI (fun b b1 b2 b3 b4 => (f1 b b3 b4).trans (p1 b b1 b2)) (fun j hj => ?_) (fun j j0 j1 => ?_) ⟨?_, ?_, ?_, fun j j0 j1 => ?_⟩⟩
        · rw [f1 0 (by decide) (by decide)]
          exact p2 j hj
        · rw [f2 j j0 j1, e142]
        · rw [f1 0 (by decide) (by decide), p3']
          omega
        · rw [f1 0 (by decide) (by decide), p3']
          omega
        · rw [f1 0 (by decide) (by decide), p3', f3]
        · rw [f1 0 (by decide) (by decide), p3'] at j1
          rw [f1 1 (by decide) (by decide)]
          by_cases q5 : j < J 0 0 1
          · have := tp4 j j0 q5
            rw [f4 j j0 q5, p4 j j0 q5]
            exact this
          · have h5 := f5 (j - J 0 0 1) (by omega) (by omega)
            have h6 := p6 (j - J 0 0 1) (by omega) (by omega)
            have e5 : J 0 0 1 + (j - J 0 0 1) = j := by omega
            rw [e5] at h5 h6
            rw [h5, h6]
            have := byt_rng (if j - J 0 0 1 < 4 then a else if j - J 0 0 1 < 8 then b else if j - J 0 0 1 < 12 then c else if j - J 0 0 1 < 16 then d else e) (24 - 8 * ((j - J 0 0 1) % 4))
            exact ⟨this.1, this.2, rfl⟩
      · exact ⟨h0, by omega, by decide, by decide, he, by omega, by omega, by omega, by omega, step e (by rw [if_neg (by omega), if_neg (by omega), if_neg (by omega), if_neg (by omega)]) q20⟩
      · exact ⟨h0, by omega, by decide, by decide, hd, by omega, by omega, by omega, by omega, step d (by rw [if_neg (by omega), if_neg (by omega), if_neg (by omega), if_pos g16]) q20⟩
      · exact ⟨h0, by omega, by decide, by decide, hc, by omega, by omega, by omega, by omega, step c (by rw [if_neg (by omega), if_neg (by omega), if_pos g12]) q20⟩
      · exact ⟨h0, by omega, by decide, by decide, hb, by omega, by omega, by omega, by omega, step b (by rw [if_neg (by omega), if_pos g8]) q20⟩
      · exact ⟨h0, by omega, by decide, by decide, ha, by omega, by omega, by omega, by omega, step a (by rw [if_pos g4]) q20⟩
    refine key _ 0 _ rfl (by decide) (by decide) (fun b b1 _ => zup_ne _ _ _ _ b1) (fun j j0 _ => zup_nk _ _ j0) ?_ (fun j _ _ => by rw [zup_ne _ _ _ _ (by decide), e143]) (fun j j0 j1 => by omega)
    rw [zup_nk _ _ (by decide), e142, tp3]
    omega
  · refine z221 hL ?_
    rw [tp3]
    refine ⟨⟨by omega, by omega⟩, ⟨by omega, by omega⟩, fun q2 => by omega, fun _ => fin_d hG hI (fc_rfl J) (fm_t J 0) rfl _⟩
