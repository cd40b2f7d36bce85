/-! FEWEST ENGINES in the class and in the model -/
theorem way_tri {s : zJ} (h : LW s) : ∀ (n : Nat) (a b c : Int), a + b + c ≤ n → 0 ≤ a → a < s 18 0 0 → 0 ≤ b → b < s 18 0 0 → 0 ≤ c → c < s 18 0 0 → way s a c ≤ way s a b + way s b c := by
  intro n
  induction n using Nat.strongRecOn with
  | _ n ih =>
  intro a b c hn a0 a1 b0 b1 c0 c1
  by_cases e1 : a = b
  · rw [e1, way_self]
    omega
  by_cases e2 : b = c
  · rw [e2, way_self]
    omega
  by_cases e3 : a = c
  · have h1 := way_rng h a0 a1 b0 b1
    have h2 := way_rng h b0 b1 c0 c1
    rw [← e3, way_self]
    rw [← e3] at h2
    omega
  have pa := lw_p h a0 a1
  have pb := lw_p h b0 b1
  have pc := lw_p h c0 c1
  by_cases q1 : b < a ∧ c < a
  · have hu := lw_up h (p := a) (by omega) a1
    have := ih (s 19 0 a + b + c).toNat (by omega) (s 19 0 a) b c (by omega) (by omega) (by omega) b0 b1 c0 c1
    rw [way_up h c0 q1.2 a1, way_up h b0 q1.1 a1]
    omega
  · by_cases q2 : a < b ∧ c < b
    · have hu := lw_up h (p := b) (by omega) b1
      have := ih (a + s 19 0 b + c).toNat (by omega) a (s 19 0 b) c (by omega) a0 a1 (by omega) (by omega) c0 c1
      have f1 := way_comm h a0 a1 b0 b1
      have f2 := way_up h a0 q2.1 b1
      have f3 := way_up h c0 q2.2 b1
      have f4 := way_comm h (a := a) (b := s 19 0 b) a0 a1 (by omega) (by omega)
      omega
    · have q3 : a < c ∧ b < c := by omega
      have hu := lw_up h (p := c) (by omega) c1
      have := ih (a + b + s 19 0 c).toNat (by omega) a b (s 19 0 c) (by omega) a0 a1 b0 b1 (by omega) (by omega)
      have f1 := way_comm h a0 a1 c0 c1
      have f2 := way_comm h b0 b1 c0 c1
      have f3 := way_up h a0 q3.1 c1
      have f4 := way_up h b0 q3.2 c1
      have f5 := way_comm h (a := a) (b := s 19 0 c) a0 a1 (by omega) (by omega)
      have f6 := way_comm h (a := b) (b := s 19 0 c) b0 b1 (by omega) (by omega)
      omega
/-- y can be done behind x -/
def fE (s : zJ) (x y : Int) : Bool := decide (y ≠ x) && bhd s y x
theorem fE_t {s : zJ} {x y : Int} : fE s x y = true ↔ y ≠ x ∧ s 48 0 x + way s (s 47 0 x) (s 45 0 y) ≤ s 46 0 y := by
  unfold fE bhd
  rw [Bool.and_eq_true, decide_eq_true_iff, decide_eq_true_iff]
theorem fE_tr {s : zJ} (h : LW s) (hP : PW s) : ∀ a b c : Int, 0 ≤ a → a < (s 40 0 5).toNat → 0 ≤ b → b < (s 40 0 5).toNat → 0 ≤ c → c < (s 40 0 5).toNat → fE s a b = true → fE s b c = true → fE s a c = true := by
  intro a b c a0 a1 b0 b1 c0 c1 h1 h2
  rw [fE_t] at h1 h2 ⊢
  have ha := pw_j hP a0 (by omega)
  have hb := pw_j hP b0 (by omega)
  have hc := pw_j hP c0 (by omega)
  have t1 := way_tri h _ (s 47 0 a) (s 45 0 b) (s 45 0 c) (Int.self_le_toNat _) ha.2.2.1 ha.2.2.2.1 hb.1 hb.2.1 hc.1 hc.2.1
  have t2 := way_tri h _ (s 45 0 b) (s 47 0 b) (s 45 0 c) (Int.self_le_toNat _) hb.1 hb.2.1 hb.2.2.1 hb.2.2.2.1 hc.1 hc.2.1
  have r1 := way_rng h ha.2.2.1 ha.2.2.2.1 hb.1 hb.2.1
  have r2 := way_rng h hb.2.2.1 hb.2.2.2.1 hc.1 hc.2.1
  refine ⟨fun e => ?_, by omega⟩
  subst e
  omega
theorem bs_s {P : Int → Bool} {i : Int} (h0 : 0 ≤ i) (h1 : i < 31) : bs P (i + 1).toNat = if P i = true then zor (bs P i.toNat) (1 * 2 ^ i.toNat) else bs P i.toNat := by
  by_cases hp : P i = true
  · rw [if_pos hp, bs_or h0 h1 hp]
  · rw [if_neg hp, bs_no h0 (by simpa using hp)]
theorem c315h {L : Nat} {xs : Nat → Int32} (hL : L ≤ 3072) {D : Nat} {J : zJ} {K : zK} {Q : zR → Nat → zJ → zK → Prop} {v : Int} (hD : 1 ≤ D) (hQ : ∀ J' : zJ, (∀ b : Nat, b ≠ 137 → J' b = J b) → (∀ i : Int, 0 ≤ i → i < 14 → J' 137 0 i = v) → Q (.inl none) 0 J' K) : zCall L xs D 315 [zr 137, zi v] J K Q := by
  obtain ⟨D, rfl⟩ : ∃ d, D = d + 1 := ⟨D - 1, by omega⟩
  refine z315h hL ?_
  have key : ∀ (n : Nat) (i : Int) (J1 : zJ), n = (14 - i).toNat → 0 ≤ i → i ≤ 14 → (∀ b : Nat, b ≠ 137 → J1 b = J b) → (∀ j : Int, 0 ≤ j → j < i → J1 137 0 j = v) → zGo L xs (D + 1) 315 5 [some (zr 137), some (zi v), some (zi i), some (zi 14)] [] J1 K Q := by
    intro n; induction n using Nat.strongRecOn with
  | _ n ih =>
    intro i J1 hm h0 h1 f g
    refine z315h_5 hL ⟨⟨by omega, by omega⟩, ⟨by omega, by omega⟩, fun q => hQ J1 f fun j a b => g j a (by omega), fun q => ⟨h0, by omega, ?_⟩⟩
    refine ih _ (by omega) (i + 1) _ rfl (by omega) (by omega) (fun b hb => by rw [zup_ne _ _ _ _ hb]; exact f b hb) fun j a b => ?_
    by_cases e : j = i
    · rw [e, zup_eq]
    · rw [zup_nk _ _ e]
      exact g j a (by omega)
  exact key _ 0 J rfl (by decide) (by decide) (fun _ _ => rfl) fun j a b => by omega
theorem c315i {L : Nat} {xs : Nat → Int32} (hL : L ≤ 3072) {D : Nat} {J : zJ} {K : zK} {Q : zR → Nat → zJ → zK → Prop} {v : Int} (hD : 1 ≤ D) (hQ : ∀ J' : zJ, (∀ b : Nat, b ≠ 138 → J' b = J b) → (∀ i : Int, 0 ≤ i → i < 14 → J' 138 0 i = v) → Q (.inl none) 0 J' K) : zCall L xs D 315 [zr 138, zi v] J K Q := by
  obtain ⟨D, rfl⟩ : ∃ d, D = d + 1 := ⟨D - 1, by omega⟩
  refine z315i hL ?_
  have key : ∀ (n : Nat) (i : Int) (J1 : zJ), n = (14 - i).toNat → 0 ≤ i → i ≤ 14 → (∀ b : Nat, b ≠ 138 → J1 b = J b) → (∀ j : Int, 0 ≤ j → j < i → J1 138 0 j = v) → zGo L xs (D + 1) 315 5 [some (zr 138), some (zi v), some (zi i), some (zi 14)] [] J1 K Q := by
    intro n; induction n using Nat.strongRecOn with
  | _ n ih =>
    intro i J1 hm h0 h1 f g
    refine z315i_5 hL ⟨⟨by omega, by omega⟩, ⟨by omega, by omega⟩, fun q => hQ J1 f fun j a b => g j a (by omega), fun q => ⟨h0, by omega, ?_⟩⟩
    refine ih _ (by omega) (i + 1) _ rfl (by omega) (by omega) (fun b hb => by rw [zup_ne _ _ _ _ hb]; exact f b hb) fun j a b => ?_
    by_cases e : j = i
    · rw [e, zup_eq]
    · rw [zup_nk _ _ e]
      exact g j a (by omega)
  exact key _ 0 J rfl (by decide) (by decide) (fun _ _ => rfl) fun j a b => by omega
theorem c315j {L : Nat} {xs : Nat → Int32} (hL : L ≤ 3072) {D : Nat} {J : zJ} {K : zK} {Q : zR → Nat → zJ → zK → Prop} {v : Int} (hD : 1 ≤ D) (hQ : ∀ J' : zJ, (∀ b : Nat, b ≠ 139 → J' b = J b) → (∀ i : Int, 0 ≤ i → i < 14 → J' 139 0 i = v) → Q (.inl none) 0 J' K) : zCall L xs D 315 [zr 139, zi v] J K Q := by
  obtain ⟨D, rfl⟩ : ∃ d, D = d + 1 := ⟨D - 1, by omega⟩
  refine z315j hL ?_
  have key : ∀ (n : Nat) (i : Int) (J1 : zJ), n = (14 - i).toNat → 0 ≤ i → i ≤ 14 → (∀ b : Nat, b ≠ 139 → J1 b = J b) → (∀ j : Int, 0 ≤ j → j < i → J1 139 0 j = v) → zGo L xs (D + 1) 315 5 [some (zr 139), some (zi v), some (zi i), some (zi 14)] [] J1 K Q := by
    intro n; induction n using Nat.strongRecOn with
  | _ n ih =>
    intro i J1 hm h0 h1 f g
    refine z315j_5 hL ⟨⟨by omega, by omega⟩, ⟨by omega, by omega⟩, fun q => hQ J1 f fun j a b => g j a (by omega), fun q => ⟨h0, by omega, ?_⟩⟩
    refine ih _ (by omega) (i + 1) _ rfl (by omega) (by omega) (fun b hb => by rw [zup_ne _ _ _ _ hb]; exact f b hb) fun j a b => ?_
    by_cases e : j = i
    · rw [e, zup_eq]
    · rw [zup_nk _ _ e]
      exact g j a (by omega)
  exact key _ 0 J rfl (by decide) (by decide) (fun _ _ => rfl) fun j a b => by omega
theorem c109 {L : Nat} {xs : Nat → Int32} (hL : L ≤ 3072) {D : Nat} {J : zJ} {K : zK} {Q : zR → Nat → zJ → zK → Prop} {s : zJ} (hE : EqS s J) (h : LW s) (hT : TW s) (hP : PW s) (hD : 4 ≤ D) (hQ : ∀ J' : zJ, Fr 137 138 J J' → (∀ x : Int, 0 ≤ x → x < s 40 0 5 → J' 137 0 x = bs (fun y => fE s x y) (s 40 0 5).toNat ∧ J' 138 0 x = bs (fun y => fE s y x) (s 40 0 5).toNat) → Q (.inl none) 0 J' K) : zCall L xs D 109 [zr 136] J K Q := by
  obtain ⟨D, rfl⟩ : ∃ d, D = d + 1 := ⟨D - 1, by omega⟩
  have hpn := pw_n hP
  refine z109 hL ?_
  refine c315h hL (by omega) fun J1 f1 g1 => zaV_of ?_
  refine c315i hL (by omega) fun J2 f2 g2 => zaV_of ?_
  have hF2 : Fr 137 138 J J2 := fun b hb => (f2 b (by omega)).trans (f1 b (by omega))
  have outer : ∀ (n : Nat) (x1 : Int) (J3 : zJ), n = (s 40 0 5 - x1).toNat → 0 ≤ x1 → x1 ≤ s 40 0 5 → Fr 137 138 J J3 → (∀ o : Int, 0 ≤ o → o < s 40 0 5 → J3 137 0 o = bs (fun y => fE s o y) x1.toNat) → (∀ j : Int, 0 ≤ j → j < s 40 0 5 → J3 138 0 j = if j < x1 then bs (fun y => fE s y j) (s 40 0 5).toNat else 0) → zGo L xs (D + 1) 109 18 [some (zr 136), some (zi x1), none] [] J3 K Q := by
    intro n; induction n using Nat.strongRecOn with
  | _ n ih =>
    intro x1 J3 hm h0 h1 hF3 a3 b3
    have hE3 := eqs_fr hE hF3 (by decide)
    refine z109_18 hL ?_
    rw [hE3 40 (by decide) (by decide)]
    refine ⟨⟨by omega, by omega⟩, ⟨by omega, by omega⟩, fun q => ?_, fun q => ?_⟩
    · have e : x1 = s 40 0 5 := by omega
      refine hQ J3 hF3 fun x x0 x1' => ⟨?_, ?_⟩
      · rw [a3 x x0 x1', e]
      · rw [b3 x x0 x1', if_pos (by omega)]
    · have inner : ∀ (m : Nat) (x2 : Int) (J4 : zJ), m = (s 40 0 5 - x2).toNat → 0 ≤ x2 → x2 ≤ s 40 0 5 → Fr 137 138 J J4 → (∀ o : Int, 0 ≤ o → o < s 40 0 5 → J4 137 0 o = if o < x2 then bs (fun y => fE s o y) (x1 + 1).toNat else bs (fun y => fE s o y) x1.toNat) → (∀ j : Int, 0 ≤ j → j < s 40 0 5 → J4 138 0 j = if j < x1 then bs (fun y => fE s y j) (s 40 0 5).toNat else if j = x1 then bs (fun y => fE s y j) x2.toNat else 0) → zGo L xs (D + 1) 109 31 [some (zr 136), some (zi x1), some (zi x2)] [] J4 K Q := by
        intro m; induction m using Nat.strongRecOn with
        | _ m ihm =>
        intro x2 J4 hm2 c0 c1 hF4 a4 b4
        have hE4 := eqs_fr hE hF4 (by decide)
        refine z109_31 hL ?_
        rw [hE4 40 (by decide) (by decide)]
        refine ⟨⟨by omega, by omega⟩, ⟨by omega, by omega⟩, fun q2 => ?_, fun q2 => ?_⟩
        · have e : x2 = s 40 0 5 := by omega
          refine ih _ (by omega) (x1 + 1) J4 rfl (by omega) (by omega) hF4 (fun o o0 o1 => ?_) (fun j j0 j1 => ?_)
          · rw [a4 o o0 o1, if_pos (by omega)]
          · rw [b4 j j0 j1]
            by_cases z : j < x1
            · rw [if_pos z, if_pos (by omega)]
            · rw [if_neg z]
              by_cases z2 : j = x1
              · rw [if_pos z2, if_pos (by omega), e]
              · rw [if_neg z2, if_neg (by omega)]
        · have ha := a4 x2 c0 q2
          rw [if_neg (by omega)] at ha
          have hb := b4 x1 h0 q
          rw [if_neg (by omega), if_pos rfl] at hb
          have sa := bs_s (P := fun y => fE s x2 y) (i := x1) h0 (by omega)
          have sb := bs_s (P := fun y => fE s y x1) (i := x2) c0 (by omega)
          refine c104 hL hE4 h hT hP (by omega) h0 q c0 q2 (zaI_of ⟨zin_zb _, fun z => ?_, fun z => ⟨c0, by omega, h0, by omega, c0, by omega, h0, by omega, c0, by omega, h0, by omega, ?_⟩⟩)
          · have z := zb_0.mp z
            have zf : fE s x2 x1 = false := z
            rw [if_neg (by rw [zf]; simp)] at sa sb
            refine ihm _ (by omega) (x2 + 1) J4 rfl (by omega) (by omega) hF4 (fun o o0 o1 => ?_) (fun j j0 j1 => ?_)
            · rw [a4 o o0 o1]
              by_cases w : o < x2
              · rw [if_pos w, if_pos (by omega)]
              · rw [if_neg w]
                by_cases w2 : o = x2
                · rw [if_pos (by omega), w2, sa]
                · rw [if_neg (by omega)]
            · rw [b4 j j0 j1]
              by_cases w : j < x1
              · rw [if_pos w, if_pos w]
              · rw [if_neg w, if_neg w]
                by_cases w2 : j = x1
                · rw [if_pos w2, if_pos w2, w2, sb]
                · rw [if_neg w2, if_neg w2]
          · have z := zb_1.mp z
            have zf : fE s x2 x1 = true := z
            rw [if_pos zf] at sa sb
            refine ihm _ (by omega) (x2 + 1) _ rfl (by omega) (by omega) (fr_up (fr_up hF4 (by decide) (by decide) _ _ _) (by decide) (by decide) _ _ _) (fun o o0 o1 => ?_) (fun j j0 j1 => ?_)
            · rw [zup_ne _ _ _ _ (by decide)]
              by_cases w2 : o = x2
              · rw [w2, zup_eq, ha, if_pos (by omega), sa]
              · rw [zup_nk _ _ w2, a4 o o0 o1]
                by_cases w : o < x2
                · rw [if_pos w, if_pos (by omega)]
                · rw [if_neg w, if_neg (by omega)]
            · by_cases w2 : j = x1
              · rw [w2, zup_eq, hb, if_neg (by omega), if_pos rfl, sb]
              · rw [zup_nk _ _ w2, zup_ne _ _ _ _ (by decide), b4 j j0 j1, if_neg w2, if_neg w2]
      refine inner _ 0 J3 rfl (by decide) (by omega) hF3 (fun o o0 o1 => ?_) (fun j j0 j1 => ?_)
      · rw [a3 o o0 o1, if_neg (by omega)]
      · rw [b3 j j0 j1]
        by_cases w : j < x1
        · rw [if_pos w, if_pos w]
        · rw [if_neg w, if_neg w]
          split <;> rfl
  refine outer _ 0 J2 rfl (by decide) (by omega) hF2 (fun o o0 o1 => ?_) (fun j j0 j1 => ?_)
  · rw [f2 137 (by decide), g1 o o0 (by omega)]
    rfl
  · rw [g2 j j0 (by omega), if_neg (by omega)]
/-- a bit picked out -/
theorem zand_p {v k : Int} (v0 : 0 ≤ v) (v1 : v < 2147483648) (k0 : 0 ≤ k) (k1 : k < 31) : (zand v (1 * 2 ^ k.toNat) = 0 ↔ bt v k = false) ∧ zin (zand v (1 * 2 ^ k.toNat)) := by
  have hp := pw_31 (n := k.toNat) (by omega)
  rw [Int.one_mul]
  have hz := zand_le v0 v1 (y := 2 ^ k.toNat) (by omega)
  have hb : ∀ j : Int, 0 ≤ j → bt (zand v (2 ^ k.toNat)) j = (bt v j && decide (k = j)) := fun j j0 => by rw [bt_and v0 v1 (by omega), bt_pow k0 j0]
  refine ⟨⟨fun e => ?_, fun e => ?_⟩, ⟨by omega, by omega⟩⟩
  · have := hb k k0
    rw [e, bt_z, decide_eq_true rfl, Bool.and_true] at this
    exact this.symm
  · refine bt_ext hz.1 (by decide) fun j j0 => ?_
    rw [hb j j0, bt_z]
    by_cases q : k = j
    · rw [← q, e]
      rfl
    · rw [decide_eq_false q, Bool.and_false]
/-- a bit more -/
theorem bt_or1 {t k : Int} {n : Nat} (hn : n ≤ 30) (t0 : 0 ≤ t) (t1 : t < 2 ^ n) (k0 : 0 ≤ k) (k1 : k < n) : (0 ≤ zor t (1 * 2 ^ k.toNat) ∧ zor t (1 * 2 ^ k.toNat) < 2 ^ n) ∧ ∀ y : Int, 0 ≤ y → bt (zor t (1 * 2 ^ k.toNat)) y = (bt t y || decide (k = y)) := by
  have hp := pw_31 (n := k.toNat) (by omega)
  have hq := pw_31 hn
  have hk : (2 : Int) ^ k.toNat < 2 ^ n := by
    have h1 : (2 : Int) ^ (k.toNat + 1) ≤ 2 ^ n := pw_le (by omega)
    rw [Int.pow_succ] at h1
    omega
  rw [Int.one_mul]
  refine ⟨zor_lt (by omega) t0 t1 (by omega) hk, fun y y0 => ?_⟩
  rw [bt_or t0 (by omega) (by omega) (by omega), bt_pow k0 y0]
theorem zup_dup (J : zJ) (a : Nat) (k v : Int) : (zup J a 0 k v) a 0 = dup (J a 0) k v := by
  funext y
  unfold dup
  by_cases e : y = k
  · rw [if_pos e, e, zup_eq]
  · rw [if_neg e, zup_nk _ _ e]
theorem bt_n {x : Int} {n : Nat} (x0 : 0 ≤ x) (x1 : x < 2 ^ n) {k : Int} (h : bt x k = true) (k0 : 0 ≤ k) : k < n := by
  rcases Int.lt_or_le k n with z | z
  · exact z
  · rw [bt_lt x0 x1 z] at h
    cases h
theorem c108 {L : Nat} {xs : Nat → Int32} (hL : L ≤ 3072) {K : zK} {s : zJ} (hP : PW s) {S : Int} (S0 : 0 ≤ S) (S1 : S < 2 ^ (s 40 0 5).toNat) : ∀ (m D : Nat) (x1 x3 : Int) (J : zJ) (Q : zR → Nat → zJ → zK → Prop), m = (15 - x3).toNat → m + 2 ≤ D → EqS s J → 0 ≤ x3 → x3 ≤ pct (J 136 0 6) 14 → 0 ≤ J 136 0 6 → J 136 0 6 < 2 ^ (s 40 0 5).toNat → 0 ≤ x1 → x1 < s 40 0 5 → bt S x1 = true → (∀ x : Int, 0 ≤ x → x < s 40 0 5 → J 137 0 x = bs (fun y => fE s x y) (s 40 0 5).toNat) → Mat (s 40 0 5).toNat (fE s) (bt S) (J 139 0) → (∀ y : Int, 0 ≤ y → y < (s 40 0 5).toNat → bt (J 136 0 6) y = false → J 139 0 y ≠ x1) → (∀ J' : zJ, (∀ b : Nat, b ≠ 136 → b ≠ 139 → J' b = J b) → Tr (s 40 0 5).toNat (fE s) (bt S) (bt (J 136 0 6)) x1 (J 139 0) (J' 139 0) → Q (.inl (some (zi (1)))) 0 J' K) → (∀ J' : zJ, (∀ b : Nat, b ≠ 136 → J' b = J b) → 0 ≤ J' 136 0 6 → J' 136 0 6 < 2 ^ (s 40 0 5).toNat → Fa (s 40 0 5).toNat (fE s) (bt S) (bt (J 136 0 6)) (bt (J' 136 0 6)) x1 (J 139 0) → Q (.inl (some (zi (0)))) 0 J' K) → zCall L xs D 108 [zr 136, zi x1, zi S, zi x3] J K Q := by
  have hpn := pw_n hP
  intro m
  induction m with
  | zero =>
    intro D x1 x3 J Q hm hD hE x30 x3p t0 t1
    exfalso
    have h1 := cnt_rng (fun i => bt (J 136 0 6) i) (s 40 0 5).toNat
    rw [pct_wk t0 t1 (by omega)] at x3p
    unfold pct at x3p
    omega
  | succ m ihm =>
  intro D x1 x3 J Q hm hD hE x30 x3p t0 t1 x10 x11 hx hA hM hN hQ1 hQ0
  obtain ⟨D, rfl⟩ : ∃ d, D = d + 1 := ⟨D - 1, by omega⟩
  have hq := pw_31 (n := (s 40 0 5).toNat) (by omega)
  have en : ((s 40 0 5).toNat : Int) = s 40 0 5 := by omega
  refine z108 hL ⟨⟨by omega, by omega⟩, ⟨by omega, by omega⟩, fun _ => ?_, fun q => by omega⟩
  have key : ∀ (n : Nat) (x4 : Int) (J1 : zJ), n = (s 40 0 5 - x4).toNat → 0 ≤ x4 → x4 ≤ s 40 0 5 → (∀ b : Nat, b ≠ 136 → J1 b = J b) → 0 ≤ J1 136 0 6 → J1 136 0 6 < 2 ^ (s 40 0 5).toNat → (∀ y : Int, 0 ≤ y → y < (s 40 0 5).toNat → bt (J 136 0 6) y = true → bt (J1 136 0 6) y = true) → (∀ y : Int, 0 ≤ y → y < (s 40 0 5).toNat → bt (J1 136 0 6) y = true → bt (J 136 0 6) y = false → J 139 0 y ≠ -1 ∧ Nb (s 40 0 5).toNat (fE s) (bt S) (bt (J1 136 0 6)) (J 139 0 y)) → (∀ z : Int, 0 ≤ z → z < x4 → bt S z = true → fE s x1 z = true → bt (J1 136 0 6) z = true) → zGo L xs (D + 1) 108 11 [some (zr 136), some (zi x1), some (zi S), some (zi x3), some (zi x4)] [] J1 K Q := by
    intro n; induction n using Nat.strongRecOn with
  | _ n ih =>
    intro x4 J1 hm4 h0 h1 f1 u0 u1 v1 v2 v3
    refine z108_11 hL ?_
    rw [f1 40 (by decide), hE 40 (by decide) (by decide), f1 137 (by decide), f1 139 (by decide)]
    refine ⟨⟨by omega, by omega⟩, ⟨by omega, by omega⟩, fun q => ⟨Or.inl rfl, hQ0 J1 f1 u0 u1 ⟨v1, v2, fun z z0 z1 => v3 z z0 (by omega)⟩⟩, fun q => ⟨x10, by omega, h0, by omega, ?_⟩⟩
    rw [hA x1 x10 x11]
    have hb := bs_lt (fun y => fE s x1 y) (s 40 0 5).toNat
    have hz1 := zand_le (x := bs (fun y => fE s x1 y) (s 40 0 5).toNat) (y := S) hb.1 (by omega) S0
    have hz2 := zandn_n (x := zand (bs (fun y => fE s x1 y) (s 40 0 5).toNat) S) (y := J1 136 0 6) hz1.1 (by omega) u0 (by omega)
    have hzp := zand_p (v := zand (zand (bs (fun y => fE s x1 y) (s 40 0 5).toNat) S) (zxor (J1 136 0 6) (-1))) (k := x4) hz2.1 (by omega) h0 (by omega)
    have hbit : bt (zand (zand (bs (fun y => fE s x1 y) (s 40 0 5).toNat) S) (zxor (J1 136 0 6) (-1))) x4 = (fE s x1 x4 && bt S x4 && !bt (J1 136 0 6) x4) := by
      rw [hz2.2.2 x4 h0, bt_and hb.1 (by omega) S0, bt_bs _ _ x4 h0, decide_eq_true (by omega), Bool.true_and]
    refine ⟨hzp.2, fun z => ?_, fun z => ⟨h0, by omega, h0, by omega, ?_⟩⟩
    · have z2 := hzp.1.mp z
      rw [hbit] at z2
      refine ih _ (by omega) (x4 + 1) J1 rfl (by omega) (by omega) f1 u0 u1 v1 v2 fun w w0 w1 w2 w3 => ?_
      by_cases e : w = x4
      · rw [e] at w2 w3 ⊢
        rw [w2, w3] at z2
        simpa using z2
      · exact v3 w w0 (by omega) w2 w3
    · have z2 : bt (zand (zand (bs (fun y => fE s x1 y) (s 40 0 5).toNat) S) (zxor (J1 136 0 6) (-1))) x4 = true := by
        cases hc : bt (zand (zand (bs (fun y => fE s x1 y) (s 40 0 5).toNat) S) (zxor (J1 136 0 6) (-1))) x4 with
        | true => rfl
        | false => exact absurd (hzp.1.mpr hc) z
      rw [hbit, Bool.and_eq_true, Bool.and_eq_true] at z2
      have zE := z2.1.1
      have zS := z2.1.2
      have zt : bt (J1 136 0 6) x4 = false := by simpa using z2.2
      have ho := bt_or1 (t := J1 136 0 6) (k := x4) (n := (s 40 0 5).toNat) (by omega) u0 u1 h0 (by omega)
      have hN1 : ∀ y : Int, 0 ≤ y → y < (s 40 0 5).toNat → bt (J1 136 0 6) y = false → J 139 0 y ≠ x1 := fun y y0 y1 hy => hN y y0 y1 (by
        cases hc : bt (J 136 0 6) y with
        | false => rfl
        | true =>
          rw [v1 y y0 y1 hc] at hy
          cases hy)
      have zd : zin (J 139 0 x4) := by
        by_cases e : J 139 0 x4 = -1
        · rw [e]
          exact ⟨by decide, by decide⟩
        · have := hM.1 x4 h0 (by omega) e
          exact ⟨by omega, by omega⟩
      refine ⟨zd, ⟨by decide, by decide⟩, fun e => ⟨h0, by omega, Or.inr rfl, ?_⟩, fun e => ⟨h0, by omega, ?_⟩⟩
      · refine hQ1 _ (fun b b1 b2 => by rw [zup_ne _ _ _ _ b2, zup_ne _ _ _ _ b1]; exact f1 b b1) ?_
        rw [zup_dup, zup_ne _ _ _ _ (show (139 : Nat) ≠ 136 by decide), f1 139 (by decide)]
        exact tr_wk hM hN v1 (tr_free hM x10 (by omega) hx hN1 h0 (by omega) zS zE zt e)
      · have hdm := hM.1 x4 h0 (by omega) e
        have e136 : zup J1 136 0 6 (zor (J1 136 0 6) (1 * 2 ^ x4.toNat)) 136 0 6 = zor (J1 136 0 6) (1 * 2 ^ x4.toNat) := zup_eq _ _ _ _ _
        have e139 : zup J1 136 0 6 (zor (J1 136 0 6) (1 * 2 ^ x4.toNat)) 139 0 = J 139 0 := by rw [zup_ne _ _ _ _ (by decide), f1 139 (by decide)]
        have hpc : pct (zor (J1 136 0 6) (1 * 2 ^ x4.toNat)) 14 = pct (J1 136 0 6) 14 + 1 := by
          unfold pct
          rw [cnt_del (R := fun i => bt (zor (J1 136 0 6) (1 * 2 ^ x4.toNat)) i) (k := x4) h0 (by omega) (by show bt _ x4 = true; rw [ho.2 x4 h0, decide_eq_true rfl, Bool.or_true])]
          congr 1
          refine cnt_cong fun i i0 i1 => ?_
          show (bt (zor (J1 136 0 6) (1 * 2 ^ x4.toNat)) i && decide (i ≠ x4)) = bt (J1 136 0 6) i
          rw [ho.2 i i0]
          by_cases e5 : i = x4
          · rw [e5, zt]
            simp
          · rw [decide_eq_true (p := i ≠ x4) e5, decide_eq_false (p := x4 = i) (fun q => e5 q.symm), Bool.or_false, Bool.and_true]
        have hpm : pct (J 136 0 6) 14 ≤ pct (J1 136 0 6) 14 := by
          rw [pct_wk t0 t1 (by omega), pct_wk u0 u1 (by omega)]
          exact cnt_mono fun i i0 i1 hi => v1 i i0 i1 hi
        refine ihm D (J 139 0 x4) (x3 + 1) _ _ (by omega) (by omega) ?_ (by omega) ?_ ?_ ?_ hdm.1 (by omega) hdm.2.2.1 ?_ ?_ ?_ ?_ ?_
        · intro b b1 b2
          rw [zup_ne _ _ _ _ (by omega), f1 b (by omega)]
          exact hE b b1 b2
        · rw [e136, hpc]
          omega
        · rw [e136]
          exact ho.1.1
        · rw [e136]
          exact ho.1.2
        · intro x y0 y1
          rw [zup_ne _ _ _ _ (by decide), f1 137 (by decide)]
          exact hA x y0 y1
        · rw [e139]
          exact hM
        · intro y y0 y1 hy
          rw [e136, ho.2 y y0] at hy
          rw [e139]
          intro q2
          have := hM.2 y x4 y0 y1 h0 (by omega) q2 (by rw [q2]; exact e)
          rw [this, decide_eq_true rfl, Bool.or_true] at hy
          cases hy
        · intro J2 f2 ht
          rw [e136, e139] at ht
          refine zaI_of ⟨zin_1, fun q2 => absurd q2 (by decide), fun _ => ⟨h0, by omega, Or.inr rfl, ?_⟩⟩
          refine hQ1 _ (fun b b1 b2 => by rw [zup_ne _ _ _ _ b2, f2 b b1 b2, zup_ne _ _ _ _ b1]; exact f1 b b1) ?_
          rw [zup_dup]
          refine tr_wk hM hN v1 (tr_rec hM x10 (by omega) hx hN1 h0 (by omega) zS zE zt e (fun y y0 y1 => ?_) ht)
          rw [ho.2 y y0, Bool.or_eq_true, decide_eq_true_iff]
          exact or_congr Iff.rfl ⟨fun q => q.symm, fun q => q.symm⟩
        · intro J2 f2 w0 w1 hfa
          rw [e136, e139] at hfa
          refine zaI_of ⟨zin_0, fun _ => ?_, fun q2 => absurd rfl q2⟩
          have mono : ∀ y : Int, 0 ≤ y → y < (s 40 0 5).toNat → bt (J1 136 0 6) y = true → bt (J2 136 0 6) y = true := fun y y0 y1 hy => hfa.1 y y0 y1 (by rw [ho.2 y y0, hy]; rfl)
          refine ih _ (by omega) (x4 + 1) J2 rfl (by omega) (by omega) (fun b hb => by rw [f2 b hb, zup_ne _ _ _ _ hb]; exact f1 b hb) w0 w1 (fun y y0 y1 hy => mono y y0 y1 (v1 y y0 y1 hy)) (fun y y0 y1 hy hy2 => ?_) (fun z z0 z1 z2 z3 => ?_)
          · by_cases e5 : bt (J1 136 0 6) y = true
            · have := v2 y y0 y1 e5 hy2
              exact ⟨this.1, fun z z0 z1 z2 z3 => mono z z0 z1 (this.2 z z0 z1 z2 z3)⟩
            · by_cases e6 : y = x4
              · rw [e6]
                exact ⟨e, hfa.2.2⟩
              · exact hfa.2.1 y y0 y1 hy (by rw [ho.2 y y0, decide_eq_false (fun q => e6 q.symm), Bool.or_false]; simpa using e5)
          · by_cases e6 : z = x4
            · rw [e6]
              exact hfa.1 x4 h0 (by omega) (by rw [ho.2 x4 h0, decide_eq_true rfl, Bool.or_true])
            · exact mono z z0 (by omega) (v3 z z0 (by omega) z2 z3)
  exact key _ 0 J rfl (by decide) (by omega) (fun _ _ => rfl) t0 t1 (fun y y0 y1 hy => hy) (fun y y0 y1 hy hy2 => by rw [hy] at hy2; cases hy2) fun z z0 z1 => by omega
theorem c105 {L : Nat} {xs : Nat → Int32} (hL : L ≤ 3072) {D : Nat} {J : zJ} {K : zK} {Q : zR → Nat → zJ → zK → Prop} {s : zJ} (hE : EqS s J) (h : LW s) (hP : PW s) {S : Int} (S0 : 0 ≤ S) (S1 : S < 2 ^ (s 40 0 5).toNat) (hA : ∀ x : Int, 0 ≤ x → x < s 40 0 5 → J 137 0 x = bs (fun y => fE s x y) (s 40 0 5).toNat) (hD : 20 ≤ D) (hQ : ∀ (J' : zJ) (w : Int), (∀ b : Nat, b ≠ 136 → b ≠ 139 → J' b = J b) → Wid (s 40 0 5).toNat (fE s) (bt S) w → Q (.inl (some (zi (w)))) 0 J' K) : zCall L xs D 105 [zr 136, zi S] J K Q := by
  obtain ⟨D, rfl⟩ : ∃ d, D = d + 1 := ⟨D - 1, by omega⟩
  have hpn := pw_n hP
  have hq := pw_31 (n := (s 40 0 5).toNat) (by omega)
  have en : ((s 40 0 5).toNat : Int) = s 40 0 5 := by omega
  refine z105 hL ?_
  refine c315j hL (by omega) fun J1 f1 g1 => zaV_of ?_
  have key : ∀ (n : Nat) (x3 : Int) (J2 : zJ), n = (s 40 0 5 - x3).toNat → 0 ≤ x3 → x3 ≤ s 40 0 5 → (∀ b : Nat, b ≠ 136 → b ≠ 139 → J2 b = J b) → Eng (s 40 0 5).toNat (fE s) (bt S) x3 (J2 139 0) → zGo L xs (D + 1) 105 12 [some (zr 136), some (zi S), some (zi (mtd (s 40 0 5).toNat (J2 139 0))), some (zi x3)] [] J2 K Q := by
    intro n; induction n using Nat.strongRecOn with
  | _ n ih =>
    intro x3 J2 hm h0 h1 f2 hg
    have hE2 : EqS s J2 := fun b b1 b2 => (f2 b (by omega) (by omega)).trans (hE b b1 b2)
    refine z105_12 hL ?_
    rw [hE2 40 (by decide) (by decide), bt_shz S0 (by omega)]
    refine ⟨⟨by omega, by omega⟩, ⟨by omega, by omega⟩, fun q => ?_, fun q => ⟨⟨by omega, by omega⟩, h0, by omega, zin_zb _, fun z => ?_, fun z => ?_⟩⟩
    · have e : x3 = s 40 0 5 := by omega
      subst e
      have hp14 : (2 : Int) ^ (s 40 0 5).toNat ≤ 2 ^ 14 := pw_le (by omega)
      refine c317 hL (by omega) S0 (by omega) (zaI_of ?_)
      obtain ⟨m1, _, T, m3, m4⟩ := hg
      refine hQ J2 _ f2 ?_
      rw [pct_wk S0 S1 (by omega)]
      exact wid_of (fE_tr h hP) m1 m3 fun x x0 x1 hx => m4 x x0 (by omega) hx
    · exact ih _ (by omega) (x3 + 1) J2 rfl (by omega) (by omega) f2 (eng_no hg (zb_0.mp z))
    · have hzS := zb_1.mp z
      have e136 : zup J2 136 0 6 0 136 0 6 = 0 := zup_eq _ _ _ _ _
      have e139 : zup J2 136 0 6 0 139 = J2 139 := zup_ne _ _ _ _ (by decide)
      have hfun : bt 0 = fun _ => false := funext bt_z
      refine c108 hL hP S0 S1 15 D x3 0 _ _ rfl (by omega) ?_ (by decide) ?_ ?_ ?_ h0 q hzS ?_ ?_ ?_ ?_ ?_
      · exact fun b b1 b2 => by rw [zup_ne _ _ _ _ (by omega)]; exact hE2 b b1 b2
      · exact (cnt_rng _ _).1
      · rw [e136]
        exact Int.le_refl _
      · rw [e136]
        omega
      · intro x x0 x1
        rw [zup_ne _ _ _ _ (by decide), f2 137 (by decide) (by decide)]
        exact hA x x0 x1
      · rw [e139]
        exact hg.1
      · intro y y0 y1 _
        rw [e139]
        have := hg.2.1 y y0 y1
        omega
      · intro J3 f3 ht
        rw [e136, e139, hfun] at ht
        refine zaI_of ⟨zin_1, fun q2 => absurd q2 (by decide), fun _ => ?_⟩
        have hm3 := (tr_mat ht).2
        rw [← hm3]
        exact ih _ (by omega) (x3 + 1) J3 rfl (by omega) (by omega) (fun b b1 b2 => by rw [f3 b b1 b2, zup_ne _ _ _ _ b1]; exact f2 b b1 b2) (eng_t hg ht)
      · intro J3 f3 w0 w1 hf
        rw [e136, e139, hfun] at hf
        have e3 : J3 139 = J2 139 := by rw [f3 139 (by decide), e139]
        refine zaI_of ⟨zin_0, fun _ => ?_, fun q2 => absurd rfl q2⟩
        rw [← e3]
        exact ih _ (by omega) (x3 + 1) J3 rfl (by omega) (by omega) (fun b b1 b2 => by rw [f3 b b1, zup_ne _ _ _ _ b1]; exact f2 b b1 b2) (by rw [e3]; exact eng_f hg hf)
  have hm0 : mtd (s 40 0 5).toNat (J1 139 0) = 0 := sm_zero fun y y0 y1 => by
    show zb (decide (J1 139 0 y ≠ -1)) = 0
    rw [g1 y y0 (by omega)]
    rfl
  have hk := key _ 0 J1 rfl (by decide) (by omega) (fun b _ b2 => f1 b b2) ⟨⟨fun y y0 y1 hy => absurd (g1 y y0 (by omega)) hy, fun y z y0 y1 _ _ _ hy => absurd (g1 y y0 (by omega)) hy⟩, fun y y0 y1 => by rw [g1 y y0 (by omega)]; decide, fun _ => false, fun y _ _ hy => (by cases hy), fun x x0 x1 => by omega⟩
  rw [hm0] at hk
  exact hk
theorem c103 {L : Nat} {xs : Nat → Int32} (hL : L ≤ 3072) {D : Nat} {J : zJ} {K : zK} {Q : zR → Nat → zJ → zK → Prop} {s : zJ} (hE : EqS s J) (hP : PW s) (hD : 1 ≤ D) (hQ : Q (.inl (some (zi (2 ^ (s 40 0 5).toNat - 1)))) 0 J K) : zCall L xs D 103 [zr 136] J K Q := by
  obtain ⟨D, rfl⟩ : ∃ d, D = d + 1 := ⟨D - 1, by omega⟩
  have hpn := pw_n hP
  refine z103 hL ?_
  have e40 := hE 40 (by decide) (by decide); simp only [e40]
  rw [Int.one_mul]
  exact ⟨by omega, by omega, hQ⟩
theorem c106 {L : Nat} {xs : Nat → Int32} (hL : L ≤ 3072) {D : Nat} {J : zJ} {K : zK} {Q : zR → Nat → zJ → zK → Prop} {s : zJ} (hE : EqS s J) (h : LW s) (hT : TW s) (hP : PW s) (hD : 22 ≤ D) (hQ : ∀ (J' : zJ) (w : Int), Fr 136 139 J J' → (∀ x : Int, 0 ≤ x → x < s 40 0 5 → J' 137 0 x = bs (fun y => fE s x y) (s 40 0 5).toNat ∧ J' 138 0 x = bs (fun y => fE s y x) (s 40 0 5).toNat) → Wid (s 40 0 5).toNat (fE s) (bt (2 ^ (s 40 0 5).toNat - 1)) w → Q (.inl (some (zi (w)))) 0 J' K) : zCall L xs D 106 [zr 136] J K Q := by
  obtain ⟨D, rfl⟩ : ∃ d, D = d + 1 := ⟨D - 1, by omega⟩
  have hpn := pw_n hP
  have hq := pw_31 (n := (s 40 0 5).toNat) (by omega)
  refine z106 hL ?_
  refine c109 hL hE h hT hP (by omega) fun J1 f1 g1 => zaV_of ?_
  have hE1 := eqs_fr hE f1 (by decide)
  refine c103 hL hE1 hP (by omega) (zaI_of ?_)
  refine c105 hL hE1 h hP (by omega) (by omega) (fun x x0 x1 => (g1 x x0 x1).1) (by omega) fun J2 w f2 hw => zaI_of ?_
  refine hQ J2 w (fun b hb => (f2 b (by omega) (by omega)).trans (f1 b (by omega))) (fun x x0 x1 => ?_) hw
  rw [f2 137 (by decide) (by decide), f2 138 (by decide) (by decide)]
  exact g1 x x0 x1
/-! which set is told -/
def Lsm (n : Nat) (E : Int → Int → Bool) (m b : Int) : Prop := 0 ≤ b ∧ b < m ∧ Ant n E (bt b) ∧ ∀ y : Int, 0 ≤ y → y < m → Ant n E (bt y) → pct y 14 < pct b 14 ∨ (pct y 14 = pct b 14 ∧ b ≤ y)
theorem lsm_one {n : Nat} {E : Int → Int → Bool} {m b c : Int} (h1 : Lsm n E m b) (h2 : Lsm n E m c) : b = c := by
  have a := h1.2.2.2 c h2.1 h2.2.1 h2.2.2.1
  have d := h2.2.2.2 b h1.1 h1.2.1 h1.2.2.1
  omega
theorem ant_0 (n : Nat) (E : Int → Int → Bool) : Ant n E (bt 0) := fun a b _ _ _ _ ha _ => by
  rw [bt_z] at ha
  cases ha
theorem lsm_0 (n : Nat) (E : Int → Int → Bool) : Lsm n E 1 0 := ⟨by decide, by decide, ant_0 n E, fun y y0 y1 _ => Or.inr ⟨by
  have : y = 0 := by omega
  rw [this], y0⟩⟩
theorem lsm_no {n : Nat} {E : Int → Int → Bool} {m b : Int} (h : Lsm n E m b) (hm : Ant n E (bt m) → pct m 14 ≤ pct b 14) : Lsm n E (m + 1) b := by
  obtain ⟨h0, h1, h2, h3⟩ := h
  refine ⟨h0, by omega, h2, fun y y0 y1 hy => ?_⟩
  by_cases e : y = m
  · have := hm (by rw [← e]; exact hy)
    rw [e]
    omega
  · exact h3 y y0 (by omega) hy
theorem lsm_yes {n : Nat} {E : Int → Int → Bool} {m b : Int} (h : Lsm n E m b) (ha : Ant n E (bt m)) (hm : pct b 14 < pct m 14) : Lsm n E (m + 1) m := by
  obtain ⟨h0, h1, h2, h3⟩ := h
  refine ⟨by omega, by omega, ha, fun y y0 y1 hy => ?_⟩
  by_cases e : y = m
  · rw [e]
    exact Or.inr ⟨rfl, Int.le_refl _⟩
  · have := h3 y y0 (by omega) hy
    omega
theorem lsm_ex (n : Nat) (E : Int → Int → Bool) : ∀ m : Nat, ∃ b, Lsm n E ((m : Int) + 1) b
  | 0 => ⟨0, lsm_0 n E⟩
  | m + 1 => by
    obtain ⟨b, hb⟩ := lsm_ex n E m
    have e : ((m + 1 : Nat) : Int) + 1 = ((m : Int) + 1) + 1 := by omega
    rw [e]
    by_cases hc : Ant n E (bt ((m : Int) + 1)) ∧ pct b 14 < pct ((m : Int) + 1) 14
    · exact ⟨_, lsm_yes hb hc.1 hc.2⟩
    · refine ⟨b, lsm_no hb fun ha => ?_⟩
      rcases Int.lt_or_le (pct b 14) (pct ((m : Int) + 1) 14) with z | z
      · exact absurd ⟨ha, z⟩ hc
      · exact z
theorem lsm_e (n : Nat) (E : Int → Int → Bool) : ∃ b, Lsm n E (2 ^ n) b := by
  have hp := pw_pos n
  obtain ⟨b, hb⟩ := lsm_ex n E ((2 : Int) ^ n - 1).toNat
  have e : (((2 : Int) ^ n - 1).toNat : Int) + 1 = 2 ^ n := by omega
  rw [e] at hb
  exact ⟨b, hb⟩
theorem ant_bs {n : Nat} {E : Int → Int → Bool} {A : Int → Bool} (h : Ant n E A) : Ant n E (bt (bs A n)) := fun a b a0 a1 b0 b1 ha hb => by
  rw [bt_bs A n a a0, Bool.and_eq_true] at ha
  rw [bt_bs A n b b0, Bool.and_eq_true] at hb
  exact h a b a0 a1 b0 b1 ha.2 hb.2
theorem lsm_wid {n : Nat} {E : Int → Int → Bool} {b : Int} (hn : n ≤ 14) (h : Lsm n E (2 ^ n) b) : Wid n E (bt (2 ^ n - 1)) (pct b 14) := by
  refine ⟨⟨bt b, fun i i0 i1 _ => by rw [bt_ones n i0]; exact decide_eq_true i1, h.2.2.1, ?_⟩, fun A _ hA => ?_⟩
  · rw [pct_wk h.1 h.2.1 hn]
    rfl
  · have hb := bs_lt A n
    have := h.2.2.2 (bs A n) hb.1 hb.2 (ant_bs hA)
    rw [pct_bs A hn] at this
    omega
theorem lt_bits {y b k : Int} (y0 : 0 ≤ y) (b0 : 0 ≤ b) (k0 : 0 ≤ k) (h1 : bt y k = false) (h2 : bt b k = true) (h3 : ∀ j : Int, k < j → bt y j = bt b j) : y < b := by
  have e : y.toNat / 2 ^ (k.toNat + 1) = b.toNat / 2 ^ (k.toNat + 1) := Nat.eq_of_testBit_eq fun j => by
    rw [Nat.testBit_div_two_pow, Nat.testBit_div_two_pow]
    have := h3 ((j + (k.toNat + 1) : Nat) : Int) (by omega)
    unfold bt at this
    rw [Int.toNat_natCast] at this
    exact this
  unfold bt at h1 h2
  rw [Nat.testBit_eq_decide_div_mod_eq, decide_eq_false_iff_not] at h1
  rw [Nat.testBit_eq_decide_div_mod_eq, decide_eq_true_iff] at h2
  rw [Nat.pow_succ, ← Nat.div_div_eq_div_mul, ← Nat.div_div_eq_div_mul] at e
  rcases Int.lt_or_le y b with z | z
  · exact z
  · have : b.toNat / 2 ^ k.toNat ≤ y.toNat / 2 ^ k.toNat := Nat.div_le_div_right (by omega)
    omega
/-- where the search for it stands: jobs above x are told -/
def Pst (n : Nat) (E : Int → Int → Bool) (b x kp op ms : Int) : Prop :=
  (0 ≤ kp ∧ kp < 2 ^ n ∧ 0 ≤ op ∧ op < 2 ^ n) ∧
  (∀ k : Int, 0 ≤ k → bt kp k = (bt b k && decide (x < k))) ∧
  (∀ k : Int, 0 ≤ k → bt op k = true → k ≤ x) ∧
  (∀ k : Int, 0 ≤ k → k ≤ x → bt b k = true → bt op k = true) ∧
  (∀ a o : Int, 0 ≤ a → 0 ≤ o → bt kp a = true → bt op o = true → E a o = false ∧ E o a = false) ∧
  Wid n E (bt op) ms ∧ ms = cnt (fun k => bt b k && decide (k ≤ x)) n
theorem pst_skip {n : Nat} {E : Int → Int → Bool} {b x kp op ms : Int} (h : Pst n E b x kp op ms) (x0 : 0 ≤ x) (hx : bt op x = false) : Pst n E b (x - 1) kp op ms := by
  obtain ⟨h0, h1, h2, h3, h4, h5, h6⟩ := h
  have hbx : bt b x = false := by
    cases hc : bt b x with
    | false => rfl
    | true =>
      rw [h3 x x0 (Int.le_refl _) hc] at hx
      cases hx
  refine ⟨h0, fun k k0 => ?_, fun k k0 hk => ?_, fun k k0 k1 hk => h3 k k0 (by omega) hk, h4, h5, ?_⟩
  · rw [h1 k k0]
    by_cases e : k = x
    · rw [e, hbx]
      rfl
    · congr 1
      exact decide_eq_decide.mpr (by omega)
  · have := h2 k k0 hk
    by_cases e : k = x
    · rw [e, hx] at hk
      cases hk
    · omega
  · rw [h6]
    refine cnt_cong fun k k0 k1 => ?_
    by_cases e : k = x
    · rw [e, hbx]
      rfl
    · congr 1
      exact decide_eq_decide.mpr (by omega)
theorem wid_mono {n : Nat} {E : Int → Int → Bool} {S S' : Int → Bool} {w w' : Int} (h : Wid n E S w) (h' : Wid n E S' w') (hs : ∀ i : Int, 0 ≤ i → i < n → S' i = true → S i = true) : w' ≤ w := by
  obtain ⟨⟨A, a1, a2, a3⟩, _⟩ := h'
  have := h.2 A (fun i i0 i1 hi => hs i i0 i1 (a1 i i0 i1 hi)) a2
  omega
/-- the job is left out -/
theorem pst_no {n : Nat} {E : Int → Int → Bool} {b x kp op op' ms w : Int} (hn : n ≤ 14) (hb : Lsm n E (2 ^ n) b) (h : Pst n E b x kp op ms) (x0 : 0 ≤ x) (x1 : x < n) (o0 : 0 ≤ op') (o1 : op' ≤ op) (ho : ∀ k : Int, 0 ≤ k → bt op' k = (bt op k && !decide (x = k))) (hw : Wid n E (bt op') w) (hle : ms ≤ w) : Pst n E b (x - 1) kp op' ms := by
  obtain ⟨h0, h1, h2, h3, h4, h5, h6⟩ := h
  have sub : ∀ k : Int, 0 ≤ k → bt op' k = true → bt op k = true ∧ k ≠ x := fun k k0 hk => by
    rw [ho k k0, Bool.and_eq_true] at hk
    refine ⟨hk.1, fun e => ?_⟩
    rw [e] at hk
    simp at hk
  have hwe : w = ms := by
    have := wid_mono h5 hw fun i i0 _ hi => (sub i i0 hi).1
    omega
  have hbx : bt b x = false := by
    cases hc : bt b x with
    | false => rfl
    | true =>
      exfalso
      obtain ⟨⟨A, a1, a2, a3⟩, _⟩ := hw
      have hy := bs_lt (fun k => bt kp k || A k) n
      have an : Ant n E (fun k => bt kp k || A k) := by
        intro p q p0 p1 q0 q1 hp hq
        rw [Bool.or_eq_true] at hp hq
        rcases hp with hp | hp
        · rcases hq with hq | hq
          · rw [h1 p p0, Bool.and_eq_true] at hp
            rw [h1 q q0, Bool.and_eq_true] at hq
            exact hb.2.2.1 p q p0 p1 q0 q1 hp.1 hq.1
          · exact (h4 p q p0 q0 hp (sub q q0 (a1 q q0 q1 hq)).1).1
        · rcases hq with hq | hq
          · exact (h4 q p q0 p0 hq (sub p p0 (a1 p p0 p1 hp)).1).2
          · exact a2 p q p0 p1 q0 q1 hp hq
      have hAx : ∀ k : Int, 0 ≤ k → k < n → A k = true → k < x := fun k k0 k1 hk => by
        have h7 := sub k k0 (a1 k k0 k1 hk)
        have := h2 k k0 h7.1
        omega
      have e1 : cnt (fun k => bt kp k || A k) n = cnt (fun k => bt kp k) n + cnt A n := by
        unfold cnt
        rw [← sm_add]
        refine sm_cong fun k k0 k1 => ?_
        show zb (bt kp k || A k) = zb (bt kp k) + zb (A k)
        cases hA : A k with
        | false => simp [zb_f]
        | true =>
          have := hAx k k0 k1 hA
          rw [h1 k k0, decide_eq_false (by omega), Bool.and_false]
          rfl
      have e2 : cnt (fun k => bt b k) n = cnt (fun k => bt b k && decide (k ≤ x)) n + cnt (fun k => bt kp k) n := by
        rw [cnt_split (fun k => bt b k) (fun k => decide (k ≤ x)) n]
        congr 1
        refine cnt_cong fun k k0 k1 => ?_
        rw [h1 k k0]
        congr 1
        by_cases q : k ≤ x
        · rw [decide_eq_true q, decide_eq_false (by omega)]
          rfl
        · rw [decide_eq_false q, decide_eq_true (by omega)]
          rfl
      have h8 := hb.2.2.2 _ hy.1 hy.2 (ant_bs an)
      rw [pct_bs _ hn, pct_wk hb.1 hb.2.1 hn] at h8
      unfold pct at h8
      have h9 : bs (fun k => bt kp k || A k) n < b := by
        refine lt_bits hy.1 hb.1 x0 ?_ hc fun j hj => ?_
        · rw [bt_bs _ _ x x0, h1 x x0]
          have : A x = false := by
            cases hA : A x with
            | false => rfl
            | true =>
              have := hAx x x0 x1 hA
              omega
          rw [this]
          simp
        · rw [bt_bs _ _ j (by omega), h1 j (by omega)]
          by_cases jn : j < n
          · have : A j = false := by
              cases hA : A j with
              | false => rfl
              | true =>
                have := hAx j (by omega) jn hA
                omega
            rw [this, decide_eq_true jn, decide_eq_true hj]
            simp
          · rw [decide_eq_false jn, Bool.false_and, bt_lt hb.1 hb.2.1 (by omega)]
      omega
  refine ⟨⟨h0.1, h0.2.1, o0, by omega⟩, fun k k0 => ?_, fun k k0 hk => ?_, fun k k0 k1 hk => ?_, fun a o a0 o2 ha ho2 => h4 a o a0 o2 ha (sub o o2 ho2).1, by rw [← hwe]; exact hw, ?_⟩
  · rw [h1 k k0]
    by_cases e : k = x
    · rw [e, hbx]
      rfl
    · congr 1
      exact decide_eq_decide.mpr (by omega)
  · have h7 := sub k k0 hk
    have := h2 k k0 h7.1
    omega
  · rw [ho k k0, h3 k k0 (by omega) hk, decide_eq_false (by omega)]
    rfl
  · rw [h6]
    refine cnt_cong fun k k0 k1 => ?_
    by_cases e : k = x
    · rw [e, hbx]
      rfl
    · congr 1
      exact decide_eq_decide.mpr (by omega)
/-- the job is kept -/
theorem pst_yes {n : Nat} {E : Int → Int → Bool} {b x kp kp' op op' op2 ms w : Int} (hb : Lsm n E (2 ^ n) b) (h : Pst n E b x kp op ms) (x0 : 0 ≤ x) (x1 : x < n) (hopx : bt op x = true) (ho : ∀ k : Int, 0 ≤ k → bt op' k = (bt op k && !decide (x = k))) (hw : Wid n E (bt op') w) (hlt : w < ms) (k0 : 0 ≤ kp') (k1 : kp' < 2 ^ n) (hk : ∀ k : Int, 0 ≤ k → bt kp' k = (bt kp k || decide (x = k))) (o20 : 0 ≤ op2) (o21 : op2 < 2 ^ n) (ho2 : ∀ k : Int, 0 ≤ k → k < n → bt op2 k = (bt op' k && !(E x k || E k x))) (hEx : E x x = false) : Pst n E b (x - 1) kp' op2 (ms - 1) := by
  obtain ⟨h0, h1, h2, h3, h4, h5, h6⟩ := h
  have hbx : bt b x = true := by
    cases hc : bt b x with
    | true => rfl
    | false =>
      exfalso
      have := hw.2 (fun k => bt b k && decide (k ≤ x)) (fun i i0 i1 hi => by
        rw [Bool.and_eq_true, decide_eq_true_iff] at hi
        rw [ho i i0, h3 i i0 hi.2 hi.1]
        have : x ≠ i := fun e => by
          rw [e, hi.1] at hc
          cases hc
        rw [decide_eq_false this]
        rfl) (fun p q p0 p1 q0 q1 hp hq => by
        rw [Bool.and_eq_true] at hp hq
        exact hb.2.2.1 p q p0 p1 q0 q1 hp.1 hq.1)
      omega
  have sub2 : ∀ k : Int, 0 ≤ k → bt op2 k = true → k < n ∧ bt op k = true ∧ k ≠ x ∧ E x k = false ∧ E k x = false := fun k k2 hk2 => by
    have hkn : k < n := bt_n o20 o21 hk2 k2
    rw [ho2 k k2 hkn, Bool.and_eq_true, ho k k2, Bool.and_eq_true] at hk2
    have h8 := hk2.2
    rw [Bool.not_eq_true', Bool.or_eq_false_iff] at h8
    refine ⟨hkn, hk2.1.1, fun e => ?_, h8.1, h8.2⟩
    have := hk2.1.2
    rw [e] at this
    simp at this
  have cut : cnt (fun k => bt b k && decide (k ≤ x)) n = cnt (fun k => bt b k && decide (k ≤ x - 1)) n + 1 := by
    rw [cnt_del (R := fun k => bt b k && decide (k ≤ x)) x0 x1 (by show (bt b x && decide (x ≤ x)) = true; rw [hbx, decide_eq_true (Int.le_refl x)]; rfl)]
    congr 1
    refine cnt_cong fun k k2 k3 => ?_
    show (bt b k && decide (k ≤ x) && decide (k ≠ x)) = (bt b k && decide (k ≤ x - 1))
    rw [Bool.and_assoc]
    congr 1
    by_cases q : k ≤ x - 1
    · rw [decide_eq_true q, decide_eq_true (p := k ≤ x) (by omega), decide_eq_true (p := k ≠ x) (by omega)]
      rfl
    · rw [decide_eq_false q]
      by_cases q2 : k ≤ x
      · rw [decide_eq_false (p := k ≠ x) (by omega), Bool.and_false]
      · rw [decide_eq_false q2, Bool.false_and]
  have inb : ∀ k : Int, 0 ≤ k → k ≤ x - 1 → bt b k = true → bt op2 k = true := by
    intro k k2 k3 hk2
    have e1 := hb.2.2.1 x k x0 x1 k2 (by omega) hbx hk2
    have e2 := hb.2.2.1 k x k2 (by omega) x0 x1 hk2 hbx
    rw [ho2 k k2 (by omega), ho k k2, h3 k k2 (by omega) hk2, decide_eq_false (by omega), e1, e2]
    rfl
  refine ⟨⟨k0, k1, o20, o21⟩, fun k k2 => ?_, fun k k2 hk2 => ?_, inb, fun a o a0 o2 ha hoo => ?_, ⟨⟨fun k => bt b k && decide (k ≤ x - 1), fun i i0 i1 hi => ?_, fun p q p0 p1 q0 q1 hp hq => ?_, by omega⟩, fun A hA1 hA2 => ?_⟩, by omega⟩
  · rw [hk k k2, h1 k k2]
    by_cases e : x = k
    · rw [decide_eq_true e, Bool.or_true, ← e, hbx, decide_eq_true (by omega)]
      rfl
    · rw [decide_eq_false e, Bool.or_false]
      congr 1
      exact decide_eq_decide.mpr (by omega)
  · have h7 := sub2 k k2 hk2
    have := h2 k k2 h7.2.1
    omega
  · have h7 := sub2 o o2 hoo
    rw [hk a a0, Bool.or_eq_true] at ha
    rcases ha with z | z
    · exact h4 a o a0 o2 z h7.2.1
    · have := of_decide_eq_true z
      rw [← this]
      exact ⟨h7.2.2.2.1, h7.2.2.2.2⟩
  · rw [Bool.and_eq_true, decide_eq_true_iff] at hi
    exact inb i i0 hi.2 hi.1
  · rw [Bool.and_eq_true] at hp hq
    exact hb.2.2.1 p q p0 p1 q0 q1 hp.1 hq.1
  · have h8 := h5.2 (fun k => A k || decide (k = x)) (fun i i0 i1 hi => by
      rw [Bool.or_eq_true] at hi
      rcases hi with z | z
      · exact (sub2 i i0 (hA1 i i0 i1 z)).2.1
      · rw [of_decide_eq_true z]
        exact hopx) (fun p q p0 p1 q0 q1 hp hq => by
      rw [Bool.or_eq_true] at hp hq
      rcases hp with hp | hp
      · rcases hq with hq | hq
        · exact hA2 p q p0 p1 q0 q1 hp hq
        · rw [of_decide_eq_true hq]
          exact (sub2 p p0 (hA1 p p0 p1 hp)).2.2.2.2
      · rcases hq with hq | hq
        · rw [of_decide_eq_true hp]
          exact (sub2 q q0 (hA1 q q0 q1 hq)).2.2.2.1
        · rw [of_decide_eq_true hp, of_decide_eq_true hq]
          exact hEx)
    have h9 : cnt (fun k => A k || decide (k = x)) n = cnt A n + 1 := by
      rw [cnt_del (R := fun k => A k || decide (k = x)) x0 x1 (by show (A x || decide (x = x)) = true; rw [decide_eq_true rfl, Bool.or_true])]
      congr 1
      refine cnt_cong fun k k2 k3 => ?_
      show ((A k || decide (k = x)) && decide (k ≠ x)) = A k
      by_cases e : k = x
      · have : A x = false := by
          cases hc : A x with
          | false => rfl
          | true => exact absurd rfl (sub2 x x0 (hA1 x x0 x1 hc)).2.2.1
        rw [e, this]
        simp
      · rw [decide_eq_false e, decide_eq_true (p := k ≠ x) e, Bool.or_false, Bool.and_true]
    omega
theorem fE_rf (s : zJ) (x : Int) : fE s x x = false := by
  unfold fE
  simp
theorem c112 {L : Nat} {xs : Nat → Int32} (hL : L ≤ 3072) {D : Nat} {J : zJ} {K : zK} {Q : zR → Nat → zJ → zK → Prop} {s : zJ} (hE : EqS s J) (h : LW s) (hT : TW s) (hP : PW s) {b : Int} (hb : Lsm (s 40 0 5).toNat (fE s) (2 ^ (s 40 0 5).toNat) b) (hD : 24 ≤ D) (hQ : ∀ J' : zJ, Fr 136 139 J J' → Q (.inl (some (zi (b)))) 0 J' K) : zCall L xs D 112 [zr 136] J K Q := by
  obtain ⟨D, rfl⟩ : ∃ d, D = d + 1 := ⟨D - 1, by omega⟩
  have hpn := pw_n hP
  have hq := pw_31 (n := (s 40 0 5).toNat) (by omega)
  have en : ((s 40 0 5).toNat : Int) = s 40 0 5 := by omega
  refine z112 hL ?_
  refine c106 hL hE h hT hP (by omega) fun J1 w f1 g1 hw => zaI_of ?_
  have hE1 := eqs_fr hE f1 (by decide)
  refine c103 hL hE1 hP (by omega) (zaI_of ?_)
  rw [hE1 40 (by decide) (by decide)]
  have key : ∀ (m : Nat) (x4 ms kp op : Int) (J2 : zJ), m = (x4 + 1).toNat → -1 ≤ x4 → x4 < s 40 0 5 → Fr 136 139 J J2 → (∀ x : Int, 0 ≤ x → x < s 40 0 5 → J2 137 0 x = bs (fun y => fE s x y) (s 40 0 5).toNat ∧ J2 138 0 x = bs (fun y => fE s y x) (s 40 0 5).toNat) → Pst (s 40 0 5).toNat (fE s) b x4 kp op ms → zGo L xs (D + 1) 112 23 [some (zr 136), some (zi ms), some (zi kp), some (zi op), some (zi x4)] [] J2 K Q := by
    intro m; induction m using Nat.strongRecOn with
    | _ m ih =>
    intro x4 ms kp op J2 hm c0 c1 f2 g2 hS
    obtain ⟨⟨kp0, kp1, op0, op1⟩, hS1, hS2, hS3, hS4, hS5, hS6⟩ := id hS
    have hms := cnt_rng (fun k => bt b k && decide (k ≤ x4)) (s 40 0 5).toNat
    refine z112_23 hL ⟨⟨by omega, by omega⟩, fun q => ?_, fun q => ⟨⟨by omega, by omega⟩, q, by omega, ?_⟩⟩
    · have e : x4 = -1 := by omega
      subst e
      have ek : kp = b := bt_ext kp0 hb.1 fun k k0 => by
        rw [hS1 k k0, decide_eq_true (by omega), Bool.and_true]
      rw [ek]
      exact hQ J2 f2
    · rw [bt_shz op0 (by omega)]
      refine ⟨zin_zb _, fun z => ?_, fun z => ⟨q, by omega, ?_⟩⟩
      · have := pst_skip hS q (zb_0.mp z)
        exact ih _ (by omega) (x4 + -1) ms kp op J2 rfl (by omega) (by omega) f2 g2 this
      · have hopx := zb_1.mp z
        have hp2 := pw_31 (n := x4.toNat) (by omega)
        have hzn := zandn_n (x := op) (y := 1 * 2 ^ x4.toNat) op0 (by omega) (by omega) (by omega)
        have ho : ∀ k : Int, 0 ≤ k → bt (zand op (zxor (1 * 2 ^ x4.toNat) (-1))) k = (bt op k && !decide (x4 = k)) := fun k k0 => by
          rw [hzn.2.2 k k0, Int.one_mul, bt_pow q k0]
        have hE2 := eqs_fr hE f2 (by decide)
        refine c105 hL hE2 h hP hzn.1 (by omega) (fun x x0 x1 => (g2 x x0 x1).1) (by omega) fun J3 w3 f3 hw3 => zaI_of ?_
        have f3' : Fr 136 139 J J3 := fun c hc => (f3 c (by omega) (by omega)).trans (f2 c hc)
        have g3 : ∀ x : Int, 0 ≤ x → x < s 40 0 5 → J3 137 0 x = bs (fun y => fE s x y) (s 40 0 5).toNat ∧ J3 138 0 x = bs (fun y => fE s y x) (s 40 0 5).toNat := fun x x0 x1 => by
          rw [f3 137 (by decide) (by decide), f3 138 (by decide) (by decide)]
          exact g2 x x0 x1
        have hw30 : 0 ≤ w3 ∧ w3 ≤ ms := by
          have := wid_mono hS5 hw3 fun i i0 _ hi => by
            rw [ho i i0, Bool.and_eq_true] at hi
            exact hi.1
          have h9 := hw3.2 (fun _ => false) (fun i _ _ hi => by cases hi) (fun p q _ _ _ _ hp => by cases hp)
          have h10 : cnt (fun _ => false) (s 40 0 5).toNat = 0 := sm_zero fun _ _ _ => rfl
          omega
        refine ⟨⟨by omega, by omega⟩, ⟨by omega, by omega⟩, fun z2 => ?_, fun z2 => ⟨q, by omega, q, by omega, q, by omega, ?_⟩⟩
        · have := pst_no (by omega) hb hS q (by omega) hzn.1 hzn.2.1 ho hw3 z2
          exact ih _ (by omega) (x4 + -1) ms kp _ J3 rfl (by omega) (by omega) f3' g3 this
        · obtain ⟨ga, gb⟩ := g3 x4 q c1
          rw [ga, gb]
          have b1 := bs_lt (fun y => fE s x4 y) (s 40 0 5).toNat
          have b2 := bs_lt (fun y => fE s y x4) (s 40 0 5).toNat
          have hzo := zor_lt (x := bs (fun y => fE s x4 y) (s 40 0 5).toNat) (y := bs (fun y => fE s y x4) (s 40 0 5).toNat) (n := (s 40 0 5).toNat) (by omega) b1.1 b1.2 b2.1 b2.2
          have hz2 := zandn_n (x := zand op (zxor (1 * 2 ^ x4.toNat) (-1))) (y := zor (bs (fun y => fE s x4 y) (s 40 0 5).toNat) (bs (fun y => fE s y x4) (s 40 0 5).toNat)) hzn.1 (by omega) hzo.1 (by omega)
          have hor := bt_or1 (t := kp) (k := x4) (n := (s 40 0 5).toNat) (by omega) kp0 kp1 q (by omega)
          have := pst_yes hb hS q (by omega) hopx ho hw3 z2 hor.1.1 hor.1.2 hor.2 hz2.1 (by omega) (fun k k0 k1 => by
            rw [hz2.2.2 k k0, bt_or b1.1 (by omega) b2.1 (by omega), bt_bs _ _ k k0, bt_bs _ _ k k0, decide_eq_true k1, Bool.true_and, Bool.true_and]) (fE_rf s x4)
          exact ih _ (by omega) (x4 + -1) (ms + -1) _ _ J3 rfl (by omega) (by omega) f3' g3 this
  refine key _ (s 40 0 5 - 1) w 0 _ J1 rfl (by omega) (by omega) f1 g1 ⟨⟨by decide, by omega, by omega, by omega⟩, fun k k0 => ?_, fun k k0 hk => ?_, fun k k0 k1 _ => ?_, fun a o a0 _ ha => ?_, hw, ?_⟩
  · rw [bt_z]
    by_cases q : s 40 0 5 - 1 < k
    · rw [bt_lt hb.1 hb.2.1 (by omega)]
      rfl
    · rw [decide_eq_false q, Bool.and_false]
  · rw [bt_ones _ k0, decide_eq_true_iff] at hk
    omega
  · rw [bt_ones _ k0]
    exact decide_eq_true (by omega)
  · rw [bt_z] at ha
    cases ha
  · have := wid_one hw (lsm_wid (by omega) hb)
    rw [this, pct_wk hb.1 hb.2.1 (by omega)]
    unfold pct
    refine cnt_cong fun k k0 k1 => ?_
    rw [decide_eq_true (by omega), Bool.and_true]
/-! the model -/
theorem bt_2 {x a b : Int} (x0 : 0 ≤ x) (x1 : x < 2147483648) : zand (zand (x / 2 ^ a.toNat) (x / 2 ^ b.toNat)) 1 = zb (bt x a && bt x b) := by
  have h0 : ∀ k : Int, 0 ≤ x / 2 ^ k.toNat ∧ x / 2 ^ k.toNat ≤ x := fun k => ⟨Int.ediv_nonneg x0 (Int.le_of_lt (pw_pos _)), Int.ediv_le_self _ x0⟩
  have hb : ∀ k : Int, bt (x / 2 ^ k.toNat) 0 = bt x k := fun k => by
    have h1 := bt_shz (x := x) (k := k) x0 x1
    have h2 := bt_shz (x := x / 2 ^ k.toNat) (k := 0) (h0 k).1 (by have := (h0 k).2; omega)
    have e : x / 2 ^ k.toNat / 2 ^ (0 : Int).toNat = x / 2 ^ k.toNat := by
      have : (2 : Int) ^ (0 : Int).toNat = 1 := rfl
      rw [this, Int.ediv_one]
    rw [e, h1] at h2
    cases hc : bt x k <;> cases hd : bt (x / 2 ^ k.toNat) 0 <;> rw [hc, hd] at h2 <;> first | rfl | (exact absurd h2 (by decide))
  have ha := h0 a
  have hbb := h0 b
  have hz := zand_le ha.1 (by omega) hbb.1
  have h3 := bt_shz (x := zand (x / 2 ^ a.toNat) (x / 2 ^ b.toNat)) (k := 0) hz.1 (by omega)
  have e : zand (x / 2 ^ a.toNat) (x / 2 ^ b.toNat) / 2 ^ (0 : Int).toNat = zand (x / 2 ^ a.toNat) (x / 2 ^ b.toNat) := by
    have : (2 : Int) ^ (0 : Int).toNat = 1 := rfl
    rw [this, Int.ediv_one]
  rw [e] at h3
  rw [h3, bt_and ha.1 (by omega) hbb.1, hb, hb]
theorem c242 {L : Nat} {xs : Nat → Int32} (hL : L ≤ 3072) {D : Nat} {J : zJ} {K : zK} {Q : zR → Nat → zJ → zK → Prop} {s : zJ} (hM : ML s J) (h : LW s) (hP : PW s) (hC : MC s J) {x : Int} (x0 : 0 ≤ x) (x1 : x < 2147483648) (hD : 5 ≤ D) (h1 : Ant (s 40 0 5).toNat (fE s) (bt x) → Q (.inl (some (zi (1)))) 0 J K) (h0 : ¬ Ant (s 40 0 5).toNat (fE s) (bt x) → Q (.inl (some (zi (0)))) 0 J K) : zCall L xs D 242 [zr 142, zi x] J K Q := by
  obtain ⟨D, rfl⟩ : ∃ d, D = d + 1 := ⟨D - 1, by omega⟩
  have hpn := pw_n hP
  have hmc := (mc_n hC).2
  refine z242 hL ?_
  have outer : ∀ (n : Nat) (a : Int), n = (s 40 0 5 - a).toNat → 0 ≤ a → a ≤ s 40 0 5 → (∀ p q : Int, 0 ≤ q → q < p → p < a → bt x p = true → bt x q = true → fE s p q = false ∧ fE s q p = false) → zGo L xs (D + 1) 242 2 [some (zr 142), some (zi x), some (zi a), none] [] J K Q := by
    intro n; induction n using Nat.strongRecOn with
  | _ n ih =>
    intro a hm a0 a1 hA
    refine z242_2 hL ?_
    rw [hmc]
    refine ⟨⟨by omega, by omega⟩, ⟨by omega, by omega⟩, fun q => ⟨Or.inr rfl, h1 fun p r p0 p1 r0 r1 hp hr => ?_⟩, fun q => ?_⟩
    · rcases Int.lt_trichotomy p r with z | z | z
      · exact (hA r p p0 z (by omega) hr hp).2
      · rw [z]
        exact fE_rf s r
      · exact (hA p r r0 z (by omega) hp hr).1
    · have inner : ∀ (m : Nat) (c : Int), m = (a - c).toNat → 0 ≤ c → c ≤ a → (∀ r : Int, 0 ≤ r → r < c → bt x a = true → bt x r = true → fE s a r = false ∧ fE s r a = false) → zGo L xs (D + 1) 242 12 [some (zr 142), some (zi x), some (zi a), some (zi c)] [] J K Q := by
        intro m; induction m using Nat.strongRecOn with
        | _ m ihm =>
        intro c hm2 c0 c1 hB
        refine z242_12 hL ?_
        rw [bt_2 x0 x1]
        refine ⟨⟨by omega, by omega⟩, ⟨by omega, by omega⟩, fun q2 => ?_, fun q2 => ⟨⟨by omega, by omega⟩, a0, by omega, ⟨by omega, by omega⟩, c0, by omega, zin_zb _, zin_1, fun q3 => ?_, fun q3 => ?_⟩⟩
        · refine ih _ (by omega) (a + 1) rfl (by omega) (by omega) fun p r r0 r1 p1 hp hr => ?_
          by_cases e : p = a
          · rw [e] at hp r1 ⊢
            exact hB r r0 (by omega) hp hr
          · exact hA p r r0 r1 (by omega) hp hr
        · have q3 := zb_n1.mp q3
          refine ihm _ (by omega) (c + 1) rfl (by omega) (by omega) fun r r0 r1 hp hr => ?_
          by_cases e : r = c
          · rw [e] at hr
            rw [hp, hr] at q3
            cases q3
          · exact hB r r0 (by omega) hp hr
        · have q3 := zb_e1.mp q3
          rw [Bool.and_eq_true] at q3
          have e1 : fE s c a = bhd s a c := by
            unfold fE
            rw [decide_eq_true (by omega), Bool.true_and]
          have e2 : fE s a c = bhd s c a := by
            unfold fE
            rw [decide_eq_true (by omega), Bool.true_and]
          refine c243 hL hM h hP hC (by omega) a0 q c0 (by omega) (zaI_of ⟨zin_zb _, fun z => ⟨Or.inl rfl, h0 fun hAn => ?_⟩, fun z => ?_⟩)
          · have := hAn c a c0 (by omega) a0 (by omega) q3.2 q3.1
            rw [e1, zb_1.mp z] at this
            cases this
          · refine c243 hL hM h hP hC (by omega) c0 (by omega) a0 q (zaI_of ⟨zin_zb _, fun z2 => ?_, fun z2 => ⟨Or.inl rfl, h0 fun hAn => ?_⟩⟩)
            · refine ihm _ (by omega) (c + 1) rfl (by omega) (by omega) fun r r0 r1 hp hr => ?_
              by_cases e : r = c
              · rw [e, e1, e2]
                exact ⟨zb_0.mp z2, zb_0.mp z⟩
              · exact hB r r0 (by omega) hp hr
            · have := hAn a c a0 (by omega) c0 (by omega) q3.1 q3.2
              rw [e2, zb_1.mp z2] at this
              cases this
      exact inner _ 0 rfl (by decide) a0 fun r r0 r1 => by omega
  exact outer _ 0 rfl (by decide) (by omega) fun p q q0 q1 p1 => by omega
theorem c279 {L : Nat} {xs : Nat → Int32} (hL : L ≤ 3072) {D : Nat} {J : zJ} {K : zK} {Q : zR → Nat → zJ → zK → Prop} {s : zJ} (hM : ML s J) (h : LW s) (hP : PW s) (hC : MC s J) (hD : 7 ≤ D) (hQ : ∀ b : Int, Lsm (s 40 0 5).toNat (fE s) (2 ^ (s 40 0 5).toNat) b → Q (.inl (some (zi (b)))) 0 J K) : zCall L xs D 279 [zr 142] J K Q := by
  obtain ⟨D, rfl⟩ : ∃ d, D = d + 1 := ⟨D - 1, by omega⟩
  have hpn := pw_n hP
  have hmc := (mc_n hC).2
  have hq := pw_31 (n := (s 40 0 5).toNat) (by omega)
  have pr : ∀ x : Int, 0 ≤ pct x 14 ∧ pct x 14 ≤ 14 := fun x => cnt_rng _ _
  refine z279 hL ?_
  have key : ∀ (n : Nat) (b x : Int), n = (2 ^ (s 40 0 5).toNat - x).toNat → 1 ≤ x → x ≤ 2 ^ (s 40 0 5).toNat → Lsm (s 40 0 5).toNat (fE s) x b → zGo L xs (D + 1) 279 4 [some (zr 142), some (zi b), some (zi x)] [] J K Q := by
    intro n; induction n using Nat.strongRecOn with
  | _ n ih =>
    intro b x hm x0 x1 hb
    refine z279_4 hL ?_
    rw [hmc, Int.one_mul]
    refine ⟨by omega, by omega, ⟨by omega, by omega⟩, ⟨by omega, by omega⟩, fun q => ?_, fun q => ?_⟩
    · have e : x = 2 ^ (s 40 0 5).toNat := by omega
      rw [e] at hb
      exact hQ b hb
    · have hb0 := hb.1
      have hb1 := hb.2.1
      have p1 := pr x
      have p2 := pr b
      refine c274 hL (by omega) ⟨by omega, by omega⟩ (zaI_of ?_)
      refine c274 hL (by omega) ⟨by omega, by omega⟩ (zaI_of ⟨⟨by omega, by omega⟩, ⟨by omega, by omega⟩, fun q2 => ?_, fun q2 => ?_⟩)
      · exact ih _ (by omega) b (x + 1) rfl (by omega) (by omega) (lsm_no hb fun _ => q2)
      · refine c242 hL hM h hP hC (by omega) (by omega) (by omega) (fun hA => zaI_of ⟨zin_1, fun z => absurd z (by decide), fun _ => ?_⟩) (fun hA => zaI_of ⟨zin_0, fun _ => ?_, fun z => absurd rfl z⟩)
        · exact ih _ (by omega) x (x + 1) rfl (by omega) (by omega) (lsm_yes hb hA q2)
        · exact ih _ (by omega) b (x + 1) rfl (by omega) (by omega) (lsm_no hb fun z => absurd z hA)
  exact key _ 0 1 rfl (by decide) (by omega) (lsm_0 _ _)
theorem op33 {G : zJ → zK → Prop} (hG : GOk G) : OpD (Inv G) 154 222 [] := by
  intro L xs D J K hL hD hI; obtain ⟨⟨hW, hT, hP, hM, hC, hTp, hF, hIm⟩, hg⟩ := id hI; have hE := eqs_rfl J; have hn := lw_n hW; have hpn := pw_n hP
  obtain ⟨D, rfl⟩ : ∃ d, D = d + 1 := ⟨D - 1, by omega⟩
  obtain ⟨b, hb⟩ := lsm_e (J 40 0 5).toNat (fE J)
  refine z154 hL ?_
  refine c106 hL hE hW hT hP (by omega) fun J1 w hF1 _ hw => zaI_of ?_
  have ew := wid_one hw (lsm_wid (by omega) hb)
  have f1 : FrC J J1 := fc_fr (fc_rfl J) hF1 (by decide)
  have pr : 0 ≤ pct b 14 ∧ pct b 14 ≤ 14 := cnt_rng _ _
  refine ⟨w, rfl, rfl, ⟨by omega, by omega⟩, ?_⟩
  refine z222 hL ?_
  have hM1 := ml_fm (ml_fc hM f1) (fm_t J1 0)
  have hC1 := mc_fm (mc_fc hC f1) (fm_t J1 0)
  have hp14 : (2 : Int) ^ (J 40 0 5).toNat ≤ 2 ^ 14 := pw_le (by omega)
  refine c279 hL hM1 hW hP hC1 (by omega) fun b' hb' => zaI_of ?_
  have eb := lsm_one hb' hb
  subst eb
  refine c274 hL (by omega) ⟨hb.1, by have := hb.2.1; omega⟩ (zaI_of ?_)
  rw [ew]
  exact fin_d hG hI f1 (fm_t J1 0) rfl _
theorem op34 {G : zJ → zK → Prop} (hG : GOk G) : OpD (Inv G) 171 278 [] := by
  intro L xs D J K hL hD hI; obtain ⟨⟨hW, hT, hP, hM, hC, hTp, hF, hIm⟩, hg⟩ := id hI; have hE := eqs_rfl J; have hn := lw_n hW; have hpn := pw_n hP
  obtain ⟨D, rfl⟩ : ∃ d, D = d + 1 := ⟨D - 1, by omega⟩
  obtain ⟨b, hb⟩ := lsm_e (J 40 0 5).toNat (fE J)
  have hp14 : (2 : Int) ^ (J 40 0 5).toNat ≤ 2 ^ 14 := pw_le (by omega)
  have b0 := hb.1
  have b1 := hb.2.1
  refine z171 hL ?_
  refine c112 hL hE hW hT hP hb (by omega) fun J1 hF1 => zaI_of ?_
  have f1 : FrC J J1 := fc_fr (fc_rfl J) hF1 (by decide)
  refine ⟨b, rfl, rfl, ⟨by omega, by omega⟩, ?_⟩
  refine z278 hL ?_
  have hM1 := ml_fm (ml_fc hM f1) (fm_t J1 0)
  have hC1 := mc_fm (mc_fc hC f1) (fm_t J1 0)
  refine c279 hL hM1 hW hP hC1 (by omega) fun b' hb' => zaI_of ?_
  rw [lsm_one hb' hb]
  exact fin_d hG hI f1 (fm_t J1 0) rfl _
