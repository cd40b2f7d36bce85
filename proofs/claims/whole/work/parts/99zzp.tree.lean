/-! THE TREE of a land, as the class draws it -/
theorem c118 {L : Nat} {xs : Nat → Int32} (hL : L ≤ 3072) {D : Nat} {J : zJ} {K : zK} {Q : zR → Nat → zJ → zK → Prop} {s : zJ} (h : LW s) (e19 : J 19 = s 19) (e20 : J 20 = s 20) {x : Int} (x0 : 1 ≤ x) (x1 : x < s 18 0 0) (hw : ∀ a b : Int, 0 ≤ a → a < x → 0 ≤ b → b < x → J 34 0 (a * 12 + b) = way s a b) (hD : 1 ≤ D) (hQ : ∀ J' : zJ, (∀ b : Nat, b ≠ 34 → J' b = J b) → (∀ a b : Int, 0 ≤ a → a < x + 1 → 0 ≤ b → b < x + 1 → J' 34 0 (a * 12 + b) = way s a b) → Q (.inl none) 0 J' K) : zCall L xs D 118 [zr 33, zi x] J K Q := by
  have hn := lw_n h
  have hu := lw_up h x0 x1
  have hv := lw_p h (p := x) (by omega) x1
  obtain ⟨D, rfl⟩ : ∃ d, D = d + 1 := ⟨D - 1, by omega⟩
  refine z118 hL ⟨by omega, by omega, ?_⟩
  rw [e19]
  generalize hu2 : s 19 0 x = u at *
  have key : ∀ (n : Nat) (y : Int) (J1 : zJ), n = (x - y).toNat → 0 ≤ y → y ≤ x → (∀ b : Nat, b ≠ 34 → J1 b = J b) → (∀ a b : Int, 0 ≤ a → a < x → 0 ≤ b → b < x → J1 34 0 (a * 12 + b) = way s a b) → (∀ z : Int, 0 ≤ z → z < y → J1 34 0 (x * 12 + z) = way s x z ∧ J1 34 0 (z * 12 + x) = way s z x) → zGo L xs (D + 1) 118 12 [some (zr 33), some (zi x), some (zi u), some (zi y), none] [] J1 K Q := by
    intro n; induction n using Nat.strongRecOn with
  | _ n ih =>
    intro y J1 hm y0 y1 f g v
    refine z118_12 hL ⟨⟨by omega, by omega⟩, ⟨by omega, by omega⟩, fun q => ⟨by omega, by omega, hQ _ (fun b hb => by rw [zup_ne _ _ _ _ hb]; exact f b hb) fun a b a0 a1 b0 b1 => ?_⟩, fun q => ⟨by omega, by omega, by omega, by omega, by omega, by omega, by omega, by omega, ?_⟩⟩
    · by_cases ea : a = x
      · by_cases eb : b = x
        · rw [ea, eb, zup_eq, way_self]
        · rw [ea, zup_nk _ _ (by omega)]
          exact (v b b0 (by omega)).1
      · by_cases eb : b = x
        · rw [eb, zup_nk _ _ (by omega)]
          exact (v a a0 (by omega)).2
        · rw [zup_nk _ _ (by omega)]
          exact g a b a0 (by omega) b0 (by omega)
    · have ev : J1 34 0 (u * 12 + y) + J1 20 0 x = way s x y := by
        rw [g u y (by omega) (by omega) y0 q, f 20 (by decide), e20, way_up h y0 q x1, hu2]
      rw [ev]
      refine ih _ (by omega) (y + 1) _ rfl (by omega) (by omega) (fun b hb => by rw [zup_ne _ _ _ _ hb, zup_ne _ _ _ _ hb]; exact f b hb) (fun a b a0 a1 b0 b1 => ?_) fun z z0 z1 => ?_
      · rw [zup_nk _ _ (by omega), zup_nk _ _ (by omega)]
        exact g a b a0 a1 b0 b1
      · by_cases ez : z = y
        · rw [ez]
          refine ⟨by rw [zup_nk _ _ (by omega), zup_eq], ?_⟩
          rw [zup_eq]
          exact way_comm h (by omega) (by omega) (by omega) (by omega)
        · have := v z z0 (by omega)
          rw [zup_nk _ _ (by omega), zup_nk _ _ (by omega), zup_nk _ _ (by omega), zup_nk _ _ (by omega)]
          exact this
  exact key _ 0 J rfl (by decide) (by omega) (fun _ _ => rfl) hw fun z z0 z1 => by omega
theorem nx_is {s : zJ} (h : LW s) {t q : Int} (t0 : 1 ≤ t) (q1 : q < s 18 0 0) (ht : on s t q) (htq : t ≤ q) : nx s (s 19 0 t) q = t := by
  have hu := lw_up h t0 (by omega)
  have hv := lw_p h (p := t) (by omega) (by omega)
  generalize hu2 : s 19 0 t = u at *
  have o1 : on s u t := by
    rw [on_up h (by omega) (by omega) (by omega), hu2]
    exact on_self s u
  have o2 : on s u q := on_trans h (by omega) (by omega) o1 q (by omega) q1 ht
  obtain ⟨n0, n1, n2, n3, n4⟩ := nx_rng h (p := u) (by omega) (by omega) (by omega) q1 o2
  have n5 : nx s u q ≠ u := fun z => by
    have := n2.1 z
    omega
  obtain ⟨n6, n7⟩ := n4 n5
  generalize nx s u q = w at *
  rcases Int.lt_trichotomy w t with z | z | z
  · have a := on_chain h (a := w) (b := t) (by omega) (by omega) q (by omega) q1 n3 ht
    rw [on_up h (by omega) z (by omega), hu2] at a
    have := on_le h (p := w) (by omega) u (by omega) (by omega) a
    omega
  · exact z
  · have a := on_chain h (a := t) (b := w) (by omega) (by omega) q (by omega) q1 ht n3
    rw [on_up h (by omega) z n1, n7] at a
    have := on_le h (p := t) (by omega) u (by omega) (by omega) a
    omega
theorem c117 {L : Nat} {xs : Nat → Int32} (hL : L ≤ 3072) {D : Nat} {J : zJ} {K : zK} {Q : zR → Nat → zJ → zK → Prop} {s : zJ} (h : LW s) (e19 : J 19 = s 19) {q : Int} (q0 : 0 ≤ q) (q1 : q < s 18 0 0) (hD : 1 ≤ D) (hQ : ∀ J' : zJ, (∀ b : Nat, b ≠ 35 → J' b = J b) → (∀ p : Int, 0 ≤ p → p < s 18 0 0 → on s p q → J' 35 0 (p * 12 + q) = nx s p q) → (∀ p r : Int, 0 ≤ p → 0 ≤ r → r < 12 → r ≠ q → J' 35 0 (p * 12 + r) = J 35 0 (p * 12 + r)) → Q (.inl none) 0 J' K) : zCall L xs D 117 [zr 33, zi q] J K Q := by
  have hn := lw_n h
  obtain ⟨D, rfl⟩ : ∃ d, D = d + 1 := ⟨D - 1, by omega⟩
  refine z117 hL ⟨by omega, by omega, ?_⟩
  have key : ∀ (n : Nat) (i t : Int) (J1 : zJ), n = (12 - i).toNat → 0 ≤ i → 0 ≤ t → t ≤ q → t + i ≤ 11 → on s t q → (∀ b : Nat, b ≠ 35 → J1 b = J b) → (∀ p : Int, t ≤ p → p < s 18 0 0 → on s p q → J1 35 0 (p * 12 + q) = nx s p q) → (∀ p r : Int, 0 ≤ p → 0 ≤ r → r < 12 → r ≠ q → J1 35 0 (p * 12 + r) = J 35 0 (p * 12 + r)) → zGo L xs (D + 1) 117 16 [some (zr 33), some (zi q), some (zi t), some (zi i)] [] J1 K Q := by
    intro n; induction n using Nat.strongRecOn with
  | _ n ih =>
    intro i t J1 hm i0 t0 t1 ti ht f g v
    refine z117_16 hL ⟨⟨by omega, by omega⟩, ⟨by decide, by decide⟩, fun z => by omega, fun z => ⟨⟨by omega, by omega⟩, fun y => ?_, fun y => ?_⟩⟩
    · subst y
      exact hQ J1 f g v
    · have hu := lw_up h (p := t) (by omega) (by omega)
      have hv := lw_p h (p := t) (by omega) (by omega)
      have e1 : J1 19 0 t = s 19 0 t := by rw [f 19 (by decide), e19]
      have hx := nx_is h (t := t) (q := q) (by omega) q1 ht t1
      rw [e1]
      generalize hu2 : s 19 0 t = u at *
      have o1 : on s u t := by
        rw [on_up h (by omega) (by omega) (by omega), hu2]
        exact on_self s u
      refine ⟨t0, by omega, by omega, by omega, t0, by omega, ih _ (by omega) (i + 1) u _ rfl (by omega) (by omega) (by omega) (by omega) (on_trans h (by omega) (by omega) o1 q q0 q1 ht) (fun b hb => by rw [zup_ne _ _ _ _ hb]; exact f b hb) (fun p p0 p1 po => ?_) fun p r p0 r0 r1 rq => ?_⟩
      · by_cases ep : p = u
        · rw [ep, zup_eq, hx]
        · rw [zup_nk _ _ (by omega)]
          by_cases ept : t ≤ p
          · exact g p ept p1 po
          · have a := on_chain h (a := p) (b := t) (by omega) (by omega) q q0 q1 po ht
            rw [on_up h (by omega) (by omega) (by omega), hu2] at a
            have := on_le h (p := p) (by omega) u (by omega) (by omega) a
            omega
      · rw [zup_nk _ _ (by omega)]
        exact v p r p0 r0 r1 rq
  refine key _ 0 q _ rfl (by decide) q0 (Int.le_refl _) (by omega) (on_self s q) (fun b hb => zup_ne _ _ _ _ hb) (fun p p0 p1 po => ?_) fun p r p0 r0 r1 rq => zup_nk _ _ (by omega)
  have := on_le h (p := p) (by omega) q q0 q1 po
  have e : p = q := by omega
  rw [e, zup_eq]
  unfold nx
  rw [if_pos rfl]
theorem c115 {L : Nat} {xs : Nat → Int32} (hL : L ≤ 3072) {D : Nat} {J : zJ} {K : zK} {Q : zR → Nat → zJ → zK → Prop} {s : zJ} (h : LW s) (e18 : J 18 = s 18) (e24 : J 24 = s 24) (e36 : ∀ p : Int, 0 ≤ p → p < s 18 0 0 → J 36 0 p = bs (fun x => onb s x p) 12) {x : Int} (x0 : 0 ≤ x) (x1 : x < s 18 0 0) (hD : 1 ≤ D) (hQ : ∀ J' : zJ, (∀ b : Nat, b ≠ 37 → b ≠ 38 → J' b = J b) → J' 37 0 x = bs (fun k => onb s x (s 24 0 k)) (s 18 0 6).toNat → J' 38 0 x = bs (fun k => decide (s 24 0 k = x)) (s 18 0 6).toNat → (∀ y : Int, y ≠ x → J' 37 0 y = J 37 0 y ∧ J' 38 0 y = J 38 0 y) → Q (.inl none) 0 J' K) : zCall L xs D 115 [zr 33, zi x] J K Q := by
  have hn := lw_n h
  obtain ⟨D, rfl⟩ : ∃ d, D = d + 1 := ⟨D - 1, by omega⟩
  refine z115 hL ⟨x0, by omega, x0, by omega, ?_⟩
  have key : ∀ (n : Nat) (i : Int) (J1 : zJ), n = (s 18 0 6 - i).toNat → 0 ≤ i → i ≤ s 18 0 6 → (∀ b : Nat, b ≠ 37 → b ≠ 38 → J1 b = J b) → J1 37 0 x = bs (fun k => onb s x (s 24 0 k)) i.toNat → J1 38 0 x = bs (fun k => decide (s 24 0 k = x)) i.toNat → (∀ y : Int, y ≠ x → J1 37 0 y = J 37 0 y ∧ J1 38 0 y = J 38 0 y) → zGo L xs (D + 1) 115 16 [some (zr 33), some (zi x), some (zi i)] [] J1 K Q := by
    intro n; induction n using Nat.strongRecOn with
  | _ n ih =>
    intro i J1 hm i0 i1 f v7 v8 g
    have m18 : J1 18 = s 18 := (f 18 (by decide) (by decide)).trans e18
    have m24 : J1 24 = s 24 := (f 24 (by decide) (by decide)).trans e24
    have m36 : J1 36 = J 36 := f 36 (by decide) (by decide)
    refine z115_16 hL ?_
    rw [m18, m24, m36]
    refine ⟨⟨by omega, by omega⟩, ⟨by omega, by omega⟩, fun q => ?_, fun q => ?_⟩
    · have e : i = s 18 0 6 := by omega
      rw [e] at v7 v8
      exact hQ J1 f v7 v8 g
    · have hk := lw_k h i0 q
      have hb := bs_lt (fun y => onb s y (s 24 0 i)) 12
      have p12 : (2 : Int) ^ 12 = 4096 := by decide
      rw [e36 (s 24 0 i) (by omega) (by omega), bt_shz hb.1 (by omega), bt_bs _ _ _ x0, decide_eq_true (show x < ((12 : Nat) : Int) by omega), Bool.true_and]
      have s7 := bs_s (P := fun k => onb s x (s 24 0 k)) (i := i) i0 (by omega)
      have s8 := bs_s (P := fun k => decide (s 24 0 k = x)) (i := i) i0 (by omega)
      refine ⟨i0, by omega, by omega, by omega, ⟨by omega, by omega⟩, x0, by omega, zin_zb _, fun z => ?_, fun z => ?_⟩
      · have z := zb_0.1 z
        simp only [z, if_false, Bool.false_eq_true] at s7
        refine ⟨i0, by omega, ⟨by omega, by omega⟩, ⟨by omega, by omega⟩, fun y => ?_, fun y => ?_⟩
        · simp only [y, decide_false, if_false, Bool.false_eq_true] at s8
          exact ih _ (by omega) (i + 1) J1 rfl (by omega) (by omega) f (v7.trans s7.symm) (v8.trans s8.symm) g
        · simp only [y, decide_true, if_true] at s8
          refine ⟨x0, by omega, i0, by omega, x0, by omega, ih _ (by omega) (i + 1) _ rfl (by omega) (by omega) (fun b b1 b2 => by rw [zup_ne _ _ _ _ b2]; exact f b b1 b2) ?_ ?_ fun y' hy => ?_⟩
          · rw [zup_ne _ _ _ _ (by decide)]
            exact v7.trans s7.symm
          · rw [zup_eq, v8, s8]
          · rw [zup_ne _ _ _ _ (by decide), zup_nk _ _ hy]
            exact g y' hy
      · have z := zb_1.1 z
        simp only [z, if_true] at s7
        refine ⟨x0, by omega, i0, by omega, x0, by omega, i0, by omega, ⟨by omega, by omega⟩, ⟨by omega, by omega⟩, fun y => ?_, fun y => ?_⟩
        · simp only [y, decide_false, if_false, Bool.false_eq_true] at s8
          refine ih _ (by omega) (i + 1) _ rfl (by omega) (by omega) (fun b b1 b2 => by rw [zup_ne _ _ _ _ b1]; exact f b b1 b2) ?_ ?_ fun y' hy => ?_
          · rw [zup_eq, v7, s7]
          · rw [zup_ne _ _ _ _ (by decide)]
            exact v8.trans s8.symm
          · rw [zup_nk _ _ hy, zup_ne _ _ _ _ (by decide)]
            exact g y' hy
        · simp only [y, decide_true, if_true] at s8
          refine ⟨x0, by omega, i0, by omega, x0, by omega, ih _ (by omega) (i + 1) _ rfl (by omega) (by omega) (fun b b1 b2 => by rw [zup_ne _ _ _ _ b2, zup_ne _ _ _ _ b1]; exact f b b1 b2) ?_ ?_ fun y' hy => ?_⟩
          · rw [zup_ne _ _ _ _ (by decide), zup_eq, v7, s7]
          · rw [zup_eq, v8, s8]
          · rw [zup_ne _ _ _ _ (by decide), zup_nk _ _ hy, zup_nk _ _ hy, zup_ne _ _ _ _ (by decide)]
            exact g y' hy
  refine key _ 0 _ rfl (by decide) (by omega) (fun b b1 b2 => by rw [zup_ne _ _ _ _ b2, zup_ne _ _ _ _ b1]) ?_ ?_ fun y hy => ?_
  · rw [zup_ne _ _ _ _ (by decide), zup_eq]
    rfl
  · rw [zup_eq]
    rfl
  · rw [zup_ne _ _ _ _ (by decide), zup_nk _ _ hy, zup_nk _ _ hy, zup_ne _ _ _ _ (by decide)]
    exact ⟨rfl, rfl⟩
theorem zor_add {y : Int} {n : Nat} (hn : n ≤ 29) (y0 : 0 ≤ y) (y1 : y < 2 ^ n) : zor y (2 ^ n) = y + 2 ^ n := by
  have hp := pw_31 (n := n) (by omega)
  have e : (2 : Int) ^ (n : Int).toNat = 2 ^ n := by rw [Int.toNat_natCast]
  refine bt_ext (zor_ge y0 (by omega) (by omega) (by omega)).1 (by omega) fun k hk => ?_
  rw [bt_or y0 (by omega) (by omega) (by omega), bt_add y0 y1 k hk]
  have := bt_pow (j := n) (k := k) (by omega) hk
  rw [e] at this
  rw [this]
  congr 1
  simp only [decide_eq_decide]
  omega
theorem ldf_add {s : zJ} {y p : Int} (p0 : 0 ≤ p) (p1 : p < s 18 0 6) (y0 : 0 ≤ y) (y1 : y < 2 ^ p.toNat) : ldf s (y + 2 ^ p.toNat) = ldf s y + s 25 0 p := by
  unfold ldf
  have e : ((p.toNat : Nat) : Int) = p := by omega
  have b0 : bt y p = false := bt_lt y0 y1 (by omega)
  have b1 : bt (y + 2 ^ p.toNat) p = true := by
    rw [bt_add y0 y1 p p0, e]
    simp
  rw [sm_upd (f := fun k => if bt y k then s 25 0 k else 0) (g := fun k => if bt (y + 2 ^ p.toNat) k then s 25 0 k else 0) (k := p) p0 (by omega) (fun i i0 i1 ne => by
    rw [bt_add y0 y1 i i0, e, decide_eq_false ne, Bool.or_false])]
  simp only [b0, b1, if_true, Bool.false_eq_true, if_false]
  omega
theorem bs_onup {s : zJ} (h : LW s) {x : Int} (x0 : 1 ≤ x) (x1 : x < s 18 0 0) : zor (bs (fun y => onb s y (s 19 0 x)) 12) (1 * 2 ^ x.toNat) = bs (fun y => onb s y x) 12 := by
  have hn := lw_n h
  have hu := lw_up h x0 x1
  have hv := lw_p h (p := x) (by omega) x1
  have hb := bs_lt (fun y => onb s y (s 19 0 x)) 12
  have p12 : (2 : Int) ^ 12 = 4096 := by decide
  have hx := pw_31 (n := x.toNat) (by omega)
  rw [Int.one_mul]
  have hz := zor_ge (x := bs (fun y => onb s y (s 19 0 x)) 12) (y := 2 ^ x.toNat) hb.1 (by omega) (by omega) (by omega)
  refine bs_of hz.1 fun k hk => ?_
  rw [bt_or hb.1 (by omega) (by omega) (by omega), bt_bs _ _ k hk, bt_pow (by omega) hk]
  by_cases e : x = k
  · subst e
    have a : onb s x x = true := onb_t.2 (on_self s x)
    have a2 : x < ((12 : Nat) : Int) := by omega
    simp [a]
    omega
  · by_cases e2 : k < x
    · have a : onb s k (s 19 0 x) = onb s k x := by
        have := on_up h hk e2 x1
        rw [Bool.eq_iff_iff, onb_t, onb_t]
        exact this.symm
      rw [a, decide_eq_false e, Bool.or_false]
    · have a : onb s k x = false := onb_f.2 fun z => by
        have := on_le h hk x (by omega) x1 z
        omega
      have b : onb s k (s 19 0 x) = false := onb_f.2 fun z => by
        have := on_le h hk (s 19 0 x) (by omega) (by omega) z
        omega
      rw [a, b, decide_eq_false e]
      simp
theorem bs_on0 {s : zJ} (h : LW s) (h0 : 0 < s 18 0 0) : (1 : Int) = bs (fun y => onb s y 0) 12 := by
  refine bs_of (by decide) fun k hk => ?_
  have := bt_pow (j := 0) (k := k) (by decide) hk
  have e : (2 : Int) ^ (0 : Int).toNat = 1 := by decide
  rw [e] at this
  rw [this]
  by_cases e : k = 0
  · subst e
    have a : onb s 0 0 = true := onb_t.2 (on_self s 0)
    simp [a]
  · have a : onb s k 0 = false := onb_f.2 fun z => by
      have := on_le h hk 0 (by decide) h0 z
      omega
    rw [a, decide_eq_false (by omega)]
    simp
theorem c116 {L : Nat} {xs : Nat → Int32} (hL : L ≤ 3072) {D : Nat} {J : zJ} {K : zK} {Q : zR → Nat → zJ → zK → Prop} (h : LW J) (h0 : 0 < J 18 0 0) (h39 : J 39 0 0 = 0) (hD : 3 ≤ D) (hQ : ∀ J' : zJ, (∀ b : Nat, b < 34 ∨ 39 < b → J' b = J b) → TW J' → Q (.inl none) 0 J' K) : zCall L xs D 116 [zr 33] J K Q := by
  have hn := lw_n h
  obtain ⟨D, rfl⟩ : ∃ d, D = d + 1 := ⟨D - 1, by omega⟩
  refine z116 hL ⟨by decide, by decide, by decide, by decide, ?_⟩
  -- loads
  have loads : ∀ (n : Nat) (p : Int) (J1 : zJ), n = (J 18 0 6 - p).toNat → 0 ≤ p → p ≤ J 18 0 6 → (∀ b : Nat, b ≠ 39 → b < 34 ∨ 39 < b → J1 b = J b) → (∀ a b : Int, 0 ≤ a → a < J 18 0 0 → 0 ≤ b → b < J 18 0 0 → J1 34 0 (a * 12 + b) = way J a b) → (∀ p q : Int, 0 ≤ p → p < J 18 0 0 → 0 ≤ q → q < J 18 0 0 → on J p q → J1 35 0 (p * 12 + q) = nx J p q) → (∀ p : Int, 0 ≤ p → p < J 18 0 0 → J1 36 0 p = bs (fun x => onb J x p) 12) → (∀ p : Int, 0 ≤ p → p < J 18 0 0 → J1 37 0 p = bs (fun k => onb J p (J 24 0 k)) (J 18 0 6).toNat) → (∀ p : Int, 0 ≤ p → p < J 18 0 0 → J1 38 0 p = bs (fun k => decide (J 24 0 k = p)) (J 18 0 6).toNat) → (∀ x : Int, 0 ≤ x → x < 2 ^ p.toNat → J1 39 0 x = ldf J x) → zGo L xs (D + 1) 116 93 [some (zr 33), some (zi p), none, none] [] J1 K Q := by
    intro n; induction n using Nat.strongRecOn with
  | _ n ih =>
    intro p J1 hm p0 p1 f t4 t5 t6 t7 t8 t9
    have m18 : J1 18 = J 18 := f 18 (by decide) (by decide)
    have m25 : J1 25 = J 25 := f 25 (by decide) (by decide)
    refine z116_93 hL ?_
    rw [m18]
    refine ⟨⟨by omega, by omega⟩, ⟨by omega, by omega⟩, fun q => ?_, fun q => ⟨p0, by omega, ?_⟩⟩
    · have e : p = J 18 0 6 := by omega
      rw [e] at t9
      refine hQ J1 (fun b hb => f b (by omega) hb) ?_
      have m19 : J1 19 = J 19 := f 19 (by decide) (by decide)
      have m20 : J1 20 = J 20 := f 20 (by decide) (by decide)
      have m24 : J1 24 = J 24 := f 24 (by decide) (by decide)
      unfold TW
      simp only [m18, m24, way_eq m19 m20, on_eq m19, nx_eq m19, onb_eq m19, ldf_eq m18 m25]
      exact ⟨t4, t5, t6, t7, t8, t9⟩
    · rw [Int.one_mul]
      have hp := pw7 (n := p + 1) (by omega)
      have ep : (p + 1).toNat = p.toNat + 1 := by omega
      rw [ep, Int.pow_succ] at hp
      have hp1 := pw_pos p.toNat
      have key2 : ∀ (m : Nat) (y : Int) (J2 : zJ), m = (2 ^ p.toNat - y).toNat → 0 ≤ y → y ≤ 2 ^ p.toNat → (∀ b : Nat, b ≠ 39 → J2 b = J1 b) → (∀ x : Int, 0 ≤ x → x < 2 ^ p.toNat → J2 39 0 x = ldf J x) → (∀ x : Int, 0 ≤ x → x < y → J2 39 0 (x + 2 ^ p.toNat) = ldf J (x + 2 ^ p.toNat)) → zGo L xs (D + 1) 116 110 [some (zr 33), some (zi p), some (zi (2 ^ p.toNat)), some (zi y)] [] J2 K Q := by
        intro m
        induction m using Nat.strongRecOn with
        | _ m ih2 =>
        intro y J2 hm2 y0 y1 f2 v2 v3
        refine z116_110 hL ⟨⟨by omega, by omega⟩, ⟨by omega, by omega⟩, fun q2 => ?_, fun q2 => ?_⟩
        · refine ih _ (by omega) (p + 1) J2 rfl (by omega) (by omega) (fun b b1 b2 => (f2 b b1).trans (f b b1 b2)) ?_ ?_ ?_ ?_ ?_ fun x x0 x1 => ?_
          · rw [f2 34 (by decide)]
            exact t4
          · rw [f2 35 (by decide)]
            exact t5
          · rw [f2 36 (by decide)]
            exact t6
          · rw [f2 37 (by decide)]
            exact t7
          · rw [f2 38 (by decide)]
            exact t8
          · rw [ep, Int.pow_succ] at x1
            by_cases e : x < 2 ^ p.toNat
            · exact v2 x x0 e
            · have := v3 (x - 2 ^ p.toNat) (by omega) (by omega)
              have e2 : x - 2 ^ p.toNat + 2 ^ p.toNat = x := by omega
              rw [e2] at this
              exact this
        · have ez : zor y (2 ^ p.toNat) = y + 2 ^ p.toNat := zor_add (by omega) y0 q2
          have ev : J2 39 0 y + J2 25 0 p = ldf J (y + 2 ^ p.toNat) := by
            rw [v2 y y0 q2, f2 25 (by decide), m25, ldf_add p0 q y0 q2]
          rw [ez, ev]
          refine ⟨y0, by omega, p0, by omega, by omega, by omega, ih2 _ (by omega) (y + 1) _ rfl (by omega) (by omega) (fun b hb => by rw [zup_ne _ _ _ _ hb]; exact f2 b hb) (fun x x0 x1 => by rw [zup_nk _ _ (by omega)]; exact v2 x x0 x1) fun x x0 x1 => ?_⟩
          by_cases e : x = y
          · rw [e, zup_eq]
          · rw [zup_nk _ _ (by omega)]
            exact v3 x x0 (by omega)
      exact key2 _ 0 J1 rfl (by decide) (by omega) (fun _ _ => rfl) t9 fun x x0 x1 => by omega
  -- steps and portions
  have steps : ∀ (n : Nat) (x : Int) (J1 : zJ), n = (J 18 0 0 - x).toNat → 0 ≤ x → x ≤ J 18 0 0 → (∀ b : Nat, b < 34 ∨ 38 < b → J1 b = J b) → (∀ a b : Int, 0 ≤ a → a < J 18 0 0 → 0 ≤ b → b < J 18 0 0 → J1 34 0 (a * 12 + b) = way J a b) → (∀ p q : Int, 0 ≤ p → p < J 18 0 0 → 0 ≤ q → q < x → on J p q → J1 35 0 (p * 12 + q) = nx J p q) → (∀ p : Int, 0 ≤ p → p < J 18 0 0 → J1 36 0 p = bs (fun x => onb J x p) 12) → (∀ p : Int, 0 ≤ p → p < x → J1 37 0 p = bs (fun k => onb J p (J 24 0 k)) (J 18 0 6).toNat) → (∀ p : Int, 0 ≤ p → p < x → J1 38 0 p = bs (fun k => decide (J 24 0 k = p)) (J 18 0 6).toNat) → zGo L xs (D + 1) 116 64 [some (zr 33), some (zi x), none, none] [] J1 K Q := by
    intro n; induction n using Nat.strongRecOn with
  | _ n ih =>
    intro x J1 hm x0 x1 f t4 t5 t6 t7 t8
    have m18 : J1 18 = J 18 := f 18 (by decide)
    refine z116_64 hL ?_
    rw [m18]
    refine ⟨⟨by omega, by omega⟩, ⟨by omega, by omega⟩, fun q => ?_, fun q => ?_⟩
    · have e : x = J 18 0 0 := by omega
      rw [e] at t5 t7 t8
      refine loads _ 0 J1 rfl (by decide) (by omega) (fun b b1 b2 => f b (by omega)) t4 t5 t6 t7 t8 fun x x0 x1 => ?_
      have e2 : (2 : Int) ^ (0 : Int).toNat = 1 := by decide
      rw [e2] at x1
      have e3 : x = 0 := by omega
      rw [e3, f 39 (by decide), h39]
      unfold ldf
      exact (sm_zero fun i i0 i1 => by simp only [bt_zero, Bool.false_eq_true, if_false]).symm
    · refine c117 hL h (f 19 (by decide)) x0 q (by omega) fun J2 g1 g2 g3 => zaV_of ?_
      have f2 : ∀ b : Nat, b < 34 ∨ 38 < b → J2 b = J b := fun b hb => (g1 b (by omega)).trans (f b hb)
      refine c115 hL h (f2 18 (by decide)) (f2 24 (by decide)) (by rw [g1 36 (by decide)]; exact t6) x0 q (by omega) fun J3 k1 k2 k3 k4 => zaV_of ?_
      refine ih _ (by omega) (x + 1) J3 rfl (by omega) (by omega) (fun b hb => (k1 b (by omega) (by omega)).trans (f2 b hb)) ?_ (fun p r p0 p1 r0 r1 po => ?_) ?_ (fun p p0 p1 => ?_) (fun p p0 p1 => ?_)
      · rw [k1 34 (by decide) (by decide), g1 34 (by decide)]
        exact t4
      · rw [k1 35 (by decide) (by decide)]
        by_cases e : r = x
        · subst e
          exact g2 p p0 p1 po
        · rw [g3 p r p0 r0 (by omega) e]
          exact t5 p r p0 p1 r0 (by omega) po
      · rw [k1 36 (by decide) (by decide), g1 36 (by decide)]
        exact t6
      · by_cases e : p = x
        · subst e
          exact k2
        · rw [(k4 p e).1, g1 37 (by decide)]
          exact t7 p p0 (by omega)
      · by_cases e : p = x
        · subst e
          exact k3
        · rw [(k4 p e).2, g1 38 (by decide)]
          exact t8 p p0 (by omega)
  -- ways and paths
  have ways : ∀ (n : Nat) (x : Int) (J1 : zJ), n = (J 18 0 0 - x).toNat → 1 ≤ x → x ≤ J 18 0 0 → (∀ b : Nat, b ≠ 34 → b ≠ 36 → J1 b = J b) → (∀ a b : Int, 0 ≤ a → a < x → 0 ≤ b → b < x → J1 34 0 (a * 12 + b) = way J a b) → (∀ p : Int, 0 ≤ p → p < x → J1 36 0 p = bs (fun x => onb J x p) 12) → zGo L xs (D + 1) 116 16 [some (zr 33), some (zi x), none, none] [] J1 K Q := by
    intro n; induction n using Nat.strongRecOn with
  | _ n ih =>
    intro x J1 hm x0 x1 f t4 t6
    have m18 : J1 18 = J 18 := f 18 (by decide) (by decide)
    have m19 : J1 19 = J 19 := f 19 (by decide) (by decide)
    refine z116_16 hL ?_
    rw [m18, m19]
    refine ⟨⟨by omega, by omega⟩, ⟨by omega, by omega⟩, fun q => ?_, fun q => ?_⟩
    · have e : x = J 18 0 0 := by omega
      rw [e] at t4 t6
      exact steps _ 0 J1 rfl (by decide) (by omega) (fun b hb => f b (by omega) (by omega)) t4 (fun p q p0 p1 q0 q1 => by omega) t6 (fun p p0 p1 => by omega) (fun p p0 p1 => by omega)
    · have hu := lw_up h x0 q
      have hv := lw_p h (p := x) (by omega) q
      rw [t6 (J 19 0 x) (by omega) (by omega), bs_onup h x0 q]
      refine ⟨by omega, by omega, by omega, by omega, by omega, by omega, by omega, by omega, ?_⟩
      refine c118 hL h (by rw [zup_ne _ _ _ _ (by decide)]; exact m19) (by rw [zup_ne _ _ _ _ (by decide)]; exact f 20 (by decide) (by decide)) x0 q (by rw [zup_ne _ _ _ _ (by decide)]; exact t4) (by omega) fun J2 g1 g2 => zaV_of ?_
      refine ih _ (by omega) (x + 1) J2 rfl (by omega) (by omega) (fun b b1 b2 => by rw [g1 b b1, zup_ne _ _ _ _ b2]; exact f b b1 b2) g2 fun p p0 p1 => ?_
      rw [g1 36 (by decide)]
      by_cases e : p = x
      · rw [e, zup_eq]
      · rw [zup_nk _ _ e]
        exact t6 p p0 (by omega)
  refine ways _ 1 _ rfl (by decide) (by omega) (fun b b1 b2 => by rw [zup_ne _ _ _ _ b1, zup_ne _ _ _ _ b2]) (fun a b a0 a1 b0 b1 => ?_) fun p p0 p1 => ?_
  · have ea : a = 0 := by omega
    have eb : b = 0 := by omega
    rw [ea, eb, way_self]
    exact zup_eq _ _ _ _ _
  · have ep : p = 0 := by omega
    rw [ep, zup_ne _ _ _ _ (by decide), zup_eq]
    exact bs_on0 h h0
