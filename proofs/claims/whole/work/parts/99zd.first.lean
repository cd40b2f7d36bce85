/-! THE FIRST ROW in the model; first, sort -/
def hdm (s : zJ) (y p : Int) : Int := if hd s y p < 7 then hd s y p else -1
theorem gbs_hd {s : zJ} (h : LW s) {y q : Int} (q0 : 0 ≤ q) (q1 : q < s 18 0 0) : hd s (gbs s y q) q = hd s y q := hd_cong h _ q rfl q0 q1 fun k k0 k1 ho => by rw [bt_gbs k0 (by omega), onb_t.mpr ho, Bool.and_true]
theorem gbs_ne {s : zJ} (h : LW s) {y q : Int} (q0 : 0 ≤ q) (q1 : q < s 18 0 0) : gbs s y q ≠ 0 ↔ hd s y q < 7 := by
  have h1 := hd_cbh h y q0 q1
  have h2 := has_cbh (s := s) (x := y) (q := q)
  rw [h1.1, ← h2.1]
  unfold has
  rw [decide_eq_true_iff]
theorem c237 {L : Nat} {xs : Nat → Int32} (hL : L ≤ 3072) {J : zJ} {K : zK} {s : zJ} (hM : ML s J) (h : LW s) : ∀ (n D : Nat) (y p : Int) (Q : zR → Nat → zJ → zK → Prop), 0 ≤ p → p < s 18 0 0 → s 18 0 0 - p ≤ n → n + 5 ≤ D → 0 ≤ y → y < 2147483648 → (∀ k : Int, 0 ≤ k → bt y k = true → k < s 18 0 6 ∧ on s p (s 24 0 k)) → (Q (.inl (some (zi (hdm s y p)))) 0 J K) → zCall L xs D 237 [zr 142, zi y, zi p] J K Q := by
  have hn := lw_n h
  obtain ⟨hm0, hm1, -, -⟩ := ml_n hM
  intro n
  induction n with
  | zero =>
    intro D y p Q p0 p1 hpn
    omega
  | succ n ihn =>
  intro D y p Q p0 p1 hpn hD y0 y1 hy hQ
  obtain ⟨D, rfl⟩ : ∃ d, D = d + 1 := ⟨D - 1, by omega⟩
  have hu := hd_unf h y p0 p1
  -- the least of those that stay
  have stays : mn7 (fun c => if kid s p c then hd s y c else 7) (s 18 0 0).toNat = 7 → ∀ (m : Nat) (k : Int), m = (s 18 0 6 - k).toNat → 0 ≤ k → k ≤ s 18 0 6 → (∀ j : Int, 0 ≤ j → j < k → bt y j = false) → zGo L xs (D + 1) 237 88 [some (zr 142), some (zi y), none, some (zi (-1)), some (zi k), none, none] [] J K Q := by
    intro h7
    have hst : ∀ k : Int, 0 ≤ k → k < s 18 0 6 → stb s y p k = bt y k := fun k k0 k1 => by
      unfold stb
      cases hb : bt y k with
      | false => rfl
      | true =>
        have hk := lw_k h k0 k1
        have ho := (hy k k0 hb).2
        rw [Bool.true_and, decide_eq_true_iff]
        apply Classical.byContradiction
        intro hne
        rcases kid_one h p0 p1 (r := s 24 0 k) (by omega) (by omega) with ⟨_, c, c0, c1, hkc, hc, _⟩ | ⟨hq, _⟩
        · have h1 := (mn7_ok (fun c => if kid s p c then hd s y c else 7) (s 18 0 0).toNat).2.1 c c0 (by omega)
          simp only [hkc, if_true] at h1
          have := (hd_has h y c0 c1).mpr ⟨k, k0, k1, hb, hc⟩
          omega
        · exact hq ⟨ho, hne⟩
    have hh : hd s y p = lsy s y p := by rw [hu, if_neg (by omega)]
    intro m; induction m using Nat.strongRecOn with
    | _ m ih =>
    intro k hm k0 k1 hf
    refine z237_88 hL ?_
    rw [hm1, bt_shz y0 y1]
    refine ⟨by decide, by decide, ⟨by omega, by omega⟩, ⟨by omega, by omega⟩, fun q => ?_, fun q => ⟨⟨by decide, by decide⟩, ⟨by decide, by decide⟩, fun z => absurd rfl z, fun _ => ⟨⟨by omega, by omega⟩, k0, by omega, zin_zb _, zin_1, fun z => ?_, fun z => ?_⟩⟩⟩
    · have e : hdm s y p = -1 := by
        unfold hdm
        rw [hh]
        unfold lsy
        rw [fnd_no fun j j0 j1 => by rw [hst j j0 (by omega)]; exact hf j j0 (by omega)]
        rfl
      rw [e] at hQ
      exact hQ
    · have z := zb_n1.mp z
      refine ih _ (by omega) (k + 1) rfl (by omega) (by omega) fun j j0 j1 => ?_
      by_cases e : j = k
      · rw [e]
        exact z
      · exact hf j j0 (by omega)
    · have z := zb_e1.mp z
      have el : lsy s y p = k := by
        unfold lsy
        rw [fnd_at k0 (by omega) (by rw [hst k k0 q]; exact z) fun j j0 j1 => by rw [hst j j0 (by omega)]; exact hf j j0 j1, if_neg (by omega)]
      have ek : hdm s y p = k := by
        unfold hdm
        rw [hh, el, if_pos (by omega)]
      rw [ek] at hQ
      refine z237_88 hL ?_
      rw [hm1]
      exact ⟨by decide, by decide, ⟨by omega, by omega⟩, ⟨by omega, by omega⟩, fun _ => hQ, fun _ => ⟨⟨by omega, by omega⟩, ⟨by decide, by decide⟩, fun _ => hQ, fun w => by omega⟩⟩
  have kids : ∀ (m : Nat) (q : Int), m = (s 18 0 0 - q).toNat → p < q → q ≤ s 18 0 0 → zGo L xs (D + 1) 237 7 [some (zr 142), some (zi y), some (zi p), some (zi (if mn7 (fun c => if kid s p c then hd s y c else 7) q.toNat < 7 then mn7 (fun c => if kid s p c then hd s y c else 7) q.toNat else -1)), some (zi q), none, none] [] J K Q := by
    intro m; induction m using Nat.strongRecOn with
    | _ m ih =>
    intro q hm q0 q1
    have hmr : 0 ≤ mn7 (fun c => if kid s p c then hd s y c else 7) q.toNat ∧ mn7 (fun c => if kid s p c then hd s y c else 7) q.toNat ≤ 7 := by
      obtain ⟨g1, g2, g3⟩ := mn7_ok (fun c => if kid s p c then hd s y c else 7) q.toNat
      refine ⟨?_, g1⟩
      rcases g3 with z | ⟨c, c0, c1, c2⟩
      · omega
      · have := hd_rng h y c0 (show c < s 18 0 0 by omega)
        rw [c2]
        split <;> omega
    have zbst : zin (if mn7 (fun c => if kid s p c then hd s y c else 7) q.toNat < 7 then mn7 (fun c => if kid s p c then hd s y c else 7) q.toNat else -1) := by
      split <;> exact ⟨by omega, by omega⟩
    refine z237_7 hL ?_
    rw [hm0]
    refine ⟨by decide, by decide, ⟨by omega, by omega⟩, ⟨by omega, by omega⟩, fun z => ?_, fun z => ⟨by omega, by omega, by omega, by omega, by decide, by decide, ?_⟩⟩
    · have e : q = s 18 0 0 := by omega
      subst e
      by_cases w : mn7 (fun c => if kid s p c then hd s y c else 7) (s 18 0 0).toNat < 7
      · rw [if_pos w]
        have ek : hdm s y p = mn7 (fun c => if kid s p c then hd s y c else 7) (s 18 0 0).toNat := by
          unfold hdm
          rw [hu, if_pos w, if_pos w]
        rw [ek] at hQ
        refine z237_88 hL ?_
        rw [hm1]
        exact ⟨by decide, by decide, zin_0, ⟨by omega, by omega⟩, fun _ => hQ, fun _ => ⟨⟨by omega, by omega⟩, ⟨by decide, by decide⟩, fun _ => hQ, fun v => by omega⟩⟩
      · rw [if_neg w]
        exact stays (by omega) _ 0 rfl (by decide) (by omega) fun j j0 j1 => by omega
    · have hp := lw_p h (p := q) (by omega) z
      have hi := ih _ (by omega) (q + 1) rfl (by omega) (by omega)
      rw [mn7_next (by omega)] at hi
      rw [ml_u hM (by omega) z]
      refine ⟨⟨by omega, by omega⟩, ⟨by omega, by omega⟩, fun w => ⟨zin_0, fun v => absurd rfl v, fun _ => ?_⟩, fun w => ?_⟩
      · have hk : kid s p q = false := by
          rw [← Bool.not_eq_true, kid_t]
          exact fun v => w v.2
        simp only [hk, Bool.false_eq_true, if_false] at hi
        rw [if_neg (show ¬ (7 : Int) < mn7 (fun c => if kid s p c then hd s y c else 7) q.toNat by omega)] at hi
        exact hi
      · have hk : kid s p q = true := kid_t.mpr ⟨q0, w⟩
        simp only [hk, if_true] at hi
        have hg := bs_lt (fun k => bt y k && onb s q (s 24 0 k)) (s 18 0 6).toNat
        have hgl : 0 ≤ gbs s y q ∧ gbs s y q < 2 ^ (s 18 0 6).toNat := hg
        have h7 := pw7 hn.2.2.2.1
        have hr := hd_rng h y (p := q) (by omega) z
        have hne := gbs_ne h (y := y) (q := q) (by omega) z
        refine c232 hL hM h (by omega) ⟨y0, y1⟩ (by omega) z (zaI_of ⟨⟨by omega, by omega⟩, fun v => ?_, fun v => ?_⟩)
        · have hq7 := hne.mp v
          refine ihn D (gbs s y q) q _ (by omega) z (by omega) (by omega) hgl.1 (by omega) (fun k k0 hb => ?_) (zaI_of ?_)
          · have hkn : k < s 18 0 6 := by
              have := bt_n hgl.1 hgl.2 hb k0
              omega
            rw [bt_gbs k0 (by omega), Bool.and_eq_true, onb_t] at hb
            exact ⟨hkn, hb.2⟩
          · have e : hdm s (gbs s y q) q = hd s y q := by
              unfold hdm
              rw [gbs_hd h (by omega) z, if_pos hq7]
            rw [e]
            by_cases w2 : mn7 (fun c => if kid s p c then hd s y c else 7) q.toNat < 7
            · rw [if_pos w2] at zbst ⊢
              refine ⟨zbst, ⟨by decide, by decide⟩, fun _ => ?_, fun v2 => by omega⟩
              refine c261 hL (by omega) zbst ⟨by omega, by omega⟩ (zaI_of ?_)
              by_cases w3 : hd s y q < mn7 (fun c => if kid s p c then hd s y c else 7) q.toNat
              · rw [if_pos w3] at hi ⊢
                rw [if_pos hq7] at hi
                exact hi
              · rw [if_neg w3] at hi ⊢
                rw [if_pos w2] at hi
                exact hi
            · rw [if_neg w2]
              refine ⟨⟨by decide, by decide⟩, ⟨by decide, by decide⟩, fun v2 => absurd rfl v2, fun _ => ?_⟩
              rw [if_pos (show hd s y q < mn7 (fun c => if kid s p c then hd s y c else 7) q.toNat by omega), if_pos hq7] at hi
              exact hi
        · have hq7 : ¬ hd s y q < 7 := fun v2 => (hne.mpr v2) v
          rw [if_neg (show ¬ hd s y q < mn7 (fun c => if kid s p c then hd s y c else 7) q.toNat by omega)] at hi
          exact hi
  have hk := kids _ (p + 1) rfl (by omega) (by omega)
  have e0 : mn7 (fun c => if kid s p c then hd s y c else 7) (p + 1).toNat = 7 := by
    symm
    refine mn7_one (Int.le_refl _) (fun c c0 c1 => ?_) (Or.inl rfl)
    have hk : kid s p c = false := by
      rw [← Bool.not_eq_true, kid_t]
      rintro ⟨v, _⟩
      omega
    simp only [hk, Bool.false_eq_true, if_false]
    exact Int.le_refl _
  rw [e0, if_neg (by decide)] at hk
  exact z237 hL hk
/-- those of x that go on from p with groups whose heads are not less than h -/
def lbB (s : zJ) (x p h0 j : Int) : Bool := bt x j && (onb s p (s 24 0 j) && (decide (s 24 0 j ≠ p) && decide (h0 ≤ hd s x (tw s p 12 (s 24 0 j)))))
theorem lbB_t {s : zJ} {x p h0 j : Int} : lbB s x p h0 j = true ↔ bt x j = true ∧ on s p (s 24 0 j) ∧ s 24 0 j ≠ p ∧ h0 ≤ hd s x (tw s p 12 (s 24 0 j)) := by
  unfold lbB
  rw [Bool.and_eq_true, Bool.and_eq_true, Bool.and_eq_true, onb_t, decide_eq_true_iff, decide_eq_true_iff]
theorem tw_kid {s : zJ} (h : LW s) {p j : Int} (p0 : 0 ≤ p) (p1 : p < s 18 0 0) (j0 : 0 ≤ j) (j1 : j < s 18 0 6) (ho : on s p (s 24 0 j)) (hne : s 24 0 j ≠ p) : 0 ≤ tw s p 12 (s 24 0 j) ∧ tw s p 12 (s 24 0 j) < s 18 0 0 ∧ kid s p (tw s p 12 (s 24 0 j)) = true ∧ on s (tw s p 12 (s 24 0 j)) (s 24 0 j) := by
  have hn := lw_n h
  have hk := lw_k h j0 j1
  have hle := on_le h p0 _ (by omega) (by omega) ho
  have ht := tw_ok h p0 12 _ (by omega) (by omega) ho (by omega)
  exact ⟨by omega, by omega, kid_t.mpr ⟨ht.2.1, ht.1⟩, ht.2.2.2⟩
theorem kid_tw {s : zJ} (h : LW s) {p c j : Int} (p0 : 0 ≤ p) (c1 : c < s 18 0 0) (hk : kid s p c = true) (j0 : 0 ≤ j) (j1 : j < s 18 0 6) (ho : on s c (s 24 0 j)) : tw s p 12 (s 24 0 j) = c ∧ on s p (s 24 0 j) ∧ s 24 0 j ≠ p := by
  have hk1 := kid_t.mp hk
  have hkk := lw_k h j0 j1
  have hle := on_le h (by omega) _ (by omega) (by omega) ho
  exact ⟨tw_one h p0 hk1.2 hk1.1 hle (by omega) ho, on_trans h p0 (by omega) (kid_on h p0 c1 hk) _ (by omega) (by omega) ho, by omega⟩
/-- the least head of those that are left -/
theorem lb_head {s : zJ} (h : LW s) {x p h0 z : Int} (p0 : 0 ≤ p) (p1 : p < s 18 0 0) (z0 : 0 ≤ z) (hz : ∀ j : Int, 0 ≤ j → bt z j = (decide (j < s 18 0 6) && lbB s x p h0 j)) (hne : z ≠ 0) : ∃ q : Int, 0 ≤ q ∧ q < s 18 0 0 ∧ kid s p q = true ∧ hd s x q < 7 ∧ h0 ≤ hd s x q ∧ hd s z p = hd s x q ∧ (∀ c : Int, 0 ≤ c → c < s 18 0 0 → kid s p c = true → h0 ≤ hd s x c → hd s x q ≤ hd s x c) := by
  have hn := lw_n h
  have hkz : ∀ c : Int, 0 ≤ c → c < s 18 0 0 → kid s p c = true → hd s z c = if h0 ≤ hd s x c then hd s x c else 7 := by
    intro c c0 c1 hk
    by_cases q : h0 ≤ hd s x c
    · rw [if_pos q]
      refine hd_cong h _ c rfl c0 c1 fun k k0 k1 ho => ?_
      obtain ⟨a1, a2, a3⟩ := kid_tw h p0 c1 hk k0 k1 ho
      rw [hz k k0, decide_eq_true k1, Bool.true_and]
      unfold lbB
      rw [onb_t.mpr a2, decide_eq_true a3, a1, decide_eq_true q]
      simp
    · rw [if_neg q]
      rcases hd_is h z c0 c1 with ⟨w, _⟩ | ⟨w1, w2, w3, w4⟩
      · exact w
      · exfalso
        obtain ⟨a1, a2, a3⟩ := kid_tw h p0 c1 hk w1 w2 w4
        rw [hz _ w1, Bool.and_eq_true, lbB_t, a1] at w3
        exact q w3.2.2.2.2
  -- some are left
  obtain ⟨j, j0, hj⟩ : ∃ j : Int, 0 ≤ j ∧ bt z j = true := by
    apply Classical.byContradiction
    intro hno
    refine hne (bt_ext z0 (Int.le_refl 0) fun k k0 => ?_)
    rw [bt_z, ← Bool.not_eq_true]
    exact fun w => hno ⟨k, k0, w⟩
  have hj2 := hj
  rw [hz j j0, Bool.and_eq_true, decide_eq_true_iff, lbB_t] at hj2
  obtain ⟨b1, b2, b3, b4⟩ := tw_kid h p0 p1 j0 hj2.1 hj2.2.2.1 hj2.2.2.2.1
  have hjk : hd s z (tw s p 12 (s 24 0 j)) < 7 := (hd_has h z b1 b2).mpr ⟨j, j0, hj2.1, hj, b4⟩
  obtain ⟨m1, m2, m3⟩ := mn7_ok (fun c => if kid s p c then hd s z c else 7) (s 18 0 0).toNat
  have hm := m2 (tw s p 12 (s 24 0 j)) b1 (by omega)
  simp only [b3, if_true] at hm
  have hu : hd s z p = mn7 (fun c => if kid s p c then hd s z c else 7) (s 18 0 0).toNat := by rw [hd_unf h z p0 p1, if_pos (by omega)]
  rcases m3 with w | ⟨q, q0, q1, q2⟩
  · omega
  · cases hk : kid s p q with
    | false =>
      simp only [hk, Bool.false_eq_true, if_false] at q2
      omega
    | true =>
      simp only [hk, if_true] at q2
      have hzq := hkz q q0 (by omega) hk
      have hq0 : h0 ≤ hd s x q := by
        apply Classical.byContradiction
        intro w
        rw [if_neg w] at hzq
        omega
      rw [if_pos hq0] at hzq
      refine ⟨q, q0, by omega, hk, by omega, hq0, by rw [hu, q2, hzq], fun c c0 c1 hkc hc => ?_⟩
      have h5 := m2 c c0 (by omega)
      simp only [hkc, if_true] at h5
      rw [hkz c c0 c1 hkc, if_pos hc] at h5
      omega
theorem c264 {L : Nat} {xs : Nat → Int32} (hL : L ≤ 3072) {K : zK} {s : zJ} (h : LW s) {x : Int} (x0 : 0 ≤ x) : ∀ (n D : Nat) (p o : Int) (J : zJ) (Q : zR → Nat → zJ → zK → Prop), ML s J → 0 ≤ p → p < s 18 0 0 → s 18 0 0 - p ≤ n → n + 20 ≤ D → J 142 0 37 = o → 0 ≤ o → o + cbh s x p ≤ 8 → (∀ J' : zJ, (∀ b : Nat, b ≠ 142 → b ≠ 533 → J' b = J b) → (∀ k : Int, k ≠ 37 → J' 142 0 k = J 142 0 k) → J' 142 0 37 = o + cbh s x p → (∀ i : Int, 0 ≤ i → i < cbh s x p → J' 533 0 (o + i) = sq s x p i) → (∀ i : Int, i < o → J' 533 0 i = J 533 0 i) → Q (.inl none) 0 J' K) → zCall L xs D 264 [zr 142, zi (gbs s x p), zi p] J K Q := by
  have hn := lw_n h
  intro n
  induction n with
  | zero =>
    intro D p o J Q hM p0 p1 hpn
    omega
  | succ n ihn =>
  intro D p o J Q hM p0 p1 hpn hD ho o0 o1 hQ
  obtain ⟨D, rfl⟩ : ∃ d, D = d + 1 := ⟨D - 1, by omega⟩
  obtain ⟨hm0, hm1, -, -⟩ := ml_n hM
  have h7p := pw7 hn.2.2.2.1
  have hg := bs_lt (fun k => bt x k && onb s p (s 24 0 k)) (s 18 0 6).toNat
  have hgl : 0 ≤ gbs s x p ∧ gbs s x p < 2 ^ (s 18 0 6).toNat := hg
  have hgb : ∀ j : Int, 0 ≤ j → bt (gbs s x p) j = (decide (j < s 18 0 6) && (bt x j && onb s p (s 24 0 j))) := fun j j0 => by
    unfold gbs
    rw [bt_bs _ _ j j0]
    congr 1
    exact decide_eq_decide.mpr (by omega)
  have hc7 := gT_7 h x p0 p1
  have hs0 := sty_nn s x p
  -- those that stay
  have stays : ∀ (m : Nat) (k st : Int) (J1 : zJ), m = (s 18 0 6 - k).toNat → 0 ≤ k → k ≤ s 18 0 6 → 0 ≤ st → st < 128 → (∀ j : Int, 0 ≤ j → bt st j = (decide (j < s 18 0 6) && stb s x p j)) → (∀ b : Nat, b ≠ 142 → b ≠ 533 → J1 b = J b) → (∀ k : Int, k ≠ 37 → J1 142 0 k = J 142 0 k) → J1 142 0 37 = o + gT s x p 7 + cnt (stb s x p) k.toNat → (∀ i : Int, 0 ≤ i → i < gT s x p 7 + cnt (stb s x p) k.toNat → J1 533 0 (o + i) = sq s x p i) → (∀ i : Int, i < o → J1 533 0 i = J 533 0 i) → zGo L xs (D + 1) 264 115 [some (zr 142), none, none, none, some (zi st), some (zi k), none] [] J1 K Q := by
    intro m; induction m using Nat.strongRecOn with
    | _ m ih =>
    intro k st J1 hm k0 k1 s0 s1 hst f1 f2 f37 g1 g2
    have hcr := cnt_rng (stb s x p) k.toNat
    have hgn := gT_nn (s := s) x p 7
    refine z264_115 hL ?_
    rw [f1 144 (by decide) (by decide), hm1, bt_shz s0 (by omega), f37]
    refine ⟨by decide, by decide, ⟨by omega, by omega⟩, ⟨by omega, by omega⟩, fun q => ?_, fun q => ⟨⟨by omega, by omega⟩, k0, by omega, zin_zb _, fun z => ?_, fun z => ?_⟩⟩
    · have e : k = s 18 0 6 := by omega
      subst e
      have e2 : cnt (stb s x p) (s 18 0 6).toNat = sty s x p := rfl
      rw [e2] at f37 g1
      exact hQ J1 f1 f2 (by omega) (fun i i0 i1 => g1 i i0 (by omega)) g2
    · have z := zb_1.mp z
      rw [hst k k0, decide_eq_true q, Bool.true_and] at z
      have hlt : cnt (stb s x p) k.toNat < sty s x p := cnt_lt (P := stb s x p) (k := s 18 0 6) k0 q z
      have hsq := sq_stay h x p0 p1 k0 q z
      refine ⟨by omega, by omega, ih _ (by omega) (k + 1) st _ rfl (by omega) (by omega) s0 s1 hst (fun b a c => by rw [zup_ne _ _ _ _ a, zup_ne _ _ _ _ c]; exact f1 b a c) (fun j hj => by rw [zup_nk _ _ hj, zup_ne _ _ _ _ (by decide)]; exact f2 j hj) (by rw [zup_eq, cnt_next k0, z, zb_t]; omega) (fun i i0 i1 => ?_) (fun i hi => by rw [zup_ne _ _ _ _ (by decide), zup_nk _ _ (by omega)]; exact g2 i hi)⟩
      rw [cnt_next k0, z, zb_t] at i1
      rw [zup_ne _ _ _ _ (by decide)]
      by_cases e : i = gT s x p 7 + cnt (stb s x p) k.toNat
      · have e2 : o + i = o + gT s x p 7 + cnt (stb s x p) k.toNat := by omega
        rw [e2, zup_eq, e, hsq]
      · rw [zup_nk _ _ (by omega)]
        exact g1 i i0 (by omega)
    · have z := zb_0.mp z
      rw [hst k k0, decide_eq_true q, Bool.true_and] at z
      refine ih _ (by omega) (k + 1) st J1 rfl (by omega) (by omega) s0 s1 hst f1 f2 (by rw [cnt_next k0, z, zb_f]; omega) (fun i i0 i1 => ?_) g2
      rw [cnt_next k0, z, zb_f] at i1
      exact g1 i i0 (by omega)
  -- the groups
  have groups : ∀ (m : Nat) (h0 z st : Int) (J1 : zJ), m = (7 - h0).toNat → 0 ≤ h0 → h0 ≤ 7 → 0 ≤ z → z < 128 → (∀ j : Int, 0 ≤ j → bt z j = (decide (j < s 18 0 6) && lbB s x p h0 j)) → 0 ≤ st → st < 128 → (∀ j : Int, 0 ≤ j → bt st j = (decide (j < s 18 0 6) && stb s x p j)) → (∀ b : Nat, b ≠ 142 → b ≠ 533 → J1 b = J b) → (∀ k : Int, k ≠ 37 → J1 142 0 k = J 142 0 k) → J1 142 0 37 = o + gT s x p h0 → (∀ i : Int, 0 ≤ i → i < gT s x p h0 → J1 533 0 (o + i) = sq s x p i) → (∀ i : Int, i < o → J1 533 0 i = J 533 0 i) → zGo L xs (D + 1) 264 61 [some (zr 142), none, some (zi p), some (zi z), some (zi st), none, none] [] J1 K Q := by
    intro m; induction m using Nat.strongRecOn with
    | _ m ih =>
    intro h0 z st J1 hm h00 h07 z0 z1 hz s0 s1 hst f1 f2 f37 g1 g2
    have hM1 : ML s J1 := ml_eq hM (f1 _ (by decide) (by decide)) (f1 _ (by decide) (by decide)) (f1 _ (by decide) (by decide)) (f1 _ (by decide) (by decide)) (f1 _ (by decide) (by decide))
    refine z264_61 hL ⟨⟨by omega, by omega⟩, fun q => ?_, fun q => ?_⟩
    · have e := gT_same h x (p := p) (a := h0) (b := 7) p0 h07 (Int.le_refl _) fun c c0 c1 hk hc => by
        rcases hd_is h x c0 c1 with ⟨w, _⟩ | ⟨w1, w2, w3, w4⟩
        · omega
        · exfalso
          obtain ⟨a1, a2, a3⟩ := kid_tw h p0 c1 hk w1 w2 w4
          have := hz _ w1
          rw [q, bt_z, decide_eq_true w2, Bool.true_and] at this
          have ht := lbB_t.mpr ⟨w3, a2, a3, by rw [a1]; exact hc⟩
          rw [ht] at this
          cases this
      have e0 : cnt (stb s x p) (0 : Int).toNat = 0 := rfl
      exact stays _ 0 st J1 rfl (by decide) (by omega) s0 s1 hst f1 f2 (by rw [f37, e, e0, Int.add_zero]) (fun i i0 i1 => g1 i i0 (by rw [e0] at i1; omega)) g2
    · obtain ⟨c, c0, c1, hk, c7, ch0, hzc, hmin⟩ := lb_head h p0 p1 z0 hz q
      have hk1 := kid_t.mp hk
      have hcr := hd_rng h x c0 c1
      refine c237 hL hM1 h 12 D z p _ p0 p1 (by omega) (by omega) z0 (by omega) (fun k k0 hb => ?_) (zaI_of ?_)
      · rw [hz k k0, Bool.and_eq_true, decide_eq_true_iff, lbB_t] at hb
        exact ⟨hb.1, hb.2.2.1⟩
      have ehd : hdm s z p = hd s x c := by
        unfold hdm
        rw [hzc, if_pos c7]
      rw [ehd]
      rcases hd_is h x c0 c1 with ⟨w, _⟩ | ⟨w1, w2, w3, w4⟩
      · omega
      obtain ⟨a1, a2, a3⟩ := kid_tw h p0 c1 hk w1 w2 w4
      have hkk := lw_k h w1 w2
      have hle := on_le h p0 _ (by omega) (by omega) a2
      rw [(ml_k hM1 w1 w2).1]
      refine ⟨by omega, by omega, by omega, by omega, by decide, by decide, ?_⟩
      refine c300 hL hM1 h (by omega) p0 (by omega) (by omega) a2 (zaI_of ?_)
      rw [a1]
      refine c232 hL hM1 h (by omega) ⟨z0, by omega⟩ c0 c1 (zaI_of ?_)
      have hgz : gbs s z c = gbs s x c := by
        unfold gbs
        refine bs_cong fun j j0 j1 => ?_
        rw [hz j j0, decide_eq_true (by omega), Bool.true_and]
        by_cases hoc : on s c (s 24 0 j)
        · obtain ⟨d1, d2, d3⟩ := kid_tw h p0 c1 hk j0 (by omega) hoc
          unfold lbB
          rw [onb_t.mpr d2, decide_eq_true d3, d1, decide_eq_true ch0]
          simp
        · rw [onb_f.mpr hoc, Bool.and_false, Bool.and_false]
      rw [hgz]
      have hstep := gT_step h x p0 c1 hk c7
      have hin := gT_in h x p0 c1 hk c7
      have hsame := gT_same h x (p := p) (a := h0) (b := hd s x c) p0 ch0 (by omega) hmin
      have hcn := (hd_cbh h x c0 c1).2
      refine ihn D c (o + gT s x p h0) J1 _ hM1 c0 c1 (by omega) (by omega) f37 (by have := gT_nn (s := s) x p h0; omega) (by omega) fun J2 f3 f4 k37 m1 m2 => zaV_of ?_
      have hgx := bs_lt (fun k => bt x k && onb s c (s 24 0 k)) (s 18 0 6).toNat
      have hgxl : 0 ≤ gbs s x c ∧ gbs s x c < 2 ^ (s 18 0 6).toNat := hgx
      have hzn := zandn_n (x := z) (y := gbs s x c) z0 (by omega) hgxl.1 (by omega)
      refine ih _ (by omega) (hd s x c + 1) _ st J2 rfl (by omega) (by omega) hzn.1 (by omega) (fun j j0 => ?_) s0 s1 hst (fun b a d => (f3 b a d).trans (f1 b a d)) (fun k hk2 => (f4 k hk2).trans (f2 k hk2)) (by omega) (fun i i0 i1 => ?_) (fun i hi => ?_)
      · rw [hzn.2.2 j j0, hz j j0]
        by_cases hj : j < s 18 0 6
        · rw [decide_eq_true hj, Bool.true_and, Bool.true_and, bt_gbs j0 (by omega), Bool.eq_iff_iff, Bool.and_eq_true, Bool.not_eq_true', lbB_t, lbB_t]
          constructor
          · rintro ⟨⟨d1, d2, d3, d4⟩, d5⟩
            obtain ⟨b1, b2, b3, b4⟩ := tw_kid h p0 p1 j0 hj d2 d3
            have hne : tw s p 12 (s 24 0 j) ≠ c := fun e => by
              rw [e] at b4
              rw [d1, onb_t.mpr b4] at d5
              cases d5
            have hne2 : hd s x (tw s p 12 (s 24 0 j)) ≠ hd s x c := fun e => hne (hd_inj h x p0 b2 c1 b3 hk (by omega) e)
            have := hmin _ b1 b2 b3 d4
            exact ⟨d1, d2, d3, by omega⟩
          · rintro ⟨d1, d2, d3, d4⟩
            refine ⟨⟨d1, d2, d3, by omega⟩, ?_⟩
            have : onb s c (s 24 0 j) = false := onb_f.mpr fun w => by
              have := (kid_tw h p0 c1 hk j0 hj w).1
              rw [this] at d4
              omega
            rw [this, Bool.and_false]
        · rw [decide_eq_false hj, Bool.false_and, Bool.false_and, Bool.false_and]
      · by_cases e : i < gT s x p h0
        · have hgn := gT_nn (s := s) x p h0
          rw [m2 (o + i) (by omega)]
          exact g1 i i0 e
        · have := m1 (i - gT s x p h0) (by omega) (by omega)
          have e2 : o + gT s x p h0 + (i - gT s x p h0) = o + i := by omega
          rw [e2] at this
          rw [this]
          have hsq := sq_kid h x (i := i - gT s x p h0) p0 p1 c1 hk c7 (by omega) (by omega)
          rw [hsame] at hsq
          have e3 : gT s x p h0 + (i - gT s x p h0) = i := by omega
          rw [e3] at hsq
          exact hsq.symm
      · have hgn := gT_nn (s := s) x p h0
        rw [m2 i (by omega)]
        exact g2 i hi
  -- those that don't stay
  have lefts : ∀ (m : Nat) (k z : Int), m = (s 18 0 6 - k).toNat → 0 ≤ k → k ≤ s 18 0 6 → 0 ≤ z → z < 128 → (∀ j : Int, 0 ≤ j → bt z j = (bt (gbs s x p) j && !(decide (j < k) && decide (s 24 0 j = p)))) → zGo L xs (D + 1) 264 5 [some (zr 142), some (zi (gbs s x p)), some (zi p), some (zi z), some (zi k), none, none] [] J K Q := by
    intro m; induction m using Nat.strongRecOn with
    | _ m ih =>
    intro k z hm k0 k1 z0 z1 hz
    refine z264_5 hL ?_
    rw [hm1, bt_shz hgl.1 (by omega)]
    refine ⟨by decide, by decide, ⟨by omega, by omega⟩, ⟨by omega, by omega⟩, fun q => ?_, fun q => ⟨⟨by omega, by omega⟩, k0, by omega, zin_zb _, zin_1, fun w => ?_, fun w => ?_⟩⟩
    · have e : k = s 18 0 6 := by omega
      subst e
      have hzn := zandn_n (x := gbs s x p) (y := z) hgl.1 (by omega) z0 (by omega)
      refine groups _ 0 z _ J rfl (by decide) (by decide) z0 z1 (fun j j0 => ?_) hzn.1 (by omega) (fun j j0 => ?_) (fun _ _ _ => rfl) (fun _ _ => rfl) (by rw [gT_0 h x p0, Int.add_zero]; exact ho) (fun i i0 i1 => by rw [gT_0 h x p0] at i1; omega) (fun _ _ => rfl)
      · rw [hz j j0, hgb j j0]
        by_cases hj : j < s 18 0 6
        · rw [decide_eq_true hj, Bool.true_and, Bool.true_and]
          unfold lbB
          by_cases ho2 : on s p (s 24 0 j)
          · by_cases hne : s 24 0 j = p
            · rw [decide_eq_true hne, decide_eq_false (p := s 24 0 j ≠ p) (fun y => y hne)]
              simp
            · obtain ⟨b1, b2, _, _⟩ := tw_kid h p0 p1 j0 hj ho2 hne
              have := hd_rng h x b1 b2
              rw [onb_t.mpr ho2, decide_eq_false hne, decide_eq_true (p := s 24 0 j ≠ p) hne, decide_eq_true (p := (0 : Int) ≤ _) this.1]
              simp
          · rw [onb_f.mpr ho2]
            simp
        · rw [decide_eq_false hj]
          simp
      · rw [hzn.2.2 j j0, hz j j0, hgb j j0]
        by_cases hj : j < s 18 0 6
        · rw [decide_eq_true hj, Bool.true_and, Bool.true_and]
          unfold stb
          by_cases hne : s 24 0 j = p
          · rw [decide_eq_true hne, hne, onb_t.mpr (on_self s p)]
            cases bt x j <;> simp
          · rw [decide_eq_false hne]
            simp
        · rw [decide_eq_false hj]
          simp
    · have w := zb_n1.mp w
      refine ih _ (by omega) (k + 1) z rfl (by omega) (by omega) z0 z1 fun j j0 => ?_
      rw [hz j j0]
      by_cases e : j = k
      · rw [e, w]
        rfl
      · have : decide (j < k + 1) = decide (j < k) := decide_eq_decide.mpr (by omega)
        rw [this]
    · have w := zb_e1.mp w
      have hkk := lw_k h k0 q
      rw [(ml_k hM k0 q).1]
      refine ⟨k0, by omega, k0, by omega, by decide, by decide, ⟨by omega, by omega⟩, ⟨by omega, by omega⟩, fun v => ?_, fun v => ⟨k0, by omega, ?_⟩⟩
      · refine ih _ (by omega) (k + 1) z rfl (by omega) (by omega) z0 z1 fun j j0 => ?_
        rw [hz j j0]
        by_cases e : j = k
        · rw [e, decide_eq_false v]
          simp
        · have : decide (j < k + 1) = decide (j < k) := decide_eq_decide.mpr (by omega)
          rw [this]
      · have hp2 := pw_31 (n := k.toNat) (by omega)
        have hzn := zandn_n (x := z) (y := 1 * 2 ^ k.toNat) z0 (by omega) (by omega) (by omega)
        refine ih _ (by omega) (k + 1) _ rfl (by omega) (by omega) hzn.1 (by omega) fun j j0 => ?_
        rw [hzn.2.2 j j0, hz j j0, Int.one_mul, bt_pow k0 j0]
        by_cases e : k = j
        · rw [← e, decide_eq_true rfl, decide_eq_true (p := k < k + 1) (by omega), decide_eq_true v]
          simp
        · have : decide (j < k + 1) = decide (j < k) := decide_eq_decide.mpr (by omega)
          rw [this, decide_eq_false e]
          simp
  refine z264 hL (lefts _ 0 _ rfl (by decide) (by omega) hgl.1 (by omega) fun j j0 => ?_)
  rw [decide_eq_false (p := j < 0) (by omega)]
  simp
theorem gbs_root {s : zJ} (h : LW s) {x : Int} (x0 : 0 ≤ x) (x1 : x < 2 ^ (s 18 0 6).toNat) : gbs s x 0 = x := by
  have hn := lw_n h
  symm
  unfold gbs
  refine bs_of x0 fun k k0 => ?_
  by_cases hk : k < s 18 0 6
  · have hkk := lw_k h k0 hk
    rw [onb_t.mpr (on_zero h (s 24 0 k) (by omega) (by omega)), Bool.and_true, decide_eq_true (by omega), Bool.true_and]
  · rw [decide_eq_false (by omega), Bool.false_and]
    exact bt_lt x0 x1 (by omega)
/-- the first row of a set -/
theorem c265 {L : Nat} {xs : Nat → Int32} (hL : L ≤ 3072) {D : Nat} {J : zJ} {K : zK} {Q : zR → Nat → zJ → zK → Prop} {s : zJ} (hM : ML s J) (h : LW s) {x : Int} (x0 : 0 ≤ x) (x1 : x < 2 ^ (s 18 0 6).toNat) (hD : 34 ≤ D) (hQ : ∀ J' : zJ, (∀ b : Nat, b ≠ 142 → b ≠ 533 → J' b = J b) → (∀ k : Int, k ≠ 37 → J' 142 0 k = J 142 0 k) → J' 142 0 37 = cbh s x 0 → (∀ i : Int, 0 ≤ i → i < cbh s x 0 → J' 533 0 i = sq s x 0 i) → Q (.inl none) 0 J' K) : zCall L xs D 265 [zr 142, zi x] J K Q := by
  obtain ⟨D, rfl⟩ : ∃ d, D = d + 1 := ⟨D - 1, by omega⟩
  have hn := lw_n h
  have h7p := pw7 hn.2.2.2.1
  have hcr := cnt_rng (fun k => bt x k && onb s 0 (s 24 0 k)) (s 18 0 6).toNat
  have hc0 : 0 ≤ cbh s x 0 ∧ cbh s x 0 ≤ (s 18 0 6).toNat := hcr
  refine z265 hL ⟨⟨by omega, by omega⟩, fun q => ?_, fun q => ?_⟩
  · have e : cbh s x 0 = 0 := sm_zero fun k _ _ => by
      show zb (bt x k && onb s 0 (s 24 0 k)) = 0
      rw [q, bt_z]
      rfl
    exact hQ _ (fun b hb _ => zup_ne _ _ _ _ hb) (fun k hk => zup_nk _ _ hk) (by rw [zup_eq, e]) (fun i i0 i1 => by omega)
  · have hN : 0 < s 18 0 0 := by
      rcases Int.lt_or_le 0 (s 18 0 6) with z | z
      · have := lw_k h (k := 0) (by decide) z
        omega
      · have e : (s 18 0 6).toNat = 0 := by omega
        rw [e] at x1
        have e1 : (2 : Int) ^ 0 = 1 := rfl
        omega
    have hM1 : ML s (zup J 142 0 37 0) := ml_eq hM (zup_ne _ _ _ _ (by decide)) (zup_ne _ _ _ _ (by decide)) (zup_ne _ _ _ _ (by decide)) (zup_ne _ _ _ _ (by decide)) (zup_ne _ _ _ _ (by decide))
    have hgo := c264 (xs := xs) hL h x0 (K := K) 12 D 0 0 (zup J 142 0 37 0) (fun r1 e1 J1 K1 => zaV r1 e1 (Q (.inl none) 0 J1 K1) (fun E => Q (.inr E) e1 J1 K1)) hM1 (Int.le_refl 0) hN (by omega) (by omega) (zup_eq _ _ _ _ _) (Int.le_refl 0) (by omega) fun J2 f1 f2 f37 g1 g2 => zaV_of (hQ J2 (fun b hb hc => by rw [f1 b hb hc, zup_ne _ _ _ _ hb]) (fun k hk => by rw [f2 k hk, zup_nk _ _ hk]) (by omega) (fun i i0 i1 => by have := g1 i i0 i1; rw [Int.zero_add] at this; exact this))
    rw [gbs_root h x0 x1] at hgo
    exact hgo
theorem fm_fr1 {J J' : zJ} (h1 : ∀ b : Nat, b ≠ 142 → b ≠ 533 → J' b = J b) (h2 : ∀ k : Int, k ≠ 37 → J' 142 0 k = J 142 0 k) : FrM J J' := ⟨fun b a c => h1 b a (by omega), h2 1 (by decide), h2 3 (by decide), h2 14 (by decide), h2 15 (by decide), h2 16 (by decide), h2 17 (by decide)⟩
theorem op6 {G : zJ → zK → Prop} (hG : GOk G) : ∀ a b : Int, zin a → zin b → OpW (Inv G) 332 5 155 226 zin [zi a, zi b] := by
  intro a b ha hb
  intro L xs D D2 J K hL hD hD2 hI; obtain ⟨⟨hW, hT, hP, hM, hC, hTp, hF, hIm⟩, hg⟩ := id hI; have hE := eqs_rfl J; have hn := lw_n hW; have hpn := pw_n hP
  obtain ⟨D, rfl⟩ : ∃ d, D = d + 1 := ⟨D - 1, by omega⟩
  obtain ⟨D2, rfl⟩ : ∃ d, D2 = d + 1 := ⟨D2 - 1, by omega⟩
  have h7p := pw7 hn.2.2.2.1
  have hM0 := ml_fm hM (fm_t J 0)
  refine z155 hL ?_
  refine c168 hL hE hW (by omega) ha (fun g0 g1 => zaV_of ?_) fun hc => zaV_ex (Or.inr ⟨0, 1, rfl, rfl, zonb_ok (by decide +kernel), by decide, by decide, ?_⟩)
  · have hcb := cbh_root hW g0 g1
    have hcr := cnt_rng (fun k => bt a k && onb J 0 (J 24 0 k)) (J 18 0 6).toNat
    have hc0 : 0 ≤ cbh J a 0 ∧ cbh J a 0 ≤ (J 18 0 6).toNat := hcr
    have model : ∀ (v x : Int) (J1 : zJ), FrC J J1 → (¬ (0 ≤ b ∧ b < cbh J a 0) → v = -1) → (0 ≤ b → b < cbh J a 0 → v = sq J a 0 b) → zCall L xs (D2 + 1) 226 [zr 142, zi a, zi b] J1 (zku K 561 0 x) fun r2 e2 J2 K2 => r2 = .inl (some (zi v)) ∧ e2 = 0 ∧ J2 142 0 0 = 0 ∧ K2 561 0 = x ∧ Inv G J2 K2 := by
      intro v x J1 fc hv1 hv2
      have t1 : zup J1 142 0 0 0 142 0 0 = 0 := zup_eq _ _ _ _ _
      have hM1 := ml_fm (ml_fc hM fc) (fm_t J1 0)
      refine z226 hL ?_
      refine c193 hL hM1 hW (by omega) ha (zaI_of ⟨zin_zb _, fun _ => ?_, fun q => by rw [zb_0, decide_eq_false_iff_not] at q; omega⟩)
      refine c195F hL (by omega) t1 (zaI_of ⟨zin_0, fun _ => ?_, fun q => absurd rfl q⟩)
      refine c265 hL hM1 hW g0 g1 (by omega) fun J2 f1 f2 f37 k1 => zaV_of ?_
      have fm := fm_tr (fm_t J1 0) (fm_fr1 f1 f2)
      have fin : ∀ v : Int, (Sum.inl (some (zi v)) : zR) = .inl (some (zi v)) ∧ (0 : Nat) = 0 ∧ J2 142 0 0 = 0 ∧ (zku K 561 0 x) 561 0 = x ∧ Inv G J2 (zku K 561 0 x) := fun v => ⟨rfl, rfl, by rw [f2 0 (by decide)]; exact t1, zku_o K x, inv_q hG hI fc fm (zku_n _ _ (by decide))⟩
      rw [f37]
      refine c240 hL (by omega) hb zin_0 ⟨by omega, by omega⟩ (zaI_of ⟨zin_zb _, fun q => ?_, fun q => ?_⟩)
      · rw [zb_0, decide_eq_false_iff_not] at q
        rw [hv1 (by omega)]
        exact fin _
      · rw [zb_1, decide_eq_true_iff] at q
        rw [k1 b q.1 (by omega), hv2 q.1 (by omega)]
        exact ⟨by omega, by omega, fin _⟩
    refine ⟨hb, fun q => Or.inl ⟨_, rfl, rfl, ⟨by decide, by decide⟩, fun x => model _ x J (fc_rfl J) (fun _ => rfl) (fun z => by omega)⟩, fun q => ?_⟩
    refine c317 hL (by omega) g0 (by omega) (zaI_of ?_)
    rw [← hcb]
    refine ⟨hb, ⟨by omega, by omega⟩, fun q2 => ?_, fun q2 => Or.inl ⟨_, rfl, rfl, ⟨by decide, by decide⟩, fun x => model _ x J (fc_rfl J) (fun _ => rfl) (fun _ z => by omega)⟩⟩
    refine c67 hL (eql_of hE) hW hT g0 (by omega) (by decide) (by omega) (by omega) fun J1 f1 k1 k2 => zaV_of ⟨q, by omega, Or.inl ⟨_, rfl, rfl, ?_, fun x => ?_⟩⟩
    · have hN : 0 < J 18 0 0 := by
        obtain ⟨k, k0, k1, _⟩ := cnt_pos.mp (show 0 < cbh J a 0 by omega)
        have := lw_k hW k0 (by omega)
        omega
      obtain ⟨k, k0, kk1, _, _, k4⟩ := sq_at hW a hN q q2
      have := k1 b q q2
      rw [Int.zero_add] at this
      rw [this, k4]
      exact ⟨by omega, by omega⟩
    · have fc : FrC J J1 := fun c hc => f1 c (by omega) (by omega) (by omega)
      refine model _ x J1 fc (fun z => absurd ⟨q, q2⟩ z) fun _ _ => ?_
      have := k1 b q q2
      rw [Int.zero_add] at this
      exact this
  · have t0 : zup J 142 0 0 0 142 0 0 = 0 := zup_eq _ _ _ _ _
    have fin := fin_x hG hI (fc_rfl J) (fm_t2 J 0 1) rfl (zup_eq _ _ _ _ _) 0 zin_0
    refine z226 hL ?_
    refine c193 hL hM0 hW (by omega) ha (zaI_of ⟨zin_zb _, fun q => by rw [zb_1, decide_eq_true_iff] at q; omega, fun _ => ?_⟩)
    exact c195T hL (by omega) t0 (by decide) (zaI_of ⟨zin_1, fun q => absurd q (by decide), fun _ => fin⟩)
