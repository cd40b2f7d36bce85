/-! LIGHT ENGINES: ways to some places -/
def mnb (s : zJ) (x f : Int) : Nat → Int
  | 0 => -1
  | m + 1 => if bt x m then (if mnb s x f m = -1 then way s f m else if way s f m < mnb s x f m then way s f m else mnb s x f m) else mnb s x f m
def lgt (s : zJ) (x : Int) : Int := sm (fun f => if isF s f then mnb s x f (s 18 0 0).toNat else 0) (s 18 0 0).toNat
theorem mnb_ok {s : zJ} (h : LW s) {x f : Int} (f0 : 0 ≤ f) (f1 : f < s 18 0 0) : ∀ m : Nat, (m : Int) ≤ s 18 0 0 → (mnb s x f m = -1 ∧ ∀ p : Int, 0 ≤ p → p < m → bt x p = false) ∨ (0 ≤ mnb s x f m ∧ mnb s x f m ≤ 5280 ∧ (∃ p : Int, 0 ≤ p ∧ p < m ∧ bt x p = true ∧ mnb s x f m = way s f p) ∧ ∀ p : Int, 0 ≤ p → p < m → bt x p = true → mnb s x f m ≤ way s f p)
  | 0, _ => Or.inl ⟨rfl, fun p a b => by omega⟩
  | m + 1, hm => by
    have hw := way_rng h f0 f1 (b := m) (by omega) (by omega)
    have ih := mnb_ok h (x := x) f0 f1 m (by omega)
    rw [mnb]
    cases hb : bt x m with
    | false =>
      simp only [Bool.false_eq_true, if_false]
      rcases ih with ⟨h1, h2⟩ | ⟨h1, h1b, ⟨p, h2, h3, h4, h5⟩, h6⟩
      · refine Or.inl ⟨h1, fun p a b => ?_⟩
        by_cases e : p = m
        · rw [e]
          exact hb
        · exact h2 p a (by omega)
      · refine Or.inr ⟨h1, h1b, ⟨p, h2, by omega, h4, h5⟩, fun q a b c => ?_⟩
        by_cases e : q = m
        · rw [e, hb] at c
          cases c
        · exact h6 q a (by omega) c
    | true =>
      simp only [if_true]
      rcases ih with ⟨h1, h2⟩ | ⟨h1, h1b, ⟨p, h2, h3, h4, h5⟩, h6⟩
      · rw [if_pos h1]
        refine Or.inr ⟨hw.1, hw.2, ⟨m, by omega, by omega, hb, rfl⟩, fun q a b c => ?_⟩
        by_cases e : q = m
        · rw [e]
          exact Int.le_refl _
        · rw [h2 q a (by omega)] at c
          cases c
      · rw [if_neg (by omega)]
        split
        · rename_i hl
          refine Or.inr ⟨hw.1, hw.2, ⟨m, by omega, by omega, hb, rfl⟩, fun q a b c => ?_⟩
          by_cases e : q = m
          · rw [e]
            exact Int.le_refl _
          · have := h6 q a (by omega) c
            omega
        · rename_i hl
          refine Or.inr ⟨h1, h1b, ⟨p, h2, by omega, h4, h5⟩, fun q a b c => ?_⟩
          by_cases e : q = m
          · rw [e]
            omega
          · exact h6 q a (by omega) c
theorem mnb_zin {s : zJ} (h : LW s) {x f : Int} (f0 : 0 ≤ f) (f1 : f < s 18 0 0) {m : Nat} (hm : (m : Int) ≤ s 18 0 0) : zin (mnb s x f m) := by
  rcases mnb_ok h (x := x) f0 f1 m hm with ⟨h1, _⟩ | ⟨h1, h2, _⟩
  · rw [h1]
    exact ⟨by decide, by decide⟩
  · exact ⟨by omega, by omega⟩
theorem c263 {L : Nat} {xs : Nat → Int32} (hL : L ≤ 3072) {D : Nat} {J : zJ} {K : zK} {Q : zR → Nat → zJ → zK → Prop} {s : zJ} (hM : ML s J) (h : LW s) {x : Int} (x0 : 0 ≤ x) (x1 : x < 2147483648) (hD : 4 ≤ D) (hQ : Q (.inl (some (zi (lgt s x)))) 0 J K) : zCall L xs D 263 [zr 142, zi x] J K Q := by
  obtain ⟨D, rfl⟩ : ∃ d, D = d + 1 := ⟨D - 1, by omega⟩
  have hn := lw_n h
  obtain ⟨hm0, -, -, -⟩ := ml_n hM
  refine z263 hL ?_
  have key : ∀ (n : Nat) (f : Int), n = (s 18 0 0 - f).toNat → 0 ≤ f → f ≤ s 18 0 0 → zGo L xs (D + 1) 263 4 [some (zr 142), some (zi x), some (zi (sm (fun f => if isF s f then mnb s x f (s 18 0 0).toNat else 0) f.toNat)), some (zi f), none, none] [] J K Q := by
    intro n; induction n using Nat.strongRecOn with
    | _ n ih =>
    intro f hm h0 h1
    refine z263_4 hL ?_
    rw [hm0]
    by_cases hc : f < s 18 0 0
    · have hi := ih _ (by omega) (f + 1) rfl (by omega) (by omega)
      rw [sm_next h0] at hi
      refine ⟨by decide, by decide, ⟨by omega, by omega⟩, ⟨by omega, by omega⟩, fun _ => by omega, fun _ => ?_⟩
      refine c245 hL hM h (by omega) h0 hc (zaI_of ⟨zin_zb _, fun q => ?_, fun q => ?_⟩)
      · rw [zb_1.mp q] at hi
        simp only [if_true] at hi
        have inner : ∀ (k m : Nat), k = (s 18 0 0).toNat - m → m ≤ (s 18 0 0).toNat → zGo L xs (D + 1) 263 31 [some (zr 142), some (zi x), some (zi (sm (fun f => if isF s f then mnb s x f (s 18 0 0).toNat else 0) f.toNat)), some (zi f), some (zi (mnb s x f m)), some (zi (m : Int))] [] J K Q := by
          intro k; induction k using Nat.strongRecOn with
          | _ k ihk =>
          intro m hk hmm
          have zm := mnb_zin h (x := x) h0 hc (m := m) (by omega)
          refine z263_31 hL ?_
          rw [hm0]
          by_cases hcm : m < (s 18 0 0).toNat
          · have ej : (m : Int) + 1 = ((m + 1 : Nat) : Int) := by omega
            have hw := way_rng h h0 hc (b := m) (by omega) (by omega)
            have hj := ihk _ (by omega) (m + 1) rfl (by omega)
            rw [mnb] at hj
            refine ⟨by decide, by decide, ⟨by omega, by omega⟩, ⟨by omega, by omega⟩, fun _ => by omega, fun _ => ⟨⟨by omega, by omega⟩, by omega, by omega, ?_⟩⟩
            rw [bt_shz x0 x1, ej]
            refine ⟨zin_zb _, zin_1, fun q1 => ?_, fun q1 => ⟨zm, ⟨by decide, by decide⟩, fun q2 => ?_, fun q2 => ?_⟩⟩
            · have hbf : bt x m = false := by
                cases hb : bt x m with
                | false => rfl
                | true =>
                  rw [hb] at q1
                  exact absurd rfl q1
              rw [hbf] at hj
              simp only [Bool.false_eq_true, if_false] at hj
              exact hj
            · have hbt : bt x m = true := by
                cases hb : bt x m with
                | true => rfl
                | false =>
                  rw [hb] at q1
                  exact absurd q1 (by decide)
              rw [hbt] at hj
              simp only [if_true] at hj
              rw [if_neg q2] at hj
              exact c304 hL hM h (by omega) h0 hc (by omega) (by omega) (zaI_of (c261 hL (by omega) zm ⟨by omega, by omega⟩ (zaI_of hj)))
            · have hbt : bt x m = true := by
                cases hb : bt x m with
                | true => rfl
                | false =>
                  rw [hb] at q1
                  exact absurd q1 (by decide)
              rw [hbt] at hj
              simp only [if_true] at hj
              rw [if_pos q2] at hj
              exact c304 hL hM h (by omega) h0 hc (by omega) (by omega) (zaI_of hj)
          · have e : m = (s 18 0 0).toNat := by omega
            subst e
            exact ⟨by decide, by decide, ⟨by omega, by omega⟩, ⟨by omega, by omega⟩, fun _ => hi, fun z => by omega⟩
        exact inner _ 0 rfl (by omega)
      · rw [zb_0.mp q] at hi
        simp only [Bool.false_eq_true, if_false, Int.add_zero] at hi
        exact hi
    · have e : f = s 18 0 0 := by omega
      subst e
      exact ⟨by decide, by decide, ⟨by omega, by omega⟩, ⟨by omega, by omega⟩, fun _ => hQ, fun z => by omega⟩
  exact key _ 0 rfl (by decide) (by omega)
/-- the same in the class, of places picked -/
theorem c113 {L : Nat} {xs : Nat → Int32} (hL : L ≤ 3072) {D : Nat} {J : zJ} {K : zK} {Q : zR → Nat → zJ → zK → Prop} {s : zJ} (hE : EqS s J) (h : LW s) (hT : TW s) {x k : Int} (k1 : 1 ≤ k) (k3 : k ≤ 3) (hp : ∀ i : Int, 0 ≤ i → i < k → 0 ≤ J 140 0 i ∧ J 140 0 i < s 18 0 0) (hx : ∀ p : Int, 0 ≤ p → p < s 18 0 0 → (bt x p = true ↔ ∃ i : Int, 0 ≤ i ∧ i < k ∧ J 140 0 i = p)) (hD : 3 ≤ D) (hQ : Q (.inl (some (zi (lgt s x)))) 0 J K) : zCall L xs D 113 [zr 136, zi k] J K Q := by
  obtain ⟨D, rfl⟩ : ∃ d, D = d + 1 := ⟨D - 1, by omega⟩
  have hn := lw_n h
  have e18 := hE 18 (by decide) (by decide)
  refine z113 hL ?_
  have key : ∀ (n : Nat) (f : Int), n = (s 18 0 0 - f).toNat → 0 ≤ f → f ≤ s 18 0 0 → zGo L xs (D + 1) 113 4 [some (zr 136), some (zi k), some (zi (sm (fun f => if isF s f then mnb s x f (s 18 0 0).toNat else 0) f.toNat)), some (zi f), none, none] [] J K Q := by
    intro n; induction n using Nat.strongRecOn with
    | _ n ih =>
    intro f hm h0 h1
    refine z113_4 hL ?_
    rw [e18]
    by_cases hc : f < s 18 0 0
    · have hi := ih _ (by omega) (f + 1) rfl (by omega) (by omega)
      rw [sm_next h0] at hi
      refine ⟨⟨by omega, by omega⟩, ⟨by omega, by omega⟩, fun _ => by omega, fun _ => ?_⟩
      refine c62 hL hE h (by omega) h0 hc (zaI_of ⟨zin_zb _, fun q => ?_, fun q => ⟨by decide, by decide, ?_⟩⟩)
      · rw [zb_0.mp q] at hi
        simp only [Bool.false_eq_true, if_false, Int.add_zero] at hi
        exact hi
      · rw [zb_1.mp q] at hi
        simp only [if_true] at hi
        have inner : ∀ (m : Nat) (i y : Int), m = (k - i).toNat → 1 ≤ i → i ≤ k → (∃ j : Int, 0 ≤ j ∧ j < i ∧ y = way s f (J 140 0 j)) → (∀ j : Int, 0 ≤ j → j < i → y ≤ way s f (J 140 0 j)) → zGo L xs (D + 1) 113 45 [some (zr 136), some (zi k), some (zi (sm (fun f => if isF s f then mnb s x f (s 18 0 0).toNat else 0) f.toNat)), some (zi f), some (zi y), some (zi i)] [] J K Q := by
          intro m; induction m using Nat.strongRecOn with
          | _ m ihm =>
          intro i y hmi i0 i1 hy1 hy2
          obtain ⟨j, j0, j1, hj⟩ := id hy1
          have hpj := hp j j0 (by omega)
          have hwj := way_rng h h0 hc hpj.1 hpj.2
          refine z113_45 hL ?_
          by_cases hci : i < k
          · have hpi := hp i (by omega) hci
            have hwi := way_rng h h0 hc hpi.1 hpi.2
            refine ⟨⟨by omega, by omega⟩, ⟨by omega, by omega⟩, fun _ => by omega, fun _ => ⟨by omega, by omega, ?_⟩⟩
            refine c121 hL hE h hT (by omega) h0 hc hpi.1 hpi.2 (zaI_of ⟨⟨by omega, by omega⟩, ⟨by omega, by omega⟩, by omega, ?_⟩)
            refine ihm _ (by omega) (i + 1) _ rfl (by omega) (by omega) ?_ (fun j2 a1 a2 => ?_)
            · split
              · exact ⟨i, by omega, by omega, rfl⟩
              · exact ⟨j, j0, by omega, hj⟩
            · by_cases e : j2 = i
              · rw [e]
                split <;> omega
              · have := hy2 j2 a1 (by omega)
                split <;> omega
          · have e : i = k := by omega
            subst e
            have ey : y = mnb s x f (s 18 0 0).toNat := by
              rcases mnb_ok h (x := x) h0 hc (s 18 0 0).toNat (by omega) with ⟨g1, g2⟩ | ⟨g1, g1b, ⟨p, g2, g3, g4, g5⟩, g6⟩
              · have := g2 (J 140 0 j) hpj.1 (by omega)
                rw [(hx _ hpj.1 hpj.2).mpr ⟨j, j0, j1, rfl⟩] at this
                cases this
              · have h7 := g6 (J 140 0 j) hpj.1 (by omega) ((hx _ hpj.1 hpj.2).mpr ⟨j, j0, j1, rfl⟩)
                obtain ⟨j2, a1, a2, a3⟩ := (hx p g2 (by omega)).mp g4
                have h8 := hy2 j2 a1 a2
                rw [a3] at h8
                omega
            refine ⟨⟨by omega, by omega⟩, ⟨by omega, by omega⟩, fun _ => ?_, fun z => by omega⟩
            rw [ey]
            exact hi
        have hp0 := hp 0 (by decide) (by omega)
        refine c121 hL hE h hT (by omega) h0 hc hp0.1 hp0.2 (zaI_of ?_)
        refine inner _ 1 _ rfl (by decide) k1 ⟨0, by decide, by decide, rfl⟩ (fun j a1 a2 => ?_)
        have : j = 0 := by omega
        rw [this]
        exact Int.le_refl _
    · have e : f = s 18 0 0 := by omega
      subst e
      exact ⟨⟨by omega, by omega⟩, ⟨by omega, by omega⟩, fun _ => hQ, fun z => by omega⟩
  exact key _ 0 rfl (by decide) (by omega)
