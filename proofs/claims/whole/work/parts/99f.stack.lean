/-! A WALK: rows that still have to go on -/
abbrev It : Type := Int × Int × Int × Int × Int
def Stk (J : zJ) (l : List It) : Prop := J 92 0 3 = l.length ∧ ∀ (j : Nat) (v : It), l.reverse[j]? = some v → J 94 0 j = v.1 ∧ J 95 0 j = v.2.1 ∧ J 96 0 j = v.2.2.1 ∧ J 97 0 j = v.2.2.2.1 ∧ J 98 0 j = v.2.2.2.2
theorem stk_eq {J J' : zJ} {l : List It} (h : Stk J l) (e : J' 92 0 3 = J 92 0 3) (e1 : J' 94 = J 94) (e2 : J' 95 = J 95) (e3 : J' 96 = J 96) (e4 : J' 97 = J 97) (e5 : J' 98 = J 98) : Stk J' l := by
  unfold Stk at h ⊢
  rw [e, e1, e2, e3, e4, e5]
  exact h
theorem c134 {L : Nat} {xs : Nat → Int32} (hL : L ≤ 3072) {D : Nat} {J : zJ} {K : zK} {Q : zR → Nat → zJ → zK → Prop} {l : List It} (v : It) (hS : Stk J l) (hl : l.length < 7) (hD : 1 ≤ D) (hQ : ∀ J' : zJ, (∀ b : Nat, b ≠ 92 → b < 94 ∨ 98 < b → J' b = J b) → (∀ k : Int, k ≠ 3 → J' 92 0 k = J 92 0 k) → Stk J' (v :: l) → Q (.inl none) 0 J' K) : zCall L xs D 134 [zr 92, zi v.1, zi v.2.1, zi v.2.2.1, zi v.2.2.2.1, zi v.2.2.2.2] J K Q := by
  obtain ⟨D, rfl⟩ : ∃ d, D = d + 1 := ⟨D - 1, by omega⟩
  obtain ⟨h1, h2⟩ := hS
  refine z134 hL ?_
  rw [h1]
  refine ⟨by omega, by omega, by omega, by omega, by omega, by omega, by omega, by omega, by omega, by omega, hQ _ (fun b x y => ?_) (fun k hk => ?_) ⟨?_, fun j w hw => ?_⟩⟩
  · rw [zup_ne _ _ _ _ x, zup_ne _ _ _ _ (by omega), zup_ne _ _ _ _ (by omega), zup_ne _ _ _ _ (by omega), zup_ne _ _ _ _ (by omega), zup_ne _ _ _ _ (by omega)]
  · rw [zup_nk _ _ hk, zup_ne _ _ _ _ (by decide), zup_ne _ _ _ _ (by decide), zup_ne _ _ _ _ (by decide), zup_ne _ _ _ _ (by decide), zup_ne _ _ _ _ (by decide)]
  · rw [zup_eq, List.length_cons]
    omega
  · rw [List.reverse_cons] at hw
    by_cases hj : j < l.reverse.length
    · rw [List.getElem?_append_left hj] at hw
      have h3 := h2 j w hw
      rw [List.length_reverse] at hj
      have hne : (j : Int) ≠ (l.length : Int) := by omega
      simp only [zup_at, Nat.reduceEqDiff, false_and, if_false, true_and, hne, and_false]
      exact h3
    · have hj2 : j = l.length := by
        have := (List.getElem?_eq_some_iff.mp hw).1
        simp at this hj
        omega
      subst hj2
      rw [List.getElem?_append_right (by simp), List.length_reverse, Nat.sub_self] at hw
      have e : v = w := Option.some.inj hw
      subst e
      simp only [zup_at, Nat.reduceEqDiff, false_and, if_false, true_and, if_true]
theorem c125 {L : Nat} {xs : Nat → Int32} (hL : L ≤ 3072) {D : Nat} {J : zJ} {K : zK} {Q : zR → Nat → zJ → zK → Prop} {l : List It} (hS : Stk J l) (hl : l.length ≤ 7) (hD : 1 ≤ D) (h0 : l = [] → Q (.inl (some (zi (0)))) 0 J K) (hQ : ∀ (v : It) (r : List It) (J' : zJ), l = v :: r → (∀ b : Nat, b ≠ 92 → J' b = J b) → (∀ k : Int, k ≠ 3 → k < 9 ∨ 13 < k → J' 92 0 k = J 92 0 k) → J' 92 0 9 = v.1 → J' 92 0 10 = v.2.1 → J' 92 0 11 = v.2.2.1 → J' 92 0 12 = v.2.2.2.1 → J' 92 0 13 = v.2.2.2.2 → Stk J' r → Q (.inl (some (zi (1)))) 0 J' K) : zCall L xs D 125 [zr 92] J K Q := by
  obtain ⟨D, rfl⟩ : ∃ d, D = d + 1 := ⟨D - 1, by omega⟩
  obtain ⟨h1, h2⟩ := id hS
  refine z125 hL ?_
  rw [h1]
  cases l with
  | nil => exact ⟨⟨by decide, by decide⟩, fun q => absurd rfl q, fun _ => ⟨Or.inl rfl, h0 rfl⟩⟩
  | cons v r =>
    rw [List.length_cons] at hl h1 ⊢
    have e : ((r.length + 1 : Nat) : Int) - 1 = (r.length : Int) := by omega
    rw [e]
    have htop := h2 r.length v (by rw [List.reverse_cons, List.getElem?_append_right (by simp)]; simp)
    refine ⟨⟨by omega, by omega⟩, fun _ => ⟨by omega, by omega, by omega, by omega, by omega, by omega, by omega, by omega, by omega, by omega, Or.inr rfl, hQ v r _ rfl (fun b x => ?_) (fun k x y => ?_) ?_ ?_ ?_ ?_ ?_ ⟨?_, fun j w hw => ?_⟩⟩, fun q => by omega⟩
    · rw [zup_ne _ _ _ _ x, zup_ne _ _ _ _ x, zup_ne _ _ _ _ x, zup_ne _ _ _ _ x, zup_ne _ _ _ _ x, zup_ne _ _ _ _ x]
    · rw [zup_nk _ _ (by omega), zup_nk _ _ (by omega), zup_nk _ _ (by omega), zup_nk _ _ (by omega), zup_nk _ _ (by omega), zup_nk _ _ x]
    · simp only [zup_at, Nat.reduceEqDiff, Int.reduceEq, eq_self, true_and, and_true, false_and, and_false, if_true, if_false]
      exact htop.1
    · simp only [zup_at, Nat.reduceEqDiff, Int.reduceEq, eq_self, true_and, and_true, false_and, and_false, if_true, if_false]
      exact htop.2.1
    · simp only [zup_at, Nat.reduceEqDiff, Int.reduceEq, eq_self, true_and, and_true, false_and, and_false, if_true, if_false]
      exact htop.2.2.1
    · simp only [zup_at, Nat.reduceEqDiff, Int.reduceEq, eq_self, true_and, and_true, false_and, and_false, if_true, if_false]
      exact htop.2.2.2.1
    · simp only [zup_at, Nat.reduceEqDiff, Int.reduceEq, eq_self, true_and, and_true, false_and, and_false, if_true, if_false]
      exact htop.2.2.2.2
    · simp only [zup_at, Nat.reduceEqDiff, Int.reduceEq, eq_self, true_and, and_true, false_and, and_false, if_true, if_false]
    · have hj : j < r.reverse.length := (List.getElem?_eq_some_iff.mp hw).1
      have := h2 j w (by rw [List.reverse_cons, List.getElem?_append_left hj]; exact hw)
      simp only [zup_at, Nat.reduceEqDiff, Int.reduceEq, eq_self, true_and, and_true, false_and, and_false, if_true, if_false]
      exact this
theorem c126 {L : Nat} {xs : Nat → Int32} (hL : L ≤ 3072) {D : Nat} {J : zJ} {K : zK} {Q : zR → Nat → zJ → zK → Prop} {gs : List Int} {st hi : Int} (hg : J 92 0 14 = gs.length) (har : Ar (J 99 0) (gs ++ [st])) (hh : J 92 0 11 = hi) (hl : gs.length ≤ 7) (hs : 0 ≤ st ∧ st ≤ 7) (hi7 : 0 ≤ hi ∧ hi ≤ 7) (hD : 1 ≤ D) (hQ : Q (.inl (some (zi (ncu gs st hi)))) 0 J K) : zCall L xs D 126 [zr 92] J K Q := by
  obtain ⟨D, rfl⟩ : ∃ d, D = d + 1 := ⟨D - 1, by omega⟩
  have hst : J 99 0 (gs.length : Int) = st := har gs.length st (by rw [List.getElem?_append_right (by omega)]; simp)
  refine z126 hL ?_
  rw [hg, hh, hst]
  unfold ncu at hQ
  refine ⟨by omega, by omega, ⟨by omega, by omega⟩, ⟨by omega, by omega⟩, fun q => ?_, fun q => ?_⟩
  · rw [if_neg (by omega)] at hQ
    have e : (gs.length : Int) + 0 - 1 = gs.length - 1 := by omega
    rw [e] at hQ
    exact hQ
  · rw [if_pos q] at hQ
    have e : (gs.length : Int) + 1 - 1 = gs.length := by omega
    rw [e] at hQ
    exact hQ
/-- the groups of a row, sent on -/
def kdm (f up en : Int → Int) (mi gap : Int) : List Int → Int → Int → List It
  | [], _, _ => []
  | b :: r, st, j => (f b, b, hdo r st, mi + gap * (j + 1) + up (f b), en j) :: kdm f up en mi gap r st (j + 1)
theorem kdm_len (f up en : Int → Int) (mi gap : Int) : ∀ (gs : List Int) (st j : Int), (kdm f up en mi gap gs st j).length = gs.length
  | [], _, _ => rfl
  | _ :: r, st, j => by rw [kdm, List.length_cons, List.length_cons, kdm_len f up en mi gap r st]
theorem hdo_drop (st : Int) : ∀ (gs : List Int) (j : Nat), j ≤ gs.length → (gs ++ [st])[j]? = some (hdo (gs.drop j) st)
  | [], 0, _ => rfl
  | [], j + 1, h => by simp at h
  | b :: r, 0, _ => rfl
  | b :: r, j + 1, h => by
    rw [List.cons_append, List.getElem?_cons_succ, List.drop_succ_cons]
    exact hdo_drop st r j (by simp at h; omega)
theorem chn_drop {f : Int → Int} {p hi : Int} : ∀ {gs : List Int} {st : Int} (j : Nat), Chn f p hi gs st → Chn f p hi (gs.drop j) st ∧ hdo gs st ≤ hdo (gs.drop j) st
  | [], _, j, h => by
    rw [List.drop_nil]
    exact ⟨h, Int.le_refl _⟩
  | b :: r, st, 0, h => ⟨h, Int.le_refl _⟩
  | b :: r, st, j + 1, h => by
    have h1 := chn_drop (st := st) j h.2.2.2.2.2
    have h2 := h.1
    rw [List.drop_succ_cons]
    refine ⟨h1.1, ?_⟩
    show b ≤ _
    omega
theorem c128 {L : Nat} {xs : Nat → Int32} (hL : L ≤ 3072) {D : Nat} {J : zJ} {K : zK} {Q : zR → Nat → zJ → zK → Prop} {s : zJ} (hE : EqS s J) (h : LW s) (hT : TW s) {a : Int → Int} {p lo hi mi st : Int} {gs : List Int} {l : List It} (hS : Seg s a p lo hi) (hc : Chn (ky s a p) p hi gs st) (hlo : hdo gs st = lo) (ha : ∀ i : Int, lo ≤ i → i < hi → J 93 0 i = a i) (hp : J 92 0 9 = p) (hhi : J 92 0 11 = hi) (hmi : J 92 0 12 = mi) (hg : J 92 0 14 = gs.length) (har : Ar (J 99 0) (gs ++ [st])) (hst : Stk J l) (hll : l.length + gs.length ≤ 7) (hD : 2 ≤ D) (hQ : ∀ J' : zJ, (∀ b : Nat, b ≠ 92 → b < 94 ∨ 98 < b → J' b = J b) → (∀ k : Int, k ≠ 3 → J' 92 0 k = J 92 0 k) → Stk J' (kdm (ky s a p) (s 20 0) (J 100 0) mi (if 0 < ncu gs st hi then s 22 0 p else 0) gs st 0 ++ l) → Q (.inl none) 0 J' K) : zCall L xs D 128 [zr 92] J K Q := by
  obtain ⟨D, rfl⟩ : ∃ d, D = d + 1 := ⟨D - 1, by omega⟩
  have hn := lw_n h
  obtain ⟨⟨p0, p1⟩, ⟨l0, l1, l2⟩, hrow⟩ := id hS
  have hcl := chn_len hc
  have hnc := ncu_rng hc hlo l1
  have key : ∀ (j : Nat) (gap : Int) (J1 : zJ) (x2 : Int), j ≤ gs.length → x2 = (j : Int) - 1 → gap = (if 0 < ncu gs st hi then s 22 0 p else 0) → (∀ b : Nat, b ≠ 92 → b < 94 ∨ 98 < b → J1 b = J b) → (∀ k : Int, k ≠ 3 → J1 92 0 k = J 92 0 k) → Stk J1 (kdm (ky s a p) (s 20 0) (J 100 0) mi gap (gs.drop j) st j ++ l) → zGo L xs (D + 1) 128 31 [some (zr 92), some (zi gap), some (zi x2), none, none] [] J1 K Q := by
    intro j
    induction j with
    | zero =>
      intro gap J1 x2 hj hx hgap hb hk hs1
      subst hx
      refine z128_31 hL ⟨⟨by decide, by decide⟩, fun _ => hQ J1 hb hk ?_, fun q => absurd q (by decide)⟩
      rw [← hgap]
      exact hs1
    | succ j ih =>
      intro gap J1 x2 hj hx hgap hb hk hs1
      have ex : x2 = (j : Int) := by omega
      subst ex
      have hE1 : EqS s J1 := fun b x y => (hb b (by omega) (by omega)).trans (hE b x y)
      have hjl : j < gs.length := by omega
      have hdj : gs.drop j = gs[j] :: gs.drop (j + 1) := List.drop_eq_getElem_cons hjl
      have hcd := chn_drop (st := st) j hc
      rw [hdj] at hcd
      have e99 : J1 99 = J 99 := hb 99 (by decide) (by decide)
      have hb1 : J 99 0 (j : Int) = gs[j] := har j _ (by rw [List.getElem?_append_left hjl]; exact List.getElem?_eq_getElem hjl)
      have hb2 : J 99 0 ((j : Int) + 1) = hdo (gs.drop (j + 1)) st := by
        have := har (j + 1) _ (hdo_drop st gs (j + 1) (by omega))
        have e : ((j + 1 : Nat) : Int) = (j : Int) + 1 := by omega
        rw [e] at this
        exact this
      obtain ⟨⟨g1, g2, g3, g4, g5, g6⟩, hle⟩ := hcd
      have hle2 : lo ≤ gs[j] := by
        rw [hlo] at hle
        exact hle
      have hkb := ky_rng h hS hle2 (show gs[j] < hi by omega)
      have hri := hrow gs[j] hle2 (by omega)
      have hk24 := lw_k h hri.1 hri.2.1
      refine z128_31 hL ?_
      rw [e99, hb1, hb 93 (by decide) (by decide), ha _ hle2 (by omega), hk 9 (by decide), hp, hE1 24 (by decide) (by decide)]
      refine ⟨⟨by omega, by omega⟩, fun q => by omega, fun _ => ⟨by omega, by omega, by omega, by omega, by omega, by omega, ?_⟩⟩
      refine c122 hL hE1 h hT (by omega) p0 p1 (by omega) (by omega) hri.2.2 (zaI_of ?_)
      have hns : nx s p (s 24 0 (a gs[j])) = ky s a p gs[j] := rfl
      rw [hns, e99, hb1, hb2, hk 12 (by decide), hmi, hE1 20 (by decide) (by decide), hb 100 (by decide) (by decide)]
      refine ⟨by omega, by omega, by omega, by omega, by omega, by omega, by omega, by omega, ?_⟩
      refine c134 hL (ky s a p gs[j], gs[j], hdo (gs.drop (j + 1)) st, mi + gap * ((j : Int) + 1) + s 20 0 (ky s a p gs[j]), J 100 0 j) hs1 ?_ (by omega) fun J2 f2 k2 s2 => zaV_of ?_
      · rw [List.length_append, kdm_len, List.length_drop]
        omega
      · refine ih gap J2 _ (by omega) (by omega) hgap (fun b x y => by rw [f2 b x y]; exact hb b x y) (fun k hk2 => by rw [k2 k hk2]; exact hk k hk2) ?_
        rw [hdj, kdm, List.cons_append]
        have e : ((j + 1 : Nat) : Int) = (j : Int) + 1 := by omega
        rw [e] at s2
        exact s2
  have hdl : gs.drop gs.length = [] := List.drop_length
  have hs0 : ∀ gap : Int, Stk J (kdm (ky s a p) (s 20 0) (J 100 0) mi gap (gs.drop gs.length) st gs.length ++ l) := fun gap => by
    rw [hdl]
    exact hst
  have hp22 := lw_p h p0 p1
  refine z128 hL ?_
  refine c126 hL hg har hhi (by omega) (by rw [hlo] at hcl; omega) (by omega) (by omega) (zaI_of ⟨⟨by omega, by omega⟩, fun q => ?_, fun q => ?_⟩)
  · rw [hg]
    exact key gs.length 0 J _ (Nat.le_refl _) rfl (by rw [if_neg (by omega)]) (fun _ _ _ => rfl) (fun _ _ => rfl) (hs0 0)
  · rw [hg, hp, hE 22 (by decide) (by decide)]
    exact ⟨by omega, by omega, key gs.length _ J _ (Nat.le_refl _) rfl (by rw [if_pos q]) (fun _ _ _ => rfl) (fun _ _ => rfl) (hs0 _)⟩
