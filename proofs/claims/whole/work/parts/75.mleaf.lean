/-! CONTRACTS of small methods of the model -/
theorem ml_n {s J : zJ} (h : ML s J) : J 144 0 0 = s 18 0 0 ∧ J 144 0 1 = s 18 0 6 ∧ J 144 0 2 = s 18 0 11 ∧ J 144 0 3 = s 18 0 14 := h.1
theorem ml_p {s J : zJ} (h : ML s J) {p : Int} (h0 : 0 ≤ p) (h1 : p < s 18 0 0) : J 145 p 0 = (if p = 0 then -1 else s 19 0 p) ∧ J 145 p 1 = s 20 0 p ∧ J 145 p 2 = s 21 0 p ∧ J 145 p 3 = s 22 0 p ∧ J 145 p 4 = s 23 0 p := h.2.1 p h0 h1
theorem ml_k {s J : zJ} (h : ML s J) {k : Int} (h0 : 0 ≤ k) (h1 : k < s 18 0 6) : J 170 k 0 = s 24 0 k ∧ J 170 k 1 = s 25 0 k ∧ J 170 k 2 = s 26 0 k ∧ J 170 k 3 = s 27 0 k := h.2.2.1 k h0 h1
theorem ml_e {s J : zJ} (h : ML s J) {e : Int} (h0 : 0 ≤ e) (h1 : e < s 18 0 11) : J 187 e 0 = s 28 0 e ∧ J 187 e 1 = s 29 0 e := h.2.2.2.1 e h0 h1
theorem ml_w {s J : zJ} (h : ML s J) {w : Int} (h0 : 0 ≤ w) (h1 : w < s 18 0 14) : J 204 w 0 = s 30 0 w ∧ J 204 w 1 = s 31 0 w ∧ J 204 w 2 = s 32 0 w := h.2.2.2.2 w h0 h1
theorem ml_u {s J : zJ} (h : ML s J) {p : Int} (h0 : 1 ≤ p) (h1 : p < s 18 0 0) : J 145 p 0 = s 19 0 p := by
  rw [(ml_p h (by omega) h1).1, if_neg (by omega)]
theorem ml_0 {s J : zJ} (h : ML s J) (h1 : 0 < s 18 0 0) : J 145 0 0 = -1 := by
  rw [(ml_p h (by omega) h1).1, if_pos rfl]
theorem c240 {L : Nat} {xs : Nat → Int32} (hL : L ≤ 3072) {D : Nat} {J : zJ} {K : zK} {Q : zR → Nat → zJ → zK → Prop} {x0 x1 x2 : Int} (hD : 1 ≤ D) (a0 : zin x0) (a1 : zin x1) (a2 : zin x2) (hQ : Q (.inl (some (zi (zb (decide (x1 ≤ x0 ∧ x0 ≤ x2)))))) 0 J K) : zCall L xs D 240 [zi x0, zi x1, zi x2] J K Q := by
  obtain ⟨D, rfl⟩ : ∃ d, D = d + 1 := ⟨D - 1, by omega⟩
  refine z240 hL ?_
  by_cases hc : x1 ≤ x0 ∧ x0 ≤ x2
  · rw [decide_eq_true hc] at hQ
    refine ⟨a0, a1, fun _ => by omega, fun _ => ⟨a0, a2, fun _ => by omega, fun _ => ⟨Or.inr rfl, hQ⟩⟩⟩
  · rw [decide_eq_false hc] at hQ
    refine ⟨a0, a1, fun _ => ⟨Or.inl rfl, hQ⟩, fun _ => ⟨a0, a2, fun _ => ⟨Or.inl rfl, hQ⟩, fun _ => by omega⟩⟩
theorem c195 {L : Nat} {xs : Nat → Int32} (hL : L ≤ 3072) {D : Nat} {J : zJ} {K : zK} {Q : zR → Nat → zJ → zK → Prop} {b : Bool} {x2 : Int} (hD : 1 ≤ D) (h0 : J 142 0 0 = 0) (a2 : 1 ≤ x2 ∧ x2 ≤ 2) (hF : b = false → Q (.inl (some (zi (0)))) 0 J K) (hT : b = true → Q (.inl (some (zi (1)))) 0 (zup J 142 0 0 x2) K) : zCall L xs D 195 [zr 142, zi (zb b), zi x2] J K Q := by
  obtain ⟨D, rfl⟩ : ∃ d, D = d + 1 := ⟨D - 1, by omega⟩
  refine z195 hL ?_
  rw [h0]
  cases b with
  | false =>
    rw [zb_f]
    have := hF rfl
    (repeat' (first | (with_reducible apply And.intro) | (with_reducible intro _))) <;> (try first | omega | (unfold zin; omega) | exact zin_zb _ | exact Or.inl trivial | exact Or.inr trivial | exact Or.inl rfl | exact Or.inr rfl)
  | true =>
    rw [zb_t]
    have := hT rfl
    (repeat' (first | (with_reducible apply And.intro) | (with_reducible intro _))) <;> (try first | omega | (unfold zin; omega) | exact zin_zb _ | exact Or.inl trivial | exact Or.inr trivial | exact Or.inl rfl | exact Or.inr rfl)
theorem c248 {L : Nat} {xs : Nat → Int32} (hL : L ≤ 3072) {D : Nat} {J : zJ} {K : zK} {Q : zR → Nat → zJ → zK → Prop} {s : zJ} (hM : ML s J) (h : LW s) {x1 : Int} (hD : 2 ≤ D) (a1 : zin x1) (hQ : Q (.inl (some (zi (zb (decide (0 ≤ x1 ∧ x1 < s 18 0 0)))))) 0 J K) : zCall L xs D 248 [zr 142, zi x1] J K Q := by
  obtain ⟨D, rfl⟩ : ∃ d, D = d + 1 := ⟨D - 1, by omega⟩
  have hn := lw_n h
  refine z248 hL ⟨by decide, by decide, ?_⟩
  rw [(ml_n hM).1]
  refine c240 hL (by omega) a1 zin_0 ⟨by omega, by omega⟩ (zaI_of ⟨zb_01 _, ?_⟩)
  have e : decide (0 ≤ x1 ∧ x1 ≤ s 18 0 0 - 1) = decide (0 ≤ x1 ∧ x1 < s 18 0 0) := decide_eq_decide.mpr (by omega)
  rw [e]
  exact hQ
theorem c249 {L : Nat} {xs : Nat → Int32} (hL : L ≤ 3072) {D : Nat} {J : zJ} {K : zK} {Q : zR → Nat → zJ → zK → Prop} {s : zJ} (hM : ML s J) (h : LW s) {x1 : Int} (hD : 2 ≤ D) (a1 : zin x1) (hQ : Q (.inl (some (zi (zb (decide (0 ≤ x1 ∧ x1 < s 18 0 6)))))) 0 J K) : zCall L xs D 249 [zr 142, zi x1] J K Q := by
  obtain ⟨D, rfl⟩ : ∃ d, D = d + 1 := ⟨D - 1, by omega⟩
  have hn := lw_n h
  refine z249 hL ⟨by decide, by decide, ?_⟩
  rw [(ml_n hM).2.1]
  refine c240 hL (by omega) a1 zin_0 ⟨by omega, by omega⟩ (zaI_of ⟨zb_01 _, ?_⟩)
  have e : decide (0 ≤ x1 ∧ x1 ≤ s 18 0 6 - 1) = decide (0 ≤ x1 ∧ x1 < s 18 0 6) := decide_eq_decide.mpr (by omega)
  rw [e]
  exact hQ
theorem c246 {L : Nat} {xs : Nat → Int32} (hL : L ≤ 3072) {D : Nat} {J : zJ} {K : zK} {Q : zR → Nat → zJ → zK → Prop} {n x1 : Int} (hD : 2 ≤ D) (hn : J 142 0 16 = n) (h2 : 0 ≤ n ∧ n ≤ 14) (a1 : zin x1) (hQ : Q (.inl (some (zi (zb (decide (0 ≤ x1 ∧ x1 < n)))))) 0 J K) : zCall L xs D 246 [zr 142, zi x1] J K Q := by
  obtain ⟨D, rfl⟩ : ∃ d, D = d + 1 := ⟨D - 1, by omega⟩
  refine z246 hL ?_
  rw [hn]
  refine c240 hL (by omega) a1 zin_0 ⟨by omega, by omega⟩ (zaI_of ⟨zb_01 _, ?_⟩)
  have e : decide (0 ≤ x1 ∧ x1 ≤ n - 1) = decide (0 ≤ x1 ∧ x1 < n) := decide_eq_decide.mpr (by omega)
  rw [e]
  exact hQ
theorem c252 {L : Nat} {xs : Nat → Int32} (hL : L ≤ 3072) {D : Nat} {J : zJ} {K : zK} {Q : zR → Nat → zJ → zK → Prop} {n x1 : Int} (hD : 2 ≤ D) (hn : J 142 0 15 = n) (h2 : 0 ≤ n ∧ n ≤ 4) (a1 : zin x1) (hQ : Q (.inl (some (zi (zb (decide (0 ≤ x1 ∧ x1 < n)))))) 0 J K) : zCall L xs D 252 [zr 142, zi x1] J K Q := by
  obtain ⟨D, rfl⟩ : ∃ d, D = d + 1 := ⟨D - 1, by omega⟩
  refine z252 hL ?_
  rw [hn]
  refine c240 hL (by omega) a1 zin_0 ⟨by omega, by omega⟩ (zaI_of ⟨zb_01 _, ?_⟩)
  have e : decide (0 ≤ x1 ∧ x1 ≤ n - 1) = decide (0 ≤ x1 ∧ x1 < n) := decide_eq_decide.mpr (by omega)
  rw [e]
  exact hQ
theorem c193 {L : Nat} {xs : Nat → Int32} (hL : L ≤ 3072) {D : Nat} {J : zJ} {K : zK} {Q : zR → Nat → zJ → zK → Prop} {s : zJ} (hM : ML s J) (h : LW s) {x1 : Int} (hD : 2 ≤ D) (a1 : zin x1) (hQ : Q (.inl (some (zi (zb (decide (0 ≤ x1 ∧ x1 < 2 ^ (s 18 0 6).toNat)))))) 0 J K) : zCall L xs D 193 [zr 142, zi x1] J K Q := by
  obtain ⟨D, rfl⟩ : ∃ d, D = d + 1 := ⟨D - 1, by omega⟩
  have hn := lw_n h
  have hp := pw7 hn.2.2.2.1
  refine z193 hL ?_
  rw [(ml_n hM).2.1, Int.one_mul]
  refine ⟨by decide, by decide, by omega, by omega, ?_⟩
  refine c240 hL (by omega) a1 zin_0 ⟨by omega, by omega⟩ (zaI_of ⟨zb_01 _, ?_⟩)
  have e : decide (0 ≤ x1 ∧ x1 ≤ 2 ^ (s 18 0 6).toNat - 1) = decide (0 ≤ x1 ∧ x1 < 2 ^ (s 18 0 6).toNat) := decide_eq_decide.mpr (by omega)
  rw [e]
  exact hQ
theorem c245 {L : Nat} {xs : Nat → Int32} (hL : L ≤ 3072) {D : Nat} {J : zJ} {K : zK} {Q : zR → Nat → zJ → zK → Prop} {s : zJ} (hM : ML s J) (h : LW s) {x1 : Int} (hD : 1 ≤ D) (h0 : 0 ≤ x1) (h1 : x1 < s 18 0 0) (hQ : Q (.inl (some (zi (zb (isF s x1))))) 0 J K) : zCall L xs D 245 [zr 142, zi x1] J K Q := by
  obtain ⟨D, rfl⟩ : ∃ d, D = d + 1 := ⟨D - 1, by omega⟩
  have hn := lw_n h
  have hp := lw_p h h0 h1
  refine z245 hL ?_
  rw [(ml_p hM h0 h1).2.2.2.1]
  unfold isF at hQ
  by_cases hc : 0 < s 22 0 x1
  · rw [decide_eq_true hc] at hQ
    (repeat' (first | (with_reducible apply And.intro) | (with_reducible intro _))) <;> (try first | omega | (unfold zin; omega) | exact zin_zb _ | exact Or.inl trivial | exact Or.inr trivial | exact Or.inl rfl | exact Or.inr rfl)
    exact hQ
  · rw [decide_eq_false hc] at hQ
    (repeat' (first | (with_reducible apply And.intro) | (with_reducible intro _))) <;> (try first | omega | (unfold zin; omega) | exact zin_zb _ | exact Or.inl trivial | exact Or.inr trivial | exact Or.inl rfl | exact Or.inr rfl)
    exact hQ
theorem c247 {L : Nat} {xs : Nat → Int32} (hL : L ≤ 3072) {D : Nat} {J : zJ} {K : zK} {Q : zR → Nat → zJ → zK → Prop} {s : zJ} (hM : ML s J) (h : LW s) {x1 x2 : Int} (hD : 1 ≤ D) (h0 : 0 ≤ x1) (h1 : x1 < s 18 0 0) (g0 : 0 ≤ x2) (g1 : x2 < s 18 0 0) (hQ : Q (.inl (some (zi (zb (onb s x1 x2))))) 0 J K) : zCall L xs D 247 [zr 142, zi x1, zi x2] J K Q := by
  obtain ⟨D, rfl⟩ : ∃ d, D = d + 1 := ⟨D - 1, by omega⟩
  have hn := lw_n h
  have key : ∀ (n : Nat) (x3 : Int), n = x3.toNat → 0 ≤ x3 → x3 < s 18 0 0 → onb s x1 x3 = onb s x1 x2 → zGo L xs (D + 1) 247 2 [some (zr 142), some (zi x1), none, some (zi x3)] [] J K Q := by
    intro n; induction n using Nat.strongRecOn with
    | _ n ih =>
    intro x3 hm b0 b1 hb
    refine z247_2 hL ?_
    by_cases hc : x1 < x3
    · have hu := lw_up h (p := x3) (by omega) b1
      have hp := lw_p h b0 b1
      rw [ml_u hM (by omega) b1]
      have e : onb s x1 (s 19 0 x3) = onb s x1 x2 := by
        rw [← hb]
        unfold onb
        rw [cl_12 h h0 hc b1]
      have := ih _ (by omega) (s 19 0 x3) rfl (by omega) (by omega) e
      (repeat' (first | (with_reducible apply And.intro) | (with_reducible intro _))) <;> (try first | omega | (unfold zin; omega) | exact zin_zb _ | exact Or.inl trivial | exact Or.inr trivial | exact Or.inl rfl | exact Or.inr rfl)
    · have e : onb s x1 x3 = decide (x3 = x1) := by
        unfold onb
        rw [cl_le (by omega)]
      rw [← hb, e] at hQ
      by_cases hx : x3 = x1
      · rw [decide_eq_true hx] at hQ
        (repeat' (first | (with_reducible apply And.intro) | (with_reducible intro _))) <;> (try first | omega | (unfold zin; omega) | exact zin_zb _ | exact Or.inl trivial | exact Or.inr trivial | exact Or.inl rfl | exact Or.inr rfl)
        exact hQ
      · rw [decide_eq_false hx] at hQ
        (repeat' (first | (with_reducible apply And.intro) | (with_reducible intro _))) <;> (try first | omega | (unfold zin; omega) | exact zin_zb _ | exact Or.inl trivial | exact Or.inr trivial | exact Or.inl rfl | exact Or.inr rfl)
        exact hQ
  exact z247 hL (key _ x2 rfl g0 g1 rfl)
theorem c215 {L : Nat} {xs : Nat → Int32} (hL : L ≤ 3072) {D : Nat} {J : zJ} {K : zK} {Q : zR → Nat → zJ → zK → Prop} {s : zJ} (hM : ML s J) (h : LW s) {x1 : Int} (hD : 1 ≤ D) (h0 : 0 ≤ x1) (h1 : x1 < s 18 0 0) (hQ : Q (.inl (some (zi (dep s x1)))) 0 J K) : zCall L xs D 215 [zr 142, zi x1] J K Q := by
  obtain ⟨D, rfl⟩ : ∃ d, D = d + 1 := ⟨D - 1, by omega⟩
  have hn := lw_n h
  have key : ∀ (n : Nat) (x2 x3 : Int), n = x3.toNat → 0 ≤ x3 → x3 < s 18 0 0 → x2 + dep s x3 = dep s x1 → zGo L xs (D + 1) 215 4 [some (zr 142), none, some (zi x2), some (zi x3)] [] J K Q := by
    intro n; induction n using Nat.strongRecOn with
    | _ n ih =>
    intro x2 x3 hm b0 b1 hb
    refine z215_4 hL ?_
    by_cases hc : 0 < x3
    · have hu := lw_up h (p := x3) (by omega) b1
      have hp := lw_p h b0 b1
      rw [ml_u hM (by omega) b1, (ml_p hM b0 b1).2.1]
      rw [dep_up h (by omega) b1] at hb
      have := ih _ (by omega) (x2 + s 20 0 x3) (s 19 0 x3) rfl (by omega) (by omega) (by omega)
      (repeat' (first | (with_reducible apply And.intro) | (with_reducible intro _))) <;> (try first | omega | (unfold zin; omega) | exact zin_zb _ | exact Or.inl trivial | exact Or.inr trivial | exact Or.inl rfl | exact Or.inr rfl)
    · have e : x3 = 0 := by omega
      subst e
      rw [dep_0, Int.add_zero] at hb
      rw [hb]
      (repeat' (first | (with_reducible apply And.intro) | (with_reducible intro _))) <;> (try first | omega | (unfold zin; omega) | exact zin_zb _ | exact Or.inl trivial | exact Or.inr trivial | exact Or.inl rfl | exact Or.inr rfl)
  exact z215 hL (key _ 0 x1 rfl h0 h1 (by omega))
theorem c304 {L : Nat} {xs : Nat → Int32} (hL : L ≤ 3072) {D : Nat} {J : zJ} {K : zK} {Q : zR → Nat → zJ → zK → Prop} {s : zJ} (hM : ML s J) (h : LW s) {x1 x2 : Int} (hD : 2 ≤ D) (h0 : 0 ≤ x1) (h1 : x1 < s 18 0 0) (g0 : 0 ≤ x2) (g1 : x2 < s 18 0 0) (hQ : Q (.inl (some (zi (way s x1 x2)))) 0 J K) : zCall L xs D 304 [zr 142, zi x1, zi x2] J K Q := by
  obtain ⟨D, rfl⟩ : ∃ d, D = d + 1 := ⟨D - 1, by omega⟩
  have hn := lw_n h
  have key : ∀ (n : Nat) (x3 x4 : Int), n = (x3 + x4).toNat → 0 ≤ x3 → x3 < s 18 0 0 → 0 ≤ x4 → x4 < s 18 0 0 → mt s 24 x3 x4 = mt s 24 x1 x2 → zGo L xs (D + 1) 304 5 [some (zr 142), some (zi x1), some (zi x2), some (zi x3), some (zi x4)] [] J K Q := by
    intro n; induction n using Nat.strongRecOn with
    | _ n ih =>
    intro x3 x4 hm b0 b1 d0 d1 hb
    refine z304_5 hL ?_
    have hp := lw_p h b0 b1
    have hp4 := lw_p h d0 d1
    have z3 : zin x3 := ⟨by omega, by omega⟩
    have z4 : zin x4 := ⟨by omega, by omega⟩
    refine ⟨z3, z4, fun e => ?_, fun e => ⟨z3, z4, fun q => ⟨by omega, by omega, by omega, by omega, by decide, by decide, ?_⟩, fun q => ⟨by omega, by omega, by omega, by omega, by decide, by decide, ?_⟩⟩⟩
    · subst e
      have hb2 : x3 = mt s 24 x1 x2 := by
        rw [← hb, mt, if_pos rfl]
      refine c215 hL hM h (by omega) h0 h1 (zaI_of ?_)
      refine c215 hL hM h (by omega) g0 g1 (zaI_of ?_)
      refine c215 hL hM h (by omega) b0 b1 (zaI_of ?_)
      unfold way at hQ
      rw [← hb2] at hQ
      exact hQ
    · have hu := lw_up h (p := x4) (by omega) d1
      rw [ml_u hM (by omega) d1]
      refine ih _ (by omega) x3 (s 19 0 x4) rfl b0 b1 (by omega) (by omega) ?_
      rw [← hb]
      conv => rhs; rw [mt, if_neg e, if_neg (by omega)]
      exact mt_fuel h 24 23 _ _ b0 b1 (by omega) (by omega) (by omega) (by omega)
    · have hu := lw_up h (p := x3) (by omega) b1
      rw [ml_u hM (by omega) b1]
      refine ih _ (by omega) (s 19 0 x3) x4 rfl (by omega) (by omega) d0 d1 ?_
      rw [← hb]
      conv => rhs; rw [mt, if_neg e, if_pos q]
      exact mt_fuel h 24 23 _ _ (by omega) (by omega) d0 d1 (by omega) (by omega)
  exact z304 hL (key _ x1 x2 rfl h0 h1 g0 g1 rfl)
theorem c300 {L : Nat} {xs : Nat → Int32} (hL : L ≤ 3072) {D : Nat} {J : zJ} {K : zK} {Q : zR → Nat → zJ → zK → Prop} {s : zJ} (hM : ML s J) (h : LW s) {x1 x2 : Int} (hD : 1 ≤ D) (h0 : 0 ≤ x1) (g0 : x1 < x2) (g1 : x2 < s 18 0 0) (ho : on s x1 x2) (hQ : Q (.inl (some (zi (tw s x1 12 x2)))) 0 J K) : zCall L xs D 300 [zr 142, zi x1, zi x2] J K Q := by
  obtain ⟨D, rfl⟩ : ∃ d, D = d + 1 := ⟨D - 1, by omega⟩
  have hn := lw_n h
  have key : ∀ (n : Nat) (x3 : Int), n = x3.toNat → x1 < x3 → x3 < s 18 0 0 → on s x1 x3 → tw s x1 12 x3 = tw s x1 12 x2 → zGo L xs (D + 1) 300 2 [some (zr 142), some (zi x1), none, some (zi x3)] [] J K Q := by
    intro n; induction n using Nat.strongRecOn with
    | _ n ih =>
    intro x3 hm b0 b1 hon hb
    refine z300_2 hL ?_
    have hu := lw_up h (p := x3) (by omega) b1
    have hp := lw_p h (p := x3) (by omega) b1
    rw [ml_u hM (by omega) b1]
    by_cases hc : s 19 0 x3 = x1
    · have e : tw s x1 12 x3 = x3 := by rw [tw, if_pos hc]
      rw [← hb, e] at hQ
      (repeat' (first | (with_reducible apply And.intro) | (with_reducible intro _))) <;> (try first | omega | (unfold zin; omega) | exact zin_zb _ | exact Or.inl trivial | exact Or.inr trivial | exact Or.inl rfl | exact Or.inr rfl)
    · have ho2 := (on_up h h0 b0 b1).mp hon
      have hl := on_le h h0 _ (by omega) (by omega) ho2
      have e : tw s x1 12 (s 19 0 x3) = tw s x1 12 x2 := by
        rw [← hb]
        conv => rhs; rw [tw, if_neg hc]
        exact tw_fuel h h0 12 11 _ (by omega) (by omega) ho2 (by omega) (by omega)
      have := ih _ (by omega) (s 19 0 x3) rfl (by omega) (by omega) ho2 e
      (repeat' (first | (with_reducible apply And.intro) | (with_reducible intro _))) <;> (try first | omega | (unfold zin; omega) | exact zin_zb _ | exact Or.inl trivial | exact Or.inr trivial | exact Or.inl rfl | exact Or.inr rfl)
  exact z300 hL (key _ x2 rfl g0 g1 ho rfl)
/-- the end of a portion -/
theorem c272 {L : Nat} {xs : Nat → Int32} (hL : L ≤ 3072) {D : Nat} {J : zJ} {K : zK} {Q : zR → Nat → zJ → zK → Prop} {s : zJ} (hM : ML s J) (h : LW s) {x1 x2 : Int} (hD : 2 ≤ D) (h0 : 0 ≤ x1) (h1 : x1 < s 18 0 6) (g0 : 0 ≤ x2) (g1 : x2 < s 18 0 0) (ho : on s x2 (s 24 0 x1)) (hQ : Q (.inl (some (zi (nx s x2 (s 24 0 x1))))) 0 J K) : zCall L xs D 272 [zr 142, zi x1, zi x2] J K Q := by
  obtain ⟨D, rfl⟩ : ∃ d, D = d + 1 := ⟨D - 1, by omega⟩
  have hn := lw_n h
  have hk := lw_k h h0 h1
  refine z272 hL ?_
  rw [(ml_k hM h0 h1).1]
  have hl := on_le h g0 _ (by omega) (by omega) ho
  unfold nx at hQ
  refine ⟨by omega, by omega, by omega, by omega, by decide, by decide, ⟨by omega, by omega⟩, ⟨by omega, by omega⟩, fun e => ⟨by omega, by omega, by omega, by omega, by decide, by decide, ?_⟩, fun e => ?_⟩
  · rw [if_neg e] at hQ
    exact c300 hL hM h (by omega) g0 (by omega) (by omega) ho (zaI_of hQ)
  · rw [if_pos e] at hQ
    exact hQ
theorem zb_e1 {b : Bool} : zb b = 1 ↔ b = true := by cases b <;> decide
theorem zb_n1 {b : Bool} : zb b ≠ 1 ↔ b = false := by cases b <;> decide
theorem c205 {L : Nat} {xs : Nat → Int32} (hL : L ≤ 3072) {D : Nat} {J : zJ} {K : zK} {Q : zR → Nat → zJ → zK → Prop} {s : zJ} (hM : ML s J) (h : LW s) {x1 : Int} (hD : 1 ≤ D) (a1 : 0 ≤ x1 ∧ x1 < 2147483648) (hQ : Q (.inl (some (zi (ldf s x1)))) 0 J K) : zCall L xs D 205 [zr 142, zi x1] J K Q := by
  obtain ⟨D, rfl⟩ : ∃ d, D = d + 1 := ⟨D - 1, by omega⟩
  have hn := lw_n h
  have em := (ml_n hM).2.1
  have key : ∀ (n : Nat) (x3 : Int), n = (s 18 0 6 - x3).toNat → 0 ≤ x3 → x3 ≤ s 18 0 6 → zGo L xs (D + 1) 205 4 [some (zr 142), some (zi x1), some (zi (sm (fun k => if bt x1 k then s 25 0 k else 0) x3.toNat)), some (zi x3)] [] J K Q := by
    intro n; induction n using Nat.strongRecOn with
    | _ n ih =>
    intro x3 hm h0 h1
    refine z205_4 hL ?_
    rw [em]
    simp only [bt_shz a1.1 a1.2, zb_e1, zb_n1]
    by_cases hc : x3 < s 18 0 6
    · have hi := ih _ (by omega) (x3 + 1) rfl (by omega) (by omega)
      rw [sm_next h0] at hi
      rw [(ml_k hM h0 hc).2.1]
      (repeat' (first | (with_reducible apply And.intro) | (with_reducible intro _))) <;> (try first | omega | (unfold zin; omega) | exact zin_zb _ | exact Or.inl trivial | exact Or.inr trivial | exact Or.inl rfl | exact Or.inr rfl)
      · next q =>
        rw [q, if_neg (by simp)] at hi
        exact hi
      · next q =>
        rw [q, if_pos rfl] at hi
        exact hi
    · have e : x3 = s 18 0 6 := by omega
      unfold ldf at hQ
      rw [e]
      (repeat' (first | (with_reducible apply And.intro) | (with_reducible intro _))) <;> (try first | omega | (unfold zin; omega) | exact zin_zb _ | exact Or.inl trivial | exact Or.inr trivial | exact Or.inl rfl | exact Or.inr rfl)
  exact z205 hL (key _ 0 rfl (by omega) (by omega))
/-- those of a set that come to p -/
def gbs (s : zJ) (x p : Int) : Int := bs (fun k => bt x k && onb s p (s 24 0 k)) (s 18 0 6).toNat
theorem zor_0 {x : Int} (h0 : 0 ≤ x) (h1 : x < 2147483648) : zor x 0 = x := by
  rw [zor_n h0 h1 (by decide) (by decide)]
  simp
  omega
theorem c232 {L : Nat} {xs : Nat → Int32} (hL : L ≤ 3072) {D : Nat} {J : zJ} {K : zK} {Q : zR → Nat → zJ → zK → Prop} {s : zJ} (hM : ML s J) (h : LW s) {x1 x2 : Int} (hD : 2 ≤ D) (a1 : 0 ≤ x1 ∧ x1 < 2147483648) (h0 : 0 ≤ x2) (h1 : x2 < s 18 0 0) (hQ : Q (.inl (some (zi (gbs s x1 x2)))) 0 J K) : zCall L xs D 232 [zr 142, zi x1, zi x2] J K Q := by
  obtain ⟨D, rfl⟩ : ∃ d, D = d + 1 := ⟨D - 1, by omega⟩
  have hn := lw_n h
  have em := (ml_n hM).2.1
  have key : ∀ (n : Nat) (x4 : Int), n = (s 18 0 6 - x4).toNat → 0 ≤ x4 → x4 ≤ s 18 0 6 → zGo L xs (D + 1) 232 5 [some (zr 142), some (zi x1), some (zi x2), some (zi (bs (fun k => bt x1 k && onb s x2 (s 24 0 k)) x4.toNat)), some (zi x4)] [] J K Q := by
    intro n; induction n using Nat.strongRecOn with
    | _ n ih =>
    intro x4 hm g0 g1
    refine z232_5 hL ?_
    rw [em]
    have hb := bs_lt (fun k => bt x1 k && onb s x2 (s 24 0 k)) x4.toNat
    have hb2 := pw_31 (n := x4.toNat) (by omega)
    simp only [bt_shz a1.1 a1.2, zb_e1, zb_n1, zor_0 hb.1 (by omega)]
    by_cases hc : x4 < s 18 0 6
    · have hi := ih _ (by omega) (x4 + 1) rfl (by omega) (by omega)
      have hk := lw_k h g0 hc
      rw [(ml_k hM g0 hc).1]
      refine ⟨by decide, by decide, ⟨by omega, by omega⟩, ⟨by omega, by omega⟩, fun _ => by omega, fun _ => ⟨⟨by omega, by omega⟩, g0, by omega, zin_zb _, zin_1, fun q => ?_, fun q => ⟨by omega, by omega, by omega, by omega, by decide, by decide, ?_⟩⟩⟩
      · rw [bs_no g0 (by simp [q])] at hi
        exact hi
      · refine c247 hL hM h (by omega) h0 h1 (by omega) (by omega) (zaI_of ⟨zin_zb _, fun e => ?_, fun e => ⟨g0, by omega, ?_⟩⟩)
        · rw [bs_no g0 (by simp [zb_0.mp e])] at hi
          exact hi
        · rw [← bs_or g0 (by omega) (by simp [q, zb_1.mp e])] at hi
          exact hi
    · have e : x4 = s 18 0 6 := by omega
      unfold gbs at hQ
      rw [e]
      (repeat' (first | (with_reducible apply And.intro) | (with_reducible intro _))) <;> (try first | omega | (unfold zin; omega) | exact zin_zb _ | exact Or.inl trivial | exact Or.inr trivial | exact Or.inl rfl | exact Or.inr rfl)
  exact z232 hL (key _ 0 rfl (by omega) (by omega))
theorem c192 {L : Nat} {xs : Nat → Int32} (hL : L ≤ 3072) {D : Nat} {J : zJ} {K : zK} {Q : zR → Nat → zJ → zK → Prop} {x0 : Int} (hD : 1 ≤ D) (a0 : zin x0) (hQ : Q (.inl (some (zi (if 0 ≤ x0 then x0 else 0 - x0)))) 0 J K) : zCall L xs D 192 [zi x0] J K Q := by
  obtain ⟨D, rfl⟩ : ∃ d, D = d + 1 := ⟨D - 1, by omega⟩
  refine z192 hL ⟨a0, fun q => ?_, fun q => ?_⟩
  · rw [if_pos q] at hQ
    exact hQ
  · rw [if_neg (by omega)] at hQ
    have e : -x0 = 0 - x0 := by omega
    rw [e]
    exact hQ
theorem c261 {L : Nat} {xs : Nat → Int32} (hL : L ≤ 3072) {D : Nat} {J : zJ} {K : zK} {Q : zR → Nat → zJ → zK → Prop} {x0 x1 : Int} (hD : 1 ≤ D) (a0 : zin x0) (a1 : zin x1) (hQ : Q (.inl (some (zi (if x1 < x0 then x1 else x0)))) 0 J K) : zCall L xs D 261 [zi x0, zi x1] J K Q := by
  obtain ⟨D, rfl⟩ : ∃ d, D = d + 1 := ⟨D - 1, by omega⟩
  refine z261 hL ⟨a0, a1, fun q => ?_, fun q => ?_⟩
  · by_cases e : x1 = x0
    · rw [if_neg (by omega)] at hQ
      rw [e]
      exact hQ
    · rw [if_pos (by omega)] at hQ
      exact hQ
  · rw [if_neg (by omega)] at hQ
    exact hQ
theorem c268 {L : Nat} {xs : Nat → Int32} (hL : L ≤ 3072) {D : Nat} {J : zJ} {K : zK} {Q : zR → Nat → zJ → zK → Prop} {x0 x1 : Int} (hD : 1 ≤ D) (a0 : zin x0) (a1 : zin x1) (hQ : Q (.inl (some (zi (if x0 < x1 then x1 else x0)))) 0 J K) : zCall L xs D 268 [zi x0, zi x1] J K Q := by
  obtain ⟨D, rfl⟩ : ∃ d, D = d + 1 := ⟨D - 1, by omega⟩
  refine z268 hL ⟨a0, a1, fun q => ?_, fun q => ?_⟩
  · by_cases e : x1 = x0
    · rw [if_neg (by omega)] at hQ
      rw [e]
      exact hQ
    · rw [if_pos (by omega)] at hQ
      exact hQ
  · rw [if_neg (by omega)] at hQ
    exact hQ
theorem c311 {L : Nat} {xs : Nat → Int32} (hL : L ≤ 3072) {D : Nat} {J : zJ} {K : zK} {Q : zR → Nat → zJ → zK → Prop} {s : zJ} (hM : ML s J) (h : LW s) {x1 x2 : Int} (hD : 2 ≤ D) (h0 : 0 ≤ x1) (h1 : x1 < s 18 0 14) (m0 : 0 ≤ x2) (m1 : x2 ≤ 1439) (hQ : Q (.inl (some (zi (fw s x1 x2)))) 0 J K) : zCall L xs D 311 [zr 142, zi x1, zi x2] J K Q := by
  obtain ⟨D, rfl⟩ : ∃ d, D = d + 1 := ⟨D - 1, by omega⟩
  have hn := lw_n h
  have hw := lw_w h h0 h1
  have hm := ml_w hM h0 h1
  refine z311 hL ?_
  rw [hm.2.1, hm.2.2]
  refine ⟨by omega, by omega, by omega, by omega, by decide, by decide, by omega, by omega, by omega, by omega, by decide, by decide, ?_⟩
  refine c192 hL (by omega) ⟨by omega, by omega⟩ (zaI_of ?_)
  unfold fw at hQ
  generalize hx : (if 0 ≤ x2 - s 32 0 x1 then x2 - s 32 0 x1 else 0 - (x2 - s 32 0 x1)) = x at hQ ⊢
  have h2 : 0 ≤ x ∧ x ≤ 1439 := by
    rw [← hx]
    split <;> omega
  refine ⟨by omega, by omega, by decide, by decide, ?_⟩
  exact c261 hL (by omega) ⟨by omega, by omega⟩ ⟨by omega, by omega⟩ (zaI_of hQ)
theorem c274 {L : Nat} {xs : Nat → Int32} (hL : L ≤ 3072) {D : Nat} {J : zJ} {K : zK} {Q : zR → Nat → zJ → zK → Prop} {x0 : Int} (hD : 1 ≤ D) (a0 : 0 ≤ x0 ∧ x0 < 2147483648) (hQ : Q (.inl (some (zi (pct x0 14)))) 0 J K) : zCall L xs D 274 [zi x0] J K Q := by
  obtain ⟨D, rfl⟩ : ∃ d, D = d + 1 := ⟨D - 1, by omega⟩
  have key : ∀ (n : Nat) (x2 : Int), n = (14 - x2).toNat → 0 ≤ x2 → x2 ≤ 14 → zGo L xs (D + 1) 274 4 [some (zi x0), some (zi (cnt (fun i => bt x0 i) x2.toNat)), some (zi x2)] [] J K Q := by
    intro n; induction n using Nat.strongRecOn with
    | _ n ih =>
    intro x2 hm h0 h1
    refine z274_4 hL ?_
    simp only [bt_shz a0.1 a0.2]
    by_cases hc : x2 < 14
    · have hi := ih _ (by omega) (x2 + 1) rfl (by omega) (by omega)
      rw [cnt_next h0] at hi
      (repeat' (first | (with_reducible apply And.intro) | (with_reducible intro _))) <;> (try first | omega | (unfold zin; omega) | exact zin_zb _ | exact Or.inl trivial | exact Or.inr trivial | exact Or.inl rfl | exact Or.inr rfl)
    · have e : x2 = 14 := by omega
      unfold pct at hQ
      subst e
      (repeat' (first | (with_reducible apply And.intro) | (with_reducible intro _))) <;> (try first | omega | (unfold zin; omega) | exact zin_zb _ | exact Or.inl trivial | exact Or.inr trivial | exact Or.inl rfl | exact Or.inr rfl)
      exact hQ
  exact z274 hL (key _ 0 rfl (by omega) (by omega))
theorem c277 {L : Nat} {xs : Nat → Int32} (hL : L ≤ 3072) {D : Nat} {J : zJ} {K : zK} {Q : zR → Nat → zJ → zK → Prop} {s : zJ} (hM : ML s J) (h : LW s) {x1 : Int} (hD : 1 ≤ D) (a1 : zin x1) (hQ : Q (.inl (some (zi (sm (fun w => if s 30 0 w = x1 then s 31 0 w else 0) (s 18 0 14).toNat)))) 0 J K) : zCall L xs D 277 [zr 142, zi x1] J K Q := by
  obtain ⟨D, rfl⟩ : ∃ d, D = d + 1 := ⟨D - 1, by omega⟩
  have hn := lw_n h
  have em := (ml_n hM).2.2.2
  unfold zin at a1
  have key : ∀ (n : Nat) (x3 : Int), n = (s 18 0 14 - x3).toNat → 0 ≤ x3 → x3 ≤ s 18 0 14 → zGo L xs (D + 1) 277 4 [some (zr 142), some (zi x1), some (zi (sm (fun w => if s 30 0 w = x1 then s 31 0 w else 0) x3.toNat)), some (zi x3)] [] J K Q := by
    intro n; induction n using Nat.strongRecOn with
    | _ n ih =>
    intro x3 hm h0 h1
    refine z277_4 hL ?_
    rw [em]
    by_cases hc : x3 < s 18 0 14
    · have hi := ih _ (by omega) (x3 + 1) rfl (by omega) (by omega)
      have hw := lw_w h h0 hc
      have hm2 := ml_w hM h0 hc
      rw [sm_next h0] at hi
      rw [hm2.1, hm2.2.1]
      (repeat' (first | (with_reducible apply And.intro) | (with_reducible intro _))) <;> (try first | omega | (unfold zin; omega) | exact zin_zb _ | exact Or.inl trivial | exact Or.inr trivial | exact Or.inl rfl | exact Or.inr rfl)
      · next q =>
        rw [if_neg q] at hi
        exact hi
      · next q =>
        rw [if_pos q] at hi
        exact hi
    · have e : x3 = s 18 0 14 := by omega
      rw [e]
      (repeat' (first | (with_reducible apply And.intro) | (with_reducible intro _))) <;> (try first | omega | (unfold zin; omega) | exact zin_zb _ | exact Or.inl trivial | exact Or.inr trivial | exact Or.inl rfl | exact Or.inr rfl)
  exact z277 hL (key _ 0 rfl (by omega) (by omega))
/-! the model's plan -/
theorem mc_n {s J : zJ} (h : MC s J) : J 142 0 15 = s 40 0 0 ∧ J 142 0 16 = s 40 0 5 := ⟨h.1, h.2.1⟩
theorem mc_t {s J : zJ} (h : MC s J) {t : Int} (h0 : 0 ≤ t) (h1 : t < s 40 0 0) : J 234 0 t = s 42 0 t ∧ J 235 0 t = s 41 0 t ∧ ∀ i, 0 ≤ i → i < s 42 0 t → J 229 t i = s 43 0 (t * 7 + i) := h.2.2.1 t h0 h1
theorem mc_p {s J : zJ} (h : MC s J) {p : Int} (h0 : 0 ≤ p) (h1 : p < 12) : J 236 0 p = zb (bt (s 40 0 10) p) ∧ J 237 0 p = s 49 0 p := h.2.2.2.1 p h0 h1
theorem mc_k {s J : zJ} (h : MC s J) {k : Int} (h0 : 0 ≤ k) (h1 : k < s 18 0 6) : J 238 0 k = s 51 0 k ∧ J 239 0 k = s 50 0 k := h.2.2.2.2.1 k h0 h1
theorem mc_j {s J : zJ} (h : MC s J) {j : Int} (h0 : 0 ≤ j) (h1 : j < s 40 0 5) : J 240 j 0 = s 45 0 j ∧ J 240 j 1 = s 46 0 j ∧ J 240 j 2 = s 47 0 j ∧ J 240 j 3 = s 48 0 j := h.2.2.2.2.2 j h0 h1
/-- the train of a portion is as the class keeps it -/
theorem c302 {L : Nat} {xs : Nat → Int32} (hL : L ≤ 3072) {D : Nat} {J : zJ} {K : zK} {Q : zR → Nat → zJ → zK → Prop} {s : zJ} (hM : ML s J) (h : LW s) (hP : PW s) (hC : MC s J) {x1 : Int} (hD : 1 ≤ D) (h0 : 0 ≤ x1) (h1 : x1 < s 18 0 6) (hQ : Q (.inl (some (zi (s 44 0 x1)))) 0 J K) : zCall L xs D 302 [zr 142, zi x1] J K Q := by
  obtain ⟨D, rfl⟩ : ∃ d, D = d + 1 := ⟨D - 1, by omega⟩
  have hn := lw_n h
  have hpn := pw_n hP
  have hk := pw_k hP h0 h1
  have key : ∀ (n : Nat) (x2 : Int), n = (s 40 0 0 - x2).toNat → 0 ≤ x2 → x2 ≤ s 40 0 0 → (∀ t i, 0 ≤ t → t < x2 → 0 ≤ i → i < s 42 0 t → s 43 0 (t * 7 + i) ≠ x1) → zGo L xs (D + 1) 302 2 [some (zr 142), some (zi x1), some (zi x2), none] [] J K Q := by
    intro n; induction n using Nat.strongRecOn with
    | _ n ih =>
    intro x2 hm b0 b1 hf
    refine z302_2 hL ?_
    rw [(mc_n hC).1]
    by_cases hc : x2 < s 40 0 0
    · have ht := pw_t hP b0 hc
      have hmt := mc_t hC b0 hc
      have inner : ∀ (m : Nat) (x3 : Int), m = (s 42 0 x2 - x3).toNat → 0 ≤ x3 → x3 ≤ s 42 0 x2 → (∀ i, 0 ≤ i → i < x3 → s 43 0 (x2 * 7 + i) ≠ x1) → zGo L xs (D + 1) 302 12 [some (zr 142), some (zi x1), some (zi x2), some (zi x3)] [] J K Q := by
        intro m; induction m using Nat.strongRecOn with
        | _ m ihm =>
        intro x3 hm3 d0 d1 hf3
        refine z302_12 hL ?_
        rw [hmt.1]
        by_cases hc3 : x3 < s 42 0 x2
        · have hr := pw_r hP b0 hc d0 hc3
          rw [hmt.2.2 x3 d0 hc3]
          refine ⟨by omega, by omega, ⟨by omega, by omega⟩, ⟨by omega, by omega⟩, fun _ => by omega, fun _ => ⟨by omega, by omega, by omega, by omega, by omega, by omega, ⟨by omega, by omega⟩, ⟨by omega, by omega⟩, fun q => ?_, fun q => ?_⟩⟩
          · refine ihm _ (by omega) (x3 + 1) rfl (by omega) (by omega) fun i a b => ?_
            by_cases e : i = x3
            · rw [e]
              exact q
            · exact hf3 i a (by omega)
          · rw [q] at hr
            rw [hr.2.2] at hQ
            exact hQ
        · refine ⟨by omega, by omega, ⟨by omega, by omega⟩, ⟨by omega, by omega⟩, fun _ => ?_, fun _ => by omega⟩
          refine ih _ (by omega) (x2 + 1) rfl (by omega) (by omega) fun t i a b c d => ?_
          by_cases e : t = x2
          · subst e
            exact hf3 i c (by omega)
          · exact hf t i a (by omega) c d
      exact ⟨⟨by omega, by omega⟩, ⟨by omega, by omega⟩, fun _ => by omega, fun _ => inner _ 0 rfl (by omega) (by omega) fun i a b => by omega⟩
    · refine ⟨⟨by omega, by omega⟩, ⟨by omega, by omega⟩, fun _ => ?_, fun _ => by omega⟩
      have e : s 44 0 x1 = -1 := by
        rcases Int.lt_or_le (s 44 0 x1) 0 with q | q
        · omega
        · obtain ⟨i, i0, i1, i2⟩ := hk.2.2 q
          exact absurd i2 (hf _ i q (by omega) i0 i1)
      rw [e] at hQ
      exact hQ
  exact z302 hL (key _ 0 rfl (by omega) (by omega) fun t i a b => by omega)
/-- a train's portions as bits -/
def mem (s : zJ) (t : Int) : Int := bs (fun k => decide (s 44 0 k = t)) (s 18 0 6).toNat
