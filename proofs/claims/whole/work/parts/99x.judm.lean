/-! JUDGING ALL in the class; JUDGING A TRAIN in the model -/
theorem rws_pw {s : zJ} (h : LW s) (hP : PW s) : Rws s (fun t i => s 43 0 (t * 7 + i)) (s 42 0) (s 41 0) (s 40 0 0) := by
  have hn := lw_n h
  intro t t0 t1
  have ht := pw_t hP t0 t1
  refine ⟨ht.2.2.1, by omega, ht.1, ht.2.1, fun i j i0 i1 j1 => pw_d hP t0 t1 i0 i1 j1, fun _ => pw_l hP (by omega), fun i i0 i1 => ?_⟩
  have hr := pw_r hP t0 t1 i0 i1
  exact ⟨hr.1, hr.2.1⟩
theorem c47 {L : Nat} {xs : Nat → Int32} (hL : L ≤ 3072) {D : Nat} {J : zJ} {K : zK} {Q : zR → Nat → zJ → zK → Prop} {s : zJ} (hE : EqS s J) (h : LW s) (hT : TW s) (hP : PW s) {t tk : Int} (t0 : 0 ≤ t) (t1 : t < s 40 0 0) (k0 : 0 ≤ tk) (k1 : tk < 256) (ht : J 101 0 7 = tk) (hD : 11 ≤ D) (hQ : ∀ J' : zJ, (∀ b : Nat, b < 92 ∨ (100 < b ∧ b ≠ 101 ∧ b ≠ 103 ∧ b ≠ 104) → J' b = J b) → J' 101 0 7 = (jdW s (fun i => s 43 0 (t * 7 + i)) 84 (jit (s 42 0) (s 41 0) t) tk).2.1 → (∀ k : Int, sgP (fun i => s 43 0 (t * 7 + i)) 0 (s 42 0 t) k = false → J' 104 0 k = J 104 0 k ∧ J' 103 0 k = J 103 0 k) → ((jdW s (fun i => s 43 0 (t * 7 + i)) 84 (jit (s 42 0) (s 41 0) t) tk).1 = 0 → J' 104 0 = wrV (fun w => w.2.2.1) (fun i => s 43 0 (t * 7 + i)) (jdW s (fun i => s 43 0 (t * 7 + i)) 84 (jit (s 42 0) (s 41 0) t) tk).2.2 (J 104 0) ∧ J' 103 0 = wrV (fun w => w.2.2.2) (fun i => s 43 0 (t * 7 + i)) (jdW s (fun i => s 43 0 (t * 7 + i)) 84 (jit (s 42 0) (s 41 0) t) tk).2.2 (J 103 0)) → Q (.inl (some (zi ((jdW s (fun i => s 43 0 (t * 7 + i)) 84 (jit (s 42 0) (s 41 0) t) tk).1)))) 0 J' K) : zCall L xs D 47 [zr 101, zi t] J K Q := by
  obtain ⟨D, rfl⟩ : ∃ d, D = d + 1 := ⟨D - 1, by omega⟩
  obtain ⟨D, rfl⟩ : ∃ d, D = d + 1 := ⟨D - 1, by omega⟩
  have hn := lw_n h
  have hpn := pw_n hP
  have htt := pw_t hP t0 t1
  have hR := rws_pw h hP
  obtain ⟨q1, q2, q3, q4, q5⟩ := rws_its h hR t0 t1
  have hinj : Inj (fun i => s 43 0 (t * 7 + i)) 0 (s 42 0 t) := (hR t t0 t1).2.2.2.2.1
  have hF0 : ∀ b : Nat, b < 92 ∨ (100 < b ∧ b ≠ 101 ∧ b ≠ 103 ∧ b ≠ 104) → (zup (zcp J 43 93 (t * 7) 0 (s 42 0 t)) 92 0 3 0) b = J b := fun b x => by rw [zup_ne _ _ _ _ (by omega), zcp_ne _ _ _ _ (by omega)]
  have hrow : ∀ k : Int, 0 ≤ k → k < s 42 0 t → zup (zcp J 43 93 (t * 7) 0 (s 42 0 t)) 92 0 3 0 93 0 k = s 43 0 (t * 7 + k) := fun k k0 k1 => by
    rw [zup_ne _ _ _ _ (by decide), zcp_at, if_pos ⟨rfl, rfl, by omega, by omega⟩, hE 43 (by decide) (by decide)]
    have e : k - 0 = k := by omega
    rw [e]
  have hs0 : Stk (zup (zcp J 43 93 (t * 7) 0 (s 42 0 t)) 92 0 3 0) [] := ⟨zup_eq _ _ _ _ _, fun j v hv => by simp at hv⟩
  have loop : ∀ J2 : zJ, Stk J2 (jit (s 42 0) (s 41 0) t) → (∀ b : Nat, b < 92 ∨ 98 < b → J2 b = zup (zcp J 43 93 (t * 7) 0 (s 42 0 t)) 92 0 3 0 b) → (∀ k : Int, 0 ≤ k → k < s 42 0 t → J2 93 0 k = s 43 0 (t * 7 + k)) → zGo L xs (D + 1 + 1) 47 38 [some (zr 101), none, some (zi 0), none, none] [] J2 K Q := by
    intro J2 s2 f2 hr2
    have e101 : J2 101 = J 101 := by rw [f2 101 (by decide), zup_ne _ _ _ _ (by decide), zcp_ne _ _ _ _ (by decide)]
    have e103 : J2 103 = J 103 := by rw [f2 103 (by decide), zup_ne _ _ _ _ (by decide), zcp_ne _ _ _ _ (by decide)]
    have e104 : J2 104 = J 104 := by rw [f2 104 (by decide), zup_ne _ _ _ _ (by decide), zcp_ne _ _ _ _ (by decide)]
    refine c47w hL h hT hP (a := fun i => s 43 0 (t * 7 + i)) (N := s 42 0 t) (by omega) hinj hE (by omega) (R := jdW s (fun i => s 43 0 (t * 7 + i)) 84 (jit (s 42 0) (s 41 0) t) tk) hQ 84 0 tk _ [] J2 rfl (by decide) (by decide) q2 q3 q1 q5 (fun v hv => ⟨(q4 v hv).2.2.1, (q4 v hv).2.2.2⟩) s2 (fun b x => by rw [f2 b (by omega)]; exact hF0 b x) (fun w hw k x y => ?_) k0 k1 (by rw [e101]; exact ht) (fun w hw => by cases hw) (by rw [e104]; rfl) (by rw [e103]; rfl) rfl rfl rfl
    have := q5 w hw
    exact hr2 k (by omega) (by omega)
  refine z47 hL ⟨t0, by omega, t0, by omega, ?_⟩
  rw [hE 42 (by decide) (by decide), hE 41 (by decide) (by decide)]
  refine z129 hL ⟨by omega, by omega, by decide, by omega, by omega, by omega, ⟨by omega, by omega⟩, fun q => zaV_of ?_, fun q => ?_⟩
  · refine loop _ ?_ (fun _ _ => rfl) hrow
    unfold jit
    rw [if_pos (by omega)]
    exact hs0
  · refine c134 hL ((0, 0, s 42 0 t, s 41 0 t, -1) : It) hs0 (by decide) (by omega) fun J2 f2 k2 s2 => zaV_of (zaV_of ?_)
    refine loop J2 ?_ (fun b x => ?_) (fun k x y => by rw [f2 93 (by decide) (by decide)]; exact hrow k x y)
    · unfold jit
      rw [if_neg (by omega)]
      exact s2
    · exact f2 b (by omega) (by omega)
theorem c45 {L : Nat} {xs : Nat → Int32} (hL : L ≤ 3072) {D : Nat} {J : zJ} {K : zK} {Q : zR → Nat → zJ → zK → Prop} {s : zJ} (hE : EqS s J) (h : LW s) (hP : PW s) {t : Int} (t0 : 0 ≤ t) (t1 : t < s 40 0 0) (hD : 1 ≤ D) (hQ : ∀ J' : zJ, (∀ b : Nat, b ≠ 103 → b ≠ 104 → J' b = J b) → (∀ k : Int, J' 104 0 k = if sgP (fun i => s 43 0 (t * 7 + i)) 0 (s 42 0 t) k = true then -1 else J 104 0 k) → (∀ k : Int, J' 103 0 k = if sgP (fun i => s 43 0 (t * 7 + i)) 0 (s 42 0 t) k = true then -1 else J 103 0 k) → Q (.inl none) 0 J' K) : zCall L xs D 45 [zr 101, zi t] J K Q := by
  obtain ⟨D, rfl⟩ : ∃ d, D = d + 1 := ⟨D - 1, by omega⟩
  have hn := lw_n h
  have hpn := pw_n hP
  have htt := pw_t hP t0 t1
  refine z45 hL ?_
  have key : ∀ (n : Nat) (i : Int) (J1 : zJ), n = (s 42 0 t - i).toNat → 0 ≤ i → i ≤ s 42 0 t → (∀ b : Nat, b ≠ 103 → b ≠ 104 → J1 b = J b) → (∀ k : Int, J1 104 0 k = if sgP (fun i => s 43 0 (t * 7 + i)) 0 i k = true then -1 else J 104 0 k) → (∀ k : Int, J1 103 0 k = if sgP (fun i => s 43 0 (t * 7 + i)) 0 i k = true then -1 else J 103 0 k) → zGo L xs (D + 1) 45 2 [some (zr 101), some (zi t), some (zi i), none] [] J1 K Q := by
    intro n; induction n using Nat.strongRecOn with
  | _ n ih =>
    intro i J1 hm h0 h1 f1 g4 g3
    have hE1 : EqS s J1 := fun b x y => (f1 b (by omega) (by omega)).trans (hE b x y)
    refine z45_2 hL ?_
    rw [hE1 42 (by decide) (by decide), hE1 43 (by decide) (by decide)]
    refine ⟨t0, by omega, ⟨by omega, by omega⟩, ⟨by omega, by omega⟩, fun q => ?_, fun q => ?_⟩
    · have e : i = s 42 0 t := by omega
      subst e
      exact hQ J1 f1 g4 g3
    · have hr := pw_r hP t0 t1 h0 q
      have nxt : ∀ k : Int, sgP (fun i => s 43 0 (t * 7 + i)) 0 (i + 1) k = (sgP (fun i => s 43 0 (t * 7 + i)) 0 i k || decide (s 43 0 (t * 7 + i) = k)) := by
        intro k
        rw [Bool.eq_iff_iff, Bool.or_eq_true, sgP_t (Int.le_refl 0), sgP_t (Int.le_refl 0), decide_eq_true_iff]
        constructor
        · rintro ⟨j, j0, j1, j2⟩
          by_cases e : j = i
          · right
            rw [← e]
            exact j2
          · exact Or.inl ⟨j, j0, by omega, j2⟩
        · rintro (⟨j, j0, j1, j2⟩ | z)
          · exact ⟨j, j0, by omega, j2⟩
          · exact ⟨i, h0, by omega, z⟩
      refine ⟨by omega, by omega, hr.1, by omega, hr.1, by omega, ih _ (by omega) (i + 1) _ rfl (by omega) (by omega) (fun b x y => by rw [zup_ne _ _ _ _ x, zup_ne _ _ _ _ y]; exact f1 b x y) (fun k => ?_) (fun k => ?_)⟩
      · rw [zup_ne _ _ _ _ (by decide), nxt k]
        by_cases e : k = s 43 0 (t * 7 + i)
        · rw [e, zup_eq, decide_eq_true rfl, Bool.or_true, if_pos rfl]
        · rw [zup_nk _ _ e, decide_eq_false (fun z => e z.symm), Bool.or_false]
          exact g4 k
      · rw [nxt k]
        by_cases e : k = s 43 0 (t * 7 + i)
        · rw [e, zup_eq, decide_eq_true rfl, Bool.or_true, if_pos rfl]
        · rw [zup_nk _ _ e, zup_ne _ _ _ _ (by decide), decide_eq_false (fun z => e z.symm), Bool.or_false]
          exact g3 k
  have e0 : ∀ k : Int, sgP (fun i => s 43 0 (t * 7 + i)) 0 0 k = false := fun k => by
    rw [← Bool.not_eq_true, sgP_t (Int.le_refl 0)]
    rintro ⟨j, j0, j1, _⟩
    omega
  exact key _ 0 J rfl (by decide) (by omega) (fun _ _ _ => rfl) (fun k => by rw [e0 k]; rfl) (fun k => by rw [e0 k]; rfl)
theorem c315x {L : Nat} {xs : Nat → Int32} (hL : L ≤ 3072) {D : Nat} {J : zJ} {K : zK} {Q : zR → Nat → zJ → zK → Prop} {v : Int} (hD : 1 ≤ D) (hQ : ∀ J' : zJ, (∀ b : Nat, b ≠ 103 → J' b = J b) → (∀ i : Int, 0 ≤ i → i < 7 → J' 103 0 i = v) → Q (.inl none) 0 J' K) : zCall L xs D 315 [zr 103, zi v] J K Q := by
  obtain ⟨D, rfl⟩ : ∃ d, D = d + 1 := ⟨D - 1, by omega⟩
  refine z315 hL ?_
  have key : ∀ (n : Nat) (i : Int) (J1 : zJ), n = (7 - i).toNat → 0 ≤ i → i ≤ 7 → (∀ b : Nat, b ≠ 103 → J1 b = J b) → (∀ j : Int, 0 ≤ j → j < i → J1 103 0 j = v) → zGo L xs (D + 1) 315 5 [some (zr 103), some (zi v), some (zi i), some (zi 7)] [] J1 K Q := by
    intro n; induction n using Nat.strongRecOn with
  | _ n ih =>
    intro i J1 hm h0 h1 f g
    refine z315_5 hL ⟨⟨by omega, by omega⟩, ⟨by omega, by omega⟩, fun q => hQ J1 f fun j a b => g j a (by omega), fun q => ⟨h0, by omega, ?_⟩⟩
    refine ih _ (by omega) (i + 1) _ rfl (by omega) (by omega) (fun b hb => by rw [zup_ne _ _ _ _ hb]; exact f b hb) fun j a b => ?_
    by_cases e : j = i
    · rw [e, zup_eq]
    · rw [zup_nk _ _ e]
      exact g j a (by omega)
  exact key _ 0 J rfl (by decide) (by decide) (fun _ _ => rfl) fun j a b => by omega
theorem c315y {L : Nat} {xs : Nat → Int32} (hL : L ≤ 3072) {D : Nat} {J : zJ} {K : zK} {Q : zR → Nat → zJ → zK → Prop} {v : Int} (hD : 1 ≤ D) (hQ : ∀ J' : zJ, (∀ b : Nat, b ≠ 104 → J' b = J b) → (∀ i : Int, 0 ≤ i → i < 7 → J' 104 0 i = v) → Q (.inl none) 0 J' K) : zCall L xs D 315 [zr 104, zi v] J K Q := by
  obtain ⟨D, rfl⟩ : ∃ d, D = d + 1 := ⟨D - 1, by omega⟩
  refine z315a hL ?_
  have key : ∀ (n : Nat) (i : Int) (J1 : zJ), n = (7 - i).toNat → 0 ≤ i → i ≤ 7 → (∀ b : Nat, b ≠ 104 → J1 b = J b) → (∀ j : Int, 0 ≤ j → j < i → J1 104 0 j = v) → zGo L xs (D + 1) 315 5 [some (zr 104), some (zi v), some (zi i), some (zi 7)] [] J1 K Q := by
    intro n; induction n using Nat.strongRecOn with
  | _ n ih =>
    intro i J1 hm h0 h1 f g
    refine z315a_5 hL ⟨⟨by omega, by omega⟩, ⟨by omega, by omega⟩, fun q => hQ J1 f fun j a b => g j a (by omega), fun q => ⟨h0, by omega, ?_⟩⟩
    refine ih _ (by omega) (i + 1) _ rfl (by omega) (by omega) (fun b hb => by rw [zup_ne _ _ _ _ hb]; exact f b hb) fun j a b => ?_
    by_cases e : j = i
    · rw [e, zup_eq]
    · rw [zup_nk _ _ e]
      exact g j a (by omega)
  exact key _ 0 J rfl (by decide) (by decide) (fun _ _ => rfl) fun j a b => by omega
/-- the plan's trains, judged -/
def jaP (s : zJ) (t : Nat) : (Int × (Int → Int)) × ((Int → Int) × (Int → Int)) := jaS s (fun t i => s 43 0 (t * 7 + i)) (s 42 0) (s 41 0) t
def Jdd (s : zJ) (t : Nat) (er ar en : Int → Int) : Prop := (∀ k : Int, 0 ≤ k → k < t → er k = (jaP s t).1.2 k) ∧ ∀ k : Int, 0 ≤ k → k < 7 → ar k = (jaP s t).2.1 k ∧ en k = (jaP s t).2.2 k
/-- one train more -/
theorem jdd_next {s : zJ} {t : Nat} {er ar en er' ar' en' : Int → Int} (h : Jdd s t er ar en) (he : er' t = (jdW s (fun i => s 43 0 (t * 7 + i)) 84 (jit (s 42 0) (s 41 0) t) (jaP s t).1.1).1) (hk : ∀ k : Int, 0 ≤ k → k < t → er' k = er k) (h0 : (jdW s (fun i => s 43 0 (t * 7 + i)) 84 (jit (s 42 0) (s 41 0) t) (jaP s t).1.1).1 = 0 → ∀ k : Int, 0 ≤ k → k < 7 → ar' k = wrV (fun w => w.2.2.1) (fun i => s 43 0 (t * 7 + i)) (jdW s (fun i => s 43 0 (t * 7 + i)) 84 (jit (s 42 0) (s 41 0) t) (jaP s t).1.1).2.2 ar k ∧ en' k = wrV (fun w => w.2.2.2) (fun i => s 43 0 (t * 7 + i)) (jdW s (fun i => s 43 0 (t * 7 + i)) 84 (jit (s 42 0) (s 41 0) t) (jaP s t).1.1).2.2 en k) (h1 : (jdW s (fun i => s 43 0 (t * 7 + i)) 84 (jit (s 42 0) (s 41 0) t) (jaP s t).1.1).1 ≠ 0 → ∀ k : Int, 0 ≤ k → k < 7 → ar' k = (if sgP (fun i => s 43 0 (t * 7 + i)) 0 (s 42 0 t) k = true then -1 else ar k) ∧ en' k = (if sgP (fun i => s 43 0 (t * 7 + i)) 0 (s 42 0 t) k = true then -1 else en k)) : Jdd s (t + 1) er' ar' en' := by
  obtain ⟨g1, g2⟩ := h
  constructor
  · intro k k0 k1
    show er' k = dup (jaP s t).1.2 t _ k
    by_cases e : k = t
    · rw [e, dup_eq]
      exact he
    · rw [dup_ne _ e, hk k k0 (by omega)]
      exact g1 k k0 (by omega)
  · intro k k0 k1
    have g := g2 k k0 k1
    by_cases q : (jdW s (fun i => s 43 0 (t * 7 + i)) 84 (jit (s 42 0) (s 41 0) t) (jaP s t).1.1).1 = 0
    · have e : (jaP s (t + 1)).2 = (wrV (fun w => w.2.2.1) (fun i => s 43 0 (t * 7 + i)) (jdW s (fun i => s 43 0 (t * 7 + i)) 84 (jit (s 42 0) (s 41 0) t) (jaP s t).1.1).2.2 (jaP s t).2.1, wrV (fun w => w.2.2.2) (fun i => s 43 0 (t * 7 + i)) (jdW s (fun i => s 43 0 (t * 7 + i)) 84 (jit (s 42 0) (s 41 0) t) (jaP s t).1.1).2.2 (jaP s t).2.2) := if_pos q
      rw [e]
      obtain ⟨a1, a2⟩ := h0 q k k0 k1
      exact ⟨a1.trans (wrV_cong _ _ _ _ _ g.1), a2.trans (wrV_cong _ _ _ _ _ g.2)⟩
    · have e : (jaP s (t + 1)).2 = (fun k => if sgP (fun i => s 43 0 (t * 7 + i)) 0 (s 42 0 t) k = true then -1 else (jaP s t).2.1 k, fun k => if sgP (fun i => s 43 0 (t * 7 + i)) 0 (s 42 0 t) k = true then -1 else (jaP s t).2.2 k) := if_neg q
      rw [e]
      obtain ⟨a1, a2⟩ := h1 q k k0 k1
      rw [a1, a2, g.1, g.2]
      exact ⟨rfl, rfl⟩
theorem jaP_rng {s : zJ} (h : LW s) (hP : PW s) {t : Nat} (ht : (t : Int) ≤ s 40 0 0) : (0 ≤ (jaP s t).1.1 ∧ (jaP s t).1.1 < 256) ∧ (∀ k : Int, 0 ≤ k → k < t → 0 ≤ (jaP s t).1.2 k ∧ (jaP s t).1.2 k < 412) ∧ (∀ k : Int, -1 ≤ (jaP s t).2.1 k ∧ (jaP s t).2.1 k ≤ 10000) ∧ ∀ k : Int, -1 ≤ (jaP s t).2.2 k ∧ (jaP s t).2.2 k ≤ 7 := jaS_rng h (rws_pw h hP) t ht
theorem c46 {L : Nat} {xs : Nat → Int32} (hL : L ≤ 3072) {D : Nat} {J : zJ} {K : zK} {Q : zR → Nat → zJ → zK → Prop} {s : zJ} (hE : EqS s J) (h : LW s) (hT : TW s) (hP : PW s) (hD : 13 ≤ D) (hQ : ∀ J' : zJ, (∀ b : Nat, b < 92 ∨ 104 < b → J' b = J b) → Jdd s (s 40 0 0).toNat (J' 102 0) (J' 104 0) (J' 103 0) → Q (.inl none) 0 J' K) : zCall L xs D 46 [zr 101] J K Q := by
  obtain ⟨D, rfl⟩ : ∃ d, D = d + 1 := ⟨D - 1, by omega⟩
  have hn := lw_n h
  have hpn := pw_n hP
  refine z46 hL ?_
  refine c315x hL (by omega) fun J1 f1 g1 => zaV_of ?_
  refine c315y hL (by omega) fun J2 f2 g2 => zaV_of ?_
  have key : ∀ (n t : Nat) (J3 : zJ), n = (s 40 0 0).toNat - t → t ≤ (s 40 0 0).toNat → (∀ b : Nat, b < 92 ∨ 104 < b → J3 b = J b) → J3 101 0 7 = (jaP s t).1.1 → Jdd s t (J3 102 0) (J3 104 0) (J3 103 0) → zGo L xs (D + 1) 46 23 [some (zr 101), some (zi (t : Int))] [] J3 K Q := by
    intro n; induction n using Nat.strongRecOn with
    | _ n ih =>
    intro t J3 hm ht f3 g7 hj
    have hE3 : EqS s J3 := fun b x y => (f3 b (by omega)).trans (hE b x y)
    refine z46_23 hL ?_
    rw [hE3 40 (by decide) (by decide)]
    refine ⟨⟨by omega, by omega⟩, ⟨by omega, by omega⟩, fun q => ?_, fun q => ?_⟩
    · have e : t = (s 40 0 0).toNat := by omega
      subst e
      exact hQ J3 f3 hj
    · have hr := jaP_rng h hP (t := t) (by omega)
      have hrg := jdW_rng h (a := fun i => s 43 0 ((t : Int) * 7 + i)) 84 (jit (s 42 0) (s 41 0) t) (jaP s t).1.1 hr.1.1 hr.1.2 (rws_its h (rws_pw h hP) (t := t) (by omega) (by omega)).1 (rws_its h (rws_pw h hP) (t := t) (by omega) (by omega)).2.2.2.1
      refine c47 hL hE3 h hT hP (t := t) (by omega) (by omega) hr.1.1 hr.1.2 g7 (by omega) fun J4 f4 h7 hout h0 => zaI_of ?_
      have ej : (t : Int) + 1 = ((t + 1 : Nat) : Int) := by omega
      have h102 : J4 102 = J3 102 := f4 102 (by decide)
      have e102 : ∀ v : Int, (zup J4 102 0 (t : Int) v) 102 0 (t : Int) = v := fun v => zup_eq _ _ _ _ _
      rw [e102, ej]
      refine ⟨by omega, by omega, by omega, by omega, ⟨by omega, by omega⟩, fun q0 => ?_, fun q0 => ?_⟩
      · refine ih _ (by omega) (t + 1) _ rfl (by omega) (fun b x => ?_) ?_ (jdd_next hj (zup_eq _ _ _ _ _) (fun k k0 k1 => ?_) (fun z k k0 k1 => ?_) (fun z => absurd q0 z))
        · rw [zup_ne _ _ _ _ (by omega), f4 b (by omega)]
          exact f3 b x
        · rw [zup_ne _ _ _ _ (by decide)]
          exact h7
        · rw [zup_nk _ _ (by omega), h102]
        · rw [zup_ne _ _ _ _ (by decide), zup_ne _ _ _ _ (by decide), (h0 z).1, (h0 z).2]
          exact ⟨rfl, rfl⟩
      · have hE5 : EqS s (zup J4 102 0 (t : Int) (jdW s (fun i => s 43 0 ((t : Int) * 7 + i)) 84 (jit (s 42 0) (s 41 0) t) (jaP s t).1.1).1) := fun b x y => by
          rw [zup_ne _ _ _ _ (by omega), f4 b (by omega)]
          exact hE3 b x y
        refine c45 hL hE5 h hP (t := t) (by omega) (by omega) (by omega) fun J5 f5 m4 m3 => zaV_of ?_
        refine ih _ (by omega) (t + 1) _ rfl (by omega) (fun b x => ?_) ?_ (jdd_next hj ?_ (fun k k0 k1 => ?_) (fun z => absurd z q0) (fun z k k0 k1 => ?_))
        · rw [f5 b (by omega) (by omega), zup_ne _ _ _ _ (by omega), f4 b (by omega)]
          exact f3 b x
        · rw [f5 101 (by decide) (by decide), zup_ne _ _ _ _ (by decide)]
          exact h7
        · rw [f5 102 (by decide) (by decide), zup_eq]
        · rw [f5 102 (by decide) (by decide), zup_nk _ _ (by omega), h102]
        · rw [m4 k, m3 k, zup_ne _ _ _ _ (by decide), zup_ne _ _ _ _ (by decide)]
          cases hs : sgP (fun i => s 43 0 ((t : Int) * 7 + i)) 0 (s 42 0 t) k with
          | true => exact ⟨rfl, rfl⟩
          | false =>
            have := hout k hs
            rw [this.1, this.2]
            exact ⟨rfl, rfl⟩
  refine key _ 0 J2 rfl (by omega) (fun b x => ?_) ?_ ⟨fun k k0 k1 => by omega, fun k k0 k1 => ⟨g2 k k0 k1, ?_⟩⟩
  · rw [f2 b (by omega), f1 b (by omega), zup_ne _ _ _ _ (by omega)]
  · rw [f2 101 (by decide), f1 101 (by decide), zup_eq]
    rfl
  · rw [f2 103 (by decide), g1 k k0 k1]
    rfl
