/-! JUDGING ALL in the model; error, engine, arrives -/
def JdG (s : zJ) (rw : Int → Int → Int) (rm lv : Int → Int) (t : Nat) (er ar en : Int → Int) : Prop := (∀ k : Int, 0 ≤ k → k < t → er k = (jaS s rw rm lv t).1.2 k) ∧ ∀ k : Int, 0 ≤ k → k < 8 → ar k = (jaS s rw rm lv t).2.1 k ∧ en k = (jaS s rw rm lv t).2.2 k
theorem jdg_next {s : zJ} {rw : Int → Int → Int} {rm lv : Int → Int} {t : Nat} {er ar en er' ar' en' : Int → Int} (h : JdG s rw rm lv t er ar en) (he : er' t = (jdW s (rw t) 84 (jit rm lv t) (jaS s rw rm lv t).1.1).1) (hk : ∀ k : Int, 0 ≤ k → k < t → er' k = er k) (h0 : (jdW s (rw t) 84 (jit rm lv t) (jaS s rw rm lv t).1.1).1 = 0 → ∀ k : Int, 0 ≤ k → k < 8 → ar' k = wrV (fun w => w.2.2.1) (rw t) (jdW s (rw t) 84 (jit rm lv t) (jaS s rw rm lv t).1.1).2.2 ar k ∧ en' k = wrV (fun w => w.2.2.2) (rw t) (jdW s (rw t) 84 (jit rm lv t) (jaS s rw rm lv t).1.1).2.2 en k) (h1 : (jdW s (rw t) 84 (jit rm lv t) (jaS s rw rm lv t).1.1).1 ≠ 0 → ∀ k : Int, 0 ≤ k → k < 8 → ar' k = (if sgP (rw t) 0 (rm t) k = true then -1 else ar k) ∧ en' k = (if sgP (rw t) 0 (rm t) k = true then -1 else en k)) : JdG s rw rm lv (t + 1) er' ar' en' := by
  obtain ⟨g1, g2⟩ := h
  constructor
  · intro k k0 k1
    show er' k = dup (jaS s rw rm lv t).1.2 t _ k
    by_cases e : k = t
    · rw [e, dup_eq]
      exact he
    · rw [dup_ne _ e, hk k k0 (by omega)]
      exact g1 k k0 (by omega)
  · intro k k0 k1
    have g := g2 k k0 k1
    by_cases q : (jdW s (rw t) 84 (jit rm lv t) (jaS s rw rm lv t).1.1).1 = 0
    · have e : (jaS s rw rm lv (t + 1)).2 = (wrV (fun w => w.2.2.1) (rw t) (jdW s (rw t) 84 (jit rm lv t) (jaS s rw rm lv t).1.1).2.2 (jaS s rw rm lv t).2.1, wrV (fun w => w.2.2.2) (rw t) (jdW s (rw t) 84 (jit rm lv t) (jaS s rw rm lv t).1.1).2.2 (jaS s rw rm lv t).2.2) := if_pos q
      rw [e]
      obtain ⟨a1, a2⟩ := h0 q k k0 k1
      exact ⟨a1.trans (wrV_cong _ _ _ _ _ g.1), a2.trans (wrV_cong _ _ _ _ _ g.2)⟩
    · have e : (jaS s rw rm lv (t + 1)).2 = (fun k => if sgP (rw t) 0 (rm t) k = true then -1 else (jaS s rw rm lv t).2.1 k, fun k => if sgP (rw t) 0 (rm t) k = true then -1 else (jaS s rw rm lv t).2.2 k) := if_neg q
      rw [e]
      obtain ⟨a1, a2⟩ := h1 q k k0 k1
      rw [a1, a2, g.1, g.2]
      exact ⟨rfl, rfl⟩
theorem sgP_s {a : Int → Int} {i : Int} (i0 : 0 ≤ i) (k : Int) : sgP a 0 (i + 1) k = (sgP a 0 i k || decide (a i = k)) := by
  rw [Bool.eq_iff_iff, Bool.or_eq_true, sgP_t (Int.le_refl 0), sgP_t (Int.le_refl 0), decide_eq_true_iff]
  constructor
  · rintro ⟨j, j0, j1, j2⟩
    by_cases e : j = i
    · right
      rw [← e]
      exact j2
    · exact Or.inl ⟨j, j0, by omega, j2⟩
  · rintro (⟨j, j0, j1, j2⟩ | z)
    · exact ⟨j, j0, by omega, j2⟩
    · exact ⟨i, i0, by omega, z⟩
theorem sgP_0 (a : Int → Int) (k : Int) : sgP a 0 0 k = false := by
  rw [← Bool.not_eq_true, sgP_t (Int.le_refl 0)]
  rintro ⟨j, j0, j1, _⟩
  omega
theorem c255 {L : Nat} {xs : Nat → Int32} (hL : L ≤ 3072) {D : Nat} {J : zJ} {K : zK} {Q : zR → Nat → zJ → zK → Prop} {s : zJ} (hM : ML s J) (h : LW s) {rw : Int → Int → Int} {rm lv : Int → Int} {N : Int} (N0 : 0 ≤ N) (N4 : N ≤ 4) (hR : Rws s rw rm lv N) (hN : J 142 0 15 = N) (hrm : ∀ t : Int, 0 ≤ t → t < N → J 234 0 t = rm t ∧ J 235 0 t = lv t ∧ ∀ i : Int, 0 ≤ i → i < rm t → J 229 t i = rw t i) (hsh : ∀ p : Int, 0 ≤ p → p < 12 → J 236 0 p = zb (bt (s 40 0 10) p)) (hD : 24 ≤ D) (hQ : ∀ J' : zJ, (∀ b : Nat, b ≠ 255 → b ≠ 256 → b ≠ 257 → b ≠ 258 → b ≠ 261 → J' b = J b) → JdG s rw rm lv N.toNat (J' 255 0) (J' 256 0) (J' 257 0) → Q (.inl none) 0 J' K) : zCall L xs D 255 [zr 142] J K Q := by
  obtain ⟨D, rfl⟩ : ∃ d, D = d + 1 := ⟨D - 1, by omega⟩
  have hn := lw_n h
  have trains : ∀ (n t : Nat) (J3 : zJ), n = N.toNat - t → t ≤ N.toNat → (∀ b : Nat, b ≠ 255 → b ≠ 256 → b ≠ 257 → b ≠ 258 → b ≠ 261 → J3 b = J b) → TkM J3 (jaS s rw rm lv t).1.1 → JdG s rw rm lv t (J3 255 0) (J3 256 0) (J3 257 0) → zGo L xs (D + 1) 255 51 [some (zr 142), some (zi (t : Int)), none] [] J3 K Q := by
    intro n; induction n using Nat.strongRecOn with
    | _ n ih =>
    intro t J3 hm ht f3 hTk hj
    refine z255_51 hL ?_
    rw [f3 142 (by decide) (by decide) (by decide) (by decide) (by decide), hN]
    refine ⟨⟨by omega, by omega⟩, ⟨by omega, by omega⟩, fun q => ?_, fun q => ?_⟩
    · have e : t = N.toNat := by omega
      subst e
      exact hQ J3 f3 hj
    · obtain ⟨r1, r2, r3, r4, r5, r6, r7⟩ := hR t (by omega) q
      obtain ⟨m1, m2, m3⟩ := hrm t (by omega) q
      have e234 : J3 234 = J 234 := f3 234 (by decide) (by decide) (by decide) (by decide) (by decide)
      have e235 : J3 235 = J 235 := f3 235 (by decide) (by decide) (by decide) (by decide) (by decide)
      have e229 : J3 229 = J 229 := f3 229 (by decide) (by decide) (by decide) (by decide) (by decide)
      rw [e234, m1, e235, m2]
      have hr := jaS_rng h hR t (by omega)
      obtain ⟨q1, q2, q3, q4, q5⟩ := rws_its h hR (t := t) (by omega) q
      obtain ⟨j1, j2, j3⟩ := jdW_rng h (a := rw t) 84 (jit rm lv t) (jaS s rw rm lv t).1.1 hr.1.1 hr.1.2 q1 q4
      have ej : (t : Int) + 1 = ((t + 1 : Nat) : Int) := by omega
      refine ⟨by omega, by omega, ⟨by omega, by omega⟩, fun z => ⟨by omega, by omega, by omega, by omega, by omega, by omega, ?_⟩, fun z => ⟨by omega, by omega, ?_⟩⟩
      · have ejit : jit rm lv t = [(0, 0, rm t, lv t, -1)] := by
          unfold jit
          rw [if_neg z]
        have hS : Seg s (rw t) 0 0 (rm t) := by
          have := q1 (0, 0, rm t, lv t, -1) (by rw [ejit]; exact List.mem_singleton_self _)
          exact this
        refine c256 hL h (t := t) ⟨by omega, by omega⟩ (a := rw t) (N := rm t) r2 r5 12 D 0 0 (rm t) (lv t) (-1) (jaS s rw rm lv t).1.1 J3 _ (ml_eq hM (f3 _ (by decide) (by decide) (by decide) (by decide) (by decide)) (f3 _ (by decide) (by decide) (by decide) (by decide) (by decide)) (f3 _ (by decide) (by decide) (by decide) (by decide) (by decide)) (f3 _ (by decide) (by decide) (by decide) (by decide) (by decide)) (f3 _ (by decide) (by decide) (by decide) (by decide) (by decide))) (fun p x y => by rw [f3 236 (by decide) (by decide) (by decide) (by decide) (by decide)]; exact hsh p x y) hS (Int.le_refl _) (fun j x y => by rw [e229]; exact m3 j x y) (by omega) (by omega) hr.1.1 hr.1.2 hTk (fun y => absurd rfl y) (by decide) fun J4 f4 rr4 ht4 hout hz => zaI_of ⟨by omega, by omega, ?_⟩
        rw [← ejit] at ht4 hz ⊢
        have forget : ∀ (m : Nat) (k : Int) (J5 : zJ), m = (rm t - k).toNat → 0 ≤ k → k ≤ rm t → (∀ b : Nat, b ≠ 256 → b ≠ 257 → J5 b = (zup J4 255 0 (t : Int) (jdW s (rw t) 84 (jit rm lv t) (jaS s rw rm lv t).1.1).1) b) → ((jdW s (rw t) 84 (jit rm lv t) (jaS s rw rm lv t).1.1).1 = 0 → J5 256 = J4 256 ∧ J5 257 = J4 257) → ((jdW s (rw t) 84 (jit rm lv t) (jaS s rw rm lv t).1.1).1 ≠ 0 → ∀ i : Int, J5 256 0 i = (if sgP (rw t) 0 k i = true then -1 else J4 256 0 i) ∧ J5 257 0 i = (if sgP (rw t) 0 k i = true then -1 else J4 257 0 i)) → zGo L xs (D + 1) 255 105 [some (zr 142), some (zi (t : Int)), some (zi k)] [] J5 K Q := by
          intro m; induction m using Nat.strongRecOn with
          | _ m ihm =>
          intro k J5 hmk a0 a1 f5 z5 w5
          have e5 : ∀ b : Nat, b ≠ 255 → b ≠ 256 → b ≠ 257 → b ≠ 258 → b ≠ 261 → J5 b = J b := fun b x1 x2 x3 x4 x5 => by
            rw [f5 b x2 x3, zup_ne _ _ _ _ x1, f4 b x2 x3 x4 x5]
            exact f3 b x1 x2 x3 x4 x5
          have e255 : J5 255 0 (t : Int) = (jdW s (rw t) 84 (jit rm lv t) (jaS s rw rm lv t).1.1).1 := by
            rw [f5 255 (by decide) (by decide), zup_eq]
          have e255k : ∀ k : Int, k ≠ t → J5 255 0 k = J3 255 0 k := fun k hk => by
            rw [f5 255 (by decide) (by decide), zup_nk _ _ hk, f4 255 (by decide) (by decide) (by decide) (by decide)]
          have htk5 : TkM J5 (jaS s rw rm lv (t + 1)).1.1 := fun e x y => by
            rw [f5 258 (by decide) (by decide), zup_ne _ _ _ _ (by decide)]
            exact ht4 e x y
          refine z255_105 hL ?_
          rw [e5 234 (by decide) (by decide) (by decide) (by decide) (by decide), m1, e255, e5 229 (by decide) (by decide) (by decide) (by decide) (by decide)]
          -- on to the next train
          have nxt : ((jdW s (rw t) 84 (jit rm lv t) (jaS s rw rm lv t).1.1).1 = 0 ∨ k = rm t) → zGo L xs (D + 1) 255 51 [some (zr 142), some (zi ((t : Int) + 1)), none] [] J5 K Q := by
            intro hor
            rw [ej]
            refine ih _ (by omega) (t + 1) J5 rfl (by omega) e5 htk5 (jdg_next hj e255 (fun k k0 k1 => e255k k (by omega)) (fun zz k k0 k1 => ?_) (fun zz k k0 k1 => ?_))
            · obtain ⟨b6, b7⟩ := hz zz
              rw [(z5 zz).1, (z5 zz).2, b6, b7]
              exact ⟨rfl, rfl⟩
            · have ek : _ := hor.resolve_left zz
              obtain ⟨b6, b7⟩ := w5 zz k
              rw [ek] at b6 b7
              rw [b6, b7]
              cases hs : sgP (rw t) 0 (rm t) k with
              | true => exact ⟨rfl, rfl⟩
              | false =>
                have := hout k hs
                rw [this.1, this.2]
                exact ⟨rfl, rfl⟩
          refine ⟨by omega, by omega, ⟨by omega, by omega⟩, ⟨by omega, by omega⟩, fun y => nxt (Or.inr (by omega)), fun y => ⟨by omega, by omega, ⟨by omega, by omega⟩, fun zz => nxt (Or.inl zz), fun zz => ?_⟩⟩
          have hrk := r7 k a0 y
          rw [m3 k a0 y]
          refine ⟨by omega, by omega, by omega, by omega, by omega, by omega, by omega, by omega, by omega, by omega, by omega, by omega, by omega, by omega, by omega, by omega, ihm _ (by omega) (k + 1) _ rfl (by omega) (by omega) (fun b x1 x2 => by rw [zup_ne _ _ _ _ x2, zup_ne _ _ _ _ x1]; exact f5 b x1 x2) (fun y => absurd y zz) (fun _ i => ?_)⟩
          obtain ⟨b6, b7⟩ := w5 zz i
          rw [sgP_s a0]
          by_cases ei : i = rw t k
          · rw [ei, zup_ne _ _ _ _ (by decide), zup_eq, zup_eq, decide_eq_true rfl, Bool.or_true]
            exact ⟨rfl, rfl⟩
          · rw [zup_ne _ _ _ _ (by decide), zup_nk _ _ ei, zup_nk _ _ ei, zup_ne _ _ _ _ (by decide), decide_eq_false (fun y => ei y.symm), Bool.or_false]
            exact ⟨b6, b7⟩
        refine forget _ 0 _ rfl (by decide) (by omega) (fun _ _ _ => rfl) (fun _ => ⟨zup_ne _ _ _ _ (by decide), zup_ne _ _ _ _ (by decide)⟩) (fun _ i => ?_)
        rw [sgP_0, zup_ne _ _ _ _ (by decide), zup_ne _ _ _ _ (by decide)]
        exact ⟨rfl, rfl⟩
      · have ejit : jit rm lv t = [] := by
          unfold jit
          rw [if_pos z]
        have hjw : jdW s (rw t) 84 (jit rm lv t) (jaS s rw rm lv t).1.1 = (0, (jaS s rw rm lv t).1.1, []) := by rw [ejit, jdW_nil]
        refine z255_105 hL ?_
        rw [zup_ne _ _ _ _ (show (234 : Nat) ≠ 255 by decide), e234, m1]
        refine ⟨by omega, by omega, ⟨by omega, by omega⟩, ⟨by omega, by omega⟩, fun _ => ?_, fun y => by omega⟩
        rw [ej]
        refine ih _ (by omega) (t + 1) _ rfl (by omega) (fun b x1 x2 x3 x4 x5 => by rw [zup_ne _ _ _ _ x1]; exact f3 b x1 x2 x3 x4 x5) (fun e x y => ?_) (jdg_next hj ?_ (fun k k0 k1 => zup_nk _ _ (by omega)) (fun _ k k0 k1 => ?_) (fun zz => ?_))
        · rw [zup_ne _ _ _ _ (by decide)]
          have e2 : (jaS s rw rm lv (t + 1)).1.1 = (jaS s rw rm lv t).1.1 := by
            show (jdW s (rw t) 84 (jit rm lv t) (jaS s rw rm lv t).1.1).2.1 = _
            rw [hjw]
          rw [e2]
          exact hTk e x y
        · rw [zup_eq, hjw]
        · rw [hjw, zup_ne _ _ _ _ (by decide), zup_ne _ _ _ _ (by decide)]
          exact ⟨rfl, rfl⟩
        · rw [hjw] at zz
          exact absurd rfl zz
  have clear : ∀ (n : Nat) (k : Int) (J2 : zJ), n = (8 - k).toNat → 0 ≤ k → k ≤ 8 → (∀ b : Nat, b ≠ 256 → b ≠ 257 → b ≠ 258 → J2 b = J b) → (∀ e : Int, 0 ≤ e → e < 8 → J2 258 0 e = 0) → (∀ e : Int, 0 ≤ e → e < k → J2 256 0 e = -1 ∧ J2 257 0 e = -1) → zGo L xs (D + 1) 255 23 [some (zr 142), some (zi k), none] [] J2 K Q := by
    intro n; induction n using Nat.strongRecOn with
  | _ n ih =>
    intro k J2 hm k0 k1 f2 g8 g6
    refine z255_23 hL ⟨⟨by omega, by omega⟩, ⟨by omega, by omega⟩, fun q => ?_, fun q => ⟨k0, q, k0, q, ih _ (by omega) (k + 1) _ rfl (by omega) (by omega) (fun b x y z => by rw [zup_ne _ _ _ _ y, zup_ne _ _ _ _ x]; exact f2 b x y z) (fun e x y => by rw [zup_ne _ _ _ _ (by decide), zup_ne _ _ _ _ (by decide)]; exact g8 e x y) fun e x y => ?_⟩⟩
    · refine trains _ 0 J2 rfl (by omega) (fun b _ x y z _ => f2 b x y z) (fun e x y => ?_) ⟨fun k k0 k1 => by omega, fun e x y => ?_⟩
      · rw [g8 e x y]
        show (0 : Int) = zb (bt 0 e)
        rw [bt_z]
        rfl
      · exact g6 e x (by omega)
    · by_cases e2 : e = k
      · rw [e2, zup_ne _ _ _ _ (by decide), zup_eq, zup_eq]
        exact ⟨rfl, rfl⟩
      · rw [zup_ne _ _ _ _ (by decide), zup_nk _ _ e2, zup_nk _ _ e2, zup_ne _ _ _ _ (by decide)]
        exact g6 e x (by omega)
  have clear8 : ∀ (n : Nat) (k : Int) (J2 : zJ), n = (8 - k).toNat → 0 ≤ k → k ≤ 8 → (∀ b : Nat, b ≠ 258 → J2 b = J b) → (∀ e : Int, 0 ≤ e → e < k → J2 258 0 e = 0) → zGo L xs (D + 1) 255 2 [some (zr 142), some (zi k), none] [] J2 K Q := by
    intro n; induction n using Nat.strongRecOn with
  | _ n ih =>
    intro k J2 hm k0 k1 f2 g8
    refine z255_2 hL ⟨⟨by omega, by omega⟩, ⟨by omega, by omega⟩, fun q => clear _ 0 J2 rfl (by decide) (by decide) (fun b _ _ z => f2 b z) (fun e x y => g8 e x (by omega)) (fun e x y => by omega), fun q => ⟨k0, q, ih _ (by omega) (k + 1) _ rfl (by omega) (by omega) (fun b z => by rw [zup_ne _ _ _ _ z]; exact f2 b z) fun e x y => ?_⟩⟩
    by_cases e2 : e = k
    · rw [e2, zup_eq, zbol_0]
    · rw [zup_nk _ _ e2]
      exact g8 e x (by omega)
  exact z255 hL (clear8 _ 0 J rfl (by decide) (by decide) (fun _ _ => rfl) fun e x y => by omega)
/-- the plan's trains -/
theorem c255p {L : Nat} {xs : Nat → Int32} (hL : L ≤ 3072) {D : Nat} {J : zJ} {K : zK} {Q : zR → Nat → zJ → zK → Prop} {s : zJ} (hM : ML s J) (h : LW s) (hP : PW s) (hC : MC s J) (hD : 24 ≤ D) (hQ : ∀ J' : zJ, (∀ b : Nat, b ≠ 255 → b ≠ 256 → b ≠ 257 → b ≠ 258 → b ≠ 261 → J' b = J b) → JdG s (fun t i => s 43 0 (t * 7 + i)) (s 42 0) (s 41 0) (s 40 0 0).toNat (J' 255 0) (J' 256 0) (J' 257 0) → Q (.inl none) 0 J' K) : zCall L xs D 255 [zr 142] J K Q := by
  have hpn := pw_n hP
  exact c255 hL hM h hpn.1 hpn.2.1 (rws_pw h hP) (mc_n hC).1 (fun t t0 t1 => ⟨(mc_t hC t0 t1).1, (mc_t hC t0 t1).2.1, (mc_t hC t0 t1).2.2⟩) (fun p p0 p1 => (mc_p hC p0 p1).1) hD hQ
theorem fm_jd {J J' : zJ} (h : ∀ b : Nat, b ≠ 255 → b ≠ 256 → b ≠ 257 → b ≠ 258 → b ≠ 261 → J' b = J b) : FrM J J' := by
  have e := h 142 (by decide) (by decide) (by decide) (by decide) (by decide)
  exact ⟨fun b x y => h b (by omega) (by omega) (by omega) (by omega) (by omega), by rw [e], by rw [e], by rw [e], by rw [e], by rw [e], by rw [e]⟩
theorem op12 {G : zJ → zK → Prop} (hG : GOk G) : ∀ a : Int, zin a → OpW (Inv G) 330 4 150 218 zin [zi a] := by
  intro a ha
  intro L xs D D2 J K hL hD hD2 hI; obtain ⟨⟨hW, hT, hP, hM, hC, hTp, hF, hIm⟩, hg⟩ := id hI; have hE := eqs_rfl J; have hn := lw_n hW; have hpn := pw_n hP
  obtain ⟨D, rfl⟩ : ∃ d, D = d + 1 := ⟨D - 1, by omega⟩
  obtain ⟨D2, rfl⟩ : ∃ d, D2 = d + 1 := ⟨D2 - 1, by omega⟩
  refine z150 hL ?_
  refine c169 hL hE (by omega) (by omega) ha (fun h0 h1 => zaV_of ?_) fun hc => zaV_ex (Or.inr ⟨3, 1, rfl, rfl, zonb_ok (by decide +kernel), by decide, by decide, ?_⟩)
  · have hr := jaP_rng hW hP (t := (J 40 0 0).toNat) (by omega)
    refine c46 hL hE hW hT hP (by omega) fun J1 f1 hj => zaV_of ⟨h0, by omega, Or.inl ⟨_, rfl, rfl, ?_, fun x => ?_⟩⟩
    · have := hr.2.1 a h0 (by omega)
      rw [hj.1 a h0 (by omega)]
      exact ⟨by omega, by omega⟩
    · have fc : FrC J J1 := fun b hb => f1 b (by omega)
      have t1 : zup J1 142 0 0 0 142 0 0 = 0 := zup_eq _ _ _ _ _
      have hM1 := ml_fm (ml_fc hM fc) (fm_t J1 0)
      have hC1 := mc_fm (mc_fc hC fc) (fm_t J1 0)
      refine z218 hL ?_
      refine c252 hL (by omega) hC1.1 (by omega) ha (zaI_of ⟨zin_zb _, fun _ => ?_, fun q => by rw [zb_0, decide_eq_false_iff_not] at q; omega⟩)
      refine c195F hL (by omega) t1 (zaI_of ⟨zin_0, fun _ => ?_, fun q => absurd rfl q⟩)
      refine c255p hL hM1 hW hP hC1 (by omega) fun J2 f2 hg => zaV_of ⟨h0, by omega, ?_⟩
      rw [hj.1 a h0 (by omega), hg.1 a h0 (by omega)]
      have fm := fm_tr (fm_t J1 0) (fm_jd f2)
      exact ⟨rfl, rfl, by rw [f2 142 (by decide) (by decide) (by decide) (by decide) (by decide)]; exact t1, zku_o K x, inv_q hG hI fc fm (zku_n _ _ (by decide))⟩
  · have hC0 := mc_fm hC (fm_t J 0)
    have t0 : zup J 142 0 0 0 142 0 0 = 0 := zup_eq _ _ _ _ _
    have fin := fin_x hG hI (fc_rfl J) (fm_t2 J 0 1) rfl (zup_eq _ _ _ _ _) 0 zin_0
    refine z218 hL ?_
    refine c252 hL (by omega) hC0.1 (by omega) ha (zaI_of ⟨zin_zb _, fun q => by rw [zb_1, decide_eq_true_iff] at q; omega, fun _ => ?_⟩)
    exact c195T hL (by omega) t0 (by decide) (zaI_of ⟨zin_1, fun q => absurd q (by decide), fun _ => fin⟩)
theorem op13 {G : zJ → zK → Prop} (hG : GOk G) : ∀ a : Int, zin a → OpW (Inv G) 329 4 149 217 zin [zi a] := by
  intro a ha
  intro L xs D D2 J K hL hD hD2 hI; obtain ⟨⟨hW, hT, hP, hM, hC, hTp, hF, hIm⟩, hg⟩ := id hI; have hE := eqs_rfl J; have hn := lw_n hW; have hpn := pw_n hP
  obtain ⟨D, rfl⟩ : ∃ d, D = d + 1 := ⟨D - 1, by omega⟩
  obtain ⟨D2, rfl⟩ : ∃ d, D2 = d + 1 := ⟨D2 - 1, by omega⟩
  refine z149 hL ?_
  refine c167 hL hE hW (by omega) ha (fun h0 h1 => zaV_of ?_) fun hc => zaV_ex (Or.inr ⟨0, 1, rfl, rfl, zonb_ok (by decide +kernel), by decide, by decide, ?_⟩)
  · have hr := jaP_rng hW hP (t := (J 40 0 0).toNat) (by omega)
    refine c46 hL hE hW hT hP (by omega) fun J1 f1 hj => zaV_of ⟨h0, by omega, Or.inl ⟨_, rfl, rfl, ?_, fun x => ?_⟩⟩
    · have := hr.2.2.2 a
      rw [(hj.2 a h0 (by omega)).2]
      exact ⟨by omega, by omega⟩
    · have fc : FrC J J1 := fun b hb => f1 b (by omega)
      have t1 : zup J1 142 0 0 0 142 0 0 = 0 := zup_eq _ _ _ _ _
      have hM1 := ml_fm (ml_fc hM fc) (fm_t J1 0)
      have hC1 := mc_fm (mc_fc hC fc) (fm_t J1 0)
      refine z217 hL ?_
      refine c249 hL hM1 hW (by omega) ha (zaI_of ⟨zin_zb _, fun _ => ?_, fun q => by rw [zb_0, decide_eq_false_iff_not] at q; omega⟩)
      refine c195F hL (by omega) t1 (zaI_of ⟨zin_0, fun _ => ?_, fun q => absurd rfl q⟩)
      refine c255p hL hM1 hW hP hC1 (by omega) fun J2 f2 hg => zaV_of ⟨h0, by omega, ?_⟩
      rw [(hj.2 a h0 (by omega)).2, (hg.2 a h0 (by omega)).2]
      have fm := fm_tr (fm_t J1 0) (fm_jd f2)
      exact ⟨rfl, rfl, by rw [f2 142 (by decide) (by decide) (by decide) (by decide) (by decide)]; exact t1, zku_o K x, inv_q hG hI fc fm (zku_n _ _ (by decide))⟩
  · have hM0 := ml_fm hM (fm_t J 0)
    have t0 : zup J 142 0 0 0 142 0 0 = 0 := zup_eq _ _ _ _ _
    have fin := fin_x hG hI (fc_rfl J) (fm_t2 J 0 1) rfl (zup_eq _ _ _ _ _) 0 zin_0
    refine z217 hL ?_
    refine c249 hL hM0 hW (by omega) ha (zaI_of ⟨zin_zb _, fun q => by rw [zb_1, decide_eq_true_iff] at q; omega, fun _ => ?_⟩)
    exact c195T hL (by omega) t0 (by decide) (zaI_of ⟨zin_1, fun q => absurd q (by decide), fun _ => fin⟩)
theorem op14 {G : zJ → zK → Prop} (hG : GOk G) : ∀ a : Int, zin a → OpW (Inv G) 322 4 138 194 zin [zi a] := by
  intro a ha
  intro L xs D D2 J K hL hD hD2 hI; obtain ⟨⟨hW, hT, hP, hM, hC, hTp, hF, hIm⟩, hg⟩ := id hI; have hE := eqs_rfl J; have hn := lw_n hW; have hpn := pw_n hP
  obtain ⟨D, rfl⟩ : ∃ d, D = d + 1 := ⟨D - 1, by omega⟩
  obtain ⟨D2, rfl⟩ : ∃ d, D2 = d + 1 := ⟨D2 - 1, by omega⟩
  refine z138 hL ?_
  refine c167 hL hE hW (by omega) ha (fun h0 h1 => zaV_of ?_) fun hc => zaV_ex (Or.inr ⟨0, 1, rfl, rfl, zonb_ok (by decide +kernel), by decide, by decide, ?_⟩)
  · have hr := jaP_rng hW hP (t := (J 40 0 0).toNat) (by omega)
    refine c46 hL hE hW hT hP (by omega) fun J1 f1 hj => zaV_of ⟨h0, by omega, Or.inl ⟨_, rfl, rfl, ?_, fun x => ?_⟩⟩
    · have := hr.2.2.1 a
      rw [(hj.2 a h0 (by omega)).1]
      exact ⟨by omega, by omega⟩
    · have fc : FrC J J1 := fun b hb => f1 b (by omega)
      have t1 : zup J1 142 0 0 0 142 0 0 = 0 := zup_eq _ _ _ _ _
      have hM1 := ml_fm (ml_fc hM fc) (fm_t J1 0)
      have hC1 := mc_fm (mc_fc hC fc) (fm_t J1 0)
      refine z194 hL ?_
      refine c249 hL hM1 hW (by omega) ha (zaI_of ⟨zin_zb _, fun _ => ?_, fun q => by rw [zb_0, decide_eq_false_iff_not] at q; omega⟩)
      refine c195F hL (by omega) t1 (zaI_of ⟨zin_0, fun _ => ?_, fun q => absurd rfl q⟩)
      refine c255p hL hM1 hW hP hC1 (by omega) fun J2 f2 hg => zaV_of ⟨h0, by omega, ?_⟩
      rw [(hj.2 a h0 (by omega)).1, (hg.2 a h0 (by omega)).1]
      have fm := fm_tr (fm_t J1 0) (fm_jd f2)
      exact ⟨rfl, rfl, by rw [f2 142 (by decide) (by decide) (by decide) (by decide) (by decide)]; exact t1, zku_o K x, inv_q hG hI fc fm (zku_n _ _ (by decide))⟩
  · have hM0 := ml_fm hM (fm_t J 0)
    have t0 : zup J 142 0 0 0 142 0 0 = 0 := zup_eq _ _ _ _ _
    have fin := fin_x hG hI (fc_rfl J) (fm_t2 J 0 1) rfl (zup_eq _ _ _ _ _) 0 zin_0
    refine z194 hL ?_
    refine c249 hL hM0 hW (by omega) ha (zaI_of ⟨zin_zb _, fun q => by rw [zb_1, decide_eq_true_iff] at q; omega, fun _ => ?_⟩)
    exact c195T hL (by omega) t0 (by decide) (zaI_of ⟨zin_1, fun q => absurd q (by decide), fun _ => fin⟩)
