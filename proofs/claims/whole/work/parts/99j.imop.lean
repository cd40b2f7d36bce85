/-! IMAGES: keeping a plan -/
/-- a plan as far as it is used -/
def PlE (s s' : zJ) : Prop := (s' 40 0 0 = s 40 0 0 ∧ s' 40 0 5 = s 40 0 5 ∧ s' 40 0 10 = s 40 0 10) ∧ (∀ k : Int, 0 ≤ k → k < 4 → s' 41 0 k = s 41 0 k) ∧ (∀ k : Int, 0 ≤ k → k < 4 → s' 42 0 k = s 42 0 k) ∧ (∀ k : Int, 0 ≤ k → k < 28 → s' 43 0 k = s 43 0 k) ∧ (∀ k : Int, 0 ≤ k → k < 7 → s' 44 0 k = s 44 0 k) ∧ (∀ k : Int, 0 ≤ k → k < 14 → s' 45 0 k = s 45 0 k) ∧ (∀ k : Int, 0 ≤ k → k < 14 → s' 46 0 k = s 46 0 k) ∧ (∀ k : Int, 0 ≤ k → k < 14 → s' 47 0 k = s 47 0 k) ∧ (∀ k : Int, 0 ≤ k → k < 14 → s' 48 0 k = s 48 0 k) ∧ (∀ k : Int, 0 ≤ k → k < 12 → s' 49 0 k = s 49 0 k) ∧ (∀ k : Int, 0 ≤ k → k < 7 → s' 50 0 k = s 50 0 k) ∧ (∀ k : Int, 0 ≤ k → k < 7 → s' 51 0 k = s 51 0 k)
theorem pw_c {s s' : zJ} (h : PW s) (hn : s 18 0 6 ≤ 7) (e18 : s' 18 = s 18) (e19 : s' 19 = s 19) (e20 : s' 20 = s 20) (hp : PlE s s') : PW s' := by
  obtain ⟨⟨p0, p5, p10⟩, p41, p42, p43, p44, p45, p46, p47, p48, p49, p50, p51⟩ := hp
  have hpn := pw_n h
  refine ⟨by rw [p0, p5, p10]; exact h.1, fun t a b => ?_, fun t i a b c d => ?_, fun t i j a b c d e => ?_, fun k a b => ?_, by rw [p0, e18]; exact h.2.2.2.2.2.1, fun j a b => ?_, fun p a b => ?_, fun k a b => ?_⟩
  · rw [p0] at b
    rw [p41 t a (by omega), p42 t a (by omega), e18]
    exact pw_t h a b
  · rw [p0] at b
    rw [p42 t a (by omega)] at d
    have ht := pw_t h a b
    have hr := pw_r h a b c d
    rw [p43 (t * 7 + i) (by omega) (by omega), e18, p44 _ hr.1 (by omega)]
    exact hr
  · rw [p0] at b
    rw [p42 t a (by omega)] at e
    have ht := pw_t h a b
    rw [p43 (t * 7 + i) (by omega) (by omega), p43 (t * 7 + j) (by omega) (by omega)]
    exact pw_d h a b c d e
  · rw [e18] at b
    have hk := pw_k h a b
    rw [p44 k a (by omega), p0]
    refine ⟨hk.1, hk.2.1, fun z => ?_⟩
    obtain ⟨i, i0, i1, i2⟩ := hk.2.2 z
    have ht := pw_t h z hk.2.1
    exact ⟨i, i0, by rw [p42 _ z (by omega)]; exact i1, by rw [p43 _ (by omega) (by omega)]; exact i2⟩
  · rw [p5] at b
    rw [p45 j a (by omega), p46 j a (by omega), p47 j a (by omega), p48 j a (by omega), e18, way_eq e19 e20]
    exact pw_j h a b
  · rw [p49 p a b]
    exact pw_w h a b
  · rw [p50 k a b, p51 k a b]
    exact pw_e h a b
theorem mp_c {s s' : zJ} {tr jb : Int} {rm lv sh wt ev dy : Int → Int} {rw jo : Int → Int → Int} (h : MP s tr jb rm lv sh wt ev dy rw jo) (hP : PW s) (hn : s 18 0 6 ≤ 7) (e18 : s' 18 = s 18) (hp : PlE s s') : MP s' tr jb rm lv sh wt ev dy rw jo := by
  obtain ⟨⟨p0, p5, p10⟩, p41, p42, p43, p44, p45, p46, p47, p48, p49, p50, p51⟩ := hp
  have hpn := pw_n hP
  refine ⟨by rw [p0]; exact h.1, by rw [p5]; exact h.2.1, fun t a b => ?_, fun p a b => ?_, fun k a b => ?_, fun j a b => ?_⟩
  · rw [p0] at b
    have ht := pw_t hP a b
    obtain ⟨h1, h2, h3⟩ := h.2.2.1 t a b
    refine ⟨by rw [p42 t a (by omega)]; exact h1, by rw [p41 t a (by omega)]; exact h2, fun i c d => ?_⟩
    rw [p42 t a (by omega)] at d
    rw [p43 (t * 7 + i) (by omega) (by omega)]
    exact h3 i c d
  · rw [p10, p49 p a b]
    exact h.2.2.2.1 p a b
  · rw [e18] at b
    rw [p51 k a (by omega), p50 k a (by omega)]
    exact h.2.2.2.2.1 k a b
  · rw [p5] at b
    rw [p45 j a (by omega), p46 j a (by omega), p47 j a (by omega), p48 j a (by omega)]
    exact h.2.2.2.2.2 j a b
theorem mp_m {s : zJ} {tr jb tr' jb' : Int} {rm lv sh wt ev dy rm' lv' sh' wt' ev' dy' : Int → Int} {rw jo rw' jo' : Int → Int → Int} (h : MP s tr jb rm lv sh wt ev dy rw jo) (hP : PW s) (hn : s 18 0 6 ≤ 7) (e1 : tr' = tr) (e2 : jb' = jb) (e3 : ∀ t : Int, 0 ≤ t → t < 4 → rm' t = rm t ∧ lv' t = lv t ∧ ∀ i : Int, 0 ≤ i → i < 8 → rw' t i = rw t i) (e4 : ∀ p : Int, 0 ≤ p → p < 12 → sh' p = sh p ∧ wt' p = wt p) (e5 : ∀ k : Int, 0 ≤ k → k < 8 → ev' k = ev k ∧ dy' k = dy k) (e6 : ∀ j c : Int, 0 ≤ j → j < 14 → 0 ≤ c → c < 4 → jo' j c = jo j c) : MP s tr' jb' rm' lv' sh' wt' ev' dy' rw' jo' := by
  have hpn := pw_n hP
  refine ⟨e1.trans h.1, e2.trans h.2.1, fun t a b => ?_, fun p a b => ?_, fun k a b => ?_, fun j a b => ?_⟩
  · have ht := pw_t hP a b
    obtain ⟨h1, h2, h3⟩ := h.2.2.1 t a b
    obtain ⟨f1, f2, f3⟩ := e3 t a (by omega)
    exact ⟨f1.trans h1, f2.trans h2, fun i c d => (f3 i c (by omega)).trans (h3 i c d)⟩
  · obtain ⟨f1, f2⟩ := e4 p a b
    exact ⟨f1.trans (h.2.2.2.1 p a b).1, f2.trans (h.2.2.2.1 p a b).2⟩
  · obtain ⟨f1, f2⟩ := e5 k a (by omega)
    exact ⟨f1.trans (h.2.2.2.2.1 k a b).1, f2.trans (h.2.2.2.2.1 k a b).2⟩
  · have hj := h.2.2.2.2.2 j a b
    exact ⟨(e6 j 0 a (by omega) (by decide) (by decide)).trans hj.1, (e6 j 1 a (by omega) (by decide) (by decide)).trans hj.2.1, (e6 j 2 a (by omega) (by decide) (by decide)).trans hj.2.2.1, (e6 j 3 a (by omega) (by decide) (by decide)).trans hj.2.2.2⟩
theorem shf_lo {J : zJ} {i b : Nat} (h : b < 40 ∨ 51 < b) : shf J i b = J b := if_neg (by omega)
theorem shf_hi {J : zJ} {i b : Nat} (h : 40 ≤ b ∧ b ≤ 51) : shf J i b = J (b + 13 + 12 * i) := if_pos h
/-- the images that stay as they are -/
theorem im_row {J J' : zJ} {i : Nat} (h : PW (shf J i) ∧ MJ J i) (e : ∀ b : Nat, 18 ≤ b → b ≤ 39 → J' b = J b) (e2 : ∀ b : Nat, 53 + 12 * i ≤ b → b ≤ 64 + 12 * i → J' b = J b) (e3 : ∀ k : Int, J' 557 i k = J 557 i k) : PW (shf J' i) ∧ MJ J' i := by
  have el : ∀ b : Nat, 18 ≤ b → b ≤ 39 → shf J' i b = shf J i b := fun b x y => by rw [shf_lo (by omega), shf_lo (by omega)]; exact e b x y
  have eh : ∀ b : Nat, 40 ≤ b → b ≤ 51 → shf J' i b = shf J i b := fun b x y => by rw [shf_hi ⟨x, y⟩, shf_hi ⟨x, y⟩]; exact e2 _ (by omega) (by omega)
  refine ⟨pw_s h.1 (el _ (by decide) (by decide)) (el _ (by decide) (by decide)) (el _ (by decide) (by decide)) eh, ?_⟩
  have h2 := h.2
  unfold MJ at h2 ⊢
  simp only [e3]
  exact mp_s h2 (el _ (by decide) (by decide)) eh
theorem img_ok {J J2 : zJ} {i : Nat} (h : In J) (hi : (i : Int) = J 0 0 8) (hi3 : i < 3) (a : ∀ b : Nat, b ≠ 0 → b ≠ 142 → b ≠ 557 → b < 53 + 12 * i ∨ 64 + 12 * i < b → J2 b = J b) (z1 : J2 0 0 1 = J 0 0 1) (z2 : J2 0 0 2 = J 0 0 2) (z8 : J2 0 0 8 = (i : Int) + 1) (f : ∀ k : Int, k = 1 ∨ k = 3 ∨ k = 14 ∨ k = 15 ∨ k = 16 → J2 142 0 k = J 142 0 k) (f17 : J2 142 0 17 = (i : Int) + 1) (d1 : ∀ y k : Int, y ≠ i → J2 557 y k = J 557 y k) (d2 : ∀ k : Int, 0 ≤ k → k < 138 → J2 557 i k = rd J k) (hp : PlE J (shf J2 i)) : In J2 := by
  obtain ⟨h1, h2, h3, h4, h5, h6, h7, h8⟩ := h
  have hn := lw_n h1
  have ac : ∀ b : Nat, 18 ≤ b → b ≤ 39 → J2 b = J b := fun b x y => a b (by omega) (by omega) (by omega) (by omega)
  have ap : ∀ b : Nat, 40 ≤ b → b ≤ 51 → J2 b = J b := fun b x y => a b (by omega) (by omega) (by omega) (by omega)
  have am : ∀ b : Nat, 143 ≤ b → b ≤ 240 → J2 b = J b := fun b x y => a b (by omega) (by omega) (by omega) (by omega)
  have hC : MC J J2 := mc_eq h5 (f 15 (by decide)) (f 16 (by decide)) (am _ (by decide) (by decide)) (am _ (by decide) (by decide)) (am _ (by decide) (by decide)) (am _ (by decide) (by decide)) (am _ (by decide) (by decide)) (am _ (by decide) (by decide)) (am _ (by decide) (by decide)) (am _ (by decide) (by decide))
  have e18 := ac 18 (by decide) (by decide)
  refine ⟨lw_eq h1 fun b x y => ac b x (by omega), tw_s h2 ac, pw_s h3 e18 (ac _ (by decide) (by decide)) (ac _ (by decide) (by decide)) ap, ?_, mp_s hC e18 ap, ?_, ?_, ?_⟩
  · exact ml_s (ml_eq h4 (am _ (by decide) (by decide)) (am _ (by decide) (by decide)) (am _ (by decide) (by decide)) (am _ (by decide) (by decide)) (am _ (by decide) (by decide))) ac
  · unfold TP at h6 ⊢
    rw [z1, f 1 (by decide), am 143 (by decide) (by decide), a 1 (by decide) (by decide) (by decide) (by omega)]
    exact h6
  · rw [z2, f 3 (by decide), f 14 (by decide), e18]
    exact h7
  · rw [z8, f17]
    refine ⟨by omega, by omega, rfl, fun j hj => ?_⟩
    by_cases e : j = i
    · subst e
      have l18 : shf J2 j 18 = J 18 := by rw [shf_lo (by omega)]; exact e18
      have hP2 : PW (shf J2 j) := pw_c h3 hn.2.2.2.1 l18 (by rw [shf_lo (by omega)]; exact ac _ (by decide) (by decide)) (by rw [shf_lo (by omega)]; exact ac _ (by decide) (by decide)) hp
      refine ⟨hP2, ?_⟩
      have hm : MP (shf J2 j) (J 142 0 15) (J 142 0 16) (J 234 0) (J 235 0) (J 236 0) (J 237 0) (J 238 0) (J 239 0) (J 229) (J 240) := mp_c h5 h3 hn.2.2.2.1 l18 hp
      unfold MJ
      refine mp_m hm hP2 (by rw [l18]; exact hn.2.2.2.1) (d2 0 (by decide) (by decide)) (d2 1 (by decide) (by decide)) (fun t t0 t1 => ⟨?_, ?_, fun k k0 k1 => ?_⟩) (fun p p0 p1 => ⟨?_, ?_⟩) (fun k k0 k1 => ⟨?_, ?_⟩) (fun q c q0 q1 c0 c1 => ?_)
      · rw [d2 _ (by omega) (by omega)]
        exact rdr234 J t0 t1
      · rw [d2 _ (by omega) (by omega)]
        exact rdr235 J t0 t1
      · rw [d2 _ (by omega) (by omega)]
        have e : 50 + t * 8 + k = 50 + 8 * t + k := by omega
        rw [e]
        exact rdr229 J t0 t1 k0 k1
      · rw [d2 _ (by omega) (by omega)]
        exact rdr236 J p0 p1
      · rw [d2 _ (by omega) (by omega)]
        exact rdr237 J p0 p1
      · rw [d2 _ (by omega) (by omega)]
        exact rdr238 J k0 k1
      · rw [d2 _ (by omega) (by omega)]
        exact rdr239 J k0 k1
      · rw [d2 _ (by omega) (by omega)]
        have e : 82 + q * 4 + c = 82 + 4 * q + c := by omega
        rw [e]
        exact rdr240 J q0 q1 c0 c1
    · exact im_row (h8.2.2.2 j (by omega)) ac (fun b x y => a b (by omega) (by omega) (by omega) (by omega)) (fun k => d1 j k (by omega))
theorem op41 {G : zJ → zK → Prop} (hG : GOk G) : OpD (Inv G) 159 239 [] := by
  intro L xs D J K hL hD hI; obtain ⟨⟨hW, hT, hP, hM, hC, hTp, hF, hIm⟩, hg⟩ := id hI; have hE := eqs_rfl J; have hn := lw_n hW; have hpn := pw_n hP
  obtain ⟨D, rfl⟩ : ∃ d, D = d + 1 := ⟨D - 1, by omega⟩
  have model : ∀ (i : Nat) (J1 : zJ), (i : Int) = J 0 0 8 → i < 3 → (∀ b : Nat, b < 53 + 12 * i ∨ 64 + 12 * i < b → J1 b = J b) → PlE J (shf J1 i) → zCall L xs (D + 1) 239 [zr 142] (zup J1 0 0 8 ((i : Int) + 1)) K fun r2 e2 J2 K2 => r2 = .inl (some (zi ((i : Int) + 1))) ∧ e2 = 0 ∧ Inv G J2 K2 := by
    intro i J1 hi hi3 a1 hp
    have e17 : zup J1 0 0 8 ((i : Int) + 1) 142 0 17 = i := by
      rw [zup_ne _ _ _ _ (by decide), a1 142 (by omega), hi]
      exact hIm.2.2.1
    refine z239 hL ?_
    rw [e17]
    refine ⟨⟨by omega, by omega⟩, ⟨by omega, by omega⟩, fun _ => ?_, fun q => by omega⟩
    refine c270_0 hL (by omega) (by omega) (by omega) fun J2 hK => zaV_of ?_
    obtain ⟨k1, k2, k3, k4, k5⟩ := hK
    have b1 : ∀ b : Nat, b ≠ 0 → b ≠ 142 → b ≠ 557 → J2 b = J1 b := fun b x y z => by rw [k1 b y z, zup_ne _ _ _ _ y, zup_ne _ _ _ _ x]
    have b2 : ∀ k : Int, k ≠ 52 → k ≠ 0 → J2 142 0 k = J 142 0 k := fun k x y => by rw [k2 k x, zup_nk _ _ y, zup_ne _ _ _ _ (by decide), a1 142 (by omega)]
    have e172 : J2 142 0 17 = i := by
      rw [b2 17 (by decide) (by decide), hi]
      exact hIm.2.2.1
    have erd : ∀ k : Int, rd (zup (zup J1 0 0 8 ((i : Int) + 1)) 142 0 0 0) k = rd J k := rd_eq (by rw [zup_nk _ _ (by decide), zup_ne _ _ _ _ (by decide), a1 142 (by omega)]) (by rw [zup_nk _ _ (by decide), zup_ne _ _ _ _ (by decide), a1 142 (by omega)]) (fun b hb => by rw [zup_ne _ _ _ _ (by omega), zup_ne _ _ _ _ (by omega), a1 b (by omega)])
    have b0 : J2 0 = zup J1 0 0 8 ((i : Int) + 1) 0 := by rw [k1 0 (by decide) (by decide), zup_ne _ _ _ _ (by decide)]
    rw [e172]
    refine ⟨rfl, rfl, img_ok hI.1 hi hi3 (fun b x y z w => ?_) ?_ ?_ ?_ (fun k hk => ?_) (zup_eq _ _ _ _ _) (fun y k hy => ?_) (fun k q0 q1 => ?_) ?_, ?_⟩
    · rw [zup_ne _ _ _ _ y, b1 b x y z, a1 b w]
    · rw [zup_ne _ _ _ _ (by decide), b0, zup_nk _ _ (by decide), a1 0 (by omega)]
    · rw [zup_ne _ _ _ _ (by decide), b0, zup_nk _ _ (by decide), a1 0 (by omega)]
    · rw [zup_ne _ _ _ _ (by decide), b0, zup_eq]
    · rw [zup_nk _ _ (by omega)]
      exact b2 k (by omega) (by omega)
    · rw [zup_ne _ _ _ _ (by decide), k4 y k hy, zup_ne _ _ _ _ (by decide), zup_ne _ _ _ _ (by decide), a1 557 (by omega)]
    · rw [zup_ne _ _ _ _ (by decide), k5 k q0 q1, erd]
    · have hh : ∀ b : Nat, 40 ≤ b → b ≤ 51 → shf (zup J2 142 0 17 ((i : Int) + 1)) i b = shf J1 i b := fun b x y => by
        rw [shf_hi ⟨x, y⟩, shf_hi ⟨x, y⟩, zup_ne _ _ _ _ (by omega), b1 _ (by omega) (by omega) (by omega)]
      unfold PlE at hp ⊢
      rw [hh 40 (by decide) (by decide), hh 41 (by decide) (by decide), hh 42 (by decide) (by decide), hh 43 (by decide) (by decide), hh 44 (by decide) (by decide), hh 45 (by decide) (by decide), hh 46 (by decide) (by decide), hh 47 (by decide) (by decide), hh 48 (by decide) (by decide), hh 49 (by decide) (by decide), hh 50 (by decide) (by decide), hh 51 (by decide) (by decide)]
      exact hp
    · have ag : ∀ b : Nat, b ≠ 0 → b < 53 ∨ 88 < b → b < 142 → zup J2 142 0 17 ((i : Int) + 1) b = J b := fun b x y z => by rw [zup_ne _ _ _ _ (by omega), b1 b x (by omega) (by omega), a1 b (by omega)]
      exact hG.1 J _ K K hg (fun b x y => ag b (by omega) (by omega) (by omega)) (by rw [ag 40 (by decide) (by decide) (by decide)]) (by rw [ag 40 (by decide) (by decide) (by decide)]) (fun t _ _ => by rw [ag 41 (by decide) (by decide) (by decide)]) (fun b x y => ag b (by omega) (by omega) (by omega)) (by rw [ag 105 (by decide) (by decide) (by decide)]) (by rw [ag 105 (by decide) (by decide) (by decide)]) rfl
  have z3 : zin (J 0 0 8) := ⟨by omega, by omega⟩
  refine z159 hL ⟨z3, ⟨by decide, by decide⟩, fun q => ⟨hIm.1, q, ?_⟩, fun q => ?_⟩
  · have hcase : J 0 0 8 = 0 ∨ J 0 0 8 = 1 ∨ J 0 0 8 = 2 := by omega
    rcases hcase with e | e | e
    · rw [e]
      refine ⟨53, rfl, z159_19 hL ?_⟩
      refine c79 hL (by omega) fun J1 a1 q1 q2 q3 q4 q5 q6 q7 q8 q9 q10 q11 q12 => zaV_of ?_
      have e8 : J1 0 0 8 = 0 := by rw [a1 0 (by decide)]; exact e
      rw [e8]
      exact ⟨_, rfl, rfl, ⟨by decide, by decide⟩, model 0 J1 (by rw [e]; rfl) (by decide) (fun b hb => a1 b (by omega)) ⟨q1, q2, q3, q4, q5, q6, q7, q8, q9, q10, q11, q12⟩⟩
    · rw [e]
      refine ⟨65, rfl, z159_19a hL ?_⟩
      refine c79a hL (by omega) fun J1 a1 q1 q2 q3 q4 q5 q6 q7 q8 q9 q10 q11 q12 => zaV_of ?_
      have e8 : J1 0 0 8 = 1 := by rw [a1 0 (by decide)]; exact e
      rw [e8]
      exact ⟨_, rfl, rfl, ⟨by decide, by decide⟩, model 1 J1 (by rw [e]; rfl) (by decide) (fun b hb => a1 b (by omega)) ⟨q1, q2, q3, q4, q5, q6, q7, q8, q9, q10, q11, q12⟩⟩
    · rw [e]
      refine ⟨77, rfl, z159_19b hL ?_⟩
      refine c79b hL (by omega) fun J1 a1 q1 q2 q3 q4 q5 q6 q7 q8 q9 q10 q11 q12 => zaV_of ?_
      have e8 : J1 0 0 8 = 2 := by rw [a1 0 (by decide)]; exact e
      rw [e8]
      exact ⟨_, rfl, rfl, ⟨by decide, by decide⟩, model 2 J1 (by rw [e]; rfl) (by decide) (fun b hb => a1 b (by omega)) ⟨q1, q2, q3, q4, q5, q6, q7, q8, q9, q10, q11, q12⟩⟩
  · have e : J 0 0 8 = 3 := by omega
    refine ⟨_, rfl, rfl, ⟨by decide, by decide⟩, ?_⟩
    refine z239 hL ?_
    have e17 : J 142 0 17 = 3 := hIm.2.2.1.trans e
    rw [e17]
    exact ⟨⟨by decide, by decide⟩, ⟨by decide, by decide⟩, fun q => absurd rfl q, fun _ => ⟨rfl, rfl, inv_q hG hI (fc_rfl J) (fm_t J 0) rfl⟩⟩
