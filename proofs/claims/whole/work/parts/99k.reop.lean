/-! IMAGES: putting a plan back -/
theorem res_ok {J J2 : zJ} {i : Nat} (h : In J) (hi : (i : Int) + 1 = J 0 0 8) (ac : ∀ b : Nat, 18 ≤ b → b ≤ 39 → J2 b = J b) (ai : ∀ b : Nat, 53 ≤ b → b ≤ 88 → J2 b = J b) (am : ∀ b : Nat, 143 ≤ b → b ≤ 204 → J2 b = J b) (a1 : J2 1 = J 1) (a5 : J2 557 = J 557) (z1 : J2 0 0 1 = J 0 0 1) (z2 : J2 0 0 2 = J 0 0 2) (z8 : J2 0 0 8 = i) (f : ∀ k : Int, k = 1 ∨ k = 3 ∨ k = 14 → J2 142 0 k = J 142 0 k) (f17 : J2 142 0 17 = i) (hr : ∀ k : Int, 0 ≤ k → k < 138 → rd J2 k = J 557 i k) (hp : PlE (shf J i) J2) : In J2 := by
  obtain ⟨h1, h2, h3, h4, h5, h6, h7, h8⟩ := h
  have hn := lw_n h1
  have hi3 := h8.2.1
  obtain ⟨hP, hM⟩ := h8.2.2.2 i (by omega)
  have e18 := ac 18 (by decide) (by decide)
  have l18 : J2 18 = shf J i 18 := by rw [shf_lo (by omega)]; exact e18
  have hn7 : shf J i 18 0 6 ≤ 7 := by rw [shf_lo (by omega)]; exact hn.2.2.2.1
  have hP2 : PW J2 := pw_c hP hn7 l18 (by rw [shf_lo (by omega)]; exact ac _ (by decide) (by decide)) (by rw [shf_lo (by omega)]; exact ac _ (by decide) (by decide)) hp
  refine ⟨lw_eq h1 fun b x y => ac b x (by omega), tw_s h2 ac, hP2, ?_, ?_, ?_, ?_, ?_⟩
  · exact ml_s (ml_eq h4 (am _ (by decide) (by decide)) (am _ (by decide) (by decide)) (am _ (by decide) (by decide)) (am _ (by decide) (by decide)) (am _ (by decide) (by decide))) ac
  · have hm := mp_c hM hP hn7 l18 hp
    unfold MC
    refine mp_m hm hP2 (by rw [e18]; exact hn.2.2.2.1) (hr 0 (by decide) (by decide)) (hr 1 (by decide) (by decide)) (fun t t0 t1 => ⟨?_, ?_, fun k k0 k1 => ?_⟩) (fun p p0 p1 => ⟨?_, ?_⟩) (fun k k0 k1 => ⟨?_, ?_⟩) (fun q c q0 q1 c0 c1 => ?_)
    · rw [← rdr234 J2 t0 t1]
      exact hr _ (by omega) (by omega)
    · rw [← rdr235 J2 t0 t1]
      exact hr _ (by omega) (by omega)
    · have e : 50 + t * 8 + k = 50 + 8 * t + k := by omega
      rw [← rdr229 J2 t0 t1 k0 k1, e]
      exact hr _ (by omega) (by omega)
    · rw [← rdr236 J2 p0 p1]
      exact hr _ (by omega) (by omega)
    · rw [← rdr237 J2 p0 p1]
      exact hr _ (by omega) (by omega)
    · rw [← rdr238 J2 k0 k1]
      exact hr _ (by omega) (by omega)
    · rw [← rdr239 J2 k0 k1]
      exact hr _ (by omega) (by omega)
    · have e : 82 + q * 4 + c = 82 + 4 * q + c := by omega
      rw [← rdr240 J2 q0 q1 c0 c1, e]
      exact hr _ (by omega) (by omega)
  · unfold TP at h6 ⊢
    rw [z1, f 1 (by decide), am 143 (by decide) (by decide), a1]
    exact h6
  · rw [z2, f 3 (by decide), f 14 (by decide), e18]
    exact h7
  · rw [z8, f17]
    exact ⟨by omega, by omega, rfl, fun j hj => im_s (by omega) (h8.2.2.2 j (by omega)) ac ai a5⟩
theorem op42 {G : zJ → zK → Prop} (hG : GOk G) : OpD (Inv G) 175 282 [] := by
  intro L xs D J K hL hD hI; obtain ⟨⟨hW, hT, hP, hM, hC, hTp, hF, hIm⟩, hg⟩ := id hI; have hE := eqs_rfl J; have hn := lw_n hW; have hpn := pw_n hP
  obtain ⟨D, rfl⟩ : ∃ d, D = d + 1 := ⟨D - 1, by omega⟩
  have hg5 := hG.2.2.2 J K hg
  have model : ∀ (i : Nat) (J1 : zJ), (i : Int) + 1 = J 0 0 8 → i < 3 → (∀ b : Nat, b ≠ 0 → b < 40 ∨ 51 < b → J1 b = J b) → (∀ k : Int, k ≠ 8 → J1 0 0 k = J 0 0 k) → J1 0 0 8 = i → PlE (shf J i) J1 → zCall L xs (D + 1) 282 [zr 142] (zup J1 105 0 5 (if 1 < J1 105 0 5 then 1 else J1 105 0 5)) K fun r2 e2 J2 K2 => r2 = .inl (some (zi (i : Int))) ∧ e2 = 0 ∧ Inv G J2 K2 := by
    intro i J1 hi hi3 a1 a0 a8 hp
    have e17 : zup J1 105 0 5 (if 1 < J1 105 0 5 then 1 else J1 105 0 5) 142 0 17 = (i : Int) + 1 := by
      rw [zup_ne _ _ _ _ (by decide), a1 142 (by decide) (by decide), hi]
      exact hIm.2.2.1
    refine z282 hL ?_
    rw [e17]
    have e1 : (i : Int) + 1 - 1 = i := by omega
    rw [e1]
    refine ⟨⟨by omega, by omega⟩, fun _ => ?_, fun q => by omega⟩
    refine c270_1 hL (by omega) (by omega) (by omega) fun J2 hK => zaV_of ?_
    obtain ⟨k1, k2, k3, k4⟩ := hK
    have b1 : ∀ b : Nat, b ≠ 0 → b ≠ 105 → b ≠ 142 → b < 40 ∨ (51 < b ∧ b < 229) ∨ (229 < b ∧ b < 234) ∨ 240 < b → J2 b = J b := fun b x y z w => by rw [k1 b z (by omega), zup_ne _ _ _ _ z, zup_ne _ _ _ _ z, zup_ne _ _ _ _ y, a1 b x (by omega)]
    have bp : ∀ b : Nat, b < 52 → J2 b = J1 b := fun b x => by rw [k1 b (by omega) (by omega), zup_ne _ _ _ _ (by omega), zup_ne _ _ _ _ (by omega), zup_ne _ _ _ _ (by omega)]
    have e557 : J2 557 = J 557 := b1 557 (by decide) (by decide) (by decide) (by decide)
    have f17 : J2 142 0 17 = i := by rw [k2 17 (by decide) (by decide) (by decide), zup_eq]
    rw [f17]
    refine ⟨rfl, rfl, res_ok hI.1 hi (fun b x y => b1 b (by omega) (by omega) (by omega) (by omega)) (fun b x y => b1 b (by omega) (by omega) (by omega) (by omega)) (fun b x y => b1 b (by omega) (by omega) (by omega) (by omega)) (b1 1 (by decide) (by decide) (by decide) (by decide)) e557 ?_ ?_ ?_ (fun k hk => ?_) f17 (fun k q0 q1 => ?_) ?_, ?_⟩
    · rw [bp 0 (by decide), a0 1 (by decide)]
    · rw [bp 0 (by decide), a0 2 (by decide)]
    · rw [bp 0 (by decide), a8]
    · rw [k2 k (by omega) (by omega) (by omega), zup_nk _ _ (by omega), zup_nk _ _ (by omega), zup_ne _ _ _ _ (by decide), a1 142 (by decide) (by decide)]
    · rw [k4 k q0 q1, zup_ne _ _ _ _ (by decide), zup_ne _ _ _ _ (by decide), zup_ne _ _ _ _ (by decide), a1 557 (by decide) (by decide)]
    · unfold PlE at hp ⊢
      rw [bp 40 (by decide), bp 41 (by decide), bp 42 (by decide), bp 43 (by decide), bp 44 (by decide), bp 45 (by decide), bp 46 (by decide), bp 47 (by decide), bp 48 (by decide), bp 49 (by decide), bp 50 (by decide), bp 51 (by decide)]
      exact hp
    · refine hG.2.1 J J2 K K hg (fun b x y => b1 b (by omega) (by omega) (by omega) (by omega)) (fun b x y => b1 b (by omega) (by omega) (by omega) (by omega)) ?_ rfl
      rw [k1 105 (by decide) (by decide), zup_ne _ _ _ _ (by decide), zup_ne _ _ _ _ (by decide), zup_eq, a1 105 (by decide) (by decide)]
  have z3 : zin (J 0 0 8) := ⟨by omega, by omega⟩
  refine z175 hL ⟨z3, fun q => ⟨by omega, by omega, ?_⟩, fun q => ?_⟩
  · have e105 : ∀ J1 : zJ, J1 105 = J 105 → 0 ≤ J1 105 0 5 ∧ J1 105 0 5 ≤ 2 := fun J1 e => by rw [e]; exact hg5
    have hcase : J 0 0 8 = 1 ∨ J 0 0 8 = 2 ∨ J 0 0 8 = 3 := by omega
    rcases hcase with e | e | e
    · rw [e]
      refine ⟨53, rfl, z175_32 hL ?_⟩
      refine c79c hL (by omega) fun J1 a1 q1 q2 q3 q4 q5 q6 q7 q8 q9 q10 q11 q12 => zaV_of ?_
      have c0 : J1 0 = zup J 0 0 8 (1 - 1) 0 := a1 0 (by decide)
      have c1 : ∀ b : Nat, b ≠ 0 → b < 40 ∨ 51 < b → J1 b = J b := fun b x y => by rw [a1 b (by omega), zup_ne _ _ _ _ x]
      have c8 : J1 0 0 8 = ((0 : Nat) : Int) := by rw [c0, zup_eq]; rfl
      refine c35 hL (by omega) (e105 J1 (c1 105 (by decide) (by decide))) (zaV_of ?_)
      have e8 : zup J1 105 0 5 (if 1 < J1 105 0 5 then 1 else J1 105 0 5) 0 0 8 = ((0 : Nat) : Int) := by rw [zup_ne _ _ _ _ (by decide)]; exact c8
      rw [e8]
      exact ⟨_, rfl, rfl, ⟨by decide, by decide⟩, model 0 J1 (by rw [e]; rfl) (by decide) c1 (fun k hk => by rw [c0, zup_nk _ _ hk]) c8 ⟨q1, q2, q3, q4, q5, q6, q7, q8, q9, q10, q11, q12⟩⟩
    · rw [e]
      refine ⟨65, rfl, z175_32a hL ?_⟩
      refine c79d hL (by omega) fun J1 a1 q1 q2 q3 q4 q5 q6 q7 q8 q9 q10 q11 q12 => zaV_of ?_
      have c0 : J1 0 = zup J 0 0 8 (2 - 1) 0 := a1 0 (by decide)
      have c1 : ∀ b : Nat, b ≠ 0 → b < 40 ∨ 51 < b → J1 b = J b := fun b x y => by rw [a1 b (by omega), zup_ne _ _ _ _ x]
      have c8 : J1 0 0 8 = ((1 : Nat) : Int) := by rw [c0, zup_eq]; rfl
      refine c35 hL (by omega) (e105 J1 (c1 105 (by decide) (by decide))) (zaV_of ?_)
      have e8 : zup J1 105 0 5 (if 1 < J1 105 0 5 then 1 else J1 105 0 5) 0 0 8 = ((1 : Nat) : Int) := by rw [zup_ne _ _ _ _ (by decide)]; exact c8
      rw [e8]
      exact ⟨_, rfl, rfl, ⟨by decide, by decide⟩, model 1 J1 (by rw [e]; rfl) (by decide) c1 (fun k hk => by rw [c0, zup_nk _ _ hk]) c8 ⟨q1, q2, q3, q4, q5, q6, q7, q8, q9, q10, q11, q12⟩⟩
    · rw [e]
      refine ⟨77, rfl, z175_32b hL ?_⟩
      refine c79e hL (by omega) fun J1 a1 q1 q2 q3 q4 q5 q6 q7 q8 q9 q10 q11 q12 => zaV_of ?_
      have c0 : J1 0 = zup J 0 0 8 (3 - 1) 0 := a1 0 (by decide)
      have c1 : ∀ b : Nat, b ≠ 0 → b < 40 ∨ 51 < b → J1 b = J b := fun b x y => by rw [a1 b (by omega), zup_ne _ _ _ _ x]
      have c8 : J1 0 0 8 = ((2 : Nat) : Int) := by rw [c0, zup_eq]; rfl
      refine c35 hL (by omega) (e105 J1 (c1 105 (by decide) (by decide))) (zaV_of ?_)
      have e8 : zup J1 105 0 5 (if 1 < J1 105 0 5 then 1 else J1 105 0 5) 0 0 8 = ((2 : Nat) : Int) := by rw [zup_ne _ _ _ _ (by decide)]; exact c8
      rw [e8]
      exact ⟨_, rfl, rfl, ⟨by decide, by decide⟩, model 2 J1 (by rw [e]; rfl) (by decide) c1 (fun k hk => by rw [c0, zup_nk _ _ hk]) c8 ⟨q1, q2, q3, q4, q5, q6, q7, q8, q9, q10, q11, q12⟩⟩
  · have e : J 0 0 8 = 0 := by omega
    refine ⟨_, rfl, rfl, ⟨by decide, by decide⟩, ?_⟩
    refine z282 hL ?_
    have e17 : J 142 0 17 = 0 := hIm.2.2.1.trans e
    rw [e17]
    exact ⟨zin_0, fun q => absurd rfl q, fun _ => ⟨rfl, rfl, inv_q hG hI (fc_rfl J) (fm_t J 0) rfl⟩⟩
