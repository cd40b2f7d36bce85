/-! THE BEGINNING keeps what holds between operations -/
theorem st0_inv {J : zJ} (h : St0 J) (K : zK) : Inv Gi J K := by
  have a0 : J 18 0 0 = 0 := h (18, 0, 0) (by decide +kernel)
  have a6 : J 18 0 6 = 0 := h (18, 6, 0) (by decide +kernel)
  have a11 : J 18 0 11 = 0 := h (18, 11, 0) (by decide +kernel)
  have a14 : J 18 0 14 = 0 := h (18, 14, 0) (by decide +kernel)
  have b0 : J 39 0 0 = 0 := h (39, 0, 0) (by decide +kernel)
  have c0 : J 40 0 0 = 0 := h (40, 0, 0) (by decide +kernel)
  have c5 : J 40 0 5 = 0 := h (40, 5, 0) (by decide +kernel)
  have c10 : J 40 0 10 = 0 := h (40, 10, 0) (by decide +kernel)
  have d1 : J 142 0 1 = 0 := h (142, 1, 0) (by decide +kernel)
  have d14 : J 142 0 14 = 0 := h (142, 14, 0) (by decide +kernel)
  have d15 : J 142 0 15 = 0 := h (142, 15, 0) (by decide +kernel)
  have d16 : J 142 0 16 = 0 := h (142, 16, 0) (by decide +kernel)
  have d17 : J 142 0 17 = 0 := h (142, 17, 0) (by decide +kernel)
  have d3 : J 142 0 3 = -1 := h (142, 3, -1) (by decide +kernel)
  have e1 : J 0 0 1 = 0 := h (0, 1, 0) (by decide +kernel)
  have e2 : J 0 0 2 = -1 := h (0, 2, -1) (by decide +kernel)
  have e8 : J 0 0 8 = 0 := h (0, 8, 0) (by decide +kernel)
  have g5 : J 105 0 5 = 0 := h (105, 5, 0) (by decide +kernel)
  have m0 : J 144 0 0 = 0 := h (144, 0, 0) (by decide +kernel)
  have m1 : J 144 0 1 = 0 := h (144, 1, 0) (by decide +kernel)
  have m2 : J 144 0 2 = 0 := h (144, 2, 0) (by decide +kernel)
  have m3 : J 144 0 3 = 0 := h (144, 3, 0) (by decide +kernel)
  have r : ∀ (c n : Nat) (v : Int), (∀ p : Nat, p < n → (c, p, v) ∈ sb_vals) → ∀ p : Int, 0 ≤ p → p < n → J c 0 p = v := by
    intro c n v hm p p0 p1
    have := h (c, p.toNat, v) (hm _ (by omega))
    have e : ((p.toNat : Nat) : Int) = p := by omega
    simp only [e] at this
    exact this
  have v49 := r 49 12 0 (by decide +kernel)
  have v236 := r 236 12 0 (by decide +kernel)
  have v237 := r 237 12 0 (by decide +kernel)
  have v50 := r 50 7 127 (by decide +kernel)
  have v51 := r 51 7 1080 (by decide +kernel)
  refine ⟨⟨?_, ?_, ?_, ?_, ?_, ?_, ?_, ?_⟩, gi_ok.2.2.1 J K g5⟩
  · unfold LW
    rw [a0, a6, a11, a14]
    exact ⟨⟨by decide, by decide, by decide, by decide, by decide, by decide, by decide, by decide⟩, fun p p0 p1 => by omega, fun p p0 p1 => by omega, fun z => by omega, fun p p0 p1 => by omega, fun p p0 p1 => by omega, fun p p0 p1 => by omega⟩
  · unfold TW ldf
    rw [a0, a6]
    refine ⟨fun a b p0 p1 => by omega, fun a b p0 p1 => by omega, fun p p0 p1 => by omega, fun p p0 p1 => by omega, fun p p0 p1 => by omega, fun x x0 x1 => ?_⟩
    have e : (2 : Int) ^ (0 : Int).toNat = 1 := by decide
    rw [e] at x1
    have e3 : x = 0 := by omega
    rw [e3, b0]
    rfl
  · unfold PW
    rw [a6, c0, c5, c10]
    refine ⟨⟨by decide, by decide, by decide, by decide, by decide, by decide⟩, fun t t0 t1 => by omega, fun t i t0 t1 => by omega, fun t i j t0 t1 => by omega, fun k k0 k1 => by omega, fun z => by omega, fun j j0 j1 => by omega, fun p p0 p1 => ?_, fun k k0 k1 => ?_⟩
    · rw [v49 p p0 p1]
      exact ⟨by decide, by decide⟩
    · rw [v50 k k0 k1, v51 k k0 k1]
      exact ⟨by decide, by decide, by decide, by decide⟩
  · unfold ML
    rw [a0, a6, a11, a14]
    exact ⟨⟨m0, m1, m2, m3⟩, fun p p0 p1 => by omega, fun p p0 p1 => by omega, fun p p0 p1 => by omega, fun p p0 p1 => by omega⟩
  · unfold MC MP
    rw [a6, c0, c5, c10, d15, d16]
    refine ⟨rfl, rfl, fun t t0 t1 => by omega, fun p p0 p1 => ?_, fun k k0 k1 => by omega, fun j j0 j1 => by omega⟩
    rw [v236 p p0 p1, v237 p p0 p1, v49 p p0 p1, bt_zero]
    exact ⟨rfl, rfl⟩
  · unfold TP
    rw [e1, d1]
    exact ⟨by decide, by decide, rfl, fun k k0 k1 => by omega⟩
  · rw [e2, d3, d14, a0]
    exact ⟨⟨by decide, by decide⟩, rfl, rfl⟩
  · rw [e8, d17]
    exact ⟨by decide, by decide, rfl, fun i hi => by omega⟩
theorem wh_goal : mGoal := by
  refine sb_goal fun L xs hL J K h => ?_
  exact law_loop (I := Inv Gi) (op0 gi_ok) (op1 gi_ok) (op2 gi_ok) (op3 gi_ok) (op4 gi_ok) (op5 gi_ok) (op6 gi_ok) (op7 gi_ok) (op8 gi_ok) (op9 gi_ok) (op10 gi_ok) (op11 gi_ok) (op12 gi_ok) (op13 gi_ok) (op14 gi_ok) (op15 gi_ok) op16 (op17 gi_ok) op18 (op19 gi_ok) (op20 gi_ok) (op21 gi_ok) (op22 gi_ok) (op23 gi_ok) (op24 gi_ok) (op25 gi_ok) (op26 gi_ok) (op27 gi_ok) (op28 gi_ok) (op29 gi_ok) (op30 gi_ok) (op31 gi_ok) (op32 gi_ok) (op33 gi_ok) (op34 gi_ok) (op35 gi_ok) (op36 gi_ok) (op37 gi_ok) (op38 gi_ok) (op39 gi_ok) (op40 gi_ok) (op41 gi_ok) (op42 gi_ok) (op43 gi_ok) hL (D := 900) (by decide) _ 0 J K _ rfl (by decide) (by omega) (st0_inv h K) (fun e J K he => ⟨rfl, by omega⟩)
