/-! LAND -/
def EqR (d s : zJ) : Prop := (s 18 0 0 = d 18 0 0 ∧ s 18 0 6 = d 18 0 6 ∧ s 18 0 11 = d 18 0 11 ∧ s 18 0 14 = d 18 0 14) ∧ (∀ i : Int, 0 ≤ i → i < 12 → s 19 0 i = d 19 0 i ∧ s 20 0 i = d 20 0 i ∧ s 21 0 i = d 21 0 i ∧ s 22 0 i = d 22 0 i ∧ s 23 0 i = d 23 0 i) ∧ (∀ i : Int, 0 ≤ i → i < 7 → s 24 0 i = d 24 0 i ∧ s 25 0 i = d 25 0 i ∧ s 26 0 i = d 26 0 i ∧ s 27 0 i = d 27 0 i) ∧ (∀ i : Int, 0 ≤ i → i < 8 → s 28 0 i = d 28 0 i ∧ s 29 0 i = d 29 0 i) ∧ (∀ i : Int, 0 ≤ i → i < 12 → s 30 0 i = d 30 0 i ∧ s 31 0 i = d 31 0 i ∧ s 32 0 i = d 32 0 i)
theorem lw_r {d s : zJ} (h : LW d) (e : EqR d s) : LW s := by
  have hn := lw_n h
  obtain ⟨⟨n0, n1, n2, n3⟩, ep, ek, ee, ew⟩ := e
  unfold LW
  rw [n0, n1, n2, n3]
  refine ⟨hn, fun p p0 p1 => ?_, fun p p0 p1 => ?_, fun p0 => ?_, fun p p0 p1 => ?_, fun p p0 p1 => ?_, fun p p0 p1 => ?_⟩
  · obtain ⟨a, b, c, g, i⟩ := ep p p0 (by omega)
    rw [a, b, c, g, i]
    exact lw_p h p0 p1
  · obtain ⟨a, b, c, g, i⟩ := ep p (by omega) (by omega)
    rw [a, b]
    exact lw_up h p0 p1
  · obtain ⟨a, b, c, g, i⟩ := ep 0 (by decide) (by decide)
    rw [a, b]
    exact lw_0 h p0
  · obtain ⟨a, b, c, g⟩ := ek p p0 (by omega)
    rw [a, b, c, g]
    exact lw_k h p0 p1
  · obtain ⟨a, b⟩ := ee p p0 (by omega)
    rw [a, b]
    exact lw_e h p0 p1
  · obtain ⟨a, b, c⟩ := ew p p0 (by omega)
    rw [a, b, c]
    exact lw_w h p0 p1
theorem ml_r {d s J : zJ} (h : LW d) (hm : ML d J) (e : EqR d s) : ML s J := by
  have hn := lw_n h
  obtain ⟨⟨n0, n1, n2, n3⟩, ep, ek, ee, ew⟩ := e
  obtain ⟨m, mp, mk, me, mw⟩ := hm
  unfold ML
  rw [n0, n1, n2, n3]
  refine ⟨m, fun p p0 p1 => ?_, fun p p0 p1 => ?_, fun p p0 p1 => ?_, fun p p0 p1 => ?_⟩
  · obtain ⟨a, b, c, g, i⟩ := ep p p0 (by omega)
    rw [a, b, c, g, i]
    exact mp p p0 p1
  · obtain ⟨a, b, c, g⟩ := ek p p0 (by omega)
    rw [a, b, c, g]
    exact mk p p0 p1
  · obtain ⟨a, b⟩ := ee p p0 (by omega)
    rw [a, b]
    exact me p p0 p1
  · obtain ⟨a, b, c⟩ := ew p p0 (by omega)
    rw [a, b, c]
    exact mw p p0 p1
theorem eqr_e {d s s' : zJ} (h : EqR d s) (e : ∀ b : Nat, 18 ≤ b → b ≤ 32 → s' b = s b) : EqR d s' := by
  unfold EqR at h ⊢
  rw [e 18 (by decide) (by decide), e 19 (by decide) (by decide), e 20 (by decide) (by decide), e 21 (by decide) (by decide), e 22 (by decide) (by decide), e 23 (by decide) (by decide), e 24 (by decide) (by decide), e 25 (by decide) (by decide), e 26 (by decide) (by decide), e 27 (by decide) (by decide), e 28 (by decide) (by decide), e 29 (by decide) (by decide), e 30 (by decide) (by decide), e 31 (by decide) (by decide), e 32 (by decide) (by decide)]
  exact h
theorem zcp_get (J : zJ) (a b : Nat) {n i : Int} (h0 : 0 ≤ i) (h1 : i < n) : zcp J a b 0 0 n b 0 i = J a 0 i := by
  rw [zcp_at, if_pos ⟨rfl, rfl, h0, by omega⟩]
  congr 1
  omega
theorem c56 {L : Nat} {xs : Nat → Int32} (hL : L ≤ 3072) {D : Nat} {J : zJ} {K : zK} {Q : zR → Nat → zJ → zK → Prop} {d : zJ} (hd : DC d J) (hD : 1 ≤ D) (hQ : ∀ J' : zJ, (∀ b : Nat, b < 18 ∨ 32 < b → J' b = J b) → EqR d J' → Q (.inl none) 0 J' K) : zCall L xs D 56 [zr 18, zr 3] J K Q := by
  obtain ⟨D, rfl⟩ : ∃ d, D = d + 1 := ⟨D - 1, by omega⟩
  have e3 : J 3 = d 18 := hd 18 (by decide) (by decide)
  have e4 : J 4 = d 19 := hd 19 (by decide) (by decide)
  have e5 : J 5 = d 20 := hd 20 (by decide) (by decide)
  have e6 : J 6 = d 21 := hd 21 (by decide) (by decide)
  have e7 : J 7 = d 22 := hd 22 (by decide) (by decide)
  have e8 : J 8 = d 23 := hd 23 (by decide) (by decide)
  have e9 : J 9 = d 24 := hd 24 (by decide) (by decide)
  have e10 : J 10 = d 25 := hd 25 (by decide) (by decide)
  have e11 : J 11 = d 26 := hd 26 (by decide) (by decide)
  have e12 : J 12 = d 27 := hd 27 (by decide) (by decide)
  have e13 : J 13 = d 28 := hd 28 (by decide) (by decide)
  have e14 : J 14 = d 29 := hd 29 (by decide) (by decide)
  have e15 : J 15 = d 30 := hd 30 (by decide) (by decide)
  have e16 : J 16 = d 31 := hd 31 (by decide) (by decide)
  have e17 : J 17 = d 32 := hd 32 (by decide) (by decide)
  refine z56 hL ?_
  (repeat' (first | (with_reducible apply And.intro) | (with_reducible intro _)))
  any_goals omega
  refine hQ _ (fun b hb => ?_) ⟨?_, fun i i0 i1 => ⟨?_, ?_, ?_, ?_, ?_⟩, fun i i0 i1 => ⟨?_, ?_, ?_, ?_⟩, fun i i0 i1 => ⟨?_, ?_⟩, fun i i0 i1 => ⟨?_, ?_, ?_⟩⟩
  · simp (disch := omega) only [zcp_ne, zup_ne]
  · simp (disch := decide) only [zcp_ne]
    rw [e3]
    simp only [zup_at, Nat.reduceEqDiff, Int.reduceEq, eq_self, true_and, and_true, false_and, and_false, if_true, if_false]
  all_goals
    try simp (disch := decide) only [zcp_ne]
    rw [zcp_get _ _ _ i0 i1]
    simp (disch := decide) only [zcp_ne, zup_ne]
  · rw [e4]
  · rw [e5]
  · rw [e6]
  · rw [e7]
  · rw [e8]
  · rw [e9]
  · rw [e10]
  · rw [e11]
  · rw [e12]
  · rw [e13]
  · rw [e14]
  · rw [e15]
  · rw [e16]
  · rw [e17]
theorem c78 {L : Nat} {xs : Nat → Int32} (hL : L ≤ 3072) {D : Nat} {J : zJ} {K : zK} {Q : zR → Nat → zJ → zK → Prop} (hD : 2 ≤ D) (hQ : ∀ J' : zJ, (∀ b : Nat, b ≠ 40 → b ≠ 42 → b ≠ 44 → b ≠ 49 → b ≠ 50 → b ≠ 51 → J' b = J b) → (J' 40 0 0 = 0 ∧ J' 40 0 5 = 0 ∧ J' 40 0 10 = 0) → (∀ i : Int, 0 ≤ i → i < 7 → J' 44 0 i = -1) → (∀ i : Int, 0 ≤ i → i < 12 → J' 49 0 i = 0) → (∀ i : Int, 0 ≤ i → i < 7 → J' 50 0 i = 127) → (∀ i : Int, 0 ≤ i → i < 7 → J' 51 0 i = 1080) → Q (.inl none) 0 J' K) : zCall L xs D 78 [zr 40] J K Q := by
  obtain ⟨D, rfl⟩ : ∃ d, D = d + 1 := ⟨D - 1, by omega⟩
  refine z78 hL ?_
  refine cf42 hL (by omega) fun J1 f1 v1 => zaV_of ?_
  refine cf44 hL (by omega) fun J2 f2 v2 => zaV_of ?_
  refine cf49 hL (by omega) fun J3 f3 v3 => zaV_of ?_
  refine cf50 hL (by omega) fun J4 f4 v4 => zaV_of ?_
  refine cf51 hL (by omega) fun J5 f5 v5 => zaV_of ?_
  have e40 : J5 40 = (zup (zup (zup J 40 0 0 0) 40 0 5 0) 40 0 10 0) 40 := by
    rw [f5 40 (by decide), f4 40 (by decide), f3 40 (by decide), f2 40 (by decide), f1 40 (by decide)]
  refine hQ J5 (fun b b1 b2 b3 b4 b5 b6 => ?_) ⟨?_, ?_, ?_⟩ (fun i i0 i1 => ?_) (fun i i0 i1 => ?_) (fun i i0 i1 => ?_) v5
  · rw [f5 b b6, f4 b b5, f3 b b4, f2 b b3, f1 b b2, zup_ne _ _ _ _ b1, zup_ne _ _ _ _ b1, zup_ne _ _ _ _ b1]
  · rw [e40, zup_nk _ _ (by decide), zup_nk _ _ (by decide), zup_eq]
  · rw [e40, zup_nk _ _ (by decide), zup_eq]
  · rw [e40, zup_eq]
  · rw [f5 44 (by decide), f4 44 (by decide), f3 44 (by decide)]
    exact v2 i i0 i1
  · rw [f5 49 (by decide), f4 49 (by decide)]
    exact v3 i i0 i1
  · rw [f5 50 (by decide)]
    exact v4 i i0 i1
/-- the model's run: it refuses, or it has a new land -/
def MF2 (J J' : zJ) : Prop := (∀ b : Nat, b ≠ 142 → b ≠ 144 → b ≠ 145 → b ≠ 170 → b ≠ 187 → b ≠ 204 → J' b = J b) ∧ (∀ k : Int, 8 ≤ k → J' 142 0 k = J 142 0 k) ∧ (∀ k : Int, k < 4 → J' 144 0 k = J 144 0 k) ∧ (∀ i k : Int, i < 12 → J' 145 i k = J 145 i k) ∧ (∀ i k : Int, i < 8 → J' 170 i k = J 170 i k) ∧ (∀ i k : Int, i < 8 → J' 187 i k = J 187 i k) ∧ (∀ i k : Int, i < 12 → J' 204 i k = J 204 i k)
theorem m258 {L : Nat} {xs : Nat → Int32} (hL : L ≤ 3072) {D : Nat} {J : zJ} {K : zK} {Q : zR → Nat → zJ → zK → Prop} {f : Int → Int} {N : Int} {d : zJ} (hN : 0 ≤ N ∧ N ≤ 500) (hN1 : N ≤ J 142 0 1) (hz : zin (J 142 0 1)) (hT : ∀ k : Int, 0 ≤ k → k < N → 0 ≤ f k ∧ f k < 256 ∧ J 143 0 k = f k) (h0 : D0 d) (hD : 16 ≤ D) (hQ1 : (rdl f N d).1.2.1 ≠ 0 → ∀ J' : zJ, MF2 J J' → J' 142 0 0 = 0 → J' 142 0 1 = 0 → J' 142 0 3 = (rdl f N d).1.2.2 → Q (.inl (some (zi ((rdl f N d).1.2.1 - 10)))) 0 J' K) (hQ2 : (rdl f N d).1.2.1 = 0 → ∀ J' : zJ, ML (rdl f N d).2 J' → (∀ b : Nat, b ≠ 142 → b ≠ 144 → b ≠ 145 → b ≠ 170 → b ≠ 187 → b ≠ 204 → b ≠ 236 → b ≠ 237 → b ≠ 238 → b ≠ 239 → J' b = J b) → J' 142 0 0 = 0 → J' 142 0 1 = 0 → J' 142 0 3 = (rdl f N d).1.2.2 → (J' 142 0 14 = 1 ∧ J' 142 0 15 = 0 ∧ J' 142 0 16 = 0 ∧ J' 142 0 17 = 0) → (∀ k : Int, 0 ≤ k → k < 12 → J' 236 0 k = 0 ∧ J' 237 0 k = 0) → (∀ k : Int, 0 ≤ k → k < 8 → J' 238 0 k = 1080 ∧ J' 239 0 k = 127) → Q (.inl (some (zi ((rdl f N d).2 18 0 0)))) 0 J' K) : zCall L xs D 258 [zr 142, zi N] J K Q := by
  obtain ⟨D, rfl⟩ : ∃ d, D = d + 1 := ⟨D - 1, by omega⟩
  refine z258 hL ?_
  have e1 : zup J 142 0 0 0 142 0 1 = J 142 0 1 := zup_nk _ _ (by decide)
  have t0 : zup J 142 0 0 0 142 0 0 = 0 := zup_eq _ _ _ _ _
  have hzN : zin N := ⟨by omega, by omega⟩
  refine c240 hL (by omega) hzN zin_0 hz (zaI_of ⟨zin_zb _, fun _ => ?_, fun q => ?_⟩)
  · refine c195F hL (by omega) t0 (zaI_of ⟨zin_0, fun _ => ?_, fun q => absurd rfl q⟩)
    have n0 : (zup (zup (zup (zup (zup (zup J 142 0 0 0) 142 0 1 0) 142 0 2 N) 142 0 4 0) 142 0 5 0) 142 0 6 (-1)) 142 0 0 = 0 := by
      simp only [zup_at, Nat.reduceEqDiff, Int.reduceEq, eq_self, true_and, and_true, false_and, and_false, if_true, if_false]
    have n1 : (zup (zup (zup (zup (zup (zup J 142 0 0 0) 142 0 1 0) 142 0 2 N) 142 0 4 0) 142 0 5 0) 142 0 6 (-1)) 142 0 1 = 0 := by
      simp only [zup_at, Nat.reduceEqDiff, Int.reduceEq, eq_self, true_and, and_true, false_and, and_false, if_true, if_false]
    have n2 : (zup (zup (zup (zup (zup (zup J 142 0 0 0) 142 0 1 0) 142 0 2 N) 142 0 4 0) 142 0 5 0) 142 0 6 (-1)) 142 0 2 = N := by
      simp only [zup_at, Nat.reduceEqDiff, Int.reduceEq, eq_self, true_and, and_true, false_and, and_false, if_true, if_false]
    have n4 : (zup (zup (zup (zup (zup (zup J 142 0 0 0) 142 0 1 0) 142 0 2 N) 142 0 4 0) 142 0 5 0) 142 0 6 (-1)) 142 0 4 = 0 := by
      simp only [zup_at, Nat.reduceEqDiff, Int.reduceEq, eq_self, true_and, and_true, false_and, and_false, if_true, if_false]
    have n5 : (zup (zup (zup (zup (zup (zup J 142 0 0 0) 142 0 1 0) 142 0 2 N) 142 0 4 0) 142 0 5 0) 142 0 6 (-1)) 142 0 5 = 0 := by
      simp only [zup_at, Nat.reduceEqDiff, Int.reduceEq, eq_self, true_and, and_true, false_and, and_false, if_true, if_false]
    have n6 : (zup (zup (zup (zup (zup (zup J 142 0 0 0) 142 0 1 0) 142 0 2 N) 142 0 4 0) 142 0 5 0) 142 0 6 (-1)) 142 0 6 = -1 := by
      simp only [zup_at, Nat.reduceEqDiff, Int.reduceEq, eq_self, true_and, and_true, false_and, and_false, if_true, if_false]
    have nf : ∀ k : Int, 8 ≤ k → (zup (zup (zup (zup (zup (zup J 142 0 0 0) 142 0 1 0) 142 0 2 N) 142 0 4 0) 142 0 5 0) 142 0 6 (-1)) 142 0 k = J 142 0 k := by
      intro k hk
      rw [zup_nk _ _ (by omega), zup_nk _ _ (by omega), zup_nk _ _ (by omega), zup_nk _ _ (by omega), zup_nk _ _ (by omega), zup_nk _ _ (by omega)]
    have nb : ∀ b : Nat, b ≠ 142 → (zup (zup (zup (zup (zup (zup J 142 0 0 0) 142 0 1 0) 142 0 2 N) 142 0 4 0) 142 0 5 0) 142 0 6 (-1)) b = J b := by
      intro b hb
      rw [zup_ne _ _ _ _ hb, zup_ne _ _ _ _ hb, zup_ne _ _ _ _ hb, zup_ne _ _ _ _ hb, zup_ne _ _ _ _ hb, zup_ne _ _ _ _ hb]
    generalize (zup (zup (zup (zup (zup (zup J 142 0 0 0) 142 0 1 0) 142 0 2 N) 142 0 4 0) 142 0 5 0) 142 0 6 (-1)) = Jb at *
    have hr0 : RM f N (0, 0, -1) Jb := ⟨⟨n2, hN, fun k k0 k1 => by rw [nb 143 (by decide)]; exact hT k k0 k1⟩, ⟨n5, n6⟩, fun _ => n4, by omega, ⟨by decide, by decide⟩, ⟨by decide, by simp only; omega⟩⟩
    refine c283 hL hr0 h0 (by omega) fun J1 m1 hr1 hd1 => zaV_of ?_
    refine u202 hL hr1 (by omega) fun J2 g2 k2 hr2 => zaV_of ?_
    have m2 : MF Jb J2 := mf_142 m1 g2 fun k a _ _ _ => k2 k a
    refine m65 hL (J := Jb) (by omega) 40 1 _ (rtD f N d) J2 rfl (by decide) (fun z => absurd z (by decide)) hr2 (fun z => ⟨dm_fr (hd1 z).1 g2, rt_wd h0 z, (k2 7 (by decide)).trans (hd1 z).2⟩) m2 fun J3 m3 hr3 hd3 => ?_
    have hr3 : RM f N (rdl f N d).1 J3 := hr3
    have hd3 : (rdl f N d).1.2.1 = 0 → DM (rdl f N d).2 J3 ∧ WD (rdl f N d).2 := hd3
    show ((rdl f N d).1.2.1 = 0 → _) ∧ ((rdl f N d).1.2.1 ≠ 0 → Q (.inl (some (zi ((rdl f N d).1.2.1 - 10)))) 0 _ K)
    have h6 := hr3.2.1.2
    generalize rdl f N d = R at *
    rw [h6]
    refine ⟨fun z => ?_, fun z => ?_⟩
    · obtain ⟨hd4, hw4⟩ := hd3 z
      refine m119 hL (d := R.2) (dm_fr hd4 fun b hb => zup_ne _ _ _ _ hb) hw4.1 fun J4 p1 p2 p3 p4 p5 p6 => hQ2 z J4 p1 (fun b b1 b2 b3 b4 b5 b6 b7 b8 b9 b10 => ?_) ?_ ?_ ?_ p4 p5 p6
      · rw [p2 b b1 b2 b3 b4 b5 b6 b7 b8 b9 b10, zup_ne _ _ _ _ b1, m3.1 b b1 b2 b3 b4 b5 b6, nb b b1]
      · rw [p3 0 (by decide) (by decide) (by decide) (by decide), zup_nk _ _ (by decide), m3.2.1 0 (by decide) (by decide) (by decide) (by decide), n0]
      · rw [p3 1 (by decide) (by decide) (by decide) (by decide), zup_nk _ _ (by decide), m3.2.1 1 (by decide) (by decide) (by decide) (by decide), n1]
      · rw [p3 3 (by decide) (by decide) (by decide) (by decide), zup_eq]
    · refine hQ1 z _ ⟨fun b b1 b2 b3 b4 b5 b6 => ?_, fun k hk => ?_, fun k hk => ?_, fun i k hi => ?_, fun i k hi => ?_, fun i k hi => ?_, fun i k hi => ?_⟩ ?_ ?_ (zup_eq _ _ _ _ _)
      · rw [zup_ne _ _ _ _ b1, m3.1 b b1 b2 b3 b4 b5 b6, nb b b1]
      · rw [zup_nk _ _ (by omega), m3.2.1 k (by omega) (by omega) (by omega) (by omega), nf k hk]
      · rw [zup_ne _ _ _ _ (by decide), m3.2.2.1 k hk, nb 144 (by decide)]
      · rw [zup_ne _ _ _ _ (by decide), m3.2.2.2.1 i k hi, nb 145 (by decide)]
      · rw [zup_ne _ _ _ _ (by decide), m3.2.2.2.2.1 i k hi, nb 170 (by decide)]
      · rw [zup_ne _ _ _ _ (by decide), m3.2.2.2.2.2.1 i k hi, nb 187 (by decide)]
      · rw [zup_ne _ _ _ _ (by decide), m3.2.2.2.2.2.2 i k hi, nb 204 (by decide)]
      · rw [zup_nk _ _ (by decide), m3.2.1 0 (by decide) (by decide) (by decide) (by decide), n0]
      · rw [zup_nk _ _ (by decide), m3.2.1 1 (by decide) (by decide) (by decide) (by decide), n1]
  · rw [zb_0, decide_eq_false_iff_not] at q
    omega
theorem ml_low {s J J' : zJ} (h : LW s) (hm : ML s J) (e0 : ∀ k : Int, k < 4 → J' 144 0 k = J 144 0 k) (e1 : ∀ i k : Int, i < 12 → J' 145 i k = J 145 i k) (e2 : ∀ i k : Int, i < 8 → J' 170 i k = J 170 i k) (e3 : ∀ i k : Int, i < 8 → J' 187 i k = J 187 i k) (e4 : ∀ i k : Int, i < 12 → J' 204 i k = J 204 i k) : ML s J' := by
  have hn := lw_n h
  obtain ⟨m, mp, mk, me, mw⟩ := hm
  refine ⟨?_, fun p p0 p1 => ?_, fun p p0 p1 => ?_, fun p p0 p1 => ?_, fun p p0 p1 => ?_⟩
  · rw [e0 0 (by decide), e0 1 (by decide), e0 2 (by decide), e0 3 (by decide)]
    exact m
  · rw [e1 p 0 (by omega), e1 p 1 (by omega), e1 p 2 (by omega), e1 p 3 (by omega), e1 p 4 (by omega)]
    exact mp p p0 p1
  · rw [e2 p 0 (by omega), e2 p 1 (by omega), e2 p 2 (by omega), e2 p 3 (by omega)]
    exact mk p p0 p1
  · rw [e3 p 0 (by omega), e3 p 1 (by omega)]
    exact me p p0 p1
  · rw [e4 p 0 (by omega), e4 p 1 (by omega), e4 p 2 (by omega)]
    exact mw p p0 p1
/-- a land refused: all stays but the tape -/
theorem inv_ref {G : zJ → zK → Prop} (hG : GOk G) {J J1 J2 : zJ} {K K2 : zK} {v : Int} (h : Inv G J K) (hv : zin v) (c : ∀ b : Nat, 17 < b → J1 b = J b) (c1 : J1 0 0 1 = 0) (c2 : J1 0 0 2 = v) (c8 : J1 0 0 8 = J 0 0 8) (m : MF2 J1 J2) (m1 : J2 142 0 1 = 0) (m3 : J2 142 0 3 = v) (hK : K2 112 = K 112) : Inv G J2 K2 := by
  obtain ⟨⟨h1, h2, h3, h4, h5, h6, h7, h8⟩, hg⟩ := h
  have ac : ∀ b : Nat, 17 < b → b ≤ 141 → J2 b = J b := fun b x y => (m.1 b (by omega) (by omega) (by omega) (by omega) (by omega) (by omega)).trans (c b x)
  have ac2 : ∀ b : Nat, 18 ≤ b → b ≤ 39 → J2 b = J b := fun b x y => ac b (by omega) (by omega)
  have am : ∀ b : Nat, 204 < b → J2 b = J b := fun b x => (m.1 b (by omega) (by omega) (by omega) (by omega) (by omega) (by omega)).trans (c b (by omega))
  have e0 : J2 0 = J1 0 := m.1 0 (by decide) (by decide) (by decide) (by decide) (by decide) (by decide)
  have e142 : ∀ k : Int, 8 ≤ k → J2 142 0 k = J 142 0 k := fun k hk => by rw [m.2.1 k hk, c 142 (by decide)]
  refine ⟨⟨lw_eq h1 fun b x y => ac b (by omega) (by omega), tw_s h2 ac2, pw_s h3 (ac _ (by decide) (by decide)) (ac _ (by decide) (by decide)) (ac _ (by decide) (by decide)) fun b x y => ac b (by omega) (by omega), ?_, ?_, ?_, ?_, ?_⟩, ?_⟩
  · refine ml_s (ml_low h1 h4 (fun k hk => ?_) (fun i k hi => ?_) (fun i k hi => ?_) (fun i k hi => ?_) (fun i k hi => ?_)) ac2
    · rw [m.2.2.1 k hk, c 144 (by decide)]
    · rw [m.2.2.2.1 i k hi, c 145 (by decide)]
    · rw [m.2.2.2.2.1 i k hi, c 170 (by decide)]
    · rw [m.2.2.2.2.2.1 i k hi, c 187 (by decide)]
    · rw [m.2.2.2.2.2.2 i k hi, c 204 (by decide)]
  · have := mc_eq h5 (e142 15 (by decide)) (e142 16 (by decide)) (am _ (by decide)) (am _ (by decide)) (am _ (by decide)) (am _ (by decide)) (am _ (by decide)) (am _ (by decide)) (am _ (by decide)) (am _ (by decide))
    exact mp_s this (ac _ (by decide) (by decide)) fun b x y => ac b (by omega) (by omega)
  · unfold TP
    rw [e0, c1, m1]
    exact ⟨by decide, by decide, rfl, fun k k0 k1 => by omega⟩
  · rw [e0, c2, m3, e142 14 (by decide), ac 18 (by decide) (by decide)]
    exact ⟨hv, rfl, h7.2.2⟩
  · rw [e0, c8, e142 17 (by decide)]
    refine ⟨h8.1, h8.2.1, h8.2.2.1, fun i hi => ?_⟩
    exact im_s (by omega) (h8.2.2.2 i hi) ac2 (fun b x y => ac b (by omega) (by omega)) (am _ (by decide))
  · exact hG.1 J J2 K K2 hg ac2 (by rw [ac 40 (by decide) (by decide)]) (by rw [ac 40 (by decide) (by decide)]) (fun t _ _ => by rw [ac 41 (by decide) (by decide)]) (fun b x y => ac b (by omega) (by omega)) (by rw [ac 105 (by decide) (by decide)]) (by rw [ac 105 (by decide) (by decide)]) hK
/-- a new land -/
theorem inv_new {G : zJ → zK → Prop} (hG : GOk G) {d J1 J2 : zJ} {K2 : zK} {v : Int} (hw : WD d) (hv : zin v) (c0 : J1 0 0 1 = 0 ∧ J1 0 0 2 = v ∧ J1 0 0 8 = 0) (ce : EqR d J1) (ct : TW J1) (c40 : J1 40 0 0 = 0 ∧ J1 40 0 5 = 0 ∧ J1 40 0 10 = 0) (c44 : ∀ i : Int, 0 ≤ i → i < 7 → J1 44 0 i = -1) (c49 : ∀ i : Int, 0 ≤ i → i < 12 → J1 49 0 i = 0) (c50 : ∀ i : Int, 0 ≤ i → i < 7 → J1 50 0 i = 127) (c51 : ∀ i : Int, 0 ≤ i → i < 7 → J1 51 0 i = 1080) (c105 : J1 105 0 5 = 0) (m : ∀ b : Nat, b ≠ 142 → b ≠ 144 → b ≠ 145 → b ≠ 170 → b ≠ 187 → b ≠ 204 → b ≠ 236 → b ≠ 237 → b ≠ 238 → b ≠ 239 → J2 b = J1 b) (ml : ML d J2) (m1 : J2 142 0 1 = 0) (m3 : J2 142 0 3 = v) (m4 : J2 142 0 14 = 1 ∧ J2 142 0 15 = 0 ∧ J2 142 0 16 = 0 ∧ J2 142 0 17 = 0) (m6 : ∀ k : Int, 0 ≤ k → k < 12 → J2 236 0 k = 0 ∧ J2 237 0 k = 0) (m8 : ∀ k : Int, 0 ≤ k → k < 8 → J2 238 0 k = 1080 ∧ J2 239 0 k = 127) : Inv G J2 K2 := by
  have ac : ∀ b : Nat, b ≤ 141 → J2 b = J1 b := fun b x => m b (by omega) (by omega) (by omega) (by omega) (by omega) (by omega) (by omega) (by omega) (by omega) (by omega)
  have er : EqR d J2 := eqr_e ce fun b x y => ac b (by omega)
  have hW : LW J2 := lw_r hw.1 er
  have hn := lw_n hW
  have e40 := ac 40 (by decide)
  have e44 := ac 44 (by decide)
  have e49 := ac 49 (by decide)
  have e50 := ac 50 (by decide)
  have e51 := ac 51 (by decide)
  have e0 := ac 0 (by decide)
  have n0 : 1 ≤ J2 18 0 0 := by
    rw [er.1.1]
    exact hw.2.2
  refine ⟨⟨hW, tw_s ct fun b x y => ac b (by omega), ?_, ml_r hw.1 ml er, ?_, ?_, ?_, ?_⟩, hG.2.2.1 J2 K2 (by rw [ac 105 (by decide)]; exact c105)⟩
  · unfold PW
    rw [e40, e44, e49, e50, e51, c40.1, c40.2.1, c40.2.2]
    refine ⟨⟨by decide, by decide, by decide, by decide, by decide, by decide⟩, fun t t0 t1 => by omega, fun t i t0 t1 => by omega, fun t i j t0 t1 => by omega, fun k k0 k1 => ?_, fun z => by omega, fun j j0 j1 => by omega, fun p p0 p1 => ?_, fun k k0 k1 => ?_⟩
    · rw [c44 k k0 (by omega)]
      exact ⟨by decide, by decide, fun z => absurd z (by decide)⟩
    · rw [c49 p p0 p1]
      exact ⟨by decide, by decide⟩
    · rw [c50 k k0 k1, c51 k k0 k1]
      exact ⟨by decide, by decide, by decide, by decide⟩
  · unfold MC MP
    rw [m4.2.1, m4.2.2.1, e40, e49, e50, e51, c40.1, c40.2.1, c40.2.2]
    refine ⟨rfl, rfl, fun t t0 t1 => by omega, fun p p0 p1 => ?_, fun k k0 k1 => ?_, fun j j0 j1 => by omega⟩
    · rw [(m6 p p0 p1).1, (m6 p p0 p1).2, c49 p p0 p1, bt_zero]
      exact ⟨rfl, rfl⟩
    · rw [(m8 k k0 (by omega)).1, (m8 k k0 (by omega)).2, c50 k k0 (by omega), c51 k k0 (by omega)]
      exact ⟨rfl, rfl⟩
  · unfold TP
    rw [e0, c0.1, m1]
    exact ⟨by decide, by decide, rfl, fun k k0 k1 => by omega⟩
  · rw [e0, c0.2.1, m3, m4.1, if_pos (by omega)]
    exact ⟨hv, rfl, rfl⟩
  · rw [e0, c0.2.2, m4.2.2.2]
    exact ⟨by decide, by decide, rfl, fun i hi => by omega⟩
theorem op1 {G : zJ → zK → Prop} (hG : GOk G) : ∀ a : Int, zin a → OpW (Inv G) 336 4 161 258 zin [zi a] := by
  intro a ha
  intro L xs D D2 J K hL hD hD2 hI; obtain ⟨⟨hW, hT, hP, hM, hC, hTp, hF, hIm⟩, hg⟩ := id hI; have hE := eqs_rfl J; have hn := lw_n hW; have hpn := pw_n hP
  obtain ⟨D, rfl⟩ : ∃ d, D = d + 1 := ⟨D - 1, by omega⟩
  obtain ⟨tp1, tp2, tp3, tp4⟩ := id hTp
  have bad : a < 0 ∨ J 0 0 1 < a → zCall L xs D2 258 [zr 142, zi a] J K fun r2 e2 J2 K2 => (∃ v2, r2 = .inl (some (zi v2)) ∧ zin v2) ∧ e2 = 0 ∧ J2 142 0 0 = 1 ∧ Inv G J2 K2 := by
    intro hb
    obtain ⟨D2, rfl⟩ : ∃ d, D2 = d + 1 := ⟨D2 - 1, by omega⟩
    have t0 : zup J 142 0 0 0 142 0 0 = 0 := zup_eq _ _ _ _ _
    have fin := fin_x hG hI (fc_rfl J) (fm_t2 J 0 1) rfl (zup_eq _ _ _ _ _) 0 zin_0
    refine z258 hL ?_
    refine c240 hL (by omega) ha zin_0 ⟨by omega, by omega⟩ (zaI_of ⟨zin_zb _, fun q => ?_, fun _ => ?_⟩)
    · rw [zb_1, decide_eq_true_iff] at q
      omega
    · exact c195T hL (by omega) t0 (by decide) (zaI_of ⟨zin_1, fun q => absurd q (by decide), fun _ => fin⟩)
  refine z161 hL ⟨ha, fun q => ⟨by omega, Or.inr ⟨0, 1, rfl, rfl, zonb_ok (by decide +kernel), by decide, by decide, ?_⟩⟩, fun q => ⟨ha, ⟨by omega, by omega⟩, fun q2 => ?_, fun q2 => ⟨by omega, Or.inr ⟨0, 1, rfl, rfl, zonb_ok (by decide +kernel), by decide, by decide, ?_⟩⟩⟩⟩
  · exact bad (Or.inl q)
  · have hT0 : ∀ k : Int, 0 ≤ k → k < a → 0 ≤ J 143 0 k ∧ J 143 0 k < 256 ∧ J 1 0 k = sg (J 143 0 k) := fun k k0 k1 => tp4 k k0 (by omega)
    refine c89 hL (f := fun k => J 143 0 k) (N := a) ⟨q, by omega⟩ (fun k k0 k1 => by rw [zup_ne _ _ _ _ (by decide)]; exact hT0 k k0 k1) (by omega) fun J1 d0 h0 f1 hr hd => zaI_of ?_
    have h6 := hr.2.1.2
    have hf := hr.2.2.2.2.1
    have hp := hr.2.2.2.2.2
    have j0 : J1 0 = zup J 0 0 1 0 0 := f1 0 (by decide)
    have jb : ∀ b : Nat, 17 < b → J1 b = J b := fun b hb => by rw [f1 b (by omega), zup_ne _ _ _ _ (by omega)]
    have j1 : J1 1 = J 1 := by rw [f1 1 (by decide), zup_ne _ _ _ _ (by decide)]
    rw [h6]
    refine ⟨⟨by omega, by omega⟩, fun z => ?_, fun z => ?_⟩
    · obtain ⟨hd1, hw1⟩ := hd z
      have hd2 : DC (rdl (fun k => J 143 0 k) a d0).2 (zup J1 0 0 2 (rdl (fun k => J 143 0 k) a d0).1.2.2) := dc_fr hd1 fun b x y => zup_ne _ _ _ _ (by omega)
      refine c56 hL hd2 (by omega) fun J2 g2 er2 => zaV_of ?_
      have hW2 := lw_r hw1.1 er2
      have n0 : 0 < J2 18 0 0 := by
        rw [er2.1.1]
        exact Int.lt_of_lt_of_le (by decide) hw1.2.2
      have e39 : J2 39 0 0 = 0 := by
        rw [g2 39 (by decide), zup_ne _ _ _ _ (by decide), jb 39 (by decide)]
        have hp2 := pw_pos (J 18 0 6).toNat
        rw [hT.2.2.2.2.2 0 (by decide) (by omega)]
        unfold ldf
        exact sm_zero fun i i0 i1 => by simp only [bt_zero, Bool.false_eq_true, if_false]
      refine c116 hL hW2 n0 e39 (by omega) fun J3 g3 ht3 => zaV_of ?_
      refine c78 hL (by omega) fun J4 g4 v40 v44 v49 v50 v51 => zaV_of ?_
      have hD1 : ∃ d, D = d + 1 := ⟨D - 1, by omega⟩
      obtain ⟨D, rfl⟩ := hD1
      refine z34 hL (zaV_of ?_)
      have k0 : J4 0 = (zup J1 0 0 2 (rdl (fun k => J 143 0 k) a d0).1.2.2) 0 := by
        rw [g4 0 (by decide) (by decide) (by decide) (by decide) (by decide) (by decide), g3 0 (by decide), g2 0 (by decide)]
      have kb : ∀ b : Nat, 141 < b → (zup (zup J4 0 0 8 0) 105 0 5 0) b = J b := by
        intro b hb
        rw [zup_ne _ _ _ _ (by omega), zup_ne _ _ _ _ (by omega), g4 b (by omega) (by omega) (by omega) (by omega) (by omega) (by omega), g3 b (by omega), g2 b (by omega), zup_ne _ _ _ _ (by omega), jb b (by omega)]
      have er5 : EqR (rdl (fun k => J 143 0 k) a d0).2 (zup (zup J4 0 0 8 0) 105 0 5 0) := eqr_e er2 fun b x y => by
        rw [zup_ne _ _ _ _ (by omega), zup_ne _ _ _ _ (by omega), g4 b (by omega) (by omega) (by omega) (by omega) (by omega) (by omega), g3 b (by omega)]
      have ht5 : TW (zup (zup J4 0 0 8 0) 105 0 5 0) := tw_s ht3 fun b x y => by
        rw [zup_ne _ _ _ _ (by omega), zup_ne _ _ _ _ (by omega), g4 b (by omega) (by omega) (by omega) (by omega) (by omega) (by omega)]
      have c0 : (zup (zup J4 0 0 8 0) 105 0 5 0) 0 0 1 = 0 ∧ (zup (zup J4 0 0 8 0) 105 0 5 0) 0 0 2 = (rdl (fun k => J 143 0 k) a d0).1.2.2 ∧ (zup (zup J4 0 0 8 0) 105 0 5 0) 0 0 8 = 0 := by
        rw [zup_ne _ _ _ _ (by decide)]
        refine ⟨?_, ?_, zup_eq _ _ _ _ _⟩
        · rw [zup_nk _ _ (by decide), k0, zup_nk _ _ (by decide), j0, zup_eq]
        · rw [zup_nk _ _ (by decide), k0, zup_eq]
      have c105 : (zup (zup J4 0 0 8 0) 105 0 5 0) 105 0 5 = 0 := zup_eq _ _ _ _ _
      have e40 : (zup (zup J4 0 0 8 0) 105 0 5 0) 40 = J4 40 := by rw [zup_ne _ _ _ _ (by decide), zup_ne _ _ _ _ (by decide)]
      have e44 : (zup (zup J4 0 0 8 0) 105 0 5 0) 44 = J4 44 := by rw [zup_ne _ _ _ _ (by decide), zup_ne _ _ _ _ (by decide)]
      have e49 : (zup (zup J4 0 0 8 0) 105 0 5 0) 49 = J4 49 := by rw [zup_ne _ _ _ _ (by decide), zup_ne _ _ _ _ (by decide)]
      have e50 : (zup (zup J4 0 0 8 0) 105 0 5 0) 50 = J4 50 := by rw [zup_ne _ _ _ _ (by decide), zup_ne _ _ _ _ (by decide)]
      have e51 : (zup (zup J4 0 0 8 0) 105 0 5 0) 51 = J4 51 := by rw [zup_ne _ _ _ _ (by decide), zup_ne _ _ _ _ (by decide)]
      generalize zup (zup J4 0 0 8 0) 105 0 5 0 = J5 at *
      have hn5 := lw_n (lw_r hw1.1 er5)
      rw [← e40] at v40
      rw [← e44] at v44
      rw [← e49] at v49
      rw [← e50] at v50
      rw [← e51] at v51
      refine Or.inl ⟨_, rfl, rfl, ⟨by omega, by omega⟩, fun x => ?_⟩
      have e1 : J5 142 0 1 = J 0 0 1 := by rw [kb 142 (by decide), tp3]
      refine m258 hL (f := fun k => J 143 0 k) (N := a) (d := d0) ⟨q, by omega⟩ (by omega) (by rw [e1]; unfold zin; omega) (fun k k0 k1 => ⟨(hT0 k k0 k1).1, (hT0 k k0 k1).2.1, by rw [kb 143 (by decide)]⟩) h0 (by omega) (fun y => absurd z y) fun _ J6 l1 l2 l3 l4 l5 l6 l7 l8 => ?_
      rw [er5.1.1]
      refine ⟨rfl, rfl, l3, zku_o _ x, inv_new hG hw1 ⟨by omega, by omega⟩ c0 er5 ht5 v40 v44 v49 v50 v51 c105 l2 l1 l4 l5 l6 l7 l8⟩
    · refine Or.inl ⟨_, rfl, rfl, ⟨by omega, by omega⟩, fun x => ?_⟩
      have kb : ∀ b : Nat, 17 < b → (zup J1 0 0 2 (rdl (fun k => J 143 0 k) a d0).1.2.2) b = J b := fun b hb => by rw [zup_ne _ _ _ _ (by omega), jb b hb]
      have c1 : (zup J1 0 0 2 (rdl (fun k => J 143 0 k) a d0).1.2.2) 0 0 1 = 0 := by rw [zup_nk _ _ (by decide), j0, zup_eq]
      have c2 : (zup J1 0 0 2 (rdl (fun k => J 143 0 k) a d0).1.2.2) 0 0 2 = (rdl (fun k => J 143 0 k) a d0).1.2.2 := zup_eq _ _ _ _ _
      have c8 : (zup J1 0 0 2 (rdl (fun k => J 143 0 k) a d0).1.2.2) 0 0 8 = J 0 0 8 := by rw [zup_nk _ _ (by decide), j0, zup_nk _ _ (by decide)]
      generalize zup J1 0 0 2 (rdl (fun k => J 143 0 k) a d0).1.2.2 = J5 at *
      have e1 : J5 142 0 1 = J 0 0 1 := by rw [kb 142 (by decide), tp3]
      refine m258 hL (f := fun k => J 143 0 k) (N := a) (d := d0) ⟨q, by omega⟩ (by omega) (by rw [e1]; unfold zin; omega) (fun k k0 k1 => ⟨(hT0 k k0 k1).1, (hT0 k k0 k1).2.1, by rw [kb 143 (by decide)]⟩) h0 (by omega) (fun _ J6 l1 l2 l3 l4 => ?_) fun y => absurd y z
      exact ⟨rfl, rfl, l2, zku_o _ x, inv_ref hG hI ⟨by omega, by omega⟩ kb c1 c2 c8 l1 l3 l4 (zku_n _ _ (by decide))⟩
  · exact bad (Or.inr q2)
