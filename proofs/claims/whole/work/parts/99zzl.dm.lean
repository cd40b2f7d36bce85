/-! THE MODEL'S DRAFT -/
def MF (J J' : zJ) : Prop := (∀ b : Nat, b ≠ 142 → b ≠ 144 → b ≠ 145 → b ≠ 170 → b ≠ 187 → b ≠ 204 → J' b = J b) ∧ (∀ k : Int, k ≠ 4 → k ≠ 5 → k ≠ 6 → k ≠ 7 → J' 142 0 k = J 142 0 k) ∧ (∀ k : Int, k < 4 → J' 144 0 k = J 144 0 k) ∧ (∀ i k : Int, i < 12 → J' 145 i k = J 145 i k) ∧ (∀ i k : Int, i < 8 → J' 170 i k = J 170 i k) ∧ (∀ i k : Int, i < 8 → J' 187 i k = J 187 i k) ∧ (∀ i k : Int, i < 12 → J' 204 i k = J 204 i k)
theorem mf_rfl (J : zJ) : MF J J := ⟨fun _ _ _ _ _ _ _ => rfl, fun _ _ _ _ _ => rfl, fun _ _ => rfl, fun _ _ _ => rfl, fun _ _ _ => rfl, fun _ _ _ => rfl, fun _ _ _ => rfl⟩
theorem mf_tr {J J1 J2 : zJ} (h : MF J J1) (g : MF J1 J2) : MF J J2 := ⟨fun b a1 a2 a3 a4 a5 a6 => (g.1 b a1 a2 a3 a4 a5 a6).trans (h.1 b a1 a2 a3 a4 a5 a6), fun k a1 a2 a3 a4 => (g.2.1 k a1 a2 a3 a4).trans (h.2.1 k a1 a2 a3 a4), fun k a => (g.2.2.1 k a).trans (h.2.2.1 k a), fun i k a => (g.2.2.2.1 i k a).trans (h.2.2.2.1 i k a), fun i k a => (g.2.2.2.2.1 i k a).trans (h.2.2.2.2.1 i k a), fun i k a => (g.2.2.2.2.2.1 i k a).trans (h.2.2.2.2.2.1 i k a), fun i k a => (g.2.2.2.2.2.2 i k a).trans (h.2.2.2.2.2.2 i k a)⟩
theorem mf_142 {J J1 J2 : zJ} (h : MF J J1) (g : ∀ b : Nat, b ≠ 142 → J2 b = J1 b) (g2 : ∀ k : Int, k ≠ 4 → k ≠ 5 → k ≠ 6 → k ≠ 7 → J2 142 0 k = J1 142 0 k) : MF J J2 :=
  mf_tr h ⟨fun b a _ _ _ _ _ => g b a, g2, fun k _ => by rw [g 144 (by decide)], fun i k _ => by rw [g 145 (by decide)], fun i k _ => by rw [g 170 (by decide)], fun i k _ => by rw [g 187 (by decide)], fun i k _ => by rw [g 204 (by decide)]⟩
theorem mf_u7 {J J1 : zJ} (h : MF J J1) (v : Int) : MF J (zup J1 142 0 7 v) := mf_142 h (fun b hb => zup_ne _ _ _ _ hb) fun k _ _ _ h7 => zup_nk _ _ h7
theorem mf_u144 {J J1 : zJ} (h : MF J J1) {k : Int} (hk : 4 ≤ k) (v : Int) : MF J (zup J1 144 0 k v) :=
  mf_tr h ⟨fun b _ a _ _ _ _ => zup_ne _ _ _ _ a, fun k _ _ _ _ => by rw [zup_ne _ _ _ _ (by decide)], fun k a => zup_nk _ _ (by omega), fun i k _ => by rw [zup_ne _ _ _ _ (by decide)], fun i k _ => by rw [zup_ne _ _ _ _ (by decide)], fun i k _ => by rw [zup_ne _ _ _ _ (by decide)], fun i k _ => by rw [zup_ne _ _ _ _ (by decide)]⟩
theorem mf_u145 {J J1 : zJ} (h : MF J J1) {j : Int} (hj : 12 ≤ j) (l v : Int) : MF J (zup J1 145 j l v) :=
  mf_tr h ⟨fun b _ _ a _ _ _ => zup_ne _ _ _ _ a, fun k _ _ _ _ => by rw [zup_ne _ _ _ _ (by decide)], fun k _ => by rw [zup_ne _ _ _ _ (by decide)], fun i k _ => zup_nj _ _ (by omega), fun i k _ => by rw [zup_ne _ _ _ _ (by decide)], fun i k _ => by rw [zup_ne _ _ _ _ (by decide)], fun i k _ => by rw [zup_ne _ _ _ _ (by decide)]⟩
theorem mf_u170 {J J1 : zJ} (h : MF J J1) {j : Int} (hj : 8 ≤ j) (l v : Int) : MF J (zup J1 170 j l v) :=
  mf_tr h ⟨fun b _ _ _ a _ _ => zup_ne _ _ _ _ a, fun k _ _ _ _ => by rw [zup_ne _ _ _ _ (by decide)], fun k _ => by rw [zup_ne _ _ _ _ (by decide)], fun i k _ => by rw [zup_ne _ _ _ _ (by decide)], fun i k _ => zup_nj _ _ (by omega), fun i k _ => by rw [zup_ne _ _ _ _ (by decide)], fun i k _ => by rw [zup_ne _ _ _ _ (by decide)]⟩
theorem mf_u187 {J J1 : zJ} (h : MF J J1) {j : Int} (hj : 8 ≤ j) (l v : Int) : MF J (zup J1 187 j l v) :=
  mf_tr h ⟨fun b _ _ _ _ a _ => zup_ne _ _ _ _ a, fun k _ _ _ _ => by rw [zup_ne _ _ _ _ (by decide)], fun k _ => by rw [zup_ne _ _ _ _ (by decide)], fun i k _ => by rw [zup_ne _ _ _ _ (by decide)], fun i k _ => by rw [zup_ne _ _ _ _ (by decide)], fun i k _ => zup_nj _ _ (by omega), fun i k _ => by rw [zup_ne _ _ _ _ (by decide)]⟩
theorem mf_u204 {J J1 : zJ} (h : MF J J1) {j : Int} (hj : 12 ≤ j) (l v : Int) : MF J (zup J1 204 j l v) :=
  mf_tr h ⟨fun b _ _ _ _ _ a => zup_ne _ _ _ _ a, fun k _ _ _ _ => by rw [zup_ne _ _ _ _ (by decide)], fun k _ => by rw [zup_ne _ _ _ _ (by decide)], fun i k _ => by rw [zup_ne _ _ _ _ (by decide)], fun i k _ => by rw [zup_ne _ _ _ _ (by decide)], fun i k _ => by rw [zup_ne _ _ _ _ (by decide)], fun i k _ => zup_nj _ _ (by omega)⟩
def DM (d J : zJ) : Prop :=
  (J 144 0 4 = d 18 0 0 ∧ J 144 0 5 = d 18 0 6 ∧ J 144 0 6 = d 18 0 11 ∧ J 144 0 7 = d 18 0 14) ∧
  (∀ p : Int, 0 ≤ p → p < d 18 0 0 → J 145 (12 + p) 0 = (if p = 0 then -1 else d 19 0 p) ∧ J 145 (12 + p) 1 = d 20 0 p ∧ J 145 (12 + p) 2 = d 21 0 p ∧ J 145 (12 + p) 3 = d 22 0 p ∧ J 145 (12 + p) 4 = d 23 0 p) ∧
  (∀ k : Int, 0 ≤ k → k < d 18 0 6 → J 170 (8 + k) 0 = d 24 0 k ∧ J 170 (8 + k) 1 = d 25 0 k ∧ J 170 (8 + k) 2 = d 26 0 k ∧ J 170 (8 + k) 3 = d 27 0 k) ∧
  (∀ e : Int, 0 ≤ e → e < d 18 0 11 → J 187 (8 + e) 0 = d 28 0 e ∧ J 187 (8 + e) 1 = d 29 0 e) ∧
  (∀ w : Int, 0 ≤ w → w < d 18 0 14 → J 204 (12 + w) 0 = d 30 0 w ∧ J 204 (12 + w) 1 = d 31 0 w ∧ J 204 (12 + w) 2 = d 32 0 w)
theorem dm_eq {d J J' : zJ} (h : DM d J) (a : J' 144 = J 144) (b : J' 145 = J 145) (c : J' 170 = J 170) (e : J' 187 = J 187) (g : J' 204 = J 204) : DM d J' := by
  unfold DM at h ⊢
  rw [a, b, c, e, g]
  exact h
theorem dm_fr {d J J' : zJ} (h : DM d J) (e : ∀ b : Nat, b ≠ 142 → J' b = J b) : DM d J' := dm_eq h (e _ (by decide)) (e _ (by decide)) (e _ (by decide)) (e _ (by decide)) (e _ (by decide))
theorem zup_c {J J' : zJ} {a : Nat} (h : J a = J' a) (i k v : Int) : zup J a i k v a = zup J' a i k v a := by
  unfold zup
  rw [zset_eq, zset_eq, h]
theorem dm_R {d J : zJ} {v : Int} (h0 : D0 d) (e0 : J 145 12 0 = -1) (e1 : J 145 12 1 = 0) (e2 : J 145 12 2 = v) (e3 : J 145 12 3 = 0) (e4 : J 145 12 4 = 0) : DM (updR d v) (zup (zup (zup (zup (zup J 144 0 4 1) 144 0 5 0) 144 0 6 0) 144 0 7 0) 142 0 7 1) := by
  obtain ⟨⟨a0, a1, a2, a3⟩, hp, hk⟩ := h0
  unfold DM updR
  simp only [zup_at, Nat.reduceEqDiff, Int.reduceEq, eq_self, true_and, and_true, false_and, and_false, if_true, if_false]
  refine ⟨⟨a1.symm, a2.symm, a3.symm⟩, fun p p0 p1 => ?_, fun k k0 k1 => by omega, fun k k0 k1 => by omega, fun k k0 k1 => by omega⟩
  have e : p = 0 := by omega
  subst e
  have z := hp 0 (by decide) (by decide)
  rw [z.1, z.2]
  exact ⟨e0, e1, e2, e3, e4⟩
theorem dm_P {d J J3 : zJ} {a b c P : Int} (h : DM d J) (hw : WD d) (hP : d 18 0 0 = P) (h12 : P < 12) (e144 : J3 144 = J 144) (e145 : J3 145 = zup (zup J 145 (12 + P) 0 a) 145 (12 + P) 1 b 145) (e170 : J3 170 = J 170) (e187 : J3 187 = J 187) (e204 : J3 204 = J 204) : DM (updP d a b c) (zup (zup (zup (zup J3 145 (12 + P) 2 c) 145 (12 + P) 3 0) 145 (12 + P) 4 0) 144 0 4 (P + 1)) := by
  obtain ⟨⟨m0, m1, m2, m3⟩, mp, mk, me, mw⟩ := h
  have hP1 := hw.2.2
  have hz := hw.2.1.1 P (by omega) h12 (by omega)
  unfold DM updP
  rw [hP] at mp hP1 ⊢
  simp only [e144, e145, e170, e187, e204, zup_at, Nat.reduceEqDiff, Int.reduceEq, eq_self, true_and, and_true, false_and, and_false, if_true, if_false]
  refine ⟨⟨m1, m2, m3⟩, fun p p0 p1 => ?_, mk, me, mw⟩
  by_cases e : p = P
  · subst e
    simp only [if_true, if_neg (show ¬ (p = 0) by omega)]
    exact ⟨trivial, trivial, trivial, hz.1.symm, hz.2.symm⟩
  · have e2 : ¬ (12 + p = 12 + P) := by omega
    simp only [e, e2, if_false]
    exact mp p p0 (by omega)
theorem dm_F {d J : zJ} {a b c : Int} (h : DM d J) : DM (updF d a b c) (zup (zup J 145 (12 + a) 3 b) 145 (12 + a) 4 c) := by
  obtain ⟨m, mp, mk, me, mw⟩ := h
  unfold DM updF
  simp only [zup_at, Nat.reduceEqDiff, Int.reduceEq, eq_self, true_and, and_true, false_and, and_false, if_true, if_false]
  refine ⟨m, fun p p0 p1 => ?_, mk, me, mw⟩
  have := mp p p0 p1
  by_cases e : p = a
  · subst e
    simp only [if_true]
    exact ⟨this.1, this.2.1, this.2.2.1, trivial, trivial⟩
  · have e2 : ¬ (12 + p = 12 + a) := by omega
    simp only [e, e2, if_false]
    exact this
theorem dm_N {d J J3 : zJ} {a b P : Int} (h : DM d J) (hw : WD d) (hP : d 18 0 6 = P) (h12 : P < 7) (e144 : J3 144 = J 144) (e145 : J3 145 = J 145) (e170 : J3 170 = zup J 170 (8 + P) 0 a 170) (e187 : J3 187 = J 187) (e204 : J3 204 = J 204) : DM (updN d a b) (zup (zup (zup (zup J3 170 (8 + P) 1 b) 170 (8 + P) 2 0) 170 (8 + P) 3 0) 144 0 5 (P + 1)) := by
  obtain ⟨⟨m0, m1, m2, m3⟩, mp, mk, me, mw⟩ := h
  have hl := lw_n hw.1
  have hz := hw.2.1.2 P (by omega) h12 (by omega)
  unfold DM updN
  rw [hP] at mk ⊢
  simp only [e144, e145, e170, e187, e204, zup_at, Nat.reduceEqDiff, Int.reduceEq, eq_self, true_and, and_true, false_and, and_false, if_true, if_false]
  refine ⟨⟨m0, m2, m3⟩, mp, fun p p0 p1 => ?_, me, mw⟩
  by_cases e : p = P
  · subst e
    simp only [if_true]
    exact ⟨trivial, trivial, hz.1.symm, hz.2.symm⟩
  · have e2 : ¬ (8 + p = 8 + P) := by omega
    simp only [e, e2, if_false]
    exact mk p p0 (by omega)
theorem dm_L {d J : zJ} {a b c : Int} (h : DM d J) : DM (updL d a b c) (zup (zup J 170 (8 + a) 2 b) 170 (8 + a) 3 c) := by
  obtain ⟨m, mp, mk, me, mw⟩ := h
  unfold DM updL
  simp only [zup_at, Nat.reduceEqDiff, Int.reduceEq, eq_self, true_and, and_true, false_and, and_false, if_true, if_false]
  refine ⟨m, mp, fun p p0 p1 => ?_, me, mw⟩
  have := mk p p0 p1
  by_cases e : p = a
  · subst e
    simp only [if_true]
    exact ⟨this.1, this.2.1, trivial, trivial⟩
  · have e2 : ¬ (8 + p = 8 + a) := by omega
    simp only [e, e2, if_false]
    exact this
theorem dm_E {d J J3 : zJ} {a b P : Int} (h : DM d J) (hP : d 18 0 11 = P) (e144 : J3 144 = J 144) (e145 : J3 145 = J 145) (e170 : J3 170 = J 170) (e187 : J3 187 = zup J 187 (8 + P) 0 a 187) (e204 : J3 204 = J 204) : DM (updE d a b) (zup (zup J3 187 (8 + P) 1 b) 144 0 6 (P + 1)) := by
  obtain ⟨⟨m0, m1, m2, m3⟩, mp, mk, me, mw⟩ := h
  unfold DM updE
  rw [hP] at me ⊢
  simp only [e144, e145, e170, e187, e204, zup_at, Nat.reduceEqDiff, Int.reduceEq, eq_self, true_and, and_true, false_and, and_false, if_true, if_false]
  refine ⟨⟨m0, m1, m3⟩, mp, mk, fun p p0 p1 => ?_, mw⟩
  by_cases e : p = P
  · subst e
    simp only [if_true]
    exact ⟨trivial, trivial⟩
  · have e2 : ¬ (8 + p = 8 + P) := by omega
    simp only [e, e2, if_false]
    exact me p p0 (by omega)
theorem dm_W {d J J3 : zJ} {a b c P : Int} (h : DM d J) (hP : d 18 0 14 = P) (e144 : J3 144 = J 144) (e145 : J3 145 = J 145) (e170 : J3 170 = J 170) (e187 : J3 187 = J 187) (e204 : J3 204 = zup (zup J 204 (12 + P) 0 a) 204 (12 + P) 1 b 204) : DM (updW d a b c) (zup (zup J3 204 (12 + P) 2 c) 144 0 7 (P + 1)) := by
  obtain ⟨⟨m0, m1, m2, m3⟩, mp, mk, me, mw⟩ := h
  unfold DM updW
  rw [hP] at mw ⊢
  simp only [e144, e145, e170, e187, e204, zup_at, Nat.reduceEqDiff, Int.reduceEq, eq_self, true_and, and_true, false_and, and_false, if_true, if_false]
  refine ⟨⟨m0, m1, m2⟩, mp, mk, me, fun p p0 p1 => ?_⟩
  by_cases e : p = P
  · subst e
    simp only [if_true]
    exact ⟨trivial, trivial, trivial⟩
  · have e2 : ¬ (12 + p = 12 + P) := by omega
    simp only [e, e2, if_false]
    exact mw p p0 (by omega)
theorem rm_up {f : Int → Int} {N : Int} {t : Int × Int × Int} {J : zJ} (h : RM f N t J) {a : Nat} (h1 : 142 ≠ a) (h2 : 143 ≠ a) (i k v : Int) : RM f N t (zup J a i k v) := rm_eq h (by rw [zup_ne _ _ _ _ h2]) (by rw [zup_ne _ _ _ _ h1]) (by rw [zup_ne _ _ _ _ h1]) (by rw [zup_ne _ _ _ _ h1]) (by rw [zup_ne _ _ _ _ h1])
theorem rm_u7 {f : Int → Int} {N : Int} {t : Int × Int × Int} {J : zJ} (h : RM f N t J) (v : Int) : RM f N t (zup J 142 0 7 v) := rm_eq h (by rw [zup_ne _ _ _ _ (by decide)]) (by rw [zup_nk _ _ (by decide)]) (by rw [zup_nk _ _ (by decide)]) (by rw [zup_nk _ _ (by decide)]) (by rw [zup_nk _ _ (by decide)])
theorem u202 {L : Nat} {xs : Nat → Int32} (hL : L ≤ 3072) {D : Nat} {J : zJ} {K : zK} {Q : zR → Nat → zJ → zK → Prop} {f : Int → Int} {N : Int} {t : Int × Int × Int} (h : RM f N t J) (hD : 2 ≤ D) (hQ : ∀ J' : zJ, (∀ b : Nat, b ≠ 142 → J' b = J b) → (∀ k : Int, k ≠ 4 → J' 142 0 k = J 142 0 k) → RM f N (skt f N t) J' → Q (.inl none) 0 J' K) : zCall L xs D 202 [zr 142] J K Q := by
  obtain ⟨hT, ⟨h5, h6⟩, h3, hr, hf, hp⟩ := h
  have r1 := skp_in (P := isB) (f := f) (N := N) (i := J 142 0 4) (by omega) (by omega)
  refine c202 hL hT rfl (by omega) (by omega) hD fun J' g1 g2 g3 => hQ J' g1 g2 ⟨tpm_eq hT (g1 143 (by decide)) (g2 2 (by decide)), ⟨(g2 5 (by decide)).trans h5, (g2 6 (by decide)).trans h6⟩, fun z => ?_, by omega, hf, hp⟩
  rw [g3, h3 z]
  rfl
