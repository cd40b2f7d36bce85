/-! CLAUSES: what the six kinds of them tell of a draft d (cells as of a land) -/
def nm2 (f : Int → Int) (N a1 b1 a2 b2 : Int) (t : Int × Int × Int) : Int × Int × Int := smR f N (nmR f N a2 b2 (nmR f N a1 b1 t))
def nm3 (f : Int → Int) (N a1 b1 a2 b2 a3 b3 : Int) (t : Int × Int × Int) : Int × Int × Int := smR f N (nmR f N a3 b3 (nmR f N a2 b2 (nmR f N a1 b1 t)))
theorem nm2_ok {f : Int → Int} {N a1 b1 a2 b2 : Int} {t : Int × Int × Int} (q : (nm2 f N a1 b1 a2 b2 t).2.1 = 0) : t.2.1 = 0 ∧ (nmR f N a1 b1 t).2.1 = 0 ∧ (nmR f N a2 b2 (nmR f N a1 b1 t)).2.1 = 0 ∧ a1 ≤ nmV f N t ∧ nmV f N t ≤ b1 ∧ a2 ≤ nmV f N (nmR f N a1 b1 t) ∧ nmV f N (nmR f N a1 b1 t) ≤ b2 := by
  have h3 := (smR_ok q).1
  have h2 := nmR_ok h3
  have h1 := nmR_ok h2.1
  exact ⟨h1.1, h2.1, h3, h1.2.1, h1.2.2.1, h2.2.1, h2.2.2.1⟩
theorem nm3_ok {f : Int → Int} {N a1 b1 a2 b2 a3 b3 : Int} {t : Int × Int × Int} (q : (nm3 f N a1 b1 a2 b2 a3 b3 t).2.1 = 0) : t.2.1 = 0 ∧ (nmR f N a1 b1 t).2.1 = 0 ∧ (nmR f N a2 b2 (nmR f N a1 b1 t)).2.1 = 0 ∧ (nmR f N a3 b3 (nmR f N a2 b2 (nmR f N a1 b1 t))).2.1 = 0 ∧ a1 ≤ nmV f N t ∧ nmV f N t ≤ b1 ∧ a2 ≤ nmV f N (nmR f N a1 b1 t) ∧ nmV f N (nmR f N a1 b1 t) ≤ b2 ∧ a3 ≤ nmV f N (nmR f N a2 b2 (nmR f N a1 b1 t)) ∧ nmV f N (nmR f N a2 b2 (nmR f N a1 b1 t)) ≤ b3 := by
  have h4 := (smR_ok q).1
  have h3 := nmR_ok h4
  have h2 := nmR_ok h3.1
  have h1 := nmR_ok h2.1
  exact ⟨h1.1, h2.1, h3.1, h4, h1.2.1, h1.2.2.1, h2.2.1, h2.2.2.1, h3.2.1, h3.2.2.1⟩
def updP (d : zJ) (a b c : Int) : zJ := zup (zup (zup (zup d 19 0 (d 18 0 0) a) 20 0 (d 18 0 0) b) 21 0 (d 18 0 0) c) 18 0 0 (d 18 0 0 + 1)
def updF (d : zJ) (a b c : Int) : zJ := zup (zup d 22 0 a b) 23 0 a c
def updN (d : zJ) (a b : Int) : zJ := zup (zup (zup d 24 0 (d 18 0 6) a) 25 0 (d 18 0 6) b) 18 0 6 (d 18 0 6 + 1)
def updL (d : zJ) (a b c : Int) : zJ := zup (zup d 26 0 a b) 27 0 a c
def updE (d : zJ) (a b : Int) : zJ := zup (zup (zup d 28 0 (d 18 0 11) a) 29 0 (d 18 0 11) b) 18 0 11 (d 18 0 11 + 1)
def updW (d : zJ) (a b c : Int) : zJ := zup (zup (zup (zup d 30 0 (d 18 0 14) a) 31 0 (d 18 0 14) b) 32 0 (d 18 0 14) c) 18 0 14 (d 18 0 14 + 1)
def updR (d : zJ) (v : Int) : zJ := zup (zup (zup (zup d 21 0 0 v) 19 0 0 0) 20 0 0 0) 18 0 0 1
def FZ (d : zJ) : Prop := (∀ p : Int, 0 ≤ p → p < 12 → d 18 0 0 ≤ p → d 22 0 p = 0 ∧ d 23 0 p = 0) ∧ (∀ k : Int, 0 ≤ k → k < 7 → d 18 0 6 ≤ k → d 26 0 k = 0 ∧ d 27 0 k = 0)
def WD (d : zJ) : Prop := LW d ∧ FZ d ∧ 1 ≤ d 18 0 0
def D0 (d : zJ) : Prop := (d 18 0 0 = 0 ∧ d 18 0 6 = 0 ∧ d 18 0 11 = 0 ∧ d 18 0 14 = 0) ∧ (∀ p : Int, 0 ≤ p → p < 12 → d 22 0 p = 0 ∧ d 23 0 p = 0) ∧ (∀ k : Int, 0 ≤ k → k < 7 → d 26 0 k = 0 ∧ d 27 0 k = 0)
theorem wd_R {d : zJ} {v : Int} (h : D0 d) (hv : 1 ≤ v ∧ v ≤ 60) : WD (updR d v) := by
  obtain ⟨⟨a0, a1, a2, a3⟩, hp, hk⟩ := h
  unfold WD LW FZ updR
  simp only [zup_at, Nat.reduceEqDiff, Int.reduceEq, eq_self, true_and, and_true, false_and, and_false, if_true, if_false]
  refine ⟨⟨by omega, fun p p0 p1 => ?_, fun p p0 p1 => by omega, fun _ => trivial, fun k k0 k1 => by omega, fun k k0 k1 => by omega, fun k k0 k1 => by omega⟩, ⟨fun p p0 p1 p2 => hp p p0 p1, fun k k0 k1 k2 => hk k k0 k1⟩, by omega⟩
  have e : p = 0 := by omega
  subst e
  have := hp 0 (by first | decide | simp) (by first | decide | simp)
  simp only [if_true]
  omega
theorem wd_P {d : zJ} {a b c : Int} (h : WD d) (hP : d 18 0 0 < 12) (ha : 0 ≤ a ∧ a ≤ d 18 0 0 - 1) (hb : 1 ≤ b ∧ b ≤ 240) (hc : 1 ≤ c ∧ c ≤ 60) : WD (updP d a b c) := by
  obtain ⟨⟨l1, l2, l3, l4, l5, l6, l7⟩, ⟨z1, z2⟩, h1⟩ := h
  unfold WD LW FZ updP
  simp only [zup_at, Nat.reduceEqDiff, Int.reduceEq, eq_self, true_and, and_true, false_and, and_false, if_true, if_false]
  generalize d 18 0 0 = P at *
  refine ⟨⟨by omega, fun p p0 p1 => ?_, fun p p0 p1 => ?_, fun _ => ?_, fun k k0 k1 => ?_, fun k k0 k1 => ?_, fun k k0 k1 => ?_⟩, ⟨fun p p0 p1 p2 => z1 p p0 p1 (by omega), fun k k0 k1 k2 => z2 k k0 k1 k2⟩, by omega⟩
  · by_cases e : p = P
    · subst e
      have := z1 p p0 (by omega) (Int.le_refl _)
      simp only [if_true]
      omega
    · simp only [e, if_false]
      exact l2 p p0 (by omega)
  · by_cases e : p = P
    · subst e
      simp only [if_true]
      omega
    · simp only [e, if_false]
      exact l3 p p0 (by omega)
  · rw [if_neg (by omega), if_neg (by omega)]
    exact l4 (by omega)
  · have := l5 k k0 k1
    omega
  · have := l6 k k0 k1
    omega
  · have := l7 k k0 k1
    omega
theorem wd_F {d : zJ} {a b c : Int} (h : WD d) (ha : 0 ≤ a ∧ a ≤ d 18 0 0 - 1) (hb : 1 ≤ b ∧ b ≤ 60) (hc : 1 ≤ c ∧ c ≤ 60) : WD (updF d a b c) := by
  obtain ⟨⟨l1, l2, l3, l4, l5, l6, l7⟩, ⟨z1, z2⟩, h1⟩ := h
  unfold WD LW FZ updF
  simp only [zup_at, Nat.reduceEqDiff, Int.reduceEq, eq_self, true_and, and_true, false_and, and_false, if_true, if_false]
  refine ⟨⟨l1, fun p p0 p1 => ?_, l3, l4, l5, l6, l7⟩, ⟨fun p p0 p1 p2 => ?_, z2⟩, h1⟩
  · have := l2 p p0 p1
    split <;> omega
  · rw [if_neg (by omega), if_neg (by omega)]
    exact z1 p p0 p1 p2
theorem wd_N {d : zJ} {a b : Int} (h : WD d) (hP : d 18 0 6 < 7) (ha : 1 ≤ a ∧ a ≤ d 18 0 0 - 1) (hb : 1 ≤ b ∧ b ≤ 15) : WD (updN d a b) := by
  obtain ⟨⟨l1, l2, l3, l4, l5, l6, l7⟩, ⟨z1, z2⟩, h1⟩ := h
  unfold WD LW FZ updN
  simp only [zup_at, Nat.reduceEqDiff, Int.reduceEq, eq_self, true_and, and_true, false_and, and_false, if_true, if_false]
  generalize d 18 0 6 = M at *
  refine ⟨⟨by omega, l2, l3, l4, fun k k0 k1 => ?_, l6, l7⟩, ⟨z1, fun k k0 k1 k2 => z2 k k0 k1 (by omega)⟩, h1⟩
  by_cases e : k = M
  · subst e
    have := z2 k k0 (by omega) (Int.le_refl _)
    simp only [if_true]
    omega
  · simp only [e, if_false]
    exact l5 k k0 (by omega)
theorem wd_L {d : zJ} {a b c : Int} (h : WD d) (ha : 0 ≤ a ∧ a ≤ d 18 0 6 - 1) (hb : 0 ≤ b ∧ b ≤ 19) (hc : 1 ≤ c ∧ c ≤ 120) : WD (updL d a b c) := by
  obtain ⟨⟨l1, l2, l3, l4, l5, l6, l7⟩, ⟨z1, z2⟩, h1⟩ := h
  unfold WD LW FZ updL
  simp only [zup_at, Nat.reduceEqDiff, Int.reduceEq, eq_self, true_and, and_true, false_and, and_false, if_true, if_false]
  refine ⟨⟨l1, l2, l3, l4, fun k k0 k1 => ?_, l6, l7⟩, ⟨z1, fun k k0 k1 k2 => ?_⟩, h1⟩
  · have := l5 k k0 k1
    split <;> omega
  · rw [if_neg (by omega), if_neg (by omega)]
    exact z2 k k0 k1 k2
theorem wd_E {d : zJ} {a b : Int} (h : WD d) (hP : d 18 0 11 < 8) (ha : 0 ≤ a ∧ a ≤ d 18 0 0 - 1) (hb : 1 ≤ b ∧ b ≤ 60) : WD (updE d a b) := by
  obtain ⟨⟨l1, l2, l3, l4, l5, l6, l7⟩, ⟨z1, z2⟩, h1⟩ := h
  unfold WD LW FZ updE
  simp only [zup_at, Nat.reduceEqDiff, Int.reduceEq, eq_self, true_and, and_true, false_and, and_false, if_true, if_false]
  generalize d 18 0 11 = M at *
  refine ⟨⟨by omega, l2, l3, l4, l5, fun k k0 k1 => ?_, l7⟩, ⟨z1, z2⟩, h1⟩
  by_cases e : k = M
  · subst e
    simp only [if_true]
    omega
  · simp only [e, if_false]
    exact l6 k k0 (by omega)
theorem wd_W {d : zJ} {a b c : Int} (h : WD d) (hP : d 18 0 14 < 12) (ha : 1 ≤ a ∧ a ≤ d 18 0 0 - 1) (hb : 1 ≤ b ∧ b ≤ 999) (hc : 0 ≤ c ∧ c ≤ 1439) : WD (updW d a b c) := by
  obtain ⟨⟨l1, l2, l3, l4, l5, l6, l7⟩, ⟨z1, z2⟩, h1⟩ := h
  unfold WD LW FZ updW
  simp only [zup_at, Nat.reduceEqDiff, Int.reduceEq, eq_self, true_and, and_true, false_and, and_false, if_true, if_false]
  generalize d 18 0 14 = M at *
  refine ⟨⟨by omega, l2, l3, l4, l5, l6, fun k k0 k1 => ?_⟩, ⟨z1, z2⟩, h1⟩
  by_cases e : k = M
  · subst e
    simp only [if_true]
    omega
  · simp only [e, if_false]
    exact l7 k k0 (by omega)
def clT (f : Int → Int) (N : Int) (d : zJ) (k : Int) (t : Int × Int × Int) : Int × Int × Int :=
  if k = 0 then nm3 f N 0 (d 18 0 0 - 1) 1 240 1 60 t else if k = 1 then nm3 f N 0 (d 18 0 0 - 1) 1 60 1 60 t else if k = 2 then nm2 f N 1 (d 18 0 0 - 1) 1 15 t else if k = 3 then nm3 f N 0 (d 18 0 6 - 1) 0 19 1 120 t else if k = 4 then nm2 f N 0 (d 18 0 0 - 1) 1 60 t else nm3 f N 1 (d 18 0 0 - 1) 1 999 0 1439 t
def clD (f : Int → Int) (N : Int) (d : zJ) (k : Int) (t : Int × Int × Int) : zJ :=
  if k = 0 then updP d (nmV f N t) (nmV f N (nmR f N 0 (d 18 0 0 - 1) t)) (nmV f N (nmR f N 1 240 (nmR f N 0 (d 18 0 0 - 1) t))) else if k = 1 then updF d (nmV f N t) (nmV f N (nmR f N 0 (d 18 0 0 - 1) t)) (nmV f N (nmR f N 1 60 (nmR f N 0 (d 18 0 0 - 1) t))) else if k = 2 then updN d (nmV f N t) (nmV f N (nmR f N 1 (d 18 0 0 - 1) t)) else if k = 3 then updL d (nmV f N t) (nmV f N (nmR f N 0 (d 18 0 6 - 1) t)) (nmV f N (nmR f N 0 19 (nmR f N 0 (d 18 0 6 - 1) t))) else if k = 4 then updE d (nmV f N t) (nmV f N (nmR f N 0 (d 18 0 0 - 1) t)) else updW d (nmV f N t) (nmV f N (nmR f N 1 (d 18 0 0 - 1) t)) (nmV f N (nmR f N 1 999 (nmR f N 1 (d 18 0 0 - 1) t)))
theorem smR_nf {f : Int → Int} {N : Int} {t : Int × Int × Int} (q : t.2.1 ≠ 0) : (smR f N t) = t := smR_f q
theorem nm2_f {f : Int → Int} {N a1 b1 a2 b2 : Int} {t : Int × Int × Int} (q : t.2.1 ≠ 0) : nm2 f N a1 b1 a2 b2 t = t := by
  unfold nm2
  rw [nmR_f q, nmR_f q, smR_f q]
theorem nm3_f {f : Int → Int} {N a1 b1 a2 b2 a3 b3 : Int} {t : Int × Int × Int} (q : t.2.1 ≠ 0) : nm3 f N a1 b1 a2 b2 a3 b3 t = t := by
  unfold nm3
  rw [nmR_f q, nmR_f q, nmR_f q, smR_f q]
theorem clT_f {f : Int → Int} {N k : Int} {d : zJ} {t : Int × Int × Int} (q : t.2.1 ≠ 0) : clT f N d k t = t := by
  unfold clT
  rw [nm3_f q, nm3_f q, nm2_f q, nm3_f q, nm2_f q, nm3_f q]
  simp only [ite_self]
/-- too many -/
def fll (u : Bool) (d : zJ) (k : Int) : Bool := u || decide (k = 0 ∧ 12 ≤ d 18 0 0) || decide (k = 2 ∧ 7 ≤ d 18 0 6) || decide (k = 4 ∧ 8 ≤ d 18 0 11) || decide (k = 5 ∧ 12 ≤ d 18 0 14)
/-- after the word -/
def wd1 (f : Int → Int) (u : Bool) (d : zJ) (s e p : Int) : Int × Int × Int := if kdw f s e = -1 then (e, 1, s) else if fll u d (kdw f s e) = true then (e, 3, s) else (e, 0, p)
theorem kdw_rng (f : Int → Int) (s e : Int) : kdw f s e = -1 ∨ kdw f s e = 0 ∨ kdw f s e = 1 ∨ kdw f s e = 2 ∨ kdw f s e = 3 ∨ kdw f s e = 4 ∨ kdw f s e = 5 := by
  unfold kdw
  repeat' split
  all_goals simp
theorem cl_wd {f : Int → Int} {N s e p : Int} {u : Bool} {d : zJ} (h : WD d) (q : (clT f N d (kdw f s e) (wd1 f u d s e p)).2.1 = 0) : wd1 f u d s e p = (e, 0, p) ∧ fll u d (kdw f s e) = false ∧ (0 ≤ kdw f s e ∧ kdw f s e ≤ 5) ∧ WD (clD f N d (kdw f s e) (wd1 f u d s e p)) := by
  have k1 : kdw f s e ≠ -1 := by
    intro z
    have e1 : wd1 f u d s e p = (e, 1, s) := by
      unfold wd1
      rw [if_pos z]
    rw [e1, clT_f (by first | decide | simp)] at q
    exact absurd q (by first | decide | simp)
  have k2 : fll u d (kdw f s e) = false := by
    cases z : fll u d (kdw f s e) with
    | false => rfl
    | true =>
      have e1 : wd1 f u d s e p = (e, 3, s) := by
        unfold wd1
        rw [if_neg k1, if_pos z]
      rw [e1, clT_f (by first | decide | simp)] at q
      exact absurd q (by first | decide | simp)
  have e1 : wd1 f u d s e p = (e, 0, p) := by
    unfold wd1
    rw [if_neg k1, if_neg (by rw [k2]; decide)]
  rw [e1] at q ⊢
  have hr := kdw_rng f s e
  refine ⟨rfl, k2, by omega, ?_⟩
  unfold fll at k2
  simp only [Bool.or_eq_false_iff, decide_eq_false_iff_not] at k2
  generalize kdw f s e = k at *
  rcases hr with z | z | z | z | z | z | z <;> subst z
  · exact absurd rfl k1
  · obtain ⟨-, -, -, -, c1, c2, c3, c4, c5, c6⟩ := nm3_ok (show (nm3 f N 0 (d 18 0 0 - 1) 1 240 1 60 (e, 0, p)).2.1 = 0 from q)
    exact wd_P h (by omega) ⟨c1, c2⟩ ⟨c3, c4⟩ ⟨c5, c6⟩
  · obtain ⟨-, -, -, -, c1, c2, c3, c4, c5, c6⟩ := nm3_ok (show (nm3 f N 0 (d 18 0 0 - 1) 1 60 1 60 (e, 0, p)).2.1 = 0 from q)
    exact wd_F h ⟨c1, c2⟩ ⟨c3, c4⟩ ⟨c5, c6⟩
  · obtain ⟨-, -, -, c1, c2, c3, c4⟩ := nm2_ok (show (nm2 f N 1 (d 18 0 0 - 1) 1 15 (e, 0, p)).2.1 = 0 from q)
    exact wd_N h (by omega) ⟨c1, c2⟩ ⟨c3, c4⟩
  · obtain ⟨-, -, -, -, c1, c2, c3, c4, c5, c6⟩ := nm3_ok (show (nm3 f N 0 (d 18 0 6 - 1) 0 19 1 120 (e, 0, p)).2.1 = 0 from q)
    exact wd_L h ⟨c1, c2⟩ ⟨c3, c4⟩ ⟨c5, c6⟩
  · obtain ⟨-, -, -, c1, c2, c3, c4⟩ := nm2_ok (show (nm2 f N 0 (d 18 0 0 - 1) 1 60 (e, 0, p)).2.1 = 0 from q)
    exact wd_E h (by omega) ⟨c1, c2⟩ ⟨c3, c4⟩
  · obtain ⟨-, -, -, -, c1, c2, c3, c4, c5, c6⟩ := nm3_ok (show (nm3 f N 1 (d 18 0 0 - 1) 1 999 0 1439 (e, 0, p)).2.1 = 0 from q)
    exact wd_W h (by omega) ⟨c1, c2⟩ ⟨c3, c4⟩ ⟨c5, c6⟩
/-- one clause and the blanks behind it -/
def cst (f : Int → Int) (N : Int) (u : Bool) (d : zJ) (t : Int × Int × Int) : Int × Int × Int := clT f N d (kdw f (skp isB f N t.1) (skp isL f N (skp isB f N t.1))) (wd1 f u d (skp isB f N t.1) (skp isL f N (skp isB f N t.1)) t.2.2)
def csd (f : Int → Int) (N : Int) (u : Bool) (d : zJ) (t : Int × Int × Int) : zJ := clD f N d (kdw f (skp isB f N t.1) (skp isL f N (skp isB f N t.1))) (wd1 f u d (skp isB f N t.1) (skp isL f N (skp isB f N t.1)) t.2.2)
def skt (f : Int → Int) (N : Int) (t : Int × Int × Int) : Int × Int × Int := (skp isB f N t.1, t.2)
def lpR (f : Int → Int) (N : Int) : Nat → Int → (Int × Int × Int) → zJ → (Int × Int × Int) × zJ
  | 0, _, t, d => (t, d)
  | m + 1, c, t, d => if t.2.1 = 0 ∧ t.1 < N then lpR f N m (c + 1) (skt f N (cst f N (decide (c = 40)) d t)) (csd f N (decide (c = 40)) d t) else (t, d)
def rt1 (f : Int → Int) (s e : Int) : Int × Int × Int := if wdb [114, 111, 111, 116] f s e = true then (e, 0, -1) else (e, 1, s)
def rtT (f : Int → Int) (N : Int) : Int × Int × Int := smR f N (nmR f N 1 60 (rt1 f (skp isB f N 0) (skp isL f N (skp isB f N 0))))
def rtD (f : Int → Int) (N : Int) (d : zJ) : zJ := updR d (nmV f N (rt1 f (skp isB f N 0) (skp isL f N (skp isB f N 0))))
/-- the whole reading -/
def rdl (f : Int → Int) (N : Int) (d : zJ) : (Int × Int × Int) × zJ := lpR f N 40 1 (skt f N (rtT f N)) (rtD f N d)
theorem rt_wd {f : Int → Int} {N : Int} {d : zJ} (h : D0 d) (q : (rtT f N).2.1 = 0) : WD (rtD f N d) := by
  have h2 := nmR_ok (smR_ok (show (smR f N (nmR f N 1 60 (rt1 f (skp isB f N 0) (skp isL f N (skp isB f N 0))))).2.1 = 0 from q)).1
  exact wd_R h ⟨h2.2.1, h2.2.2.1⟩
