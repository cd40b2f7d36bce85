/-! THE LAND, as the class's cells tell it: 18: places (0), portions (6), engines (11), wants (14); of a place 19 the one nearer to the root, 20 minutes, 21 platform, 22 parting, 23 joining; of a portion 24 end, 25 carriages, 26 chance, 27 delay; of an engine 28 place, 29 pulls; of a want 30 place, 31 people, 32 minute -/
def LW (s : zJ) : Prop :=
  (0 ≤ s 18 0 0 ∧ s 18 0 0 ≤ 12 ∧ 0 ≤ s 18 0 6 ∧ s 18 0 6 ≤ 7 ∧ 0 ≤ s 18 0 11 ∧ s 18 0 11 ≤ 8 ∧ 0 ≤ s 18 0 14 ∧ s 18 0 14 ≤ 12) ∧
  (∀ p, 0 ≤ p → p < s 18 0 0 → 0 ≤ s 19 0 p ∧ s 19 0 p ≤ 11 ∧ 0 ≤ s 20 0 p ∧ s 20 0 p ≤ 240 ∧ 1 ≤ s 21 0 p ∧ s 21 0 p ≤ 60 ∧ 0 ≤ s 22 0 p ∧ s 22 0 p ≤ 60 ∧ 0 ≤ s 23 0 p ∧ s 23 0 p ≤ 60) ∧
  (∀ p, 1 ≤ p → p < s 18 0 0 → s 19 0 p < p ∧ 1 ≤ s 20 0 p) ∧
  (0 < s 18 0 0 → s 19 0 0 = 0 ∧ s 20 0 0 = 0) ∧
  (∀ k, 0 ≤ k → k < s 18 0 6 → 1 ≤ s 24 0 k ∧ s 24 0 k < s 18 0 0 ∧ 1 ≤ s 25 0 k ∧ s 25 0 k ≤ 15 ∧ 0 ≤ s 26 0 k ∧ s 26 0 k ≤ 19 ∧ 0 ≤ s 27 0 k ∧ s 27 0 k ≤ 120) ∧
  (∀ e, 0 ≤ e → e < s 18 0 11 → 0 ≤ s 28 0 e ∧ s 28 0 e < s 18 0 0 ∧ 1 ≤ s 29 0 e ∧ s 29 0 e ≤ 60) ∧
  (∀ w, 0 ≤ w → w < s 18 0 14 → 1 ≤ s 30 0 w ∧ s 30 0 w < s 18 0 0 ∧ 1 ≤ s 31 0 w ∧ s 31 0 w ≤ 999 ∧ 0 ≤ s 32 0 w ∧ s 32 0 w ≤ 1439)
theorem lw_n {s : zJ} (h : LW s) : 0 ≤ s 18 0 0 ∧ s 18 0 0 ≤ 12 ∧ 0 ≤ s 18 0 6 ∧ s 18 0 6 ≤ 7 ∧ 0 ≤ s 18 0 11 ∧ s 18 0 11 ≤ 8 ∧ 0 ≤ s 18 0 14 ∧ s 18 0 14 ≤ 12 := h.1
theorem lw_p {s : zJ} (h : LW s) {p : Int} (h0 : 0 ≤ p) (h1 : p < s 18 0 0) : 0 ≤ s 19 0 p ∧ s 19 0 p ≤ 11 ∧ 0 ≤ s 20 0 p ∧ s 20 0 p ≤ 240 ∧ 1 ≤ s 21 0 p ∧ s 21 0 p ≤ 60 ∧ 0 ≤ s 22 0 p ∧ s 22 0 p ≤ 60 ∧ 0 ≤ s 23 0 p ∧ s 23 0 p ≤ 60 := h.2.1 p h0 h1
theorem lw_up {s : zJ} (h : LW s) {p : Int} (h0 : 1 ≤ p) (h1 : p < s 18 0 0) : s 19 0 p < p ∧ 1 ≤ s 20 0 p := h.2.2.1 p h0 h1
theorem lw_0 {s : zJ} (h : LW s) (h0 : 0 < s 18 0 0) : s 19 0 0 = 0 ∧ s 20 0 0 = 0 := h.2.2.2.1 h0
theorem lw_k {s : zJ} (h : LW s) {k : Int} (h0 : 0 ≤ k) (h1 : k < s 18 0 6) : 1 ≤ s 24 0 k ∧ s 24 0 k < s 18 0 0 ∧ 1 ≤ s 25 0 k ∧ s 25 0 k ≤ 15 ∧ 0 ≤ s 26 0 k ∧ s 26 0 k ≤ 19 ∧ 0 ≤ s 27 0 k ∧ s 27 0 k ≤ 120 := h.2.2.2.2.1 k h0 h1
theorem lw_e {s : zJ} (h : LW s) {e : Int} (h0 : 0 ≤ e) (h1 : e < s 18 0 11) : 0 ≤ s 28 0 e ∧ s 28 0 e < s 18 0 0 ∧ 1 ≤ s 29 0 e ∧ s 29 0 e ≤ 60 := h.2.2.2.2.2.1 e h0 h1
theorem lw_w {s : zJ} (h : LW s) {w : Int} (h0 : 0 ≤ w) (h1 : w < s 18 0 14) : 1 ≤ s 30 0 w ∧ s 30 0 w < s 18 0 0 ∧ 1 ≤ s 31 0 w ∧ s 31 0 w ≤ 999 ∧ 0 ≤ s 32 0 w ∧ s 32 0 w ≤ 1439 := h.2.2.2.2.2.2 w h0 h1
/-- it speaks of cells 18 to 32 alone -/
theorem lw_eq {s s' : zJ} (h : LW s) (e : ∀ b, 18 ≤ b → b ≤ 32 → s' b = s b) : LW s' := by
  unfold LW at h ⊢
  rw [e 18 (by decide) (by decide), e 19 (by decide) (by decide), e 20 (by decide) (by decide), e 21 (by decide) (by decide), e 22 (by decide) (by decide), e 23 (by decide) (by decide), e 24 (by decide) (by decide), e 25 (by decide) (by decide), e 26 (by decide) (by decide), e 27 (by decide) (by decide), e 28 (by decide) (by decide), e 29 (by decide) (by decide), e 30 (by decide) (by decide), e 31 (by decide) (by decide), e 32 (by decide) (by decide)]
  exact h
/-! the tree: up from q as long as it is beyond p -/
def cl (s : zJ) (p : Int) : Nat → Int → Int
  | 0, q => q
  | n + 1, q => if q ≤ p then q else cl s p n (s 19 0 q)
/-- p is on the way from the root to q -/
def on (s : zJ) (p q : Int) : Prop := cl s p 12 q = p
theorem cl_le {s : zJ} {p q : Int} (h : q ≤ p) (n : Nat) : cl s p n q = q := by
  cases n
  · rfl
  · simp [cl, h]
theorem cl_up {s : zJ} {p q : Int} (h : p < q) (n : Nat) : cl s p (n + 1) q = cl s p n (s 19 0 q) := by
  rw [cl, if_neg (by omega)]
theorem cl_fuel {s : zJ} (h : LW s) {p : Int} (hp : 0 ≤ p) : ∀ (n m : Nat) (q : Int), 0 ≤ q → q < s 18 0 0 → q ≤ n → q ≤ m → cl s p n q = cl s p m q := by
  intro n
  induction n with
  | zero =>
    intro m q h0 h1 h2 h3
    rw [cl_le (by omega), cl_le (by omega)]
  | succ n ih =>
    intro m q h0 h1 h2 h3
    by_cases hq : q ≤ p
    · rw [cl_le hq, cl_le hq]
    · cases m with
      | zero => omega
      | succ m =>
        have hu := lw_up h (p := q) (by omega) h1
        have hv := lw_p h (p := q) (by omega) (by omega)
        rw [cl_up (by omega), cl_up (by omega)]
        exact ih m _ (by omega) (by omega) (by omega) (by omega)
theorem cl_12 {s : zJ} (h : LW s) {p q : Int} (hp : 0 ≤ p) (hq : p < q) (h1 : q < s 18 0 0) : cl s p 12 q = cl s p 12 (s 19 0 q) := by
  have hu := lw_up h (p := q) (by omega) h1
  have hv := lw_p h (p := q) (by omega) (by omega)
  have hn := lw_n h
  rw [cl_up hq]
  exact cl_fuel h hp _ _ _ (by omega) (by omega) (by omega) (by omega)
theorem on_self (s : zJ) (p : Int) : on s p p := cl_le (Int.le_refl p) 12
theorem on_up {s : zJ} (h : LW s) {p q : Int} (hp : 0 ≤ p) (hq : p < q) (h1 : q < s 18 0 0) : on s p q ↔ on s p (s 19 0 q) := by
  unfold on
  rw [cl_12 h hp hq h1]
/-- induction from a place towards the root -/
theorem up_ind {s : zJ} (h : LW s) {P : Int → Prop} (h0 : P 0) (h1 : ∀ q, 1 ≤ q → q < s 18 0 0 → P (s 19 0 q) → P q) : ∀ q, 0 ≤ q → q < s 18 0 0 → P q := by
  have : ∀ (n : Nat) (q : Int), 0 ≤ q → q < s 18 0 0 → q ≤ n → P q := by
    intro n
    induction n with
    | zero =>
      intro q a b c
      have : q = 0 := by omega
      rw [this]
      exact h0
    | succ n ih =>
      intro q a b c
      by_cases hq : q = 0
      · rw [hq]
        exact h0
      · have hu := lw_up h (p := q) (by omega) b
        have hv := lw_p h (p := q) (by omega) (by omega)
        exact h1 q (by omega) b (ih _ (by omega) (by omega) (by omega))
  intro q a b
  exact this 12 q a b (by have := lw_n h; omega)
theorem on_le {s : zJ} (h : LW s) {p : Int} (hp : 0 ≤ p) : ∀ q, 0 ≤ q → q < s 18 0 0 → on s p q → p ≤ q := by
  refine up_ind h ?_ ?_
  · intro h1
    unfold on at h1
    rw [cl_le hp] at h1
    omega
  · intro q h1 h2 ih h3
    by_cases hq : p < q
    · omega
    · unfold on at h3
      rw [cl_le (by omega)] at h3
      omega
theorem on_zero {s : zJ} (h : LW s) : ∀ q, 0 ≤ q → q < s 18 0 0 → on s 0 q := by
  refine up_ind h (on_self s 0) ?_
  intro q h1 h2 ih
  exact (on_up h (by omega) (by omega) h2).mpr ih
theorem on_trans {s : zJ} (h : LW s) {a b : Int} (ha : 0 ≤ a) (hb : a ≤ b) (hab : on s a b) : ∀ c, 0 ≤ c → c < s 18 0 0 → on s b c → on s a c := by
  refine up_ind h ?_ ?_
  · intro h1
    have h2 : b ≤ 0 ∨ 0 < b := by omega
    rcases h2 with h2 | h2
    · have e1 : a = 0 := by omega
      rw [e1]
      exact on_self s 0
    · unfold on at h1
      rw [cl_le (by omega)] at h1
      omega
  · intro c h1 h2 ih h3
    by_cases hc : b < c
    · exact (on_up h ha (by omega) h2).mpr (ih ((on_up h (by omega) hc h2).mp h3))
    · unfold on at h3
      rw [cl_le (by omega)] at h3
      rw [h3]
      exact hab
/-- those on one way are on each other's -/
theorem on_chain {s : zJ} (h : LW s) {a b : Int} (ha : 0 ≤ a) (hb : a ≤ b) : ∀ c, 0 ≤ c → c < s 18 0 0 → on s a c → on s b c → on s a b := by
  refine up_ind h ?_ ?_
  · intro h1 h2
    have h3 : b ≤ 0 ∨ 0 < b := by omega
    rcases h3 with h3 | h3
    · have e1 : a = b := by omega
      rw [e1]
      exact on_self s b
    · unfold on at h2
      rw [cl_le (by omega)] at h2
      omega
  · intro c h1 h2 ih h3 h4
    by_cases hc : b < c
    · exact ih ((on_up h ha (by omega) h2).mp h3) ((on_up h (by omega) hc h2).mp h4)
    · unfold on at h4
      rw [cl_le (by omega)] at h4
      rw [← h4]
      exact h3
/-- the next place from p towards q -/
def tw (s : zJ) (p : Int) : Nat → Int → Int
  | 0, q => q
  | n + 1, q => if s 19 0 q = p then q else tw s p n (s 19 0 q)
theorem tw_ok {s : zJ} (h : LW s) {p : Int} (hp : 0 ≤ p) : ∀ (n : Nat) (q : Int), p < q → q < s 18 0 0 → on s p q → q ≤ n → s 19 0 (tw s p n q) = p ∧ p < tw s p n q ∧ tw s p n q ≤ q ∧ on s (tw s p n q) q := by
  intro n
  induction n with
  | zero =>
    intro q h1 h2 h3 h4
    omega
  | succ n ih =>
    intro q h1 h2 h3 h4
    have hu := lw_up h (p := q) (by omega) h2
    have hv := lw_p h (p := q) (by omega) (by omega)
    rw [tw]
    by_cases hq : s 19 0 q = p
    · rw [if_pos hq]
      exact ⟨hq, h1, Int.le_refl q, on_self s q⟩
    · rw [if_neg hq]
      have h5 := (on_up h hp h1 h2).mp h3
      have h6 := on_le h hp _ (by omega) (by omega) h5
      obtain ⟨a, b, c, d⟩ := ih _ (by omega) (by omega) h5 (by omega)
      exact ⟨a, b, by omega, (on_up h (by omega) (by omega) h2).mpr d⟩
theorem tw_fuel {s : zJ} (h : LW s) {p : Int} (hp : 0 ≤ p) : ∀ (n m : Nat) (q : Int), p < q → q < s 18 0 0 → on s p q → q ≤ n → q ≤ m → tw s p n q = tw s p m q := by
  intro n
  induction n with
  | zero =>
    intro m q h1 h2 h3 h4
    omega
  | succ n ih =>
    intro m q h1 h2 h3 h4 h5
    cases m with
    | zero => omega
    | succ m =>
    have hu := lw_up h (p := q) (by omega) h2
    have hv := lw_p h (p := q) (by omega) (by omega)
    rw [tw, tw]
    by_cases hq : s 19 0 q = p
    · rw [if_pos hq, if_pos hq]
    · rw [if_neg hq, if_neg hq]
      have h6 := (on_up h hp h1 h2).mp h3
      have h7 := on_le h hp _ (by omega) (by omega) h6
      exact ih m _ (by omega) (by omega) h6 (by omega) (by omega)
/-- a child of p on the way to q is the next place -/
theorem tw_one {s : zJ} (h : LW s) {p c q : Int} (hp : 0 ≤ p) (hc : s 19 0 c = p) (h1 : p < c) (h2 : c ≤ q) (h3 : q < s 18 0 0) (ho : on s c q) : tw s p 12 q = c := by
  have hpc : on s p c := (on_up h hp h1 (by omega)).mpr (by rw [hc]; exact on_self s p)
  have hpq : on s p q := on_trans h hp (by omega) hpc q (by omega) h3 ho
  have hn := lw_n h
  obtain ⟨a, b, c', d⟩ := tw_ok h hp 12 q (by omega) h3 hpq (by omega)
  generalize ht : tw s p 12 q = t at a b c' d
  rcases Int.lt_trichotomy c t with g | g | g
  · have h5 := on_chain h (by omega) (Int.le_of_lt g) q (by omega) h3 ho d
    rw [on_up h (by omega) g (by omega), a] at h5
    have := on_le h (by omega) _ hp (by omega) h5
    omega
  · exact g.symm
  · have h5 := on_chain h (by omega) (Int.le_of_lt g) q (by omega) h3 d ho
    rw [on_up h (by omega) g (by omega), hc] at h5
    have := on_le h (by omega) _ hp (by omega) h5
    omega
/-- the next place of a portion that goes by p, or p where it ends -/
def nx (s : zJ) (p q : Int) : Int := if q = p then p else tw s p 12 q
/-- minutes from the root -/
def dpf (s : zJ) : Nat → Int → Int
  | 0, _ => 0
  | n + 1, q => if q ≤ 0 then 0 else s 20 0 q + dpf s n (s 19 0 q)
def dep (s : zJ) (q : Int) : Int := dpf s 12 q
theorem dpf_fuel {s : zJ} (h : LW s) : ∀ (n m : Nat) (q : Int), 0 ≤ q → q < s 18 0 0 → q ≤ n → q ≤ m → dpf s n q = dpf s m q := by
  intro n
  induction n with
  | zero =>
    intro m q h0 h1 h2 h3
    cases m with
    | zero => rfl
    | succ m => rw [dpf, dpf, if_pos (by omega)]
  | succ n ih =>
    intro m q h0 h1 h2 h3
    by_cases hq : q ≤ 0
    · cases m with
      | zero => rw [dpf, dpf, if_pos hq]
      | succ m => rw [dpf, dpf, if_pos hq, if_pos hq]
    · cases m with
      | zero => omega
      | succ m =>
        have hu := lw_up h (p := q) (by omega) h1
        have hv := lw_p h (p := q) (by omega) (by omega)
        rw [dpf, dpf, if_neg hq, if_neg hq, ih m _ (by omega) (by omega) (by omega) (by omega)]
theorem dep_0 (s : zJ) : dep s 0 = 0 := by simp [dep, dpf]
theorem dep_up {s : zJ} (h : LW s) {q : Int} (hq : 1 ≤ q) (h1 : q < s 18 0 0) : dep s q = s 20 0 q + dep s (s 19 0 q) := by
  have hu := lw_up h hq h1
  have hv := lw_p h (p := q) (by omega) (by omega)
  have hn := lw_n h
  unfold dep
  rw [dpf, if_neg (by omega), dpf_fuel h 11 12 _ (by omega) (by omega) (by omega) (by omega)]
theorem dep_le {s : zJ} (h : LW s) : ∀ q, 0 ≤ q → q < s 18 0 0 → 0 ≤ dep s q ∧ dep s q ≤ 240 * q := by
  refine up_ind h (by rw [dep_0]; omega) ?_
  intro q h1 h2 ih
  have hu := lw_up h h1 h2
  have hv := lw_p h (p := q) (by omega) (by omega)
  rw [dep_up h h1 h2]
  omega
/-- where two ways part -/
def mt (s : zJ) : Nat → Int → Int → Int
  | 0, p, _ => p
  | n + 1, p, q => if p = q then p else if q < p then mt s n (s 19 0 p) q else mt s n p (s 19 0 q)
theorem mt_fuel {s : zJ} (h : LW s) : ∀ (n m : Nat) (p q : Int), 0 ≤ p → p < s 18 0 0 → 0 ≤ q → q < s 18 0 0 → p + q ≤ n → p + q ≤ m → mt s n p q = mt s m p q := by
  intro n
  induction n with
  | zero =>
    intro m p q h0 h1 h2 h3 h4 h5
    have e1 : p = 0 := by omega
    have e2 : q = 0 := by omega
    subst e1
    subst e2
    cases m <;> simp [mt]
  | succ n ih =>
    intro m p q h0 h1 h2 h3 h4 h5
    cases m with
    | zero =>
      have e1 : p = 0 := by omega
      have e2 : q = 0 := by omega
      subst e1
      subst e2
      simp [mt]
    | succ m =>
      rw [mt, mt]
      by_cases hpq : p = q
      · rw [if_pos hpq, if_pos hpq]
      · rw [if_neg hpq, if_neg hpq]
        have hv := lw_p h (p := p) (by omega) (by omega)
        have hw := lw_p h (p := q) (by omega) (by omega)
        by_cases hlt : q < p
        · have hu := lw_up h (p := p) (by omega) h1
          rw [if_pos hlt, if_pos hlt]
          exact ih m _ _ (by omega) (by omega) (by omega) (by omega) (by omega) (by omega)
        · have hu := lw_up h (p := q) (by omega) h3
          rw [if_neg hlt, if_neg hlt]
          exact ih m _ _ (by omega) (by omega) (by omega) (by omega) (by omega) (by omega)
def way (s : zJ) (a b : Int) : Int := dep s a + dep s b - 2 * dep s (mt s 24 a b)
theorem mt_comm (s : zJ) : ∀ (n : Nat) (p q : Int), p + q ≤ n → 0 ≤ p → p < s 18 0 0 → 0 ≤ q → q < s 18 0 0 → LW s → mt s n p q = mt s n q p := by
  intro n
  induction n with
  | zero =>
    intro p q h1 h2 h3 h4 h5 h
    have e1 : p = 0 := by omega
    have e2 : q = 0 := by omega
    rw [e1, e2]
  | succ n ih =>
    intro p q h1 h2 h3 h4 h5 h
    rw [mt, mt]
    have hv := lw_p h (p := p) (by omega) (by omega)
    have hw := lw_p h (p := q) (by omega) (by omega)
    by_cases hpq : p = q
    · rw [if_pos hpq, if_pos hpq.symm, hpq]
    · rw [if_neg hpq, if_neg (show ¬ q = p from fun e => hpq e.symm)]
      by_cases hlt : q < p
      · have hu := lw_up h (p := p) (by omega) h3
        rw [if_pos hlt, if_neg (show ¬ p < q by omega)]
        exact ih _ _ (by omega) (by omega) (by omega) h4 h5 h
      · have hu := lw_up h (p := q) (by omega) h5
        rw [if_neg hlt, if_pos (show p < q by omega)]
        exact ih _ _ (by omega) h2 h3 (by omega) (by omega) h
theorem way_comm {s : zJ} (h : LW s) {a b : Int} (ha : 0 ≤ a) (ha2 : a < s 18 0 0) (hb : 0 ≤ b) (hb2 : b < s 18 0 0) : way s a b = way s b a := by
  have hn := lw_n h
  unfold way
  rw [mt_comm s 24 a b (by omega) ha ha2 hb hb2 h]
  omega
theorem way_self (s : zJ) (a : Int) : way s a a = 0 := by
  unfold way
  rw [mt, if_pos rfl]
  omega
theorem way_up {s : zJ} (h : LW s) {a b : Int} (ha : 0 ≤ b) (hb : b < a) (ha2 : a < s 18 0 0) : way s a b = way s (s 19 0 a) b + s 20 0 a := by
  have hn := lw_n h
  have hu := lw_up h (p := a) (by omega) ha2
  have hv := lw_p h (p := a) (by omega) (by omega)
  unfold way
  rw [mt, if_neg (by omega), if_pos hb, mt_fuel h 23 24 _ _ (by omega) (by omega) (by omega) (by omega) (by omega) (by omega), dep_up h (by omega) ha2]
  omega
theorem way_root {s : zJ} (h : LW s) : ∀ a, 0 ≤ a → a < s 18 0 0 → way s a 0 = dep s a := by
  refine up_ind h (by rw [way_self, dep_0]) ?_
  intro q h1 h2 ih
  rw [way_up h (by omega) (by omega) h2, ih, dep_up h h1 h2]
  omega
theorem way_le {s : zJ} (h : LW s) : ∀ (n : Nat) (a b : Int), a + b ≤ n → 0 ≤ a → a < s 18 0 0 → 0 ≤ b → b < s 18 0 0 → 0 ≤ way s a b ∧ way s a b ≤ 240 * (a + b) := by
  intro n
  induction n with
  | zero =>
    intro a b h1 h2 h3 h4 h5
    have e1 : a = 0 := by omega
    have e2 : b = 0 := by omega
    rw [e1, e2, way_self]
    omega
  | succ n ih =>
    intro a b h1 h2 h3 h4 h5
    rcases Int.lt_trichotomy a b with g | g | g
    · have hu := lw_up h (p := b) (by omega) h5
      have hv := lw_p h (p := b) (by omega) (by omega)
      rw [way_comm h h2 h3 h4 h5, way_up h h2 g h5]
      have := ih (s 19 0 b) a (by omega) (by omega) (by omega) (by omega) (by omega)
      omega
    · rw [g, way_self]
      omega
    · have hu := lw_up h (p := a) (by omega) h3
      have hv := lw_p h (p := a) (by omega) (by omega)
      rw [way_up h h4 g h3]
      have := ih (s 19 0 a) b (by omega) (by omega) (by omega) (by omega) (by omega)
      omega
theorem way_rng {s : zJ} (h : LW s) {a b : Int} (ha : 0 ≤ a) (ha2 : a < s 18 0 0) (hb : 0 ≤ b) (hb2 : b < s 18 0 0) : 0 ≤ way s a b ∧ way s a b ≤ 5280 := by
  have hn := lw_n h
  have := way_le h 24 a b (by omega) ha ha2 hb hb2
  omega
