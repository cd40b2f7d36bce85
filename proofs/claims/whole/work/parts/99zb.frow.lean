/-! THE FIRST ROW of a set: pure -/
theorem cnt_nth {P : Int → Bool} : ∀ (n : Nat) (j : Int), 0 ≤ j → j < cnt P n → ∃ k : Int, 0 ≤ k ∧ k < n ∧ P k = true ∧ cnt P k.toNat = j
  | 0, j, h0, h1 => by
    have : cnt P 0 = 0 := rfl
    omega
  | n + 1, j, h0, h1 => by
    have e : cnt P (n + 1) = cnt P n + zb (P n) := rfl
    by_cases q : j < cnt P n
    · obtain ⟨k, a, b, c, d⟩ := cnt_nth n j h0 q
      exact ⟨k, a, by omega, c, d⟩
    · cases hp : P n with
      | false =>
        rw [e, hp, zb_f] at h1
        omega
      | true =>
        rw [e, hp, zb_t] at h1
        exact ⟨n, by omega, by omega, hp, by rw [Int.toNat_natCast]; omega⟩
theorem cnt_lt {P : Int → Bool} {i k : Int} (i0 : 0 ≤ i) (ik : i < k) (hi : P i = true) : cnt P i.toNat < cnt P k.toNat := by
  have h1 : ∀ d : Nat, cnt P (i + 1).toNat ≤ cnt P ((i + 1).toNat + d) := by
    intro d
    induction d with
    | zero => exact Int.le_refl _
    | succ d ih =>
      have e : cnt P ((i + 1).toNat + d + 1) = cnt P ((i + 1).toNat + d) + zb (P ((i + 1).toNat + d : Nat)) := rfl
      have := zb_01 (P ((i + 1).toNat + d : Nat))
      rw [← Nat.add_assoc, e]
      omega
  have h2 := h1 (k.toNat - (i + 1).toNat)
  have e : (i + 1).toNat + (k.toNat - (i + 1).toNat) = k.toNat := by omega
  rw [e, cnt_next i0, hi, zb_t] at h2
  omega
def mn7 (f : Int → Int) : Nat → Int
  | 0 => 7
  | n + 1 => if f n < mn7 f n then f n else mn7 f n
theorem mn7_ok (f : Int → Int) : ∀ n : Nat, mn7 f n ≤ 7 ∧ (∀ c : Int, 0 ≤ c → c < n → mn7 f n ≤ f c) ∧ (mn7 f n = 7 ∨ ∃ c : Int, 0 ≤ c ∧ c < n ∧ mn7 f n = f c)
  | 0 => ⟨Int.le_refl _, fun c a b => by omega, Or.inl rfl⟩
  | n + 1 => by
    obtain ⟨h1, h2, h3⟩ := mn7_ok f n
    rw [mn7]
    split
    · rename_i q
      refine ⟨by omega, fun c a b => ?_, Or.inr ⟨n, by omega, by omega, rfl⟩⟩
      by_cases e : c = n
      · rw [e]
        exact Int.le_refl _
      · have := h2 c a (by omega)
        omega
    · rename_i q
      refine ⟨h1, fun c a b => ?_, ?_⟩
      · by_cases e : c = n
        · rw [e]
          omega
        · exact h2 c a (by omega)
      · rcases h3 with z | ⟨c, a, b, d⟩
        · exact Or.inl z
        · exact Or.inr ⟨c, a, by omega, d⟩
theorem mn7_cong {f g : Int → Int} : ∀ {n : Nat}, (∀ c : Int, 0 ≤ c → c < n → f c = g c) → mn7 f n = mn7 g n
  | 0, _ => rfl
  | n + 1, h => by rw [mn7, mn7, mn7_cong (n := n) fun c a b => h c a (by omega), h n (by omega) (by omega)]
theorem mn7_next {f : Int → Int} {i : Int} (h0 : 0 ≤ i) : mn7 f (i + 1).toNat = if f i < mn7 f i.toNat then f i else mn7 f i.toNat := by
  have e : (i + 1).toNat = i.toNat + 1 := by omega
  have e2 : ((i.toNat : Nat) : Int) = i := by omega
  rw [e, mn7, e2]
/-- a portion of x that ends at p -/
def stb (s : zJ) (x p k : Int) : Bool := bt x k && decide (s 24 0 k = p)
def lsy (s : zJ) (x p : Int) : Int := if fnd (stb s x p) (s 18 0 6).toNat < 0 then 7 else fnd (stb s x p) (s 18 0 6).toNat
/-- the first portion of the first row of those that come to p; 7 if none does -/
def hdF (s : zJ) (x : Int) : Nat → Int → Int
  | 0, _ => 7
  | n + 1, p => if mn7 (fun c => if kid s p c then hdF s x n c else 7) (s 18 0 0).toNat < 7 then mn7 (fun c => if kid s p c then hdF s x n c else 7) (s 18 0 0).toNat else lsy s x p
def hd (s : zJ) (x p : Int) : Int := hdF s x 12 p
theorem hdF_fuel {s : zJ} (h : LW s) (x : Int) : ∀ (n m : Nat) (p : Int), 0 ≤ p → p < s 18 0 0 → s 18 0 0 - p ≤ n → s 18 0 0 - p ≤ m → hdF s x n p = hdF s x m p := by
  intro n
  induction n with
  | zero =>
    intro m p p0 p1 h1 h2
    omega
  | succ n ih =>
    intro m p p0 p1 h1 h2
    cases m with
    | zero => omega
    | succ m =>
      have e : mn7 (fun c => if kid s p c then hdF s x n c else 7) (s 18 0 0).toNat = mn7 (fun c => if kid s p c then hdF s x m c else 7) (s 18 0 0).toNat := mn7_cong fun c c0 c1 => by
        cases hk : kid s p c with
        | false => simp only [Bool.false_eq_true, if_false]
        | true =>
          have := kid_t.mp hk
          simp only [if_true]
          exact ih m c (by omega) (by omega) (by omega) (by omega)
      rw [hdF, hdF, e]
theorem hd_unf {s : zJ} (h : LW s) (x : Int) {p : Int} (p0 : 0 ≤ p) (p1 : p < s 18 0 0) : hd s x p = if mn7 (fun c => if kid s p c then hd s x c else 7) (s 18 0 0).toNat < 7 then mn7 (fun c => if kid s p c then hd s x c else 7) (s 18 0 0).toNat else lsy s x p := by
  have hn := lw_n h
  have e : mn7 (fun c => if kid s p c then hdF s x 11 c else 7) (s 18 0 0).toNat = mn7 (fun c => if kid s p c then hd s x c else 7) (s 18 0 0).toNat := mn7_cong fun c c0 c1 => by
    cases hk : kid s p c with
    | false => simp only [Bool.false_eq_true, if_false]
    | true =>
      have := kid_t.mp hk
      simp only [if_true]
      exact hdF_fuel h x 11 12 c (by omega) (by omega) (by omega) (by omega)
  show hdF s x 12 p = _
  rw [hdF, e]
theorem hd_ok {s : zJ} (h : LW s) (x : Int) : ∀ (n : Nat) (p : Int), n = (s 18 0 0 - p).toNat → 0 ≤ p → p < s 18 0 0 → (hd s x p = 7 ∧ ∀ k : Int, 0 ≤ k → k < s 18 0 6 → bt x k = true → ¬ on s p (s 24 0 k)) ∨ (0 ≤ hd s x p ∧ hd s x p < s 18 0 6 ∧ bt x (hd s x p) = true ∧ on s p (s 24 0 (hd s x p))) := by
  have hn := lw_n h
  intro n
  induction n using Nat.strongRecOn with
  | _ n ih =>
  intro p hm p0 p1
  rw [hd_unf h x p0 p1]
  obtain ⟨m1, m2, m3⟩ := mn7_ok (fun c => if kid s p c then hd s x c else 7) (s 18 0 0).toNat
  by_cases q : mn7 (fun c => if kid s p c then hd s x c else 7) (s 18 0 0).toNat < 7
  · rw [if_pos q]
    rcases m3 with z | ⟨c, c0, c1, c2⟩
    · omega
    · cases hk : kid s p c with
      | false =>
        simp only [hk, Bool.false_eq_true, if_false] at c2
        omega
      | true =>
        simp only [hk, if_true] at c2
        have hk1 := kid_t.mp hk
        rcases ih _ (by omega) c rfl c0 (by omega) with ⟨z, _⟩ | ⟨z1, z2, z3, z4⟩
        · omega
        · have hkk := lw_k h z1 z2
          rw [c2]
          exact Or.inr ⟨z1, z2, z3, on_trans h p0 (by omega) (kid_on h p0 (by omega) hk) _ (by omega) (by omega) z4⟩
  · rw [if_neg q]
    clear m3
    have hkid : ∀ c : Int, 0 ≤ c → c < s 18 0 0 → kid s p c = true → hd s x c = 7 := fun c c0 c1 hk => by
      have := m2 c c0 (by omega)
      simp only [hk, if_true] at this
      have hk1 := kid_t.mp hk
      rcases ih _ (by omega) c rfl c0 c1 with ⟨z, _⟩ | ⟨z1, z2, _⟩ <;> omega
    unfold lsy
    rcases fnd_is (stb s x p) (s 18 0 6).toNat with ⟨z1, z2⟩ | ⟨z1, z2, z3, z4⟩
    · rw [if_pos (by omega)]
      refine Or.inl ⟨rfl, fun k k0 k1 hb ho => ?_⟩
      have hkk := lw_k h k0 k1
      have hst := z2 k k0 (by omega)
      unfold stb at hst
      rw [hb, Bool.true_and, decide_eq_false_iff_not] at hst
      rcases kid_one h p0 p1 (r := s 24 0 k) (by omega) (by omega) with ⟨_, c, c0, c1, hk, hc, _⟩ | ⟨hq, _⟩
      · have h7 := hkid c c0 c1 hk
        have hk1 := kid_t.mp hk
        rcases ih _ (by omega) c rfl c0 c1 with ⟨_, y⟩ | ⟨_, y, _⟩
        · exact y k k0 k1 hb hc
        · omega
      · exact hq ⟨ho, hst⟩
    · rw [if_neg (by omega)]
      unfold stb at z3
      rw [Bool.and_eq_true, decide_eq_true_iff] at z3
      refine Or.inr ⟨z1, by omega, z3.1, ?_⟩
      have e : s 24 0 (fnd (stb s x p) (s 18 0 6).toNat) = p := z3.2
      rw [e]
      exact on_self s p
theorem hd_is {s : zJ} (h : LW s) (x : Int) {p : Int} (p0 : 0 ≤ p) (p1 : p < s 18 0 0) : (hd s x p = 7 ∧ ∀ k : Int, 0 ≤ k → k < s 18 0 6 → bt x k = true → ¬ on s p (s 24 0 k)) ∨ (0 ≤ hd s x p ∧ hd s x p < s 18 0 6 ∧ bt x (hd s x p) = true ∧ on s p (s 24 0 (hd s x p))) := hd_ok h x _ p rfl p0 p1
theorem hd_rng {s : zJ} (h : LW s) (x : Int) {p : Int} (p0 : 0 ≤ p) (p1 : p < s 18 0 0) : 0 ≤ hd s x p ∧ hd s x p ≤ 7 := by
  have hn := lw_n h
  rcases hd_is h x p0 p1 with ⟨z, _⟩ | ⟨z, z2, _⟩ <;> omega
theorem hd_has {s : zJ} (h : LW s) (x : Int) {p : Int} (p0 : 0 ≤ p) (p1 : p < s 18 0 0) : hd s x p < 7 ↔ ∃ k : Int, 0 ≤ k ∧ k < s 18 0 6 ∧ bt x k = true ∧ on s p (s 24 0 k) := by
  have hn := lw_n h
  rcases hd_is h x p0 p1 with ⟨z, z2⟩ | ⟨z, z2, z3, z4⟩
  · constructor
    · intro y
      omega
    · rintro ⟨k, k0, k1, k2, k3⟩
      exact absurd k3 (z2 k k0 k1 k2)
  · exact ⟨fun _ => ⟨_, z, z2, z3, z4⟩, fun _ => by omega⟩
theorem hd_cbh {s : zJ} (h : LW s) (x : Int) {p : Int} (p0 : 0 ≤ p) (p1 : p < s 18 0 0) : (hd s x p < 7 ↔ 1 ≤ cbh s x p) ∧ 0 ≤ cbh s x p := by
  refine ⟨?_, has_cbh.2⟩
  rw [← has_cbh.1, has_t, hd_has h x p0 p1]
  constructor
  · rintro ⟨k, a, b, c, d⟩
    exact ⟨k, a, by omega, c, d⟩
  · rintro ⟨k, a, b, c, d⟩
    exact ⟨k, a, by omega, c, d⟩
/-- heads of different places next behind p differ -/
theorem hd_inj {s : zJ} (h : LW s) (x : Int) {p c d : Int} (p0 : 0 ≤ p) (c1 : c < s 18 0 0) (d1 : d < s 18 0 0) (hc : kid s p c = true) (hd' : kid s p d = true) (h7 : hd s x c < 7) (e : hd s x c = hd s x d) : c = d := by
  have hn := lw_n h
  have hc1 := kid_t.mp hc
  have hd1 := kid_t.mp hd'
  rcases hd_is h x (p := c) (by omega) c1 with ⟨z, _⟩ | ⟨z, z2, z3, z4⟩
  · omega
  · rcases hd_is h x (p := d) (by omega) d1 with ⟨y, _⟩ | ⟨y, y2, y3, y4⟩
    · omega
    · have hk := lw_k h z z2
      rw [← e] at y4
      have h1 := on_le h (by omega) _ (by omega) (by omega) z4
      have h2 := on_le h (by omega) _ (by omega) (by omega) y4
      rw [← tw_one h p0 hc1.2 hc1.1 h1 (by omega) z4, ← tw_one h p0 hd1.2 hd1.1 h2 (by omega) y4]
theorem hd_cong {s : zJ} (h : LW s) {x y : Int} : ∀ (n : Nat) (p : Int), n = (s 18 0 0 - p).toNat → 0 ≤ p → p < s 18 0 0 → (∀ k : Int, 0 ≤ k → k < s 18 0 6 → on s p (s 24 0 k) → bt x k = bt y k) → hd s x p = hd s y p := by
  have hn := lw_n h
  intro n
  induction n using Nat.strongRecOn with
  | _ n ih =>
  intro p hm p0 p1 hxy
  rw [hd_unf h x p0 p1, hd_unf h y p0 p1]
  have e1 : mn7 (fun c => if kid s p c then hd s x c else 7) (s 18 0 0).toNat = mn7 (fun c => if kid s p c then hd s y c else 7) (s 18 0 0).toNat := mn7_cong fun c c0 c1 => by
    cases hk : kid s p c with
    | false => simp only [Bool.false_eq_true, if_false]
    | true =>
      have hk1 := kid_t.mp hk
      simp only [if_true]
      refine ih _ (by omega) c rfl c0 (by omega) fun k k0 k1 ho => hxy k k0 k1 ?_
      have hkk := lw_k h k0 k1
      exact on_trans h p0 (by omega) (kid_on h p0 (by omega) hk) _ (by omega) (by omega) ho
  have e2 : lsy s x p = lsy s y p := by
    unfold lsy
    have : fnd (stb s x p) (s 18 0 6).toNat = fnd (stb s y p) (s 18 0 6).toNat := fnd_cong fun k k0 k1 => by
      unfold stb
      by_cases e : s 24 0 k = p
      · rw [hxy k k0 (by omega) (by rw [e]; exact on_self s p)]
      · rw [decide_eq_false e, Bool.and_false, Bool.and_false]
    rw [this]
  rw [e1, e2]
/-- how many stand ahead of the group whose head is h -/
def gT (s : zJ) (x p h : Int) : Int := sm (fun c => if kid s p c && decide (hd s x c < h) then cbh s x c else 0) (s 18 0 0).toNat
theorem gT_mono {s : zJ} (x p : Int) {h h' : Int} (hh : h ≤ h') : gT s x p h ≤ gT s x p h' := sm_mono fun c c0 c1 => by
  have := (has_cbh (s := s) (x := x) (q := c)).2
  cases kid s p c with
  | false => simp
  | true =>
    by_cases q : hd s x c < h
    · rw [decide_eq_true q, decide_eq_true (p := hd s x c < h') (by omega)]
      exact Int.le_refl _
    · rw [decide_eq_false q]
      simp
      split <;> omega
theorem gT_0 {s : zJ} (h : LW s) (x : Int) {p : Int} (p0 : 0 ≤ p) : gT s x p 0 = 0 := sm_zero fun c c0 c1 => by
  cases hk : kid s p c with
  | false => rfl
  | true =>
    have := hd_rng h x c0 (show c < s 18 0 0 by omega)
    rw [decide_eq_false (by omega)]
    rfl
theorem gT_step {s : zJ} (h : LW s) (x : Int) {p q : Int} (p0 : 0 ≤ p) (q1 : q < s 18 0 0) (hk : kid s p q = true) (h7 : hd s x q < 7) : gT s x p (hd s x q + 1) = gT s x p (hd s x q) + cbh s x q := by
  have hk1 := kid_t.mp hk
  have e : cbh s x q = sm (fun c => if c = q then cbh s x c else 0) (s 18 0 0).toNat := by
    rw [sm_one (k := q) (by omega) (by omega) fun i _ _ hi => if_neg hi, if_pos rfl]
  rw [e]
  unfold gT
  rw [← sm_add]
  refine sm_cong fun c c0 c1 => ?_
  by_cases ec : c = q
  · rw [if_pos ec, ec, hk, decide_eq_true (by omega), decide_eq_false (by omega)]
    simp
  · rw [if_neg ec, Int.add_zero]
    cases hkc : kid s p c with
    | false => rfl
    | true =>
      have hne : hd s x c ≠ hd s x q := fun z => ec (hd_inj h x p0 (by omega) q1 hkc hk (by omega) z)
      have : decide (hd s x c < hd s x q + 1) = decide (hd s x c < hd s x q) := decide_eq_decide.mpr (by omega)
      rw [this]
theorem gT_same {s : zJ} (h : LW s) (x : Int) {p a b : Int} (p0 : 0 ≤ p) (hab : a ≤ b) (b7 : b ≤ 7) (hno : ∀ c : Int, 0 ≤ c → c < s 18 0 0 → kid s p c = true → a ≤ hd s x c → b ≤ hd s x c) : gT s x p b = gT s x p a := sm_cong fun c c0 c1 => by
  cases hk : kid s p c with
  | false => rfl
  | true =>
    have := hno c c0 (by omega) hk
    have : decide (hd s x c < b) = decide (hd s x c < a) := decide_eq_decide.mpr (by omega)
    rw [this]
theorem gT_7 {s : zJ} (h : LW s) (x : Int) {p : Int} (p0 : 0 ≤ p) (p1 : p < s 18 0 0) : cbh s x p = gT s x p 7 + sty s x p := by
  rw [cbh_kids h p0 p1, Int.add_comm]
  congr 1
  refine sm_cong fun c c0 c1 => ?_
  cases hk : kid s p c with
  | false => rfl
  | true =>
    have hc := hd_cbh h x c0 (show c < s 18 0 0 by omega)
    by_cases q : hd s x c < 7
    · rw [decide_eq_true q]
      rfl
    · rw [decide_eq_false q]
      simp only [if_true, Bool.and_false, Bool.false_eq_true, if_false]
      have : ¬ 1 ≤ cbh s x c := fun z => q (hc.1.mpr z)
      omega
theorem gT_nn {s : zJ} (x p h : Int) : 0 ≤ gT s x p h := by
  have := sm_mono (f := fun _ => 0) (g := fun c => if kid s p c && decide (hd s x c < h) then cbh s x c else 0) (n := (s 18 0 0).toNat) fun c _ _ => by
    have := (has_cbh (s := s) (x := x) (q := c)).2
    split <;> omega
  rw [sm_zero fun _ _ _ => rfl] at this
  exact this
theorem sty_nn (s : zJ) (x p : Int) : 0 ≤ sty s x p := (cnt_rng _ _).1
theorem gT_in {s : zJ} (h : LW s) (x : Int) {p q : Int} (p0 : 0 ≤ p) (q1 : q < s 18 0 0) (hk : kid s p q = true) (h7 : hd s x q < 7) : gT s x p (hd s x q) + cbh s x q ≤ gT s x p 7 := by
  rw [← gT_step h x p0 q1 hk h7]
  exact gT_mono x p (by omega)
/-- places next behind p: which group stands at i -/
theorem gT_one {s : zJ} (h : LW s) (x : Int) {p q r i : Int} (p0 : 0 ≤ p) (q1 : q < s 18 0 0) (r1 : r < s 18 0 0) (hq : kid s p q = true) (hr : kid s p r = true) (q7 : hd s x q < 7) (r7 : hd s x r < 7) (i0 : gT s x p (hd s x q) ≤ i) (i1 : i < gT s x p (hd s x q) + cbh s x q) (i2 : gT s x p (hd s x r) ≤ i) (i3 : i < gT s x p (hd s x r) + cbh s x r) : q = r := by
  rcases Int.lt_trichotomy (hd s x q) (hd s x r) with z | z | z
  · have h1 := gT_step h x p0 q1 hq q7
    have h2 := gT_mono (s := s) x p (h := hd s x q + 1) (h' := hd s x r) (by omega)
    omega
  · exact hd_inj h x p0 q1 r1 hq hr q7 z
  · have h1 := gT_step h x p0 r1 hr r7
    have h2 := gT_mono (s := s) x p (h := hd s x r + 1) (h' := hd s x q) (by omega)
    omega
theorem gT_tile {s : zJ} (h : LW s) (x : Int) {p i : Int} (p0 : 0 ≤ p) (i0 : 0 ≤ i) : ∀ (n : Nat), n ≤ 7 → i < gT s x p n → ∃ q : Int, 0 ≤ q ∧ q < s 18 0 0 ∧ kid s p q = true ∧ hd s x q < 7 ∧ gT s x p (hd s x q) ≤ i ∧ i < gT s x p (hd s x q) + cbh s x q
  | 0, _, h1 => by
    have := gT_0 h x p0
    have e : ((0 : Nat) : Int) = 0 := rfl
    rw [e] at h1
    omega
  | n + 1, hn, h1 => by
    by_cases q : i < gT s x p n
    · exact gT_tile h x p0 i0 n (by omega) q
    · by_cases hex : ∃ c : Int, 0 ≤ c ∧ c < s 18 0 0 ∧ kid s p c = true ∧ hd s x c = n
      · obtain ⟨c, c0, c1, c2, c3⟩ := hex
        have hs := gT_step h x p0 c1 c2 (by omega)
        rw [c3] at hs
        have e : ((n + 1 : Nat) : Int) = (n : Int) + 1 := by omega
        rw [e] at h1
        exact ⟨c, c0, c1, c2, by omega, by rw [c3]; omega, by rw [c3]; omega⟩
      · exfalso
        have := gT_same h x (p := p) (a := (n : Int)) (b := ((n + 1 : Nat) : Int)) p0 (by omega) (by omega) fun c c0 c1 hk hc => by
          have : hd s x c ≠ n := fun z => hex ⟨c, c0, c1, hk, z⟩
          omega
        omega
/-- the first row of those of x that come to p -/
def sqK (s : zJ) (x p i : Int) : Int := fnd (fun q => kid s p q && (decide (hd s x q < 7) && (decide (gT s x p (hd s x q) ≤ i) && decide (i < gT s x p (hd s x q) + cbh s x q)))) (s 18 0 0).toNat
def sqS (s : zJ) (x p j : Int) : Int := fnd (fun k => stb s x p k && decide (cnt (stb s x p) k.toNat = j)) (s 18 0 6).toNat
def sqF (s : zJ) (x : Int) : Nat → Int → Int → Int
  | 0, _, _ => 0
  | n + 1, p, i => if sqK s x p i < 0 then sqS s x p (i - gT s x p 7) else sqF s x n (sqK s x p i) (i - gT s x p (hd s x (sqK s x p i)))
def sq (s : zJ) (x p i : Int) : Int := sqF s x 12 p i
theorem sqK_is {s : zJ} (h : LW s) (x : Int) {p q i : Int} (p0 : 0 ≤ p) (q1 : q < s 18 0 0) (hk : kid s p q = true) (h7 : hd s x q < 7) (i0 : gT s x p (hd s x q) ≤ i) (i1 : i < gT s x p (hd s x q) + cbh s x q) : sqK s x p i = q := by
  have hk1 := kid_t.mp hk
  unfold sqK
  refine fnd_at (by omega) (by omega) (by rw [hk, decide_eq_true h7, decide_eq_true i0, decide_eq_true i1]; rfl) fun r r0 r1 => ?_
  rw [← Bool.not_eq_true, Bool.and_eq_true, Bool.and_eq_true, Bool.and_eq_true, decide_eq_true_iff, decide_eq_true_iff, decide_eq_true_iff]
  rintro ⟨a, b, c, d⟩
  have := gT_one h x p0 q1 (by omega) hk a h7 b i0 i1 c d
  omega
theorem sqF_fuel {s : zJ} (h : LW s) (x : Int) : ∀ (n m : Nat) (p i : Int), 0 ≤ p → p < s 18 0 0 → s 18 0 0 - p ≤ n → s 18 0 0 - p ≤ m → sqF s x n p i = sqF s x m p i := by
  intro n
  induction n with
  | zero =>
    intro m p i p0 p1 h1 h2
    omega
  | succ n ih =>
    intro m p i p0 p1 h1 h2
    cases m with
    | zero => omega
    | succ m =>
      rw [sqF, sqF]
      by_cases q : sqK s x p i < 0
      · rw [if_pos q, if_pos q]
      · rw [if_neg q, if_neg q]
        unfold sqK at q
        rcases fnd_is (fun q => kid s p q && (decide (hd s x q < 7) && (decide (gT s x p (hd s x q) ≤ i) && decide (i < gT s x p (hd s x q) + cbh s x q)))) (s 18 0 0).toNat with ⟨z, _⟩ | ⟨z1, z2, z3, _⟩
        · omega
        · rw [Bool.and_eq_true] at z3
          have hk1 := kid_t.mp z3.1
          unfold sqK
          exact ih m _ _ (by omega) (by omega) (by omega) (by omega)
theorem sq_kid {s : zJ} (h : LW s) (x : Int) {p q i : Int} (p0 : 0 ≤ p) (p1 : p < s 18 0 0) (q1 : q < s 18 0 0) (hk : kid s p q = true) (h7 : hd s x q < 7) (i0 : 0 ≤ i) (i1 : i < cbh s x q) : sq s x p (gT s x p (hd s x q) + i) = sq s x q i := by
  have hn := lw_n h
  have hk1 := kid_t.mp hk
  have e := sqK_is h x (i := gT s x p (hd s x q) + i) p0 q1 hk h7 (by omega) (by omega)
  unfold sq
  rw [sqF, e, if_neg (by omega)]
  have e2 : gT s x p (hd s x q) + i - gT s x p (hd s x q) = i := by omega
  rw [e2]
  exact sqF_fuel h x 11 12 q i (by omega) q1 (by omega) (by omega)
theorem sq_stay {s : zJ} (h : LW s) (x : Int) {p k : Int} (p0 : 0 ≤ p) (p1 : p < s 18 0 0) (k0 : 0 ≤ k) (k1 : k < s 18 0 6) (hk : stb s x p k = true) : sq s x p (gT s x p 7 + cnt (stb s x p) k.toNat) = k := by
  have hcr := cnt_rng (stb s x p) k.toNat
  have e : sqK s x p (gT s x p 7 + cnt (stb s x p) k.toNat) = -1 := by
    unfold sqK
    refine fnd_no fun q q0 q1 => ?_
    rw [← Bool.not_eq_true, Bool.and_eq_true, Bool.and_eq_true, Bool.and_eq_true, decide_eq_true_iff, decide_eq_true_iff, decide_eq_true_iff]
    rintro ⟨a, b, c, d⟩
    have := gT_in h x p0 (show q < s 18 0 0 by omega) a b
    omega
  unfold sq
  rw [sqF, e, if_pos (by decide)]
  have e2 : gT s x p 7 + cnt (stb s x p) k.toNat - gT s x p 7 = cnt (stb s x p) k.toNat := by omega
  rw [e2]
  unfold sqS
  refine fnd_at k0 (by omega) (by rw [hk, decide_eq_true rfl]; rfl) fun i i0 i1 => ?_
  rw [← Bool.not_eq_true, Bool.and_eq_true, decide_eq_true_iff]
  rintro ⟨a, b⟩
  have := cnt_lt (P := stb s x p) i0 i1 a
  omega
/-- where the row of those that come to q begins -/
def posF (s : zJ) (x : Int) : Nat → Int → Int
  | 0, _ => 0
  | n + 1, q => if q ≤ 0 then 0 else posF s x n (s 19 0 q) + gT s x (s 19 0 q) (hd s x q)
def pos (s : zJ) (x q : Int) : Int := posF s x 12 q
theorem posF_fuel {s : zJ} (h : LW s) (x : Int) : ∀ (n m : Nat) (q : Int), 0 ≤ q → q < s 18 0 0 → q ≤ n → q ≤ m → posF s x n q = posF s x m q := by
  intro n
  induction n with
  | zero =>
    intro m q h0 h1 h2 h3
    cases m with
    | zero => rfl
    | succ m => rw [posF, posF, if_pos (by omega)]
  | succ n ih =>
    intro m q h0 h1 h2 h3
    by_cases hq : q ≤ 0
    · cases m with
      | zero => rw [posF, posF, if_pos hq]
      | succ m => rw [posF, posF, if_pos hq, if_pos hq]
    · cases m with
      | zero => omega
      | succ m =>
        have hu := lw_up h (p := q) (by omega) h1
        have hv := lw_p h (p := q) (by omega) (by omega)
        rw [posF, posF, if_neg hq, if_neg hq, ih m _ (by omega) (by omega) (by omega) (by omega)]
theorem pos_0 (s : zJ) (x : Int) : pos s x 0 = 0 := by
  unfold pos
  rw [posF, if_pos (by decide)]
theorem pos_up {s : zJ} (h : LW s) (x : Int) {q : Int} (q0 : 1 ≤ q) (q1 : q < s 18 0 0) : pos s x q = pos s x (s 19 0 q) + gT s x (s 19 0 q) (hd s x q) := by
  have hu := lw_up h q0 q1
  have hv := lw_p h (p := q) (by omega) (by omega)
  have hn := lw_n h
  unfold pos
  rw [posF, if_neg (by omega), posF_fuel h x 11 12 _ (by omega) (by omega) (by omega) (by omega)]
theorem kid_up {s : zJ} (h : LW s) {q : Int} (q0 : 1 ≤ q) (q1 : q < s 18 0 0) : kid s (s 19 0 q) q = true := kid_t.mpr ⟨(lw_up h q0 q1).1, rfl⟩
theorem hd_up {s : zJ} (h : LW s) (x : Int) {q : Int} (q0 : 1 ≤ q) (q1 : q < s 18 0 0) (h7 : hd s x q < 7) : hd s x (s 19 0 q) < 7 := by
  have hu := lw_up h q0 q1
  have hv := lw_p h (p := q) (by omega) q1
  obtain ⟨k, k0, k1, k2, k3⟩ := (hd_has h x (by omega) q1).mp h7
  have hk := lw_k h k0 k1
  exact (hd_has h x (by omega) (by omega)).mpr ⟨k, k0, k1, k2, on_trans h (by omega) (by omega) (kid_on h (by omega) q1 (kid_up h q0 q1)) _ (by omega) (by omega) k3⟩
theorem sq_pos {s : zJ} (h : LW s) (x : Int) : ∀ q : Int, 0 ≤ q → q < s 18 0 0 → hd s x q < 7 → (0 ≤ pos s x q ∧ pos s x q + cbh s x q ≤ cbh s x 0) ∧ ∀ i : Int, 0 ≤ i → i < cbh s x q → sq s x 0 (pos s x q + i) = sq s x q i := by
  refine up_ind h ?_ ?_
  · intro _
    rw [pos_0]
    exact ⟨⟨Int.le_refl 0, by omega⟩, fun i i0 i1 => by rw [Int.zero_add]⟩
  · intro q q0 q1 ih h7
    have hu := lw_up h q0 q1
    have hv := lw_p h (p := q) (by omega) q1
    obtain ⟨⟨g1, g2⟩, g3⟩ := ih (hd_up h x q0 q1 h7)
    have hk := kid_up h q0 q1
    have hin := gT_in h x (by omega) q1 hk h7
    have h0 := gT_nn (s := s) x (s 19 0 q) (hd s x q)
    have hc := gT_7 h x (p := s 19 0 q) (by omega) (by omega)
    have hs := sty_nn s x (s 19 0 q)
    rw [pos_up h x q0 q1]
    refine ⟨⟨by omega, by omega⟩, fun i i0 i1 => ?_⟩
    rw [Int.add_assoc, g3 _ (by omega) (by omega)]
    exact sq_kid h x (by omega) (by omega) q1 hk h7 i0 i1
/-- each place of the row is that of one who stays somewhere -/
theorem sq_cov {s : zJ} (h : LW s) (x : Int) : ∀ (n : Nat) (p i : Int), n = (s 18 0 0 - p).toNat → 0 ≤ p → p < s 18 0 0 → hd s x p < 7 → pos s x p ≤ i → i < pos s x p + cbh s x p → ∃ q : Int, 0 ≤ q ∧ q < s 18 0 0 ∧ hd s x q < 7 ∧ pos s x q + gT s x q 7 ≤ i ∧ i < pos s x q + cbh s x q := by
  intro n
  induction n using Nat.strongRecOn with
  | _ n ih =>
  intro p i hm p0 p1 h7 i0 i1
  by_cases q : gT s x p 7 ≤ i - pos s x p
  · exact ⟨p, p0, p1, h7, by omega, i1⟩
  · obtain ⟨c, c0, c1, hk, c7, d0, d1⟩ := gT_tile h x (i := i - pos s x p) p0 (by omega) 7 (by decide) (by have e : ((7 : Nat) : Int) = 7 := rfl; rw [e]; omega)
    have hk1 := kid_t.mp hk
    have e := pos_up h x (q := c) (by omega) c1
    rw [hk1.2] at e
    exact ih _ (by omega) c i rfl c0 c1 c7 (by omega) (by omega)
/-- where a portion of x stands -/
def spt (s : zJ) (x k : Int) : Int := pos s x (s 24 0 k) + gT s x (s 24 0 k) 7 + cnt (stb s x (s 24 0 k)) k.toNat
theorem spt_ok {s : zJ} (h : LW s) (x : Int) {k : Int} (k0 : 0 ≤ k) (k1 : k < s 18 0 6) (hb : bt x k = true) : 0 ≤ spt s x k ∧ spt s x k < cbh s x 0 ∧ sq s x 0 (spt s x k) = k := by
  have hk := lw_k h k0 k1
  have hst : stb s x (s 24 0 k) k = true := by
    unfold stb
    rw [hb, decide_eq_true rfl]
    rfl
  have h7 : hd s x (s 24 0 k) < 7 := (hd_has h x (by omega) (by omega)).mpr ⟨k, k0, k1, hb, on_self s _⟩
  obtain ⟨⟨g1, g2⟩, g3⟩ := sq_pos h x (s 24 0 k) (by omega) (by omega) h7
  have hc := gT_7 h x (p := s 24 0 k) (by omega) (by omega)
  have hg := gT_nn (s := s) x (s 24 0 k) 7
  have hcr := cnt_rng (stb s x (s 24 0 k)) k.toNat
  have hlt : cnt (stb s x (s 24 0 k)) k.toNat < sty s x (s 24 0 k) := by
    have h1 := cnt_lt (P := stb s x (s 24 0 k)) (k := s 18 0 6) k0 k1 hst
    exact h1
  unfold spt
  refine ⟨by omega, by omega, ?_⟩
  rw [Int.add_assoc, g3 _ (by omega) (by omega)]
  exact sq_stay h x (by omega) (by omega) k0 k1 hst
/-- who stands at a place of the row -/
theorem sq_at {s : zJ} (h : LW s) (x : Int) (hN : 0 < s 18 0 0) {i : Int} (i0 : 0 ≤ i) (i1 : i < cbh s x 0) : ∃ k : Int, 0 ≤ k ∧ k < s 18 0 6 ∧ bt x k = true ∧ spt s x k = i ∧ sq s x 0 i = k := by
  have h7 : hd s x 0 < 7 := (hd_cbh h x (Int.le_refl 0) hN).1.mpr (by omega)
  obtain ⟨q, q0, q1, q7, d0, d1⟩ := sq_cov h x _ 0 i rfl (Int.le_refl 0) hN h7 (by rw [pos_0]; exact i0) (by rw [pos_0]; omega)
  have hc := gT_7 h x q0 q1
  obtain ⟨k, k0, k1, k2, k3⟩ := cnt_nth (P := stb s x q) (s 18 0 6).toNat (i - pos s x q - gT s x q 7) (by omega) (by
    have e : cnt (stb s x q) (s 18 0 6).toNat = sty s x q := rfl
    rw [e]
    omega)
  unfold stb at k2
  rw [Bool.and_eq_true, decide_eq_true_iff] at k2
  have e : spt s x k = i := by
    unfold spt
    rw [k2.2]
    have e2 : cnt (stb s x q) k.toNat = i - pos s x q - gT s x q 7 := k3
    omega
  refine ⟨k, k0, by omega, k2.1, e, ?_⟩
  rw [← e]
  exact (spt_ok h x k0 (by omega) k2.1).2.2
theorem cbh_root {s : zJ} (h : LW s) {x : Int} (x0 : 0 ≤ x) (x1 : x < 2 ^ (s 18 0 6).toNat) : cbh s x 0 = pct x 14 := by
  have hn := lw_n h
  rw [pct_wk x0 x1 (by omega)]
  unfold cbh pct
  refine cnt_cong fun k k0 k1 => ?_
  have hk := lw_k h k0 (by omega)
  rw [onb_t.mpr (on_zero h (s 24 0 k) (by omega) (by omega)), Bool.and_true]
theorem sq_inj {s : zJ} (h : LW s) (x : Int) (hN : 0 < s 18 0 0) {i j : Int} (i0 : 0 ≤ i) (i1 : i < cbh s x 0) (j0 : 0 ≤ j) (j1 : j < cbh s x 0) (e : sq s x 0 i = sq s x 0 j) : i = j := by
  obtain ⟨k, _, _, _, k3, k4⟩ := sq_at h x hN i0 i1
  obtain ⟨l, _, _, _, l3, l4⟩ := sq_at h x hN j0 j1
  have : k = l := by rw [← k4, ← l4, e]
  rw [← k3, ← l3, this]
