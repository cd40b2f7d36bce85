/-! LIGHT ENGINES: the class's search, and the operation -/
def nx3 (n k : Nat) (t : Nat × Nat × Nat) : Option (Nat × Nat × Nat) :=
  if k = 1 then (if t.1 + 1 < n then some (t.1 + 1, t.2.1, t.2.2) else none)
  else if k = 2 then (if t.2.1 + 1 < n then some (t.1, t.2.1 + 1, t.2.2) else if t.1 + 2 < n then some (t.1 + 1, t.1 + 2, t.2.2) else none)
  else (if t.2.2 + 1 < n then some (t.1, t.2.1, t.2.2 + 1) else if t.2.1 + 2 < n then some (t.1, t.2.1 + 1, t.2.1 + 2) else if t.1 + 3 < n then some (t.1 + 1, t.1 + 2, t.1 + 3) else none)
def b3 (k : Nat) (t : Nat × Nat × Nat) : Nat := if k = 1 then 2 ^ t.1 else if k = 2 then 2 ^ t.1 ||| 2 ^ t.2.1 else 2 ^ t.1 ||| 2 ^ t.2.1 ||| 2 ^ t.2.2
/-- the sets behind t -/
def wk3 (n k : Nat) : Nat → Nat × Nat × Nat → List Nat
  | 0, _ => []
  | m + 1, t => match nx3 n k t with
    | none => []
    | some u => b3 k u :: wk3 n k m u
def ahc (x y : Nat) : Bool := (List.range 12).any fun p => x.testBit p && !y.testBit p && (List.range p).all fun q => x.testBit q == y.testBit q
def pwl : List Nat → Bool
  | [] => true
  | [_] => true
  | x :: y :: r => ahc x y && pwl (y :: r)
def l3 (n k : Nat) : List Nat := b3 k (0, 1, 2) :: wk3 n k 220 (0, 1, 2)
def lck (n k : Nat) : Bool := pwl (l3 n k) && ((l3 n k).all fun y => Nat.blt 0 y && Nat.blt y (2 ^ n) && Nat.beq (bct 14 y) k) && (List.range (2 ^ n)).all fun y => !(Nat.beq (bct 14 y) k) || (l3 n k).any (Nat.beq y)
def lcks : Bool := (List.range 13).all fun n => (List.range 4).all fun k => Nat.beq k 0 || Nat.blt n k || lck n k
theorem lcks_ok : lcks = true := by decide +kernel
theorem ahc_ok {x y : Nat} (h : ahc x y = true) : ahb (x : Int) (y : Int) := by
  unfold ahc at h
  obtain ⟨p, hp, h2⟩ := List.any_eq_true.mp h
  rw [Bool.and_eq_true, Bool.and_eq_true] at h2
  have h5 : y.testBit p = false := by simpa using h2.1.2
  refine ⟨(p : Int), by omega, h2.1.1, h5, fun q q0 q1 => ?_⟩
  have h3 := List.all_eq_true.mp h2.2 q.toNat (List.mem_range.mpr (by omega))
  have h4 : x.testBit q.toNat = y.testBit q.toNat := by simpa using h3
  exact h4
theorem pwl_ok : ∀ l : List Nat, pwl l = true → l.Pairwise fun (x y : Nat) => ahb (x : Int) (y : Int)
  | [], _ => List.Pairwise.nil
  | [x], _ => List.pairwise_singleton _ _
  | x :: z :: r, h => by
    rw [pwl, Bool.and_eq_true] at h
    have ih := pwl_ok (z :: r) h.2
    refine List.Pairwise.cons (fun y hy => ?_) ih
    have h1 := ahc_ok h.1
    rcases List.mem_cons.mp hy with e | e
    · rw [e]
      exact h1
    · exact ahb_trans h1 ((List.pairwise_cons.mp ih).1 y e)
theorem bct_p (y : Nat) : (bct 14 y : Int) = pct (y : Int) 14 := bct_cnt 14 y
/-- the list holds just the sets of k places -/
theorem l3_ok {n k : Nat} (hn : n ≤ 12) (k1 : 1 ≤ k) (k3 : k ≤ 3) (hkn : k ≤ n) : ((l3 n k).Pairwise fun (x y : Nat) => ahb (x : Int) (y : Int)) ∧ (∀ y ∈ l3 n k, 0 < (y : Int) ∧ (y : Int) < 2 ^ n ∧ pct (y : Int) 14 = k) ∧ ∀ x : Int, 0 < x → x < 2 ^ n → pct x 14 = k → ∃ y ∈ l3 n k, (y : Int) = x := by
  have h := lcks_ok
  unfold lcks at h
  have h1 := List.all_eq_true.mp h n (List.mem_range.mpr (by omega))
  have h2 := List.all_eq_true.mp h1 k (List.mem_range.mpr (by omega))
  rw [Bool.or_eq_true, Bool.or_eq_true] at h2
  have h3 : lck n k = true := by
    rcases h2 with (z | z) | z
    · have := Nat.eq_of_beq_eq_true z
      omega
    · have : n < k := Nat.le_of_ble_eq_true z
      omega
    · exact z
  unfold lck at h3
  rw [Bool.and_eq_true, Bool.and_eq_true] at h3
  refine ⟨pwl_ok _ h3.1.1, fun y hy => ?_, fun x x0 x1 x2 => ?_⟩
  · have h4 := List.all_eq_true.mp h3.1.2 y hy
    rw [Bool.and_eq_true, Bool.and_eq_true] at h4
    have a1 : 0 < y := Nat.le_of_ble_eq_true h4.1.1
    have a2 : y < 2 ^ n := Nat.le_of_ble_eq_true h4.1.2
    have a3 := Nat.eq_of_beq_eq_true h4.2
    have a4 := bct_p y
    rw [a3] at a4
    exact ⟨by omega, by rw [pw_nat]; omega, a4.symm⟩
  · have e : ((x.toNat : Nat) : Int) = x := by omega
    rw [pw_nat] at x1
    have h4 := List.all_eq_true.mp h3.2 x.toNat (List.mem_range.mpr (by omega))
    rw [Bool.or_eq_true] at h4
    rcases h4 with z | z
    · exfalso
      have a4 := bct_p x.toNat
      rw [e, x2] at a4
      have : bct 14 x.toNat = k := by omega
      rw [this] at z
      simp at z
    · obtain ⟨y, hy, h5⟩ := List.any_eq_true.mp z
      have := Nat.eq_of_beq_eq_true h5
      exact ⟨y, hy, by omega⟩
/-- the first of the least -/
def bsl (f : Int → Int) : Int → List Nat → Int
  | b, [] => b
  | b, y :: r => bsl f (if f y < f b then y else b) r
def Lss (f : Int → Int) (b y : Int) : Prop := f b < f y ∨ (f b = f y ∧ (y = b ∨ ahb b y))
theorem bsl_ok (f : Int → Int) : ∀ (l : List Nat) (b : Int) (S : Int → Prop), S b → (∀ y, S y → Lss f b y) → (∀ y, S y → ∀ z ∈ l, ahb y (z : Int)) → (l.Pairwise fun (x y : Nat) => ahb (x : Int) (y : Int)) → (S (bsl f b l) ∨ ∃ z ∈ l, bsl f b l = (z : Int)) ∧ ∀ y, (S y ∨ ∃ z ∈ l, y = (z : Int)) → Lss f (bsl f b l) y
  | [], b, S, h1, h2, h3, h4 => ⟨Or.inl h1, fun y hy => by
      rcases hy with z | ⟨z, hz, _⟩
      · exact h2 y z
      · cases hz⟩
  | x :: r, b, S, h1, h2, h3, h4 => by
    rw [List.pairwise_cons] at h4
    obtain ⟨i1, i2⟩ := bsl_ok f r (if f x < f b then (x : Int) else b) (fun y => S y ∨ y = (x : Int)) (by
        by_cases hc : f x < f b
        · rw [if_pos hc]
          exact Or.inr rfl
        · rw [if_neg hc]
          exact Or.inl h1) (by
        intro y hy
        by_cases hc : f x < f b
        · rw [if_pos hc]
          rcases hy with z | z
          · rcases h2 y z with u | ⟨u, _⟩
            · exact Or.inl (by omega)
            · exact Or.inl (by omega)
          · rw [z]
            exact Or.inr ⟨rfl, Or.inl rfl⟩
        · rw [if_neg hc]
          rcases hy with z | z
          · exact h2 y z
          · rw [z]
            rcases Int.lt_or_le (f b) (f x) with u | u
            · exact Or.inl u
            · exact Or.inr ⟨by omega, Or.inr (h3 b h1 x List.mem_cons_self)⟩) (by
        intro y hy z hz
        rcases hy with u | u
        · exact h3 y u z (List.mem_cons_of_mem _ hz)
        · rw [u]
          exact h4.1 z hz) h4.2
    rw [bsl]
    refine ⟨?_, fun y hy => i2 y ?_⟩
    · rcases i1 with (z | z) | ⟨z, hz, e⟩
      · exact Or.inl z
      · exact Or.inr ⟨x, List.mem_cons_self, z⟩
      · exact Or.inr ⟨z, List.mem_cons_of_mem _ hz, e⟩
    · rcases hy with z | ⟨z, hz, e⟩
      · exact Or.inl (Or.inl z)
      · rcases List.mem_cons.mp hz with u | u
        · exact Or.inl (Or.inr (by rw [e, u]))
        · exact Or.inr ⟨z, u, e⟩
theorem bsl_bst {s : zJ} {n k : Nat} (hn : n ≤ 12) (k1 : 1 ≤ k) (k3 : k ≤ 3) (hkn : k ≤ n) : Bst s k (2 ^ n) (bsl (lgt s) (b3 k (0, 1, 2) : Nat) (wk3 n k 220 (0, 1, 2))) := by
  obtain ⟨h1, h2, h3⟩ := l3_ok hn k1 k3 hkn
  unfold l3 at h1 h2 h3
  rw [List.pairwise_cons] at h1
  obtain ⟨i1, i2⟩ := bsl_ok (lgt s) (wk3 n k 220 (0, 1, 2)) (b3 k (0, 1, 2) : Nat) (fun y => y = ((b3 k (0, 1, 2) : Nat) : Int)) rfl (fun y hy => by
    rw [hy]
    exact Or.inr ⟨rfl, Or.inl rfl⟩) (fun y hy z hz => by
    rw [hy]
    exact h1.1 z hz) h1.2
  generalize bsl (lgt s) ((b3 k (0, 1, 2) : Nat) : Int) (wk3 n k 220 (0, 1, 2)) = r at i1 i2
  have hr : 0 < r ∧ r < 2 ^ n ∧ pct r 14 = k := by
    rcases i1 with z | ⟨z, hz, e⟩
    · rw [z]
      exact h2 _ List.mem_cons_self
    · rw [e]
      exact h2 _ (List.mem_cons_of_mem _ hz)
  refine ⟨hr.1, hr.2.1, hr.2.2, fun x x0 x1 x2 => i2 x ?_⟩
  obtain ⟨y, hy, e⟩ := h3 x x0 x1 x2
  rcases List.mem_cons.mp hy with u | u
  · exact Or.inl (by rw [← e, u])
  · exact Or.inr ⟨y, u, e.symm⟩
/-- places picked -/
def Pk (J : zJ) (n k : Nat) (t : Nat × Nat × Nat) : Prop := (J 140 0 0 = (t.1 : Int) ∧ t.1 < n) ∧ (2 ≤ k → J 140 0 1 = (t.2.1 : Int) ∧ t.2.1 < n) ∧ (3 ≤ k → J 140 0 2 = (t.2.2 : Int) ∧ t.2.2 < n)
theorem pq_in {J : zJ} {n k : Nat} {t : Nat × Nat × Nat} (h : Pk J n k t) (k3 : k ≤ 3) : ∀ i : Int, 0 ≤ i → i < k → 0 ≤ J 140 0 i ∧ J 140 0 i < n := by
  intro i i0 i1
  have : i = 0 ∨ i = 1 ∨ i = 2 := by omega
  rcases this with z | z | z <;> subst z
  · have := h.1
    omega
  · have := h.2.1 (by omega)
    omega
  · have := h.2.2 (by omega)
    omega
theorem pq_b3 {J : zJ} {n k : Nat} {t : Nat × Nat × Nat} (h : Pk J n k t) (k1 : 1 ≤ k) (k3 : k ≤ 3) {p : Int} (p0 : 0 ≤ p) : bt ((b3 k t : Nat) : Int) p = true ↔ ∃ i : Int, 0 ≤ i ∧ i < k ∧ J 140 0 i = p := by
  have hc : k = 1 ∨ k = 2 ∨ k = 3 := by omega
  have h1 := h.1.1
  have h2 := h.2.1
  have h3 := h.2.2
  unfold bt b3
  rw [Int.toNat_natCast]
  rcases hc with z | z | z <;> subst z
  · rw [if_pos rfl, Nat.testBit_two_pow, decide_eq_true_iff]
    constructor
    · intro e
      exact ⟨0, by omega, by omega, by omega⟩
    · rintro ⟨i, i0, i1, e⟩
      have : i = 0 := by omega
      subst this
      omega
  · have h2 := (h2 (by omega)).1
    rw [if_neg (by omega), if_pos rfl, Nat.testBit_or, Nat.testBit_two_pow, Nat.testBit_two_pow, Bool.or_eq_true, decide_eq_true_iff, decide_eq_true_iff]
    constructor
    · rintro (e | e)
      · exact ⟨0, by omega, by omega, by omega⟩
      · exact ⟨1, by omega, by omega, by omega⟩
    · rintro ⟨i, i0, i1, e⟩
      have : i = 0 ∨ i = 1 := by omega
      rcases this with z | z <;> subst z <;> omega
  · have h2 := (h2 (by omega)).1
    have h3 := (h3 (by omega)).1
    rw [if_neg (by omega), if_neg (by omega), Nat.testBit_or, Nat.testBit_or, Nat.testBit_two_pow, Nat.testBit_two_pow, Nat.testBit_two_pow, Bool.or_eq_true, Bool.or_eq_true, decide_eq_true_iff, decide_eq_true_iff, decide_eq_true_iff]
    constructor
    · rintro ((e | e) | e)
      · exact ⟨0, by omega, by omega, by omega⟩
      · exact ⟨1, by omega, by omega, by omega⟩
      · exact ⟨2, by omega, by omega, by omega⟩
    · rintro ⟨i, i0, i1, e⟩
      have : i = 0 ∨ i = 1 ∨ i = 2 := by omega
      rcases this with z | z | z <;> subst z <;> omega
theorem pq_eq {J : zJ} {n k : Nat} {t : Nat × Nat × Nat} (h : Pk J n k t) (k1 : 1 ≤ k) (k3 : k ≤ 3) {y : Int} (y0 : 0 ≤ y) (hy : ∀ p : Int, 0 ≤ p → (bt y p = true ↔ ∃ i : Int, 0 ≤ i ∧ i < k ∧ J 140 0 i = p)) : y = ((b3 k t : Nat) : Int) := by
  refine bt_ext y0 (by omega) fun p p0 => ?_
  rw [Bool.eq_iff_iff, hy p p0, pq_b3 h k1 k3 p0]
theorem pq_s {J J' : zJ} {n k : Nat} {t : Nat × Nat × Nat} (h : Pk J n k t) (e : J' 140 = J 140) : Pk J' n k t := by
  unfold Pk at h ⊢
  rw [e]
  exact h
/-- the next pick -/
theorem pq_no {J : zJ} {n k : Nat} {t : Nat × Nat × Nat} (h : Pk J n k t) (k1 : 1 ≤ k) (k3 : k ≤ 3) (hkn : k ≤ n) (hm : ∀ j : Int, 0 ≤ j → j < k → (n : Int) - k + j ≤ J 140 0 j) : nx3 n k t = none := by
  have hc : k = 1 ∨ k = 2 ∨ k = 3 := by omega
  have h1 := h.1.1
  have h2 := h.2.1
  have h3 := h.2.2
  have m0 := hm 0 (by omega) (by omega)
  unfold nx3
  rcases hc with z | z | z <;> subst z
  · rw [if_pos rfl, if_neg (by omega)]
  · have h2 := (h2 (by omega)).1
    have m1 := hm 1 (by omega) (by omega)
    rw [if_neg (by omega), if_pos rfl, if_neg (by omega), if_neg (by omega)]
  · have h2 := (h2 (by omega)).1
    have h3 := (h3 (by omega)).1
    have m1 := hm 1 (by omega) (by omega)
    have m2 := hm 2 (by omega) (by omega)
    rw [if_neg (by omega), if_neg (by omega), if_neg (by omega), if_neg (by omega), if_neg (by omega)]
theorem pq_nx {J J' : zJ} {n k : Nat} {t : Nat × Nat × Nat} (h : Pk J n k t) (k1 : 1 ≤ k) (k3 : k ≤ 3) (hkn : k ≤ n) {i : Int} (i0 : 0 ≤ i) (i1 : i < k) (hi : J 140 0 i < (n : Int) - k + i) (hm : ∀ j : Int, i < j → j < k → (n : Int) - k + j ≤ J 140 0 j) (e1 : ∀ j : Int, 0 ≤ j → j < i → J' 140 0 j = J 140 0 j) (e2 : ∀ j : Int, i ≤ j → j < k → J' 140 0 j = J 140 0 i + 1 + (j - i)) : ∃ u, nx3 n k t = some u ∧ Pk J' n k u := by
  have hc : k = 1 ∨ k = 2 ∨ k = 3 := by omega
  have h1 := h.1.1
  have h2 := h.2.1
  have h3 := h.2.2
  unfold nx3 Pk
  rcases hc with z | z | z <;> subst z
  · have : i = 0 := by omega
    subst this
    have a0 := e2 0 (by omega) (by omega)
    rw [if_pos rfl, if_pos (by omega)]
    exact ⟨_, rfl, ⟨by show J' 140 0 0 = ((t.1 + 1 : Nat) : Int); omega, by show t.1 + 1 < n; omega⟩, fun q => by omega, fun q => by omega⟩
  · have h2 := (h2 (by omega)).1
    rw [if_neg (by omega), if_pos rfl]
    have : i = 0 ∨ i = 1 := by omega
    rcases this with z | z <;> subst z
    · have m1 := hm 1 (by omega) (by omega)
      have a0 := e2 0 (by omega) (by omega)
      have a1 := e2 1 (by omega) (by omega)
      rw [if_neg (by omega), if_pos (by omega)]
      exact ⟨_, rfl, ⟨by show J' 140 0 0 = ((t.1 + 1 : Nat) : Int); omega, by show t.1 + 1 < n; omega⟩, fun _ => ⟨by show J' 140 0 1 = ((t.1 + 2 : Nat) : Int); omega, by show t.1 + 2 < n; omega⟩, fun q => by omega⟩
    · have a0 := e1 0 (by omega) (by omega)
      have a1 := e2 1 (by omega) (by omega)
      have v0 := h.1.2
      rw [if_pos (by omega)]
      exact ⟨_, rfl, ⟨by show J' 140 0 0 = (t.1 : Int); omega, v0⟩, fun _ => ⟨by show J' 140 0 1 = ((t.2.1 + 1 : Nat) : Int); omega, by show t.2.1 + 1 < n; omega⟩, fun q => by omega⟩
  · have v1 := (h2 (by omega)).2
    have h2 := (h2 (by omega)).1
    have h3 := (h3 (by omega)).1
    have v0 := h.1.2
    rw [if_neg (by omega), if_neg (by omega)]
    have : i = 0 ∨ i = 1 ∨ i = 2 := by omega
    rcases this with z | z | z <;> subst z
    · have m1 := hm 1 (by omega) (by omega)
      have m2 := hm 2 (by omega) (by omega)
      have a0 := e2 0 (by omega) (by omega)
      have a1 := e2 1 (by omega) (by omega)
      have a2 := e2 2 (by omega) (by omega)
      rw [if_neg (by omega), if_neg (by omega), if_pos (by omega)]
      exact ⟨_, rfl, ⟨by show J' 140 0 0 = ((t.1 + 1 : Nat) : Int); omega, by show t.1 + 1 < n; omega⟩, fun _ => ⟨by show J' 140 0 1 = ((t.1 + 2 : Nat) : Int); omega, by show t.1 + 2 < n; omega⟩, fun _ => ⟨by show J' 140 0 2 = ((t.1 + 3 : Nat) : Int); omega, by show t.1 + 3 < n; omega⟩⟩
    · have m2 := hm 2 (by omega) (by omega)
      have a0 := e1 0 (by omega) (by omega)
      have a1 := e2 1 (by omega) (by omega)
      have a2 := e2 2 (by omega) (by omega)
      rw [if_neg (by omega), if_pos (by omega)]
      exact ⟨_, rfl, ⟨by show J' 140 0 0 = (t.1 : Int); omega, v0⟩, fun _ => ⟨by show J' 140 0 1 = ((t.2.1 + 1 : Nat) : Int); omega, by show t.2.1 + 1 < n; omega⟩, fun _ => ⟨by show J' 140 0 2 = ((t.2.1 + 2 : Nat) : Int); omega, by show t.2.1 + 2 < n; omega⟩⟩
    · have a0 := e1 0 (by omega) (by omega)
      have a1 := e1 1 (by omega) (by omega)
      have a2 := e2 2 (by omega) (by omega)
      rw [if_pos (by omega)]
      exact ⟨_, rfl, ⟨by show J' 140 0 0 = (t.1 : Int); omega, v0⟩, fun _ => ⟨by show J' 140 0 1 = (t.2.1 : Int); omega, v1⟩, fun _ => ⟨by show J' 140 0 2 = ((t.2.2 + 1 : Nat) : Int); omega, by show t.2.2 + 1 < n; omega⟩⟩
theorem c107 {L : Nat} {xs : Nat → Int32} (hL : L ≤ 3072) {D : Nat} {J : zJ} {K : zK} {Q : zR → Nat → zJ → zK → Prop} {s : zJ} (hE : EqS s J) (h : LW s) (hT : TW s) {k : Nat} (k1 : 1 ≤ k) (k3 : k ≤ 3) (hkn : (k : Int) ≤ s 18 0 0) (hD : 5 ≤ D) (hQ : ∀ (J' : zJ) (b : Int), Fr 136 140 J J' → Bst s k (2 ^ (s 18 0 0).toNat) b → J' 136 0 8 = lgt s b → J' 136 0 9 = b → Q (.inl none) 0 J' K) : zCall L xs D 107 [zr 136, zi (k : Int)] J K Q := by
  obtain ⟨D, rfl⟩ : ∃ d, D = d + 1 := ⟨D - 1, by omega⟩
  have hn := lw_n h
  have en : ((s 18 0 0).toNat : Int) = s 18 0 0 := by omega
  have hbb := bsl_bst (s := s) (n := (s 18 0 0).toNat) (k := k) (by omega) k1 k3 (by omega)
  have key : ∀ (m : Nat) (i b : Int) (t : Nat × Nat × Nat) (J1 : zJ), m = (220 - i).toNat → 0 ≤ i → i ≤ 220 → Fr 136 140 J J1 → Pk J1 (s 18 0 0).toNat k t → J1 136 0 8 = lgt s b → J1 136 0 9 = b → Bst s k (2 ^ (s 18 0 0).toNat) (bsl (lgt s) b (wk3 (s 18 0 0).toNat k m t)) → zGo L xs (D + 1) 107 40 [some (zr 136), some (zi (k : Int)), some (zi i), none] [] J1 K Q := by
    intro m
    induction m with
    | zero =>
      intro i b t J1 hm h0 h1 hF hP e8 e9 hB
      refine z107_40 hL ⟨⟨by omega, by omega⟩, ⟨by omega, by omega⟩, fun _ => hQ J1 b hF hB e8 e9, fun q => by omega⟩
    | succ m ih =>
      intro i b t J1 hm h0 h1 hF hP e8 e9 hB
      have hE1 := eqs_fr hE hF (by decide)
      rw [wk3] at hB
      refine z107_40 hL ⟨⟨by omega, by omega⟩, ⟨by omega, by omega⟩, fun q => by omega, fun _ => ?_⟩
      refine c111 hL hE1 h (by omega) (by omega) (fun j j0 j1 => by have := pq_in hP k3 j j0 j1; omega) (by omega) (fun hm2 => zaI_of ⟨zin_0, fun _ => ?_, fun q => absurd rfl q⟩) (fun J2 j j0 j1 hj hm2 f1 g1 g2 => zaI_of ⟨zin_1, fun q => absurd q (by decide), fun _ => ?_⟩)
      · rw [pq_no hP k1 k3 (by omega) (fun j j0 j1 => by rw [en]; exact hm2 j j0 j1)] at hB
        exact hQ J1 b hF hB e8 e9
      · obtain ⟨u, hu, hP2⟩ := pq_nx (J' := J2) hP k1 k3 (by omega) j0 j1 (by rw [en]; exact hj) (fun l l0 l1 => by rw [en]; exact hm2 l l0 l1) g1 g2
        rw [hu] at hB
        have hB2 : Bst s k (2 ^ (s 18 0 0).toNat) (bsl (lgt s) (if lgt s (b3 k u : Nat) < lgt s b then ((b3 k u : Nat) : Int) else b) (wk3 (s 18 0 0).toNat k m u)) := hB
        have hF2 : Fr 136 140 J J2 := fun c hc => (f1 c (by omega)).trans (hF c hc)
        have hE2 := eqs_fr hE hF2 (by decide)
        have lu := lgt_rng h ((b3 k u : Nat) : Int)
        have lb := lgt_rng h b
        refine c113 hL hE2 h hT (x := ((b3 k u : Nat) : Int)) (by omega) (by omega) (fun j j0 j1 => by have := pq_in hP2 k3 j j0 j1; omega) (fun p p0 p1 => pq_b3 hP2 k1 k3 p0) (by omega) (zaI_of ?_)
        rw [f1 136 (by decide), e8]
        refine ⟨⟨by omega, by omega⟩, ⟨by omega, by omega⟩, fun q => ?_, fun q => ?_⟩
        · rw [if_neg (by omega)] at hB2
          exact ih (i + 1) b u J2 (by omega) (by omega) (by omega) hF2 hP2 (by rw [f1 136 (by decide)]; exact e8) (by rw [f1 136 (by decide)]; exact e9) hB2
        · rw [if_pos q] at hB2
          have hP3 := pq_s (J' := zup J2 136 0 8 (lgt s ((b3 k u : Nat) : Int))) hP2 (zup_ne _ _ _ _ (by decide))
          refine c110 hL (by omega) (by omega) (fun j j0 j1 => by have := pq_in hP3 k3 j j0 j1; omega) (by omega) (fun y y0 y1 hy => zaI_of ?_)
          have ey := pq_eq hP3 k1 k3 y0 hy
          refine ih (i + 1) ((b3 k u : Nat) : Int) u _ (by omega) (by omega) (by omega) (fr_up (fr_up hF2 (by decide) (by decide) _ _ _) (by decide) (by decide) _ _ _) (pq_s hP3 (zup_ne _ _ _ _ (by decide))) ?_ ?_ hB2
          · rw [zup_nk _ _ (by decide), zup_eq]
          · rw [zup_eq, ey]
  have start : ∀ (m : Nat) (i : Int) (J1 : zJ), m = ((k : Int) - i).toNat → 0 ≤ i → i ≤ k → Fr 136 140 J J1 → (∀ j : Int, 0 ≤ j → j < i → J1 140 0 j = j) → zGo L xs (D + 1) 107 2 [some (zr 136), some (zi (k : Int)), some (zi i), none] [] J1 K Q := by
    intro m; induction m using Nat.strongRecOn with
    | _ m ih =>
    intro i J1 hm h0 h1 hF hp
    by_cases hc : i < k
    · refine z107_2 hL ⟨⟨by omega, by omega⟩, ⟨by omega, by omega⟩, fun q => by omega, fun _ => ⟨by omega, by omega, ?_⟩⟩
      refine ih _ (by omega) (i + 1) _ rfl (by omega) (by omega) (fr_up hF (by decide) (by decide) _ _ _) fun j j0 j1 => ?_
      by_cases e : j = i
      · rw [e, zup_eq]
      · rw [zup_nk _ _ e]
        exact hp j j0 (by omega)
    · have e : i = k := by omega
      subst e
      have hP : Pk J1 (s 18 0 0).toNat k (0, 1, 2) := ⟨⟨hp 0 (by omega) (by omega), by show 0 < (s 18 0 0).toNat; omega⟩, fun q => ⟨hp 1 (by omega) (by omega), by show 1 < (s 18 0 0).toNat; omega⟩, fun q => ⟨hp 2 (by omega) (by omega), by show 2 < (s 18 0 0).toNat; omega⟩⟩
      have hE1 := eqs_fr hE hF (by decide)
      refine z107_2 hL ⟨⟨by omega, by omega⟩, ⟨by omega, by omega⟩, fun _ => ?_, fun q => by omega⟩
      refine c113 hL hE1 h hT (x := ((b3 k (0, 1, 2) : Nat) : Int)) (by omega) (by omega) (fun j j0 j1 => by have := pq_in hP k3 j j0 j1; omega) (fun p p0 p1 => pq_b3 hP k1 k3 p0) (by omega) (zaI_of ?_)
      have hP3 := pq_s (J' := zup J1 136 0 8 (lgt s ((b3 k (0, 1, 2) : Nat) : Int))) hP (zup_ne _ _ _ _ (by decide))
      refine c110 hL (by omega) (by omega) (fun j j0 j1 => by have := pq_in hP3 k3 j j0 j1; omega) (by omega) (fun y y0 y1 hy => zaI_of ?_)
      have ey := pq_eq hP3 k1 k3 y0 hy
      refine key _ 0 ((b3 k (0, 1, 2) : Nat) : Int) (0, 1, 2) _ rfl (by decide) (by decide) (fr_up (fr_up hF (by decide) (by decide) _ _ _) (by decide) (by decide) _ _ _) (pq_s hP3 (zup_ne _ _ _ _ (by decide))) ?_ ?_ hbb
      · rw [zup_nk _ _ (by decide), zup_eq]
      · rw [zup_eq, ey]
  exact z107 hL (start _ 0 J rfl (by decide) (by omega) (fr_rfl _ _ _) fun j a b => by omega)
/-- fewer places than are wanted: no such set -/
theorem pct_few {x k : Int} {n : Nat} (x0 : 0 ≤ x) (x1 : x < 2 ^ n) (hn : n ≤ 12) (hk : (n : Int) < k) : pct x 14 ≠ k := by
  have := cnt_rng (fun i => bt x i) n
  rw [pct_wk x0 x1 (by omega)]
  unfold pct
  omega
theorem op35 {G : zJ → zK → Prop} (hG : GOk G) : ∀ a b : Int, zin a → zin b → OpW (Inv G) 337 5 162 262 zin [zi a, zi b] := by
  intro a b ha hb
  intro L xs D D2 J K hL hD hD2 hI; obtain ⟨⟨hW, hT, hP, hM, hC, hTp, hF, hIm⟩, hg⟩ := id hI; have hE := eqs_rfl J; have hn := lw_n hW; have hpn := pw_n hP
  obtain ⟨D, rfl⟩ : ∃ d, D = d + 1 := ⟨D - 1, by omega⟩
  obtain ⟨D2, rfl⟩ : ∃ d, D2 = d + 1 := ⟨D2 - 1, by omega⟩
  have bad : ¬ (1 ≤ a ∧ a ≤ 3 ∧ 0 ≤ b ∧ b ≤ 1) → zCall L xs (D2 + 1) 262 [zr 142, zi a, zi b] J K fun r2 e2 J2 K2 => (∃ v2, r2 = .inl (some (zi v2)) ∧ zin v2) ∧ e2 = 0 ∧ J2 142 0 0 = 1 ∧ Inv G J2 K2 := by
    intro hc
    have t0 : zup J 142 0 0 0 142 0 0 = 0 := zup_eq _ _ _ _ _
    have fin := fin_x hG hI (fc_rfl J) (fm_t2 J 0 1) rfl (zup_eq _ _ _ _ _) 0 zin_0
    refine z262 hL ?_
    refine c240 hL (by omega) ha zin_1 ⟨by omega, by omega⟩ (zaI_of ⟨zin_zb _, fun q => ?_, fun q => ?_⟩)
    · exact c195T hL (by omega) t0 (by decide) (zaI_of ⟨zin_1, fun q => absurd q (by decide), fun _ => fin⟩)
    · refine c240 hL (by omega) hb zin_0 zin_1 (zaI_of ⟨zin_zb _, fun q2 => ?_, fun q2 => ?_⟩)
      · rw [zb_1, decide_eq_true_iff] at q q2
        omega
      · exact c195T hL (by omega) t0 (by decide) (zaI_of ⟨zin_1, fun q => absurd q (by decide), fun _ => fin⟩)
  have model : 1 ≤ a → a ≤ 3 → 0 ≤ b → b ≤ 1 → ∀ (v x : Int) (J1 : zJ), FrC J J1 → ((∀ x : Int, 0 < x → x < 2 ^ (J 18 0 0).toNat → pct x 14 ≠ a) → v = -1) → (∀ y : Int, Bst J a (2 ^ (J 18 0 0).toNat) y → v = if b = 0 then lgt J y else y) → zCall L xs (D2 + 1) 262 [zr 142, zi a, zi b] J1 (zku K 561 0 x) fun r2 e2 J2 K2 => r2 = .inl (some (zi v)) ∧ e2 = 0 ∧ J2 142 0 0 = 0 ∧ K2 561 0 = x ∧ Inv G J2 K2 := by
    intro a1 a3 b0 b1 v x J1 f1 hv1 hv2
    have t0 : zup J1 142 0 0 0 142 0 0 = 0 := zup_eq _ _ _ _ _
    have hM1 := ml_fm (ml_fc hM f1) (fm_t J1 0)
    have fin := fin_w hG hI f1 (fm_t J1 0) rfl t0
    refine z262 hL ?_
    refine c240 hL (by omega) ha zin_1 ⟨by omega, by omega⟩ (zaI_of ⟨zin_zb _, fun q => by rw [zb_0, decide_eq_false_iff_not] at q; omega, fun _ => ?_⟩)
    refine c240 hL (by omega) hb zin_0 zin_1 (zaI_of ⟨zin_zb _, fun _ => ?_, fun q => by rw [zb_0, decide_eq_false_iff_not] at q; omega⟩)
    refine c195F hL (by omega) t0 (zaI_of ⟨zin_0, fun _ => ?_, fun q => absurd rfl q⟩)
    refine c262l hL hM1 hW ha hb (by omega) (fun hN => ?_) (fun y hy => ?_)
    · rw [hv1 hN]
      exact fin _ x
    · rw [hv2 y hy]
      exact fin _ x
  have good : 1 ≤ a → a ≤ 3 → 0 ≤ b → b ≤ 1 → a ≤ J 18 0 0 → ∀ Q : zR → Nat → zJ → zK → Prop, (∀ (J1 : zJ) (y : Int), FrC J J1 → Bst J a (2 ^ (J 18 0 0).toNat) y → J1 136 0 8 = lgt J y → J1 136 0 9 = y → Q (.inl none) 0 J1 K) → zCall L xs D 107 [zr 136, zi a] J K Q := by
    intro a1 a3 b0 b1 hle Q hQ
    obtain ⟨k, rfl⟩ : ∃ k : Nat, a = k := ⟨a.toNat, by omega⟩
    exact c107 hL hE hW hT (by omega) (by omega) hle (by omega) fun J1 y hF hB e8 e9 => hQ J1 y (fc_fr (fc_rfl J) hF (by decide)) hB e8 e9
  have bst2 : ∀ y : Int, Bst J a (2 ^ (J 18 0 0).toNat) y → ∀ w : Int, Bst J a (2 ^ (J 18 0 0).toNat) w → w = y := fun y hy w hw => bst_one hw hy
  have hp12 : (2 : Int) ^ (J 18 0 0).toNat ≤ 2 ^ 12 := pw_le (by omega)
  refine z162 hL ⟨ha, zin_1, fun _ => ⟨by omega, Or.inr ⟨0, 1, rfl, rfl, zonb_ok (by decide +kernel), by decide, by decide, ?_⟩⟩, fun g0 => ⟨ha, ⟨by omega, by omega⟩, fun g1 => ⟨hb, fun g2 => ⟨⟨by omega, by omega⟩, ha, fun g3 => ?_, fun g3 => ?_⟩, fun g2 => ⟨hb, zin_1, fun g2b => ⟨⟨by omega, by omega⟩, ha, fun g3 => ?_, fun g3 => ?_⟩, fun _ => ⟨by omega, Or.inr ⟨0, 1, rfl, rfl, zonb_ok (by decide +kernel), by decide, by decide, ?_⟩⟩⟩⟩, fun _ => ⟨by omega, Or.inr ⟨0, 1, rfl, rfl, zonb_ok (by decide +kernel), by decide, by decide, ?_⟩⟩⟩⟩
  · exact bad (by omega)
  · refine good g0 g1 (by omega) (by omega) g3 _ fun J1 y f1 hB e8 e9 => zaV_of ⟨hb, fun q => absurd g2 q, fun _ => Or.inl ⟨_, rfl, rfl, ?_, fun x => ?_⟩⟩
    · have := lgt_rng hW y
      rw [e8]
      exact ⟨by omega, by omega⟩
    · refine model g0 g1 (by omega) (by omega) _ x J1 f1 (fun hN => absurd hB.2.2.1 (hN y hB.1 hB.2.1)) fun w hw => ?_
      rw [if_pos g2, bst2 y hB w hw, e8]
  · refine Or.inl ⟨_, rfl, rfl, ⟨by decide, by decide⟩, fun x => ?_⟩
    refine model g0 g1 (by omega) (by omega) _ x J (fc_rfl J) (fun _ => rfl) fun w hw => ?_
    exact absurd hw.2.2.1 (pct_few (by have := hw.1; omega) hw.2.1 (by omega) (by omega))
  · refine good g0 g1 (by omega) (by omega) g3 _ fun J1 y f1 hB e8 e9 => zaV_of ⟨hb, fun _ => Or.inl ⟨_, rfl, rfl, ?_, fun x => ?_⟩, fun q => absurd q g2⟩
    · have := hB.1
      have := hB.2.1
      rw [e9]
      exact ⟨by omega, by omega⟩
    · refine model g0 g1 (by omega) (by omega) _ x J1 f1 (fun hN => absurd hB.2.2.1 (hN y hB.1 hB.2.1)) fun w hw => ?_
      rw [if_neg g2, bst2 y hB w hw, e9]
  · refine Or.inl ⟨_, rfl, rfl, ⟨by decide, by decide⟩, fun x => ?_⟩
    refine model g0 g1 (by omega) (by omega) _ x J (fc_rfl J) (fun _ => rfl) fun w hw => ?_
    exact absurd hw.2.2.1 (pct_few (by have := hw.1; omega) hw.2.1 (by omega) (by omega))
  · exact bad (by omega)
  · exact bad (by omega)
