/-! CONTRACTS of small methods of the class -/
/-- a sum over 0, 1, .. -/
def sm (f : Int → Int) : Nat → Int
  | 0 => 0
  | n + 1 => sm f n + f n
theorem sm_cong {f g : Int → Int} : ∀ {n : Nat}, (∀ i : Int, 0 ≤ i → i < n → f i = g i) → sm f n = sm g n
  | 0, _ => rfl
  | n + 1, h => by
    rw [sm, sm, sm_cong (n := n) fun i h0 h1 => h i h0 (by omega), h n (by omega) (by omega)]
theorem sm_nn {f : Int → Int} {c : Int} : ∀ {n : Nat}, (∀ i : Int, 0 ≤ i → i < n → 0 ≤ f i ∧ f i ≤ c) → 0 ≤ sm f n ∧ sm f n ≤ n * c
  | 0, _ => by simp [sm]
  | n + 1, h => by
    have h1 := sm_nn (n := n) fun i h0 h1 => h i h0 (by omega)
    have h2 := h n (by omega) (by omega)
    rw [sm]
    have e : ((n + 1 : Nat) : Int) * c = n * c + c := by
      have : ((n + 1 : Nat) : Int) = n + 1 := by omega
      rw [this, Int.add_mul, Int.one_mul]
    omega
/-- a set of 0 .. n - 1 as bits -/
def bs (P : Int → Bool) (n : Nat) : Int := sm (fun i => if P i then 2 ^ i.toNat else 0) n
theorem bs_lt (P : Int → Bool) : ∀ n : Nat, 0 ≤ bs P n ∧ bs P n < 2 ^ n
  | 0 => by simp [bs, sm]
  | n + 1 => by
    have h := bs_lt P n
    have hp := pw_pos n
    unfold bs at h ⊢
    rw [sm, Int.pow_succ]
    have e : ((n : Int)).toNat = n := Int.toNat_natCast n
    split
    · rw [e]
      omega
    · omega
theorem bt_add {x : Int} {n : Nat} (h0 : 0 ≤ x) (h1 : x < 2 ^ n) (k : Int) (hk : 0 ≤ k) : bt (x + 2 ^ n) k = (bt x k || decide (k = n)) := by
  have e1 : (x + 2 ^ n).toNat = 2 ^ n + x.toNat := by
    rw [pw_nat] at h1 ⊢
    omega
  have h2 : x.toNat < 2 ^ n := by
    rw [pw_nat] at h1
    omega
  unfold bt
  rw [e1]
  rcases Nat.lt_trichotomy k.toNat n with g | g | g
  · rw [Nat.testBit_two_pow_add_gt g]
    have : ¬ k = n := by omega
    simp [this]
  · rw [g, Nat.testBit_two_pow_add_eq, Nat.testBit_lt_two_pow h2]
    have : k = n := by omega
    simp [this]
  · have h3 : 2 ^ n + x.toNat < 2 ^ k.toNat := by
      have : 2 ^ (n + 1) ≤ 2 ^ k.toNat := Nat.pow_le_pow_right (by decide) g
      rw [Nat.pow_succ] at this
      omega
    rw [Nat.testBit_lt_two_pow h3, Nat.testBit_lt_two_pow (Nat.lt_of_lt_of_le h2 (Nat.pow_le_pow_right (by decide) (by omega)))]
    have : ¬ k = n := by omega
    simp [this]
theorem bt_bs (P : Int → Bool) : ∀ (n : Nat) (k : Int), 0 ≤ k → bt (bs P n) k = (decide (k < n) && P k)
  | 0, k, hk => by
    have e : bs P 0 = 0 := rfl
    rw [e, bt_zero]
    have : ¬ k < ((0 : Nat) : Int) := by omega
    simp only [this, decide_false, Bool.false_and]
  | n + 1, k, hk => by
    have ih := bt_bs P n k hk
    have hb := bs_lt P n
    have e : bs P (n + 1) = bs P n + (if P n then 2 ^ n else 0) := by
      unfold bs
      rw [sm, Int.toNat_natCast]
    rw [e]
    by_cases hp : P n = true
    · rw [if_pos hp, bt_add hb.1 hb.2 k hk, ih]
      rcases Int.lt_trichotomy k n with g | g | g
      · have a1 : k < ((n + 1 : Nat) : Int) := by omega
        have a2 : ¬ k = n := by omega
        simp only [g, a1, a2, decide_true, decide_false, Bool.true_and, Bool.false_and, Bool.or_false, Bool.or_true, Bool.false_or]
      · have a1 : k < ((n + 1 : Nat) : Int) := by omega
        rw [g]
        simp [hp]
        omega
      · have a1 : ¬ k < ((n + 1 : Nat) : Int) := by omega
        have a2 : ¬ k = n := by omega
        have a3 : ¬ k < n := by omega
        simp only [a1, a2, a3, decide_true, decide_false, Bool.true_and, Bool.false_and, Bool.or_false, Bool.or_true, Bool.false_or]
    · rw [if_neg hp, Int.add_zero, ih]
      rcases Int.lt_trichotomy k n with g | g | g
      · have a1 : k < ((n + 1 : Nat) : Int) := by omega
        simp only [g, a1, decide_true, decide_false, Bool.true_and, Bool.false_and, Bool.or_false, Bool.or_true, Bool.false_or]
      · rw [g]
        simp [hp]
      · have a1 : ¬ k < ((n + 1 : Nat) : Int) := by omega
        have a3 : ¬ k < n := by omega
        simp only [a1, a3, decide_true, decide_false, Bool.true_and, Bool.false_and, Bool.or_false, Bool.or_true, Bool.false_or]
theorem bs_cong {P R : Int → Bool} {n : Nat} (h : ∀ i : Int, 0 ≤ i → i < n → P i = R i) : bs P n = bs R n := by
  unfold bs
  exact sm_cong fun i h0 h1 => by rw [h i h0 h1]
theorem bs_of {x : Int} {P : Int → Bool} {n : Nat} (hx : 0 ≤ x) (h : ∀ k, 0 ≤ k → bt x k = (decide (k < n) && P k)) : x = bs P n :=
  bt_ext hx (bs_lt P n).1 fun k hk => by rw [h k hk, bt_bs P n k hk]
/-- the next bit -/
theorem bs_or {P : Int → Bool} {i : Int} (h0 : 0 ≤ i) (h1 : i < 31) (hp : P i = true) : zor (bs P i.toNat) (1 * 2 ^ i.toNat) = bs P (i + 1).toNat := by
  have h := bs_lt P i.toNat
  have hq : (2 : Int) ^ (i + 1).toNat ≤ 2 ^ 31 := pw_le (by omega)
  have e : (i + 1).toNat = i.toNat + 1 := by omega
  have hp2 := pw_pos i.toNat
  rw [e, Int.pow_succ] at hq
  rw [Int.one_mul]
  have hz := zor_ge (x := bs P i.toNat) (y := 2 ^ i.toNat) h.1 (by omega) (by omega) (by omega)
  refine bs_of hz.1 fun k hk => ?_
  rw [bt_or h.1 (by omega) (by omega) (by omega), bt_bs P _ k hk, bt_pow h0 hk]
  rcases Int.lt_trichotomy k i with g | g | g
  · have a1 : k < ((i + 1).toNat : Int) := by omega
    have a2 : ¬ i = k := by omega
    have a3 : k < (i.toNat : Int) := by omega
    simp only [a1, a2, a3, decide_true, decide_false, Bool.true_and, Bool.false_and, Bool.or_false, Bool.or_true, Bool.false_or]
  · have a1 : k < ((i + 1).toNat : Int) := by omega
    have a2 : i = k := by omega
    rw [← a2] at a1 ⊢
    simp [hp]
    omega
  · have a1 : ¬ k < ((i + 1).toNat : Int) := by omega
    have a2 : ¬ i = k := by omega
    have a3 : ¬ k < (i.toNat : Int) := by omega
    simp only [a1, a2, a3, decide_true, decide_false, Bool.true_and, Bool.false_and, Bool.or_false, Bool.or_true, Bool.false_or]
theorem bs_no {P : Int → Bool} {i : Int} (h0 : 0 ≤ i) (hp : P i = false) : bs P (i + 1).toNat = bs P i.toNat := by
  have e : (i + 1).toNat = i.toNat + 1 := by omega
  have e2 : ((i.toNat : Nat) : Int) = i := by omega
  rw [e]
  unfold bs
  rw [sm, e2, hp]
  simp
theorem sm_next {f : Int → Int} {i : Int} (h0 : 0 ≤ i) : sm f (i + 1).toNat = sm f i.toNat + f i := by
  have e : (i + 1).toNat = i.toNat + 1 := by omega
  have e2 : ((i.toNat : Nat) : Int) = i := by omega
  rw [e, sm, e2]
/-! places, portions, sets -/
theorem c61 {L : Nat} {xs : Nat → Int32} (hL : L ≤ 3072) {D : Nat} {J : zJ} {K : zK} {Q : zR → Nat → zJ → zK → Prop} {x1 : Int} (hD : 1 ≤ D) (h : LW J) (hx : zin x1) (hQ : Q (.inl (some (zi (if 0 ≤ x1 ∧ x1 < J 18 0 0 then 1 else 0)))) 0 J K) : zCall L xs D 61 [zr 18, zi x1] J K Q := by
  obtain ⟨D, rfl⟩ : ∃ d, D = d + 1 := ⟨D - 1, by omega⟩
  have hn := lw_n h
  refine z61 hL ?_
  unfold zin at hx
  (repeat' (first | (with_reducible apply And.intro) | (with_reducible intro _))) <;> (try first | omega | (unfold zin; omega))
  · rw [if_neg (by omega)] at hQ
    exact hQ
  · rw [if_neg (by omega)] at hQ
    exact hQ
  · rw [if_pos (by omega)] at hQ
    exact hQ
theorem c62 {L : Nat} {xs : Nat → Int32} (hL : L ≤ 3072) {D : Nat} {J : zJ} {K : zK} {Q : zR → Nat → zJ → zK → Prop} {x1 : Int} (hD : 1 ≤ D) (h : LW J) (h0 : 0 ≤ x1) (h1 : x1 < 12) (hQ : Q (.inl (some (zi (if 0 < J 22 0 x1 then 1 else 0)))) 0 J K) : zCall L xs D 62 [zr 18, zi x1] J K Q := by
  obtain ⟨D, rfl⟩ : ∃ d, D = d + 1 := ⟨D - 1, by omega⟩
  have hp := lw_p h x1
  refine z62 hL ?_
  (repeat' (first | (with_reducible apply And.intro) | (with_reducible intro _))) <;> (try first | omega | (unfold zin; omega))
  · rw [if_neg (by omega)] at hQ
    exact hQ
  · rw [if_pos (by omega)] at hQ
    exact hQ
theorem c55 {L : Nat} {xs : Nat → Int32} (hL : L ≤ 3072) {D : Nat} {J : zJ} {K : zK} {Q : zR → Nat → zJ → zK → Prop} (hD : 1 ≤ D) (h : LW J) (hQ : Q (.inl (some (zi (2 ^ (J 18 0 6).toNat - 1)))) 0 J K) : zCall L xs D 55 [zr 18] J K Q := by
  obtain ⟨D, rfl⟩ : ∃ d, D = d + 1 := ⟨D - 1, by omega⟩
  have hn := lw_n h
  refine z55 hL ?_
  rw [Int.one_mul]
  exact ⟨by omega, by omega, hQ⟩
theorem c166 {L : Nat} {xs : Nat → Int32} (hL : L ≤ 3072) {D : Nat} {J : zJ} {K : zK} {Q : zR → Nat → zJ → zK → Prop} {x1 : Int} (hD : 9 ≤ D) (h : LW J) (hx : zin x1) (hQ : 0 ≤ x1 → x1 < J 18 0 0 → Q (.inl none) 0 J K) (hE : ¬ (0 ≤ x1 ∧ x1 < J 18 0 0) → Q (.inr 1) 1 J K) : zCall L xs D 166 [zr 0, zi x1] J K Q := by
  obtain ⟨D, rfl⟩ : ∃ d, D = d + 1 := ⟨D - 1, by omega⟩
  refine z166 hL ?_
  refine c61 hL (by omega) h hx ?_
  refine zaI_of ?_
  by_cases hc : 0 ≤ x1 ∧ x1 < J 18 0 0
  · rw [if_pos hc]
    (repeat' (first | (with_reducible apply And.intro) | (with_reducible intro _))) <;> (try first | omega | (unfold zin; omega))
    exact hQ hc.1 hc.2
  · rw [if_neg hc]
    (repeat' (first | (with_reducible apply And.intro) | (with_reducible intro _))) <;> (try first | omega | (unfold zin; omega))
    exact hE hc
theorem c164 {L : Nat} {xs : Nat → Int32} (hL : L ≤ 3072) {D : Nat} {J : zJ} {K : zK} {Q : zR → Nat → zJ → zK → Prop} {x1 : Int} (hD : 10 ≤ D) (h : LW J) (hx : zin x1) (hQ : 0 ≤ x1 → x1 < J 18 0 0 → 0 < J 22 0 x1 → Q (.inl none) 0 J K) (hE : ¬ (0 ≤ x1 ∧ x1 < J 18 0 0) → Q (.inr 1) 1 J K) (hE2 : 0 ≤ x1 → x1 < J 18 0 0 → ¬ 0 < J 22 0 x1 → Q (.inr 0) 1 J K) : zCall L xs D 164 [zr 0, zi x1] J K Q := by
  obtain ⟨D, rfl⟩ : ∃ d, D = d + 1 := ⟨D - 1, by omega⟩
  have hn := lw_n h
  refine z164 hL ?_
  refine c166 hL (by omega) h hx (fun h0 h1 => zaV_of ?_) fun hc => zaV_ex (hE hc)
  refine c62 hL (by omega) h h0 (by omega) ?_
  refine zaI_of ?_
  by_cases hc : 0 < J 22 0 x1
  · rw [if_pos hc]
    (repeat' (first | (with_reducible apply And.intro) | (with_reducible intro _))) <;> (try first | omega | (unfold zin; omega))
    exact hQ h0 h1 hc
  · rw [if_neg hc]
    (repeat' (first | (with_reducible apply And.intro) | (with_reducible intro _))) <;> (try first | omega | (unfold zin; omega))
    exact hE2 h0 h1 hc
theorem c167 {L : Nat} {xs : Nat → Int32} (hL : L ≤ 3072) {D : Nat} {J : zJ} {K : zK} {Q : zR → Nat → zJ → zK → Prop} {x1 : Int} (hD : 8 ≤ D) (h : LW J) (hx : zin x1) (hQ : 0 ≤ x1 → x1 < J 18 0 6 → Q (.inl none) 0 J K) (hE : ¬ (0 ≤ x1 ∧ x1 < J 18 0 6) → Q (.inr 0) 1 J K) : zCall L xs D 167 [zr 0, zi x1] J K Q := by
  obtain ⟨D, rfl⟩ : ∃ d, D = d + 1 := ⟨D - 1, by omega⟩
  have hn := lw_n h
  refine z167 hL ?_
  unfold zin at hx
  (repeat' (first | (with_reducible apply And.intro) | (with_reducible intro _))) <;> (try first | omega | (unfold zin; omega))
  · exact hE (by omega)
  · exact hQ (by omega) (by omega)
  · exact hE (by omega)
theorem c168 {L : Nat} {xs : Nat → Int32} (hL : L ≤ 3072) {D : Nat} {J : zJ} {K : zK} {Q : zR → Nat → zJ → zK → Prop} {x1 : Int} (hD : 9 ≤ D) (h : LW J) (hx : zin x1) (hQ : 0 ≤ x1 → x1 < 2 ^ (J 18 0 6).toNat → Q (.inl none) 0 J K) (hE : ¬ (0 ≤ x1 ∧ x1 < 2 ^ (J 18 0 6).toNat) → Q (.inr 0) 1 J K) : zCall L xs D 168 [zr 0, zi x1] J K Q := by
  obtain ⟨D, rfl⟩ : ∃ d, D = d + 1 := ⟨D - 1, by omega⟩
  have hn := lw_n h
  have hp := pw_pos (J 18 0 6).toNat
  have hp2 : (2 : Int) ^ (J 18 0 6).toNat ≤ 2 ^ 7 := pw_le (by omega)
  refine z168 hL ?_
  unfold zin at hx
  (repeat' (first | (with_reducible apply And.intro) | (with_reducible intro _))) <;> (try first | omega | (unfold zin; omega))
  · exact hE (by omega)
  · refine c55 hL (by omega) h (zaI_of ?_)
    (repeat' (first | (with_reducible apply And.intro) | (with_reducible intro _))) <;> (try first | omega | (unfold zin; omega))
    · exact hQ (by omega) (by omega)
    · exact hE (by omega)
theorem c169 {L : Nat} {xs : Nat → Int32} (hL : L ≤ 3072) {D : Nat} {J : zJ} {K : zK} {Q : zR → Nat → zJ → zK → Prop} {x1 : Int} (hD : 8 ≤ D) (h : 0 ≤ J 40 0 0 ∧ J 40 0 0 ≤ 4) (hx : zin x1) (hQ : 0 ≤ x1 → x1 < J 40 0 0 → Q (.inl none) 0 J K) (hE : ¬ (0 ≤ x1 ∧ x1 < J 40 0 0) → Q (.inr 3) 1 J K) : zCall L xs D 169 [zr 0, zi x1] J K Q := by
  obtain ⟨D, rfl⟩ : ∃ d, D = d + 1 := ⟨D - 1, by omega⟩
  refine z169 hL ?_
  unfold zin at hx
  (repeat' (first | (with_reducible apply And.intro) | (with_reducible intro _))) <;> (try first | omega | (unfold zin; omega))
  · exact hE (by omega)
  · exact hQ (by omega) (by omega)
  · exact hE (by omega)
theorem c165 {L : Nat} {xs : Nat → Int32} (hL : L ≤ 3072) {D : Nat} {J : zJ} {K : zK} {Q : zR → Nat → zJ → zK → Prop} {x1 : Int} (hD : 8 ≤ D) (h : 0 ≤ J 40 0 5 ∧ J 40 0 5 ≤ 14) (hx : zin x1) (hQ : 0 ≤ x1 → x1 < J 40 0 5 → Q (.inl none) 0 J K) (hE : ¬ (0 ≤ x1 ∧ x1 < J 40 0 5) → Q (.inr 0) 1 J K) : zCall L xs D 165 [zr 0, zi x1] J K Q := by
  obtain ⟨D, rfl⟩ : ∃ d, D = d + 1 := ⟨D - 1, by omega⟩
  refine z165 hL ?_
  unfold zin at hx
  (repeat' (first | (with_reducible apply And.intro) | (with_reducible intro _))) <;> (try first | omega | (unfold zin; omega))
  · exact hE (by omega)
  · exact hQ (by omega) (by omega)
  · exact hE (by omega)
