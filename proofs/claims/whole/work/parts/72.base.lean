/-! SUMS, SETS AS BITS, the first of many, and what a memory keeps -/
/-- a sum over 0, 1, .. -/
def sm (f : Int → Int) : Nat → Int
  | 0 => 0
  | n + 1 => sm f n + f n
theorem sm_cong {f g : Int → Int} : ∀ {n : Nat}, (∀ i : Int, 0 ≤ i → i < n → f i = g i) → sm f n = sm g n
  | 0, _ => rfl
  | n + 1, h => by
    rw [sm, sm, sm_cong (n := n) fun i h0 h1 => h i h0 (by omega), h n (by omega) (by omega)]
theorem sm_nn {f : Int → Int} {c : Int} : ∀ {n : Nat}, (∀ i : Int, 0 ≤ i → i < n → 0 ≤ f i ∧ f i ≤ c) → 0 ≤ sm f n ∧ sm f n ≤ n * c
  | 0, _ => by simp [sm]
  | n + 1, h => by
    have h1 := sm_nn (n := n) fun i h0 h1 => h i h0 (by omega)
    have h2 := h n (by omega) (by omega)
    rw [sm]
    have e : ((n + 1 : Nat) : Int) * c = n * c + c := by
      have : ((n + 1 : Nat) : Int) = n + 1 := by omega
      rw [this, Int.add_mul, Int.one_mul]
    omega
/-- a set of 0 .. n - 1 as bits -/
def bs (P : Int → Bool) (n : Nat) : Int := sm (fun i => if P i then 2 ^ i.toNat else 0) n
theorem bs_lt (P : Int → Bool) : ∀ n : Nat, 0 ≤ bs P n ∧ bs P n < 2 ^ n
  | 0 => by simp [bs, sm]
  | n + 1 => by
    have h := bs_lt P n
    have hp := pw_pos n
    unfold bs at h ⊢
    rw [sm, Int.pow_succ]
    have e : ((n : Int)).toNat = n := Int.toNat_natCast n
    split
    · rw [e]
      omega
    · omega
theorem bt_add {x : Int} {n : Nat} (h0 : 0 ≤ x) (h1 : x < 2 ^ n) (k : Int) (hk : 0 ≤ k) : bt (x + 2 ^ n) k = (bt x k || decide (k = n)) := by
  have e1 : (x + 2 ^ n).toNat = 2 ^ n + x.toNat := by
    rw [pw_nat] at h1 ⊢
    omega
  have h2 : x.toNat < 2 ^ n := by
    rw [pw_nat] at h1
    omega
  unfold bt
  rw [e1]
  rcases Nat.lt_trichotomy k.toNat n with g | g | g
  · rw [Nat.testBit_two_pow_add_gt g]
    have : ¬ k = n := by omega
    simp [this]
  · rw [g, Nat.testBit_two_pow_add_eq, Nat.testBit_lt_two_pow h2]
    have : k = n := by omega
    simp [this]
  · have h3 : 2 ^ n + x.toNat < 2 ^ k.toNat := by
      have : 2 ^ (n + 1) ≤ 2 ^ k.toNat := Nat.pow_le_pow_right (by decide) g
      rw [Nat.pow_succ] at this
      omega
    rw [Nat.testBit_lt_two_pow h3, Nat.testBit_lt_two_pow (Nat.lt_of_lt_of_le h2 (Nat.pow_le_pow_right (by decide) (by omega)))]
    have : ¬ k = n := by omega
    simp [this]
theorem bt_bs (P : Int → Bool) : ∀ (n : Nat) (k : Int), 0 ≤ k → bt (bs P n) k = (decide (k < n) && P k)
  | 0, k, hk => by
    have e : bs P 0 = 0 := rfl
    rw [e, bt_zero]
    have : ¬ k < ((0 : Nat) : Int) := by omega
    simp only [this, decide_false, Bool.false_and]
  | n + 1, k, hk => by
    have ih := bt_bs P n k hk
    have hb := bs_lt P n
    have e : bs P (n + 1) = bs P n + (if P n then 2 ^ n else 0) := by
      unfold bs
      rw [sm, Int.toNat_natCast]
    rw [e]
    by_cases hp : P n = true
    · rw [if_pos hp, bt_add hb.1 hb.2 k hk, ih]
      rcases Int.lt_trichotomy k n with g | g | g
      · have a1 : k < ((n + 1 : Nat) : Int) := by omega
        have a2 : ¬ k = n := by omega
        simp only [g, a1, a2, decide_true, decide_false, Bool.true_and, Bool.false_and, Bool.or_false, Bool.or_true, Bool.false_or]
      · have a1 : k < ((n + 1 : Nat) : Int) := by omega
        rw [g]
        simp [hp]
        omega
      · have a1 : ¬ k < ((n + 1 : Nat) : Int) := by omega
        have a2 : ¬ k = n := by omega
        have a3 : ¬ k < n := by omega
        simp only [a1, a2, a3, decide_true, decide_false, Bool.true_and, Bool.false_and, Bool.or_false, Bool.or_true, Bool.false_or]
    · rw [if_neg hp, Int.add_zero, ih]
      rcases Int.lt_trichotomy k n with g | g | g
      · have a1 : k < ((n + 1 : Nat) : Int) := by omega
        simp only [g, a1, decide_true, decide_false, Bool.true_and, Bool.false_and, Bool.or_false, Bool.or_true, Bool.false_or]
      · rw [g]
        simp [hp]
      · have a1 : ¬ k < ((n + 1 : Nat) : Int) := by omega
        have a3 : ¬ k < n := by omega
        simp only [a1, a3, decide_true, decide_false, Bool.true_and, Bool.false_and, Bool.or_false, Bool.or_true, Bool.false_or]
theorem bs_cong {P R : Int → Bool} {n : Nat} (h : ∀ i : Int, 0 ≤ i → i < n → P i = R i) : bs P n = bs R n := by
  unfold bs
  exact sm_cong fun i h0 h1 => by rw [h i h0 h1]
theorem bs_of {x : Int} {P : Int → Bool} {n : Nat} (hx : 0 ≤ x) (h : ∀ k, 0 ≤ k → bt x k = (decide (k < n) && P k)) : x = bs P n :=
  bt_ext hx (bs_lt P n).1 fun k hk => by rw [h k hk, bt_bs P n k hk]
/-- the next bit -/
theorem bs_or {P : Int → Bool} {i : Int} (h0 : 0 ≤ i) (h1 : i < 31) (hp : P i = true) : zor (bs P i.toNat) (1 * 2 ^ i.toNat) = bs P (i + 1).toNat := by
  have h := bs_lt P i.toNat
  have hq : (2 : Int) ^ (i + 1).toNat ≤ 2 ^ 31 := pw_le (by omega)
  have e : (i + 1).toNat = i.toNat + 1 := by omega
  have hp2 := pw_pos i.toNat
  rw [e, Int.pow_succ] at hq
  rw [Int.one_mul]
  have hz := zor_ge (x := bs P i.toNat) (y := 2 ^ i.toNat) h.1 (by omega) (by omega) (by omega)
  refine bs_of hz.1 fun k hk => ?_
  rw [bt_or h.1 (by omega) (by omega) (by omega), bt_bs P _ k hk, bt_pow h0 hk]
  rcases Int.lt_trichotomy k i with g | g | g
  · have a1 : k < ((i + 1).toNat : Int) := by omega
    have a2 : ¬ i = k := by omega
    have a3 : k < (i.toNat : Int) := by omega
    simp only [a1, a2, a3, decide_true, decide_false, Bool.true_and, Bool.false_and, Bool.or_false, Bool.or_true, Bool.false_or]
  · have a1 : k < ((i + 1).toNat : Int) := by omega
    have a2 : i = k := by omega
    rw [← a2] at a1 ⊢
    simp [hp]
    omega
  · have a1 : ¬ k < ((i + 1).toNat : Int) := by omega
    have a2 : ¬ i = k := by omega
    have a3 : ¬ k < (i.toNat : Int) := by omega
    simp only [a1, a2, a3, decide_true, decide_false, Bool.true_and, Bool.false_and, Bool.or_false, Bool.or_true, Bool.false_or]
theorem bs_no {P : Int → Bool} {i : Int} (h0 : 0 ≤ i) (hp : P i = false) : bs P (i + 1).toNat = bs P i.toNat := by
  have e : (i + 1).toNat = i.toNat + 1 := by omega
  have e2 : ((i.toNat : Nat) : Int) = i := by omega
  rw [e]
  unfold bs
  rw [sm, e2, hp]
  simp
theorem sm_next {f : Int → Int} {i : Int} (h0 : 0 ≤ i) : sm f (i + 1).toNat = sm f i.toNat + f i := by
  have e : (i + 1).toNat = i.toNat + 1 := by omega
  have e2 : ((i.toNat : Nat) : Int) = i := by omega
  rw [e, sm, e2]
theorem sm_add (f g : Int → Int) : ∀ n : Nat, sm (fun i => f i + g i) n = sm f n + sm g n
  | 0 => rfl
  | n + 1 => by
    rw [sm, sm, sm, sm_add f g n]
    omega
theorem sm_zero {f : Int → Int} : ∀ {n : Nat}, (∀ i : Int, 0 ≤ i → i < n → f i = 0) → sm f n = 0
  | 0, _ => rfl
  | n + 1, h => by
    rw [sm, sm_zero (n := n) fun i h0 h1 => h i h0 (by omega), h n (by omega) (by omega)]
    rfl
theorem sm_one {f : Int → Int} {k : Int} : ∀ {n : Nat}, 0 ≤ k → k < n → (∀ i : Int, 0 ≤ i → i < n → i ≠ k → f i = 0) → sm f n = f k
  | 0, h0, h1, _ => by omega
  | n + 1, h0, h1, h => by
    rw [sm]
    by_cases e : k = n
    · rw [sm_zero (n := n) fun i a b => h i a (by omega) (by omega), e]
      omega
    · rw [sm_one (n := n) h0 (by omega) fun i a b c => h i a (by omega) c, h n (by omega) (by omega) (by omega)]
      omega
theorem sm_mono {f g : Int → Int} : ∀ {n : Nat}, (∀ i : Int, 0 ≤ i → i < n → f i ≤ g i) → sm f n ≤ sm g n
  | 0, _ => Int.le_refl _
  | n + 1, h => by
    have h1 := sm_mono (n := n) fun i h0 h1 => h i h0 (by omega)
    have h2 := h n (by omega) (by omega)
    rw [sm, sm]
    omega
/-- a truth as 1 or 0 -/
def zb (b : Bool) : Int := if b then 1 else 0
theorem zin_zb (b : Bool) : zin (zb b) := by cases b <;> exact ⟨by decide, by decide⟩
theorem zb_01 (b : Bool) : zb b = 0 ∨ zb b = 1 := by cases b <;> decide
theorem zb_0 {b : Bool} : zb b = 0 ↔ b = false := by cases b <;> decide
theorem zb_1 {b : Bool} : zb b ≠ 0 ↔ b = true := by cases b <;> decide
theorem zb_t : zb true = 1 := rfl
theorem zb_f : zb false = 0 := rfl
theorem bt_shz {x k : Int} (hx : 0 ≤ x) (hx2 : x < 2147483648) : zand (x / 2 ^ k.toNat) 1 = zb (bt x k) := bt_sh hx hx2
/-- how many of 0 .. n - 1 -/
def cnt (P : Int → Bool) (n : Nat) : Int := sm (fun i => zb (P i)) n
theorem cnt_rng (P : Int → Bool) (n : Nat) : 0 ≤ cnt P n ∧ cnt P n ≤ n := by
  have := sm_nn (f := fun i => zb (P i)) (c := 1) (n := n) fun i _ _ => by
    rcases zb_01 (P i) with q | q <;> rw [q] <;> decide
  unfold cnt
  omega
theorem cnt_cong {P R : Int → Bool} {n : Nat} (h : ∀ i : Int, 0 ≤ i → i < n → P i = R i) : cnt P n = cnt R n := sm_cong fun i h0 h1 => by rw [h i h0 h1]
theorem cnt_pos {P : Int → Bool} : ∀ {n : Nat}, 0 < cnt P n ↔ ∃ i : Int, 0 ≤ i ∧ i < n ∧ P i = true
  | 0 => by
    constructor
    · intro h
      have : cnt P 0 = 0 := rfl
      omega
    · rintro ⟨i, a, b, c⟩
      omega
  | n + 1 => by
    have e : cnt P (n + 1) = cnt P n + zb (P n) := rfl
    have h := cnt_pos (P := P) (n := n)
    have h2 := cnt_rng P n
    constructor
    · intro g
      by_cases hp : P n = true
      · exact ⟨n, by omega, by omega, hp⟩
      · have : P n = false := by simpa using hp
        rw [e, this, zb_f] at g
        obtain ⟨i, a, b, c⟩ := h.mp (by omega)
        exact ⟨i, a, by omega, c⟩
    · rintro ⟨i, a, b, c⟩
      rw [e]
      by_cases hi : i = n
      · rw [← hi, c, zb_t]
        omega
      · have := h.mpr ⟨i, a, by omega, c⟩
        rcases zb_01 (P n) with q | q <;> omega
/-- the first of 0 .. n - 1, or -1 -/
def fnd (P : Int → Bool) : Nat → Int
  | 0 => -1
  | n + 1 => if 0 ≤ fnd P n then fnd P n else if P n then n else -1
theorem fnd_no {P : Int → Bool} : ∀ {n : Nat}, (∀ i : Int, 0 ≤ i → i < n → P i = false) → fnd P n = -1
  | 0, _ => rfl
  | n + 1, h => by
    rw [fnd, fnd_no (n := n) fun i a b => h i a (by omega), h n (by omega) (by omega)]
    simp
theorem fnd_at {P : Int → Bool} {k : Int} : ∀ {n : Nat}, 0 ≤ k → k < n → P k = true → (∀ i : Int, 0 ≤ i → i < k → P i = false) → fnd P n = k
  | 0, h0, h1, _, _ => by omega
  | n + 1, h0, h1, hp, h => by
    rw [fnd]
    by_cases e : k = n
    · rw [fnd_no (n := n) fun i a b => h i a (by omega), ← e, hp]
      simp
    · rw [fnd_at (n := n) h0 (by omega) hp h, if_pos h0]
theorem fnd_is (P : Int → Bool) : ∀ n : Nat, (fnd P n = -1 ∧ ∀ i : Int, 0 ≤ i → i < n → P i = false) ∨ (0 ≤ fnd P n ∧ fnd P n < n ∧ P (fnd P n) = true ∧ ∀ i : Int, 0 ≤ i → i < fnd P n → P i = false)
  | 0 => Or.inl ⟨rfl, fun i a b => by omega⟩
  | n + 1 => by
    rcases fnd_is P n with ⟨h1, h2⟩ | ⟨h1, h2, h3, h4⟩
    · cases hp : P n with
      | true =>
        refine Or.inr ?_
        have e : fnd P (n + 1) = n := by
          rw [fnd, h1, hp]
          simp
        rw [e]
        exact ⟨by omega, by omega, hp, fun i a b => h2 i a b⟩
      | false =>
        refine Or.inl ⟨by rw [fnd, h1, hp]; simp, fun i a b => ?_⟩
        by_cases e : i = n
        · rw [e, hp]
        · exact h2 i a (by omega)
    · have e : fnd P (n + 1) = fnd P n := by rw [fnd, if_pos h1]
      rw [e]
      exact Or.inr ⟨h1, by omega, h3, h4⟩
theorem fnd_cong {P R : Int → Bool} : ∀ {n : Nat}, (∀ i : Int, 0 ≤ i → i < n → P i = R i) → fnd P n = fnd R n
  | 0, _ => rfl
  | n + 1, h => by
    rw [fnd, fnd, fnd_cong (n := n) fun i a b => h i a (by omega), h n (by omega) (by omega)]
/-- the greatest, not less than 0 -/
def mx0 (f : Int → Int) : Nat → Int
  | 0 => 0
  | n + 1 => if mx0 f n < f n then f n else mx0 f n
theorem mx0_cong {f g : Int → Int} : ∀ {n : Nat}, (∀ i : Int, 0 ≤ i → i < n → f i = g i) → mx0 f n = mx0 g n
  | 0, _ => rfl
  | n + 1, h => by
    rw [mx0, mx0, mx0_cong (n := n) fun i h0 h1 => h i h0 (by omega), h n (by omega) (by omega)]
theorem mx0_next {f : Int → Int} {i : Int} (h0 : 0 ≤ i) : mx0 f (i + 1).toNat = if mx0 f i.toNat < f i then f i else mx0 f i.toNat := by
  have e : (i + 1).toNat = i.toNat + 1 := by omega
  have e2 : ((i.toNat : Nat) : Int) = i := by omega
  rw [e, mx0, e2]
theorem mx0_rng {f : Int → Int} {c : Int} (hc : 0 ≤ c) : ∀ {n : Nat}, (∀ i : Int, 0 ≤ i → i < n → f i ≤ c) → 0 ≤ mx0 f n ∧ mx0 f n ≤ c
  | 0, _ => ⟨Int.le_refl 0, hc⟩
  | n + 1, h => by
    have h1 := mx0_rng hc (n := n) fun i h0 h1 => h i h0 (by omega)
    have h2 := h n (by omega) (by omega)
    rw [mx0]
    split <;> omega
theorem mx0_mono {f g : Int → Int} : ∀ {n : Nat}, (∀ i : Int, 0 ≤ i → i < n → f i ≤ g i) → mx0 f n ≤ mx0 g n
  | 0, _ => Int.le_refl _
  | n + 1, h => by
    have h1 := mx0_mono (n := n) fun i h0 h1 => h i h0 (by omega)
    have h2 := h n (by omega) (by omega)
    rw [mx0, mx0]
    split <;> split <;> omega
/-- a set's size -/
def pct (x : Int) (n : Nat) : Int := cnt (fun i => bt x i) n
/-- cells 18 to 51 (land, tree, plan) are as in s -/
def EqS (s J : zJ) : Prop := ∀ b, 18 ≤ b → b ≤ 51 → J b = s b
theorem eqs_rfl (s : zJ) : EqS s s := fun _ _ _ => rfl
theorem eqs_up {s J : zJ} (h : EqS s J) {a : Nat} (ha : a < 18 ∨ 51 < a) (i k v : Int) : EqS s (zup J a i k v) := fun b h1 h2 => by
  unfold zup
  rw [zset_ne _ _ (by omega)]
  exact h b h1 h2
theorem eqs_cp {s J : zJ} (h : EqS s J) {a c : Nat} (ha : c < 18 ∨ 51 < c) (i k v : Int) : EqS s (zcp J a c i k v) := fun b h1 h2 => by
  unfold zcp
  rw [zset_ne _ _ (by omega)]
  exact h b h1 h2
/-- all cells but those from a to b are the same -/
def Fr (a b : Nat) (J J' : zJ) : Prop := ∀ c, c < a ∨ b < c → J' c = J c
theorem fr_rfl (a b : Nat) (J : zJ) : Fr a b J J := fun _ _ => rfl
theorem fr_tr {a b : Nat} {J J1 J2 : zJ} (h1 : Fr a b J J1) (h2 : Fr a b J1 J2) : Fr a b J J2 := fun c h => (h2 c h).trans (h1 c h)
theorem fr_wk {a b a' b' : Nat} {J J1 : zJ} (h : Fr a b J J1) (h1 : a' ≤ a) (h2 : b ≤ b') : Fr a' b' J J1 := fun c hc => h c (by omega)
theorem fr_up {a b : Nat} {J J1 : zJ} (h : Fr a b J J1) {c : Nat} (h1 : a ≤ c) (h2 : c ≤ b) (i k v : Int) : Fr a b J (zup J1 c i k v) := fun d hd => by
  unfold zup
  rw [zset_ne _ _ (by omega)]
  exact h d hd
theorem fr_cp {a b : Nat} {J J1 : zJ} (h : Fr a b J J1) {c e : Nat} (h1 : a ≤ c) (h2 : c ≤ b) (i k v : Int) : Fr a b J (zcp J1 e c i k v) := fun d hd => by
  unfold zcp
  rw [zset_ne _ _ (by omega)]
  exact h d hd
theorem eqs_fr {s J J' : zJ} (h : EqS s J) {a b : Nat} (f : Fr a b J J') (hab : 51 < a ∨ b < 18) : EqS s J' := fun c h1 h2 => (f c (by omega)).trans (h c h1 h2)
theorem zup_eq (J : zJ) (a : Nat) (i k v : Int) : zup J a i k v a i k = v := by rw [zup_at, if_pos ⟨rfl, rfl, rfl⟩]
theorem zup_ne (J : zJ) {a b : Nat} (i k v : Int) (h : b ≠ a) : zup J a i k v b = J b := by
  unfold zup
  rw [zset_ne _ _ h]
theorem zup_nk (J : zJ) (a : Nat) {i k v j l : Int} (h : l ≠ k) : zup J a i k v a j l = J a j l := by rw [zup_at, if_neg (fun q => h q.2.2)]
theorem zup_nj (J : zJ) (a : Nat) {i k v j l : Int} (h : j ≠ i) : zup J a i k v a j l = J a j l := by rw [zup_at, if_neg (fun q => h q.2.1)]
theorem zcp_ne (J : zJ) {a b c : Nat} (i k v : Int) (h : c ≠ b) : zcp J a b i k v c = J c := by
  unfold zcp
  rw [zset_ne _ _ h]
