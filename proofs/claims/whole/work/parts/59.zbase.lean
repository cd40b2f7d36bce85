/-! WORDS for proofs over the integer machine: memory by cells, ends of calls, bits of an integer -/
theorem zset_eq {α : Type} (J : Nat → α) (a : Nat) (f : α) : zset J a f a = f := if_pos rfl
theorem zset_ne {α : Type} (J : Nat → α) {a b : Nat} (f : α) (h : b ≠ a) : zset J a f b = J b := if_neg h
theorem zset_zset {α : Type} (J : Nat → α) (a : Nat) (f g : α) : zset (zset J a f) a g = zset J a g := by
  funext b
  unfold zset
  split <;> rfl
theorem zset_comm {α : Type} (J : Nat → α) {a b : Nat} (f g : α) (h : b < a) : zset (zset J a f) b g = zset (zset J b g) a f := by
  funext c
  unfold zset
  by_cases h1 : c = a
  · by_cases h2 : c = b
    · omega
    · simp [h1, h2]
      intro h3
      omega
  · by_cases h2 : c = b
    · simp [h1, h2]
      intro h3
      omega
    · simp [h1, h2]
theorem zset_self {α : Type} (J : Nat → α) (a : Nat) : zset J a (J a) = J := by
  funext b
  unfold zset
  split
  · next h => rw [h]
  · rfl
theorem fup_at (f : Int → Int → Int) (i k v j l : Int) : fup f i k v j l = if j = i ∧ l = k then v else f j l := rfl
theorem kup_at (f : Int → Int) (k v l : Int) : kup f k v l = if l = k then v else f l := rfl
theorem fcp_at (f g : Int → Int → Int) (sp dp n j l : Int) : fcp f g sp dp n j l = if j = 0 ∧ dp ≤ l ∧ l < dp + n then f 0 (sp + (l - dp)) else g j l := rfl
theorem fup_eq (f : Int → Int → Int) (i k v : Int) : fup f i k v i k = v := if_pos ⟨rfl, rfl⟩
theorem fup_ne (f : Int → Int → Int) {i k v j l : Int} (h : l ≠ k) : fup f i k v j l = f j l := if_neg fun q => h q.2
theorem zaI_of {x : Int} {B : Int → Prop} {C : Nat → Prop} (h : B x) : zaI (.inl (some (zi x))) 0 B C := ⟨rfl, h⟩
theorem zaL_of {x : Int} {B : Int → Prop} {C : Nat → Prop} (h : B x) : zaL (.inl (some (zl x))) 0 B C := ⟨rfl, h⟩
theorem zaV_of {B : Prop} {C : Nat → Prop} (h : B) : zaV (.inl none) 0 B C := ⟨rfl, h⟩
theorem zaW_of {x : Int} {B : Int → Prop} (h : B x) : zaW (.inl (some (zi x))) B := h
theorem zaI_ex {e E : Nat} {B : Int → Prop} {C : Nat → Prop} (h : C E) : zaI (.inr E) e B C := h
theorem zaL_ex {e E : Nat} {B : Int → Prop} {C : Nat → Prop} (h : C E) : zaL (.inr E) e B C := h
theorem zaV_ex {e E : Nat} {B : Prop} {C : Nat → Prop} (h : C E) : zaV (.inr E) e B C := h
theorem zGo_mono {L : Nat} {xs : Nat → Int32} {D k pc : Nat} {ls : zLs} {st : List zV} {J : zJ} {K : zK} {Q Q' : zR → Nat → zJ → zK → Prop} (h : zGo L xs D k pc ls st J K Q) (hq : ∀ r e J K, Q r e J K → Q' r e J K) : zGo L xs D k pc ls st J K Q' := by
  intro lsv hz g
  obtain ⟨n, r, e, lo, J', K', h1, h2⟩ := h lsv hz g
  exact ⟨n, r, e, lo, J', K', h1, hq _ _ _ _ h2⟩
theorem zCall_mono {L : Nat} {xs : Nat → Int32} {D k : Nat} {As : List zV} {J : zJ} {K : zK} {Q Q' : zR → Nat → zJ → zK → Prop} (h : zCall L xs D k As J K Q) (hq : ∀ r e J K, Q r e J K → Q' r e J K) : zCall L xs D k As J K Q' := zGo_mono h hq
/-! bits of an integer that is not negative -/
def bt (x k : Int) : Bool := x.toNat.testBit k.toNat
theorem zo_n {x : Int} (h : 0 ≤ x) : Int32.ofInt x = Int32.ofNat x.toNat := by
  have e : x = ((x.toNat : Nat) : Int) := by omega
  conv => lhs; rw [e]
  rfl
theorem zo_and (a b : Nat) : Int32.ofNat a &&& Int32.ofNat b = Int32.ofNat (a &&& b) := by
  apply Int32.toBitVec_inj.1
  show BitVec.ofNat 32 a &&& BitVec.ofNat 32 b = BitVec.ofNat 32 (a &&& b)
  apply BitVec.eq_of_getLsbD_eq
  intro i hi
  simp [hi]
theorem zo_or (a b : Nat) : Int32.ofNat a ||| Int32.ofNat b = Int32.ofNat (a ||| b) := by
  apply Int32.toBitVec_inj.1
  show BitVec.ofNat 32 a ||| BitVec.ofNat 32 b = BitVec.ofNat 32 (a ||| b)
  apply BitVec.eq_of_getLsbD_eq
  intro i hi
  simp [hi]
theorem zo_xor (a b : Nat) : Int32.ofNat a ^^^ Int32.ofNat b = Int32.ofNat (a ^^^ b) := by
  apply Int32.toBitVec_inj.1
  show BitVec.ofNat 32 a ^^^ BitVec.ofNat 32 b = BitVec.ofNat 32 (a ^^^ b)
  apply BitVec.eq_of_getLsbD_eq
  intro i hi
  simp [hi]
theorem zo_t {n : Nat} (h : n < 2147483648) : (Int32.ofNat n).toInt = (n : Int) := by
  have h1 : Int32.ofNat n = Int32.ofInt (n : Int) := rfl
  rw [h1]
  exact zin_e ⟨by omega, by omega⟩
theorem zand_n {x y : Int} (hx : 0 ≤ x) (hx2 : x < 2147483648) (hy : 0 ≤ y) : zand x y = ((x.toNat &&& y.toNat : Nat) : Int) := by
  unfold zand
  rw [zo_n hx, zo_n hy, zo_and, zo_t]
  have : x.toNat &&& y.toNat ≤ x.toNat := Nat.and_le_left
  omega
theorem zor_n {x y : Int} (hx : 0 ≤ x) (hx2 : x < 2147483648) (hy : 0 ≤ y) (hy2 : y < 2147483648) : zor x y = ((x.toNat ||| y.toNat : Nat) : Int) := by
  unfold zor
  rw [zo_n hx, zo_n hy, zo_or, zo_t]
  exact Nat.or_lt_two_pow (n := 31) (by omega) (by omega)
theorem zxor_n {x y : Int} (hx : 0 ≤ x) (hx2 : x < 2147483648) (hy : 0 ≤ y) (hy2 : y < 2147483648) : zxor x y = ((x.toNat ^^^ y.toNat : Nat) : Int) := by
  unfold zxor
  rw [zo_n hx, zo_n hy, zo_xor, zo_t]
  exact Nat.xor_lt_two_pow (n := 31) (by omega) (by omega)
theorem bt_and {x y : Int} (hx : 0 ≤ x) (hx2 : x < 2147483648) (hy : 0 ≤ y) (k : Int) : bt (zand x y) k = (bt x k && bt y k) := by
  unfold bt
  rw [zand_n hx hx2 hy, Int.toNat_natCast, Nat.testBit_and]
theorem bt_or {x y : Int} (hx : 0 ≤ x) (hx2 : x < 2147483648) (hy : 0 ≤ y) (hy2 : y < 2147483648) (k : Int) : bt (zor x y) k = (bt x k || bt y k) := by
  unfold bt
  rw [zor_n hx hx2 hy hy2, Int.toNat_natCast, Nat.testBit_or]
theorem bt_xor {x y : Int} (hx : 0 ≤ x) (hx2 : x < 2147483648) (hy : 0 ≤ y) (hy2 : y < 2147483648) (k : Int) : bt (zxor x y) k = (bt x k ^^ bt y k) := by
  unfold bt
  rw [zxor_n hx hx2 hy hy2, Int.toNat_natCast, Nat.testBit_xor]
theorem bt_pow {j k : Int} (hj : 0 ≤ j) (hk : 0 ≤ k) : bt (2 ^ j.toNat) k = decide (j = k) := by
  unfold bt
  have e : ((2 : Int) ^ j.toNat).toNat = 2 ^ j.toNat := by
    have : ((2 : Int) ^ j.toNat) = ((2 ^ j.toNat : Nat) : Int) := by simp
    rw [this, Int.toNat_natCast]
  rw [e, Nat.testBit_two_pow]
  by_cases h : j = k
  · simp [h]
  · have : ¬ j.toNat = k.toNat := by omega
    simp [h, this]
theorem bt_zero (k : Int) : bt 0 k = false := by simp [bt]
theorem bt_ext {x y : Int} (hx : 0 ≤ x) (hy : 0 ≤ y) (h : ∀ k, 0 ≤ k → bt x k = bt y k) : x = y := by
  have : x.toNat = y.toNat := Nat.eq_of_testBit_eq fun i => by
    have := h (i : Int) (by omega)
    unfold bt at this
    simpa using this
  omega
theorem pw_nat (n : Nat) : ((2 : Int) ^ n) = ((2 ^ n : Nat) : Int) := by simp
theorem pw_pos (n : Nat) : (0 : Int) < 2 ^ n := Int.pow_pos (by decide)
theorem pw_le {m n : Nat} (h : m ≤ n) : (2 : Int) ^ m ≤ 2 ^ n := by
  rw [pw_nat, pw_nat]
  exact_mod_cast Nat.pow_le_pow_right (by decide) h
theorem bt_lt {x : Int} {n : Nat} (hx : 0 ≤ x) (h : x < 2 ^ n) {k : Int} (hk : (n : Int) ≤ k) : bt x k = false := by
  unfold bt
  apply Nat.testBit_lt_two_pow
  have h1 : x.toNat < 2 ^ n := by
    rw [pw_nat] at h
    omega
  exact Nat.lt_of_lt_of_le h1 (Nat.pow_le_pow_right (by decide) (by omega))
theorem bt_bound {x : Int} {n : Nat} (hx : 0 ≤ x) (h : ∀ k : Int, (n : Int) ≤ k → bt x k = false) : x < 2 ^ n := by
  have : x.toNat < 2 ^ n := by
    apply Nat.lt_pow_two_of_testBit
    intro i hi
    have := h (i : Int) (by omega)
    unfold bt at this
    simpa using this
  rw [pw_nat]
  omega
theorem bt_sh {x k : Int} (hx : 0 ≤ x) (hx2 : x < 2147483648) : zand (x / 2 ^ k.toNat) 1 = if bt x k then 1 else 0 := by
  have h0 : 0 ≤ x / 2 ^ k.toNat := Int.ediv_nonneg hx (Int.le_of_lt (pw_pos _))
  have h1 : x / 2 ^ k.toNat ≤ x := Int.ediv_le_self _ hx
  rw [zand_n h0 (by omega) (by decide)]
  have e : (x / 2 ^ k.toNat).toNat = x.toNat / 2 ^ k.toNat := by
    have e1 : x = ((x.toNat : Nat) : Int) := by omega
    rw [e1, pw_nat]
    rfl
  have e2 : ((1 : Int)).toNat = 1 := rfl
  rw [e, e2, Nat.and_one_is_mod]
  unfold bt
  rw [Nat.testBit_eq_decide_div_mod_eq]
  have : x.toNat / 2 ^ k.toNat % 2 < 2 := Nat.mod_lt _ (by decide)
  by_cases h : x.toNat / 2 ^ k.toNat % 2 = 1
  · simp [h]
  · have h5 : x.toNat / 2 ^ k.toNat % 2 = 0 := by omega
    simp [h5]
theorem zand_le {x y : Int} (hx : 0 ≤ x) (hx2 : x < 2147483648) (hy : 0 ≤ y) : 0 ≤ zand x y ∧ zand x y ≤ x ∧ zand x y ≤ y := by
  rw [zand_n hx hx2 hy]
  have h1 : x.toNat &&& y.toNat ≤ x.toNat := Nat.and_le_left
  have h2 : x.toNat &&& y.toNat ≤ y.toNat := Nat.and_le_right
  omega
theorem zor_lt {x y : Int} {n : Nat} (hn : n ≤ 31) (hx : 0 ≤ x) (hx2 : x < 2 ^ n) (hy : 0 ≤ y) (hy2 : y < 2 ^ n) : 0 ≤ zor x y ∧ zor x y < 2 ^ n := by
  have := pw_le hn
  rw [zor_n hx (by omega) hy (by omega)]
  rw [pw_nat] at hx2 hy2 ⊢
  have : x.toNat ||| y.toNat < 2 ^ n := Nat.or_lt_two_pow (by omega) (by omega)
  omega
theorem zor_ge {x y : Int} (hx : 0 ≤ x) (hx2 : x < 2147483648) (hy : 0 ≤ y) (hy2 : y < 2147483648) : 0 ≤ zor x y ∧ zor x y < 2147483648 := zor_lt (n := 31) (by decide) hx hx2 hy hy2
/-- x without y -/
theorem zandn_n {x y : Int} (hx : 0 ≤ x) (hx2 : x < 2147483648) (hy : 0 ≤ y) (hy2 : y < 2147483648) : 0 ≤ zand x (zxor y (-1)) ∧ zand x (zxor y (-1)) ≤ x ∧ ∀ k : Int, 0 ≤ k → bt (zand x (zxor y (-1))) k = (bt x k && !bt y k) := by
  have hm : Int32.ofInt (zxor y (-1)) = Int32.ofInt y ^^^ Int32.ofInt (-1) := by
    unfold zxor
    rw [Int32.ofInt_toInt]
  have hb : ∀ i, i < 32 → (Int32.ofInt x &&& (Int32.ofInt y ^^^ Int32.ofInt (-1))).toBitVec.getLsbD i = (x.toNat.testBit i && !y.toNat.testBit i) := by
    intro i hi
    rw [zo_n hx, zo_n hy]
    show (BitVec.ofNat 32 x.toNat &&& (BitVec.ofNat 32 y.toNat ^^^ BitVec.ofInt 32 (-1))).getLsbD i = _
    have e1 : BitVec.ofInt 32 (-1) = BitVec.allOnes 32 := by decide
    rw [e1, BitVec.getLsbD_and, BitVec.getLsbD_xor, BitVec.getLsbD_allOnes, BitVec.getLsbD_ofNat, BitVec.getLsbD_ofNat]
    simp [hi]
  have h31 : (Int32.ofInt x &&& (Int32.ofInt y ^^^ Int32.ofInt (-1))).toBitVec.toNat = x.toNat &&& (x.toNat ^^^ (x.toNat &&& y.toNat)) := by
    apply Nat.eq_of_testBit_eq
    intro i
    by_cases hi : i < 32
    · have := hb i hi
      rw [BitVec.getLsbD] at this
      rw [this, Nat.testBit_and, Nat.testBit_xor, Nat.testBit_and]
      cases x.toNat.testBit i <;> cases y.toNat.testBit i <;> rfl
    · have h1 : (Int32.ofInt x &&& (Int32.ofInt y ^^^ Int32.ofInt (-1))).toBitVec.toNat.testBit i = false := BitVec.getLsbD_of_ge _ _ (by omega)
      have h2 : x.toNat.testBit i = false := Nat.testBit_lt_two_pow (Nat.lt_of_lt_of_le (by omega : x.toNat < 2 ^ 31) (Nat.pow_le_pow_right (by decide) (by omega)))
      rw [h1, Nat.testBit_and, h2]
      rfl
  have hle : x.toNat &&& (x.toNat ^^^ (x.toNat &&& y.toNat)) ≤ x.toNat := Nat.and_le_left
  have he : zand x (zxor y (-1)) = ((x.toNat &&& (x.toNat ^^^ (x.toNat &&& y.toNat)) : Nat) : Int) := by
    unfold zand
    rw [hm]
    generalize hz : Int32.ofInt x &&& (Int32.ofInt y ^^^ Int32.ofInt (-1)) = z at h31
    show z.toBitVec.toInt = _
    rw [BitVec.toInt_eq_toNat_of_lt (by rw [h31]; omega), h31]
  refine ⟨by rw [he]; omega, by rw [he]; omega, fun k hk => ?_⟩
  rw [he]
  unfold bt
  rw [Int.toNat_natCast, Nat.testBit_and, Nat.testBit_xor, Nat.testBit_and]
  cases x.toNat.testBit k.toNat <;> cases y.toNat.testBit k.toNat <;> rfl
