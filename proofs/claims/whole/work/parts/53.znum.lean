/-! arithmetic: 32 and 64 bits out of unbounded integers -/
def zand (x y : Int) : Int := (Int32.ofInt x &&& Int32.ofInt y).toInt
def zor (x y : Int) : Int := (Int32.ofInt x ||| Int32.ofInt y).toInt
def zxor (x y : Int) : Int := (Int32.ofInt x ^^^ Int32.ofInt y).toInt
def zandL (x y : Int) : Int := (Int64.ofInt x &&& Int64.ofInt y).toInt
def zbyte (x : Int) : Int := (vp_nar .byte (Int32.ofInt x)).toInt
def zbol (x : Int) : Int := (vp_nar .boolean (Int32.ofInt x)).toInt
def zi2b (x : Int) : Int := (Int32.ofInt x).toInt8.toInt32.toInt
def zin64 (x : Int) : Prop := -9223372036854775808 ≤ x ∧ x < 9223372036854775808
def zcmp (x y : Int) : Int := (lg_cmp (Int64.ofInt x) (Int64.ofInt y)).toInt
theorem zin64_e {x : Int} (h : zin64 x) : (Int64.ofInt x).toInt = x := Int64.toInt_ofInt_of_le (by unfold zin64 at h; simp; omega) (by unfold zin64 at h; simp; omega)
theorem zn_k : ∀ k : Fin 32, ((Int32.ofInt (k.val : Int) &&& 31).toBitVec.smod 32) = BitVec.ofNat 32 k.val := by decide +kernel
theorem zn_k1 {y : Int} (h0 : 0 ≤ y) (h1 : y < 32) : ((Int32.ofInt y &&& 31).toBitVec.smod 32) = BitVec.ofNat 32 y.toNat := by
  have h := zn_k ⟨y.toNat, by omega⟩
  simp only at h
  rw [Int.toNat_of_nonneg h0] at h
  exact h
theorem zn_shl {x y : Int} (h0 : 0 ≤ y) (h1 : y < 32) : Int32.ofInt x <<< (Int32.ofInt y &&& 31) = Int32.ofInt (x * 2 ^ y.toNat) := by
  rw [← Int32.toBitVec_inj, Int32.toBitVec_shiftLeft, zn_k1 h0 h1]
  have e : (BitVec.ofNat 32 y.toNat).toNat = y.toNat := by
    rw [BitVec.toNat_ofNat]
    omega
  rw [BitVec.shiftLeft_eq', e, BitVec.shiftLeft_eq_mul_twoPow]
  show BitVec.ofInt 32 x * BitVec.twoPow 32 y.toNat = BitVec.ofInt 32 (x * 2 ^ y.toNat)
  rw [BitVec.ofInt_mul]
  congr 1
  apply BitVec.eq_of_toInt_eq
  rw [BitVec.toInt_ofInt]
  have : (BitVec.twoPow 32 y.toNat) = BitVec.ofNat 32 (2 ^ y.toNat) := by
    apply BitVec.eq_of_toNat_eq
    simp [BitVec.toNat_twoPow]
  rw [this, ← BitVec.ofInt_natCast, BitVec.toInt_ofInt]
  simp
theorem zn_shr {x y : Int} (hx : zin x) (h0 : 0 ≤ y) (h1 : y < 32) : Int32.ofInt x >>> (Int32.ofInt y &&& 31) = Int32.ofInt (x / 2 ^ y.toNat) := by
  have e : (BitVec.ofNat 32 y.toNat).toNat = y.toNat := by
    rw [BitVec.toNat_ofNat]
    omega
  have hb : zin (x / 2 ^ y.toNat) := by
    unfold zin at hx ⊢
    have hp : (0 : Int) < 2 ^ y.toNat := Int.pow_pos (by decide)
    have hp1 : (1 : Int) ≤ 2 ^ y.toNat := hp
    constructor
    · apply Int.le_ediv_of_mul_le hp
      have : (-2147483648 : Int) * 2 ^ y.toNat ≤ -2147483648 * 1 := by
        apply Int.mul_le_mul_of_nonpos_left (by decide) hp1
      omega
    · apply Int.ediv_lt_of_lt_mul hp
      have : (2147483648 : Int) * 1 ≤ 2147483648 * 2 ^ y.toNat := Int.mul_le_mul_of_nonneg_left hp1 (by decide)
      omega
  rw [← Int32.toInt_inj, zin_e hb]
  show (Int32.ofInt x >>> (Int32.ofInt y &&& 31)).toBitVec.toInt = _
  rw [Int32.toBitVec_shiftRight, zn_k1 h0 h1, BitVec.sshiftRight_eq', e, BitVec.toInt_sshiftRight]
  have e3 : (Int32.ofInt x).toBitVec.toInt = x := zin_e hx
  rw [e3, Int.shiftRight_eq_div_pow]
  simp
theorem zn_div {x y : Int} (h0 : 0 ≤ x) (h1 : x < 2147483648) (h2 : 0 < y) (h3 : y < 2147483648) : ¬ Int32.ofInt y = 0 ∧ Int32.ofInt x / Int32.ofInt y = Int32.ofInt (x / y) := by
  have hx : zin x := ⟨by omega, h1⟩
  have hy : zin y := ⟨by omega, h3⟩
  have hle : x / y ≤ x := Int.ediv_le_self y h0
  have hge : 0 ≤ x / y := Int.ediv_nonneg h0 (by omega)
  have hq : zin (x / y) := ⟨by omega, by omega⟩
  refine ⟨fun z => ?_, ?_⟩
  · have : Int32.ofInt y = Int32.ofInt 0 := z
    rw [zin_eq hy ⟨by decide, by decide⟩] at this
    omega
  · rw [← Int32.toInt_inj, Int32.toInt_div, zin_e hx, zin_e hy, zin_e hq, Int.tdiv_eq_ediv_of_nonneg h0]
    exact Int.bmod_eq_of_le (by simp; omega) (by simp; omega)
theorem zn_rem {x y : Int} (h0 : 0 ≤ x) (h1 : x < 2147483648) (h2 : 0 < y) (h3 : y < 2147483648) : Int32.ofInt x - Int32.ofInt x / Int32.ofInt y * Int32.ofInt y = Int32.ofInt (x % y) := by
  rw [(zn_div h0 h1 h2 h3).2, ← Int32.ofInt_mul, ← Int32.ofInt_sub]
  congr 1
  rw [Int.emod_def, Int.mul_comm]
theorem zn_ldiv {x y : Int} (h0 : 0 ≤ x) (h1 : x < 9223372036854775808) (h2 : 0 < y) (h3 : y < 9223372036854775808) : ¬ Int64.ofInt y = 0 ∧ Int64.ofInt x / Int64.ofInt y = Int64.ofInt (x / y) := by
  have hx : zin64 x := ⟨by omega, h1⟩
  have hy : zin64 y := ⟨by omega, h3⟩
  have hle : x / y ≤ x := Int.ediv_le_self y h0
  have hge : 0 ≤ x / y := Int.ediv_nonneg h0 (by omega)
  have hq : zin64 (x / y) := ⟨by omega, by omega⟩
  refine ⟨fun z => ?_, ?_⟩
  · have h9 : (Int64.ofInt y).toInt = (0 : Int64).toInt := by rw [z]
    rw [zin64_e hy] at h9
    have : (0 : Int64).toInt = 0 := by decide
    omega
  · rw [← Int64.toInt_inj, Int64.toInt_div, zin64_e hx, zin64_e hy, zin64_e hq, Int.tdiv_eq_ediv_of_nonneg h0]
    exact Int.bmod_eq_of_le (by simp; omega) (by simp; omega)
theorem zn_ushr {x y : Int} (h0 : 0 ≤ y) (h1 : y < 32) : ((Int32.ofInt x).toUInt32 >>> ((Int32.ofInt y).toUInt32 &&& Int32.toUInt32 31)).toInt32 = Int32.ofInt (x % 4294967296 / 2 ^ y.toNat) := by
  have hk : ∀ k : Fin 32, (((Int32.ofInt (k.val : Int)).toUInt32 &&& Int32.toUInt32 31).toNat % 32) = k.val := by decide +kernel
  have h := hk ⟨y.toNat, by omega⟩
  simp only at h
  rw [Int.toNat_of_nonneg h0] at h
  rw [← Int32.toBitVec_inj]
  apply BitVec.eq_of_toNat_eq
  have e1 : (((Int32.ofInt x).toUInt32 >>> ((Int32.ofInt y).toUInt32 &&& Int32.toUInt32 31)).toInt32).toBitVec.toNat = ((Int32.ofInt x).toUInt32 >>> ((Int32.ofInt y).toUInt32 &&& Int32.toUInt32 31)).toNat := rfl
  rw [e1, UInt32.toNat_shiftRight, h]
  have e2 : (Int32.ofInt x).toUInt32.toNat = (x % 4294967296).toNat := by
    show (BitVec.ofInt 32 x).toNat = _
    rw [BitVec.toNat_ofInt]
    rfl
  rw [e2]
  show _ = (BitVec.ofInt 32 (x % 4294967296 / 2 ^ y.toNat)).toNat
  rw [BitVec.toNat_ofInt, Nat.shiftRight_eq_div_pow]
  have h5 : 0 ≤ x % 4294967296 := Int.emod_nonneg _ (by decide)
  have h6 : x % 4294967296 < 4294967296 := Int.emod_lt_of_pos _ (by decide)
  have h7 : x % 4294967296 / 2 ^ y.toNat ≤ x % 4294967296 := Int.ediv_le_self _ h5
  have h8 : 0 ≤ x % 4294967296 / 2 ^ y.toNat := Int.ediv_nonneg h5 (Int.le_of_lt (Int.pow_pos (by decide)))
  have e3 : x % 4294967296 / 2 ^ y.toNat % (2 ^ 32 : Nat) = x % 4294967296 / 2 ^ y.toNat := Int.emod_eq_of_lt h8 (by have : ((2 ^ 32 : Nat) : Int) = 4294967296 := rfl; omega)
  rw [e3]
  have e4 : (x % 4294967296) = (((x % 4294967296).toNat : Nat) : Int) := by omega
  generalize (x % 4294967296).toNat = w at e4
  rw [e4]
  have e5 : ((w : Int) / 2 ^ y.toNat) = ((w / 2 ^ y.toNat : Nat) : Int) := by simp
  rw [e5]
  rfl
theorem zn_lk : ∀ k : Fin 64, ((Int32.ofInt (k.val : Int)).toInt64 &&& 63).toBitVec.smod 64 = BitVec.ofNat 64 k.val := by decide +kernel
theorem zn_lshl {x y : Int} (h0 : 0 ≤ y) (h1 : y < 64) : Int64.ofInt x <<< ((Int32.ofInt y).toInt64 &&& 63) = Int64.ofInt (x * 2 ^ y.toNat) := by
  have h := zn_lk ⟨y.toNat, by omega⟩
  simp only at h
  rw [Int.toNat_of_nonneg h0] at h
  rw [← Int64.toBitVec_inj, Int64.toBitVec_shiftLeft, h]
  have e : (BitVec.ofNat 64 y.toNat).toNat = y.toNat := by
    rw [BitVec.toNat_ofNat]
    omega
  rw [BitVec.shiftLeft_eq', e, BitVec.shiftLeft_eq_mul_twoPow]
  show BitVec.ofInt 64 x * BitVec.twoPow 64 y.toNat = BitVec.ofInt 64 (x * 2 ^ y.toNat)
  rw [BitVec.ofInt_mul]
  congr 1
  apply BitVec.eq_of_toInt_eq
  rw [BitVec.toInt_ofInt]
  have : (BitVec.twoPow 64 y.toNat) = BitVec.ofNat 64 (2 ^ y.toNat) := by
    apply BitVec.eq_of_toNat_eq
    simp [BitVec.toNat_twoPow]
  rw [this, ← BitVec.ofInt_natCast, BitVec.toInt_ofInt]
  simp
theorem zn_i2l {x : Int} (h : zin x) : (Int32.ofInt x).toInt64 = Int64.ofInt x := by
  rw [← Int64.toInt_inj, Int32.toInt_toInt64, zin_e h, zin64_e ⟨by unfold zin at h; omega, by unfold zin at h; omega⟩]
theorem zn_l2i {x : Int} : (Int64.ofInt x).toInt32 = Int32.ofInt x := Int64.toInt32_ofInt
theorem zn_b : ∀ n : Fin 256, (Int8.ofInt ((n.val : Int) - 128)).toInt32 = Int32.ofInt ((n.val : Int) - 128) := by decide +kernel
theorem zn_bi {n : Int} (h0 : -128 ≤ n) (h1 : n < 128) : (Int8.ofInt n).toInt32 = Int32.ofInt n := by
  have h := zn_b ⟨(n + 128).toNat, by omega⟩
  simp only at h
  have e : (((n + 128).toNat : Nat) : Int) - 128 = n := by omega
  rw [e] at h
  exact h
theorem zn_si {n : Int} (h0 : -32768 ≤ n) (h1 : n < 32768) : (Int16.ofInt n).toInt32 = Int32.ofInt n := by
  rw [← Int32.toInt_inj, Int16.toInt_toInt32, zin_e ⟨by omega, by omega⟩]
  exact Int16.toInt_ofInt_of_le (by simp; omega) (by simp; omega)
