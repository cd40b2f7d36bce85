/-! GROUPINGS AS NUMBERS: a digit for each portion, the first is the highest -/
def dgt (T k u j : Nat) : Nat := u / T ^ (k - 1 - j) % T
theorem dgt_pre {T k m v j : Nat} (hj : j < k) : dgt T (k + m) v j = dgt T k (v / T ^ m) j := by
  unfold dgt
  have e : k + m - 1 - j = m + (k - 1 - j) := by omega
  rw [e, Nat.pow_add, Nat.div_div_eq_div_mul]
theorem dgt_last {T k u t : Nat} (ht : t < T) : dgt T (k + 1) (u * T + t) k = t := by
  unfold dgt
  have e : k + 1 - 1 - k = 0 := by omega
  rw [e, Nat.pow_zero, Nat.div_one, Nat.add_comm, Nat.add_mul_mod_self_right, Nat.mod_eq_of_lt ht]
theorem dgt_next {T k u t j : Nat} (ht : t < T) (hj : j < k) : dgt T (k + 1) (u * T + t) j = dgt T k u j := by
  rw [dgt_pre hj, Nat.pow_one, Nat.add_comm, Nat.add_mul_div_right _ _ (by omega), Nat.div_eq_of_lt ht, Nat.zero_add]
theorem dgt_lt {T k u j : Nat} (hT : 0 < T) : dgt T k u j < T := Nat.mod_lt _ hT
/-- who goes with a train -/
def pst (T k u : Nat) (t : Int) : Int := bs (fun j => decide (((dgt T k u j.toNat : Nat) : Int) = t)) k
theorem pst_rng (T k u : Nat) (t : Int) : 0 ≤ pst T k u t ∧ pst T k u t < 2 ^ k := bs_lt _ k
theorem pst_bt (T k u : Nat) (t : Int) {j : Int} (j0 : 0 ≤ j) : bt (pst T k u t) j = (decide (j < k) && decide (((dgt T k u j.toNat : Nat) : Int) = t)) := bt_bs _ _ j j0
theorem pst_same {T k u t' : Nat} (ht : t' < T) (hk : k < 30) : zor (pst T k u t') (1 * 2 ^ (k : Int).toNat) = pst T (k + 1) (u * T + t') t' := by
  have hr := pst_rng T k u t'
  have e2 : (2 : Int) ^ (k + 1) = 2 ^ k * 2 := Int.pow_succ 2 k
  have o := bt_or1 (t := pst T k u t') (k := k) (n := k + 1) (by omega) hr.1 (by omega) (by omega) (by omega)
  refine bs_of o.1.1 fun j j0 => ?_
  rw [o.2 j j0, pst_bt _ _ _ _ j0]
  by_cases q : j < k
  · rw [decide_eq_true q, decide_eq_true (p := j < ((k + 1 : Nat) : Int)) (by omega), dgt_next ht (by omega), decide_eq_false (p := (k : Int) = j) (by omega), Bool.or_false]
  · rw [decide_eq_false q, Bool.false_and, Bool.false_or]
    by_cases e : (k : Int) = j
    · have ej : j.toNat = k := by omega
      rw [decide_eq_true e, decide_eq_true (p := j < ((k + 1 : Nat) : Int)) (by omega), ej, dgt_last ht, decide_eq_true rfl]
      rfl
    · rw [decide_eq_false e, decide_eq_false (p := j < ((k + 1 : Nat) : Int)) (by omega), Bool.false_and]
theorem pst_other {T k u t' : Nat} {t : Int} (ht : t' < T) (hne : t ≠ t') : pst T (k + 1) (u * T + t') t = pst T k u t := by
  have hr := pst_rng T k u t
  refine (bs_of hr.1 fun j j0 => ?_).symm
  rw [pst_bt _ _ _ _ j0]
  by_cases q : j < k
  · rw [decide_eq_true q, decide_eq_true (p := j < ((k + 1 : Nat) : Int)) (by omega), dgt_next ht (by omega)]
  · rw [decide_eq_false q, Bool.false_and]
    by_cases e : j < ((k + 1 : Nat) : Int)
    · have ej : j.toNat = k := by omega
      rw [decide_eq_true e, ej, dgt_last ht, decide_eq_false (fun z => hne z.symm)]
      rfl
    · rw [decide_eq_false e, Bool.false_and]
theorem pst_pre {T k m v u : Nat} {t j : Int} (hv : v / T ^ m = u) (j0 : 0 ≤ j) : (bt (pst T k u t) j = true → bt (pst T (k + m) v t) j = true) ∧ (bt (pst T (k + m) v t) j = true → bt (pst T k u t) j = true ∨ ((k : Int) ≤ j ∧ j < ((k + m : Nat) : Int))) := by
  rw [pst_bt _ _ _ _ j0, pst_bt _ _ _ _ j0, Bool.and_eq_true, Bool.and_eq_true, decide_eq_true_iff, decide_eq_true_iff, decide_eq_true_iff, decide_eq_true_iff]
  by_cases q : j < k
  · rw [dgt_pre (T := T) (m := m) (v := v) (show j.toNat < k by omega), hv]
    exact ⟨fun z => ⟨by omega, z.2⟩, fun z => Or.inl ⟨q, z.2⟩⟩
  · exact ⟨fun z => absurd z.1 q, fun z => Or.inr ⟨by omega, z.1⟩⟩
theorem pst_zero (T u : Nat) (t : Int) : pst T 0 u t = 0 := rfl
/-- without errors; the worth -/
def tkA (s : zJ) (X : Int → Int) : Nat → List (Int × Int)
  | 0 => []
  | t + 1 => tkA s X t ++ tkX s (X t)
def vld (s : zJ) (X : Int → Int) (T : Nat) : Prop := (∀ t : Int, 0 ≤ t → t < T → okX s (X t)) ∧ ∃ tk : Int, enQ s (tkA s X T) 0 = some tk
def wvx (s : zJ) (x w m : Int) : Int := if svx s x (s 30 0 w) then fw s w m else if nrb s (svx s x) (s 30 0 w) then fw s w m / 2 else 0
def wth (s : zJ) (X : Int → Int) (T : Nat) : Int := sm (fun w => mx0 (fun t => wvx s (X t) w (s 41 0 t)) T) (s 18 0 14).toNat
theorem wvx_rng {s : zJ} (h : LW s) (x : Int) {w m : Int} (w0 : 0 ≤ w) (w1 : w < s 18 0 14) (m0 : 0 ≤ m) (m1 : m ≤ 1439) : 0 ≤ wvx s x w m ∧ wvx s x w m ≤ 99900 := by
  have := fw_rng h w0 w1 m0 m1
  unfold wvx
  split
  · exact this
  · split <;> omega
theorem wvx_mono {s : zJ} (h : LW s) {x y : Int} (hs : Sbs s x y) {w m : Int} (w0 : 0 ≤ w) (w1 : w < s 18 0 14) (m0 : 0 ≤ m) (m1 : m ≤ 1439) : wvx s x w m ≤ wvx s y w m := by
  have hf := fw_rng h w0 w1 m0 m1
  by_cases q : svx s x (s 30 0 w) = true
  · unfold wvx
    rw [if_pos q, if_pos (svx_mono h hs q)]
    omega
  · by_cases q2 : nrb s (svx s x) (s 30 0 w) = true
    · have q3 : nrb s (svx s y) (s 30 0 w) = true := by
        obtain ⟨c, c0, c1, c2, c3⟩ := nrb_t.mp q2
        exact nrb_t.mpr ⟨c, c0, c1, svx_mono h hs c2, c3⟩
      unfold wvx
      rw [if_neg q, if_pos q2, if_pos q3]
      split <;> omega
    · have := (wvx_rng h y w0 w1 m0 m1).1
      unfold wvx at this ⊢
      rw [if_neg q, if_neg q2]
      exact this
theorem wth_rng {s : zJ} (h : LW s) (hP : PW s) (X : Int → Int) {T : Nat} (hT : (T : Int) ≤ s 40 0 0) : 0 ≤ wth s X T ∧ wth s X T ≤ 1198800 := by
  have hn := lw_n h
  have := sm_nn (f := fun w => mx0 (fun t => wvx s (X t) w (s 41 0 t)) T) (c := 99900) (n := (s 18 0 14).toNat) fun w w0 w1 => mx0_rng (by decide) fun t t0 t1 => by
    have := pw_t hP t0 (by omega)
    exact (wvx_rng h (X t) w0 (by omega) (by omega) (by omega)).2
  unfold wth
  omega
theorem wth_mono {s : zJ} (h : LW s) (hP : PW s) {X Y : Int → Int} {T : Nat} (hT : (T : Int) ≤ s 40 0 0) (hs : ∀ t : Int, 0 ≤ t → t < T → Sbs s (X t) (Y t)) : wth s X T ≤ wth s Y T := sm_mono fun w w0 w1 => mx0_mono fun t t0 t1 => by
  have := pw_t hP t0 (by omega)
  exact wvx_mono h (hs t t0 t1) w0 (by omega) (by omega) (by omega)
theorem wth_cong {s : zJ} {X Y : Int → Int} {T : Nat} (hs : ∀ t : Int, 0 ≤ t → t < T → X t = Y t) : wth s X T = wth s Y T := sm_cong fun w w0 w1 => mx0_cong fun t t0 t1 => by rw [hs t t0 t1]
theorem tkA_cong {s : zJ} {X Y : Int → Int} : ∀ {T : Nat}, (∀ t : Int, 0 ≤ t → t < T → X t = Y t) → tkA s X T = tkA s Y T
  | 0, _ => rfl
  | T + 1, hh => by rw [tkA, tkA, tkA_cong (T := T) fun t t0 t1 => hh t t0 (by omega), hh T (by omega) (by omega)]
/-- engines at a place, all trains -/
theorem tkA_tct {s : zJ} (h : LW s) (X : Int → Int) (q : Int) : ∀ T : Nat, tct q (tkA s X T) = sm (fun t => tcs s (X t) q) T
  | 0 => rfl
  | T + 1 => by
    rw [tkA, tct_app, tkA_tct h X q T, tct_x h]
    rfl
theorem eac_0 (s : zJ) (q : Int) : eac s 0 q = 0 := sm_zero fun e _ _ => by
  show zb (bt 0 e && _) = 0
  rw [bt_zero]
  rfl
theorem vld_eng {s : zJ} (h : LW s) {X : Int → Int} {T : Nat} (hv : vld s X T) (q : Int) : sm (fun t => tcs s (X t) q) T ≤ ena s q := by
  obtain ⟨_, tk, he⟩ := hv
  have h1 := enQ_ct h q _ _ _ (Int.le_refl 0) (by decide) he
  have h2 := eac_le s tk q
  rw [eac_0, tkA_tct h] at h1
  omega
/-- the best among those below m -/
def Bsg (s : zJ) (T n m : Nat) (B : Int) (kp : Int → Int) : Prop := (B = -1 ∧ ∀ v : Nat, v < m → ¬ vld s (pst T n v) T) ∨ ∃ v : Nat, v < m ∧ vld s (pst T n v) T ∧ wth s (pst T n v) T = B ∧ (∀ j : Nat, j < n → kp j = dgt T n v j) ∧ (∀ u : Nat, u < v → vld s (pst T n u) T → wth s (pst T n u) T < B) ∧ ∀ u : Nat, u < m → vld s (pst T n u) T → wth s (pst T n u) T ≤ B
theorem bsg_0 (s : zJ) (T n : Nat) (kp : Int → Int) : Bsg s T n 0 (-1) kp := Or.inl ⟨rfl, fun v hv => by omega⟩
theorem bsg_skip {s : zJ} {T n m m' : Nat} {B : Int} {kp : Int → Int} (hb : Bsg s T n m B kp) (hm : m ≤ m') (hh : ∀ u : Nat, m ≤ u → u < m' → vld s (pst T n u) T → B ≠ -1 ∧ wth s (pst T n u) T ≤ B) : Bsg s T n m' B kp := by
  rcases hb with ⟨e, hb⟩ | ⟨v, v1, v2, v3, v4, v5, v6⟩
  · refine Or.inl ⟨e, fun v hv z => ?_⟩
    by_cases q : v < m
    · exact hb v q z
    · exact (hh v (by omega) hv z).1 e
  · refine Or.inr ⟨v, by omega, v2, v3, v4, v5, fun u hu z => ?_⟩
    by_cases q : u < m
    · exact v6 u q z
    · exact (hh u (by omega) hu z).2
theorem bsg_take {s : zJ} {T n m : Nat} {B B' : Int} {kp kp' : Int → Int} (hb : Bsg s T n m B kp) (hv : vld s (pst T n m) T) (hw : wth s (pst T n m) T = B') (hB : B < B') (hk : ∀ j : Nat, j < n → kp' j = dgt T n m j) : Bsg s T n (m + 1) B' kp' := by
  have low : ∀ u : Nat, u < m → vld s (pst T n u) T → wth s (pst T n u) T < B' := fun u hu z => by
    rcases hb with ⟨e, hb⟩ | ⟨v, v1, v2, v3, v4, v5, v6⟩
    · exact absurd z (hb u hu)
    · have := v6 u hu z
      omega
  refine Or.inr ⟨m, by omega, hv, hw, hk, low, fun u hu z => ?_⟩
  by_cases q : u < m
  · exact Int.le_of_lt (low u q z)
  · have e : u = m := by omega
    rw [e, hw]
    exact Int.le_refl _
theorem bsg_ge {s : zJ} (h : LW s) (hP : PW s) {T n m : Nat} {B : Int} {kp : Int → Int} (hT : (T : Int) ≤ s 40 0 0) (hb : Bsg s T n m B kp) : B = -1 ∨ (0 ≤ B ∧ B ≤ 1198800) := by
  rcases hb with ⟨e, hb⟩ | ⟨v, v1, v2, v3, v4, v5, v6⟩
  · exact Or.inl e
  · right
    rw [← v3]
    exact wth_rng h hP _ hT
/-- below a prefix -/
theorem div_rng {T m u v : Nat} (h0 : u * T ^ m ≤ v) (h1 : v < (u + 1) * T ^ m) : v / T ^ m = u := by
  have hp : 0 < T ^ m := by
    refine Nat.pos_of_ne_zero fun z => ?_
    rw [z] at h0 h1
    omega
  exact Nat.div_eq_of_lt_le h0 h1
