/-! HOW MANY ORDERS -/
theorem pd_cong {f g : Int → Int} : ∀ {n : Nat}, (∀ i : Int, 0 ≤ i → i < n → f i = g i) → pd f n = pd g n
  | 0, _ => rfl
  | n + 1, h => by rw [pd, pd, pd_cong (n := n) fun i a b => h i a (by omega), h n (by omega) (by omega)]
theorem pd_mul (f g : Int → Int) : ∀ n : Nat, pd (fun i => f i * g i) n = pd f n * pd g n
  | 0 => rfl
  | n + 1 => by
    rw [pd, pd, pd, pd_mul f g n]
    ac_rfl
theorem pd_1 {f : Int → Int} : ∀ {n : Nat}, (∀ i : Int, 0 ≤ i → i < n → f i = 1) → pd f n = 1
  | 0, _ => rfl
  | n + 1, h => by rw [pd, pd_1 (n := n) fun i a b => h i a (by omega), h n (by omega) (by omega)]; rfl
theorem pd_swap (f : Int → Int → Int) (m : Nat) : ∀ n : Nat, pd (fun i => pd (fun j => f i j) m) n = pd (fun j => pd (fun i => f i j) n) m
  | 0 => (pd_1 fun _ _ _ => rfl).symm
  | n + 1 => by
    rw [pd, pd_swap f m n, ← pd_mul]
    rfl
theorem pd_one {f : Int → Int} {k : Int} : ∀ {n : Nat}, 0 ≤ k → k < n → (∀ i : Int, 0 ≤ i → i < n → i ≠ k → f i = 1) → pd f n = f k
  | 0, _, _, _ => by omega
  | n + 1, h0, h1, h => by
    rw [pd]
    by_cases e : k = n
    · rw [pd_1 fun i a b => h i a (by omega) (by omega), Int.one_mul, e]
    · rw [pd_one (n := n) h0 (by omega) fun i a b c => h i a (by omega) c, h n (by omega) (by omega) (by omega), Int.mul_one]
/-- c is next behind p -/
def kid (s : zJ) (p c : Int) : Bool := decide (p < c) && decide (s 19 0 c = p)
theorem kid_t {s : zJ} {p c : Int} : kid s p c = true ↔ p < c ∧ s 19 0 c = p := by
  unfold kid
  simp
theorem kid_on {s : zJ} (h : LW s) {p c : Int} (p0 : 0 ≤ p) (c1 : c < s 18 0 0) (hk : kid s p c = true) : on s p c := by
  rw [kid_t] at hk
  rw [on_up h p0 hk.1 c1, hk.2]
  exact on_self s p
/-- behind p, but not p: behind one of the next -/
theorem kid_one {s : zJ} (h : LW s) {p r : Int} (p0 : 0 ≤ p) (p1 : p < s 18 0 0) (r0 : 0 ≤ r) (r1 : r < s 18 0 0) : ((on s p r ∧ r ≠ p) ∧ ∃ c, 0 ≤ c ∧ c < s 18 0 0 ∧ kid s p c = true ∧ on s c r ∧ ∀ d, 0 ≤ d → d < s 18 0 0 → d ≠ c → ¬ (kid s p d = true ∧ on s d r)) ∨ (¬ (on s p r ∧ r ≠ p) ∧ ∀ d, 0 ≤ d → d < s 18 0 0 → ¬ (kid s p d = true ∧ on s d r)) := by
  have hn := lw_n h
  by_cases q : on s p r ∧ r ≠ p
  · left
    have hle := on_le h p0 r r0 r1 q.1
    have ht := tw_ok h p0 12 r (by omega) r1 q.1 (by omega)
    refine ⟨q, tw s p 12 r, by omega, by omega, kid_t.mpr ⟨ht.2.1, ht.1⟩, ht.2.2.2, fun d d0 d1 hd hk => hd ?_⟩
    have hk1 := kid_t.mp hk.1
    exact (tw_one h p0 hk1.2 hk1.1 (on_le h d0 r r0 r1 hk.2) r1 hk.2).symm
  · right
    refine ⟨q, fun d d0 d1 hk => q ?_⟩
    have hk1 := kid_t.mp hk.1
    have hle := on_le h d0 r r0 r1 hk.2
    exact ⟨on_trans h p0 (by omega) (kid_on h p0 d1 hk.1) r r0 r1 hk.2, by omega⟩
def sty (s : zJ) (x p : Int) : Int := cnt (fun k => bt x k && decide (s 24 0 k = p)) (s 18 0 6).toNat
def has (s : zJ) (x c : Int) : Bool := decide (gbs s x c ≠ 0)
def gro (s : zJ) (x p : Int) : Int := cnt (fun c => kid s p c && has s x c) (s 18 0 0).toNat
def tf (s : zJ) (x p : Int) : Int := fac (sty s x p).toNat * fac (gro s x p).toNat
def spr (s : zJ) (x p : Int) : Int := pd (fun r => if onb s p r then tf s x r else 1) (s 18 0 0).toNat
theorem has_t {s : zJ} {x c : Int} : has s x c = true ↔ ∃ k : Int, 0 ≤ k ∧ k < (s 18 0 6).toNat ∧ bt x k = true ∧ on s c (s 24 0 k) := by
  unfold has
  rw [decide_eq_true_iff]
  constructor
  · intro hne
    have hb := bs_lt (fun k => bt x k && onb s c (s 24 0 k)) (s 18 0 6).toNat
    rcases Classical.em (∃ k : Int, 0 ≤ k ∧ k < (s 18 0 6).toNat ∧ bt x k = true ∧ on s c (s 24 0 k)) with q | q
    · exact q
    · exfalso
      apply hne
      unfold gbs
      have e : bs (fun k => bt x k && onb s c (s 24 0 k)) (s 18 0 6).toNat = bs (fun _ => false) (s 18 0 6).toNat := bs_cong fun k k0 k1 => by
        rw [← Bool.not_eq_true, Bool.and_eq_true, onb_t]
        exact fun z => q ⟨k, k0, k1, z⟩
      rw [e]
      exact (bs_of (x := 0) (by decide) fun k _ => by rw [bt_z]; simp).symm
  · rintro ⟨k, k0, k1, hb, ho⟩ e
    have h1 := bt_bs (fun k => bt x k && onb s c (s 24 0 k)) (s 18 0 6).toNat k k0
    have e2 : bs (fun k => bt x k && onb s c (s 24 0 k)) (s 18 0 6).toNat = 0 := e
    rw [e2, bt_z, decide_eq_true k1, hb, onb_t.mpr ho] at h1
    cases h1
theorem bt_gbs {s : zJ} {x p k : Int} (k0 : 0 ≤ k) (k1 : k < (s 18 0 6).toNat) : bt (gbs s x p) k = (bt x k && onb s p (s 24 0 k)) := by
  unfold gbs
  rw [bt_bs _ _ k k0, decide_eq_true k1, Bool.true_and]
/-- behind q only the portions behind q count -/
theorem spr_gbs {s : zJ} (h : LW s) {x q : Int} (q0 : 0 ≤ q) (q1 : q < s 18 0 0) : spr s (gbs s x q) q = spr s x q := by
  have hn := lw_n h
  unfold spr
  refine pd_cong fun r r0 r1 => ?_
  by_cases ho : on s q r
  · rw [if_pos (onb_t.mpr ho), if_pos (onb_t.mpr ho)]
    unfold tf
    congr 2
    · congr 1
      unfold sty
      refine cnt_cong fun k k0 k1 => ?_
      rw [bt_gbs k0 k1]
      by_cases e : s 24 0 k = r
      · rw [e, onb_t.mpr ho, Bool.and_true]
      · rw [decide_eq_false e, Bool.and_false, Bool.and_false]
    · congr 1
      unfold gro
      refine cnt_cong fun c c0 c1 => ?_
      by_cases hk : kid s r c = true
      · rw [hk, Bool.true_and, Bool.true_and]
        have hrc := kid_on h r0 (by omega) hk
        have hqr := on_le h q0 r r0 (by omega) ho
        have hk1 := kid_t.mp hk
        have hqc : on s q c := on_trans h q0 hqr ho c c0 (by omega) hrc
        have e : (has s (gbs s x q) c = true) ↔ (has s x c = true) := by
          rw [has_t, has_t]
          constructor
          · rintro ⟨k, k0, k1, hb, hc⟩
            rw [bt_gbs k0 k1, Bool.and_eq_true] at hb
            exact ⟨k, k0, k1, hb.1, hc⟩
          · rintro ⟨k, k0, k1, hb, hc⟩
            have hkk := lw_k h k0 (by omega)
            refine ⟨k, k0, k1, ?_, hc⟩
            rw [bt_gbs k0 k1, hb, Bool.true_and, onb_t]
            exact on_trans h q0 (by omega) hqc _ (by omega) (by omega) hc
        cases h1 : has s x c with
        | true => exact e.mpr h1
        | false =>
          rw [← Bool.not_eq_true]
          intro z
          rw [e.mp z] at h1
          cases h1
      · rw [Bool.not_eq_true] at hk
        rw [hk, Bool.false_and, Bool.false_and]
  · rw [if_neg (fun z => ho (onb_t.mp z)), if_neg (fun z => ho (onb_t.mp z))]
theorem has_0 (s : zJ) (c : Int) : has s 0 c = false := by
  rw [← Bool.not_eq_true, has_t]
  rintro ⟨k, _, _, hb, _⟩
  rw [bt_z] at hb
  cases hb
theorem spr_0 (s : zJ) (p : Int) : spr s 0 p = 1 := by
  unfold spr
  refine pd_1 fun r r0 r1 => ?_
  have e1 : sty s 0 r = 0 := sm_zero fun k _ _ => by show zb (bt 0 k && _) = 0; rw [bt_z]; rfl
  have e2 : gro s 0 r = 0 := sm_zero fun k _ _ => by show zb (_ && has s 0 k) = 0; rw [has_0, Bool.and_false]; rfl
  unfold tf
  rw [e1, e2]
  split <;> rfl
theorem spr_no {s : zJ} (h : LW s) {x q : Int} (q0 : 0 ≤ q) (q1 : q < s 18 0 0) (hz : has s x q = false) : spr s x q = 1 := by
  unfold has at hz
  simp only [ne_eq, decide_eq_false_iff_not, Decidable.not_not] at hz
  rw [← spr_gbs h q0 q1, hz, spr_0]
/-- those at p, and those behind each of the next -/
theorem spr_kids {s : zJ} (h : LW s) {x p : Int} (p0 : 0 ≤ p) (p1 : p < s 18 0 0) : spr s x p = tf s x p * pd (fun q => if kid s p q then spr s x q else 1) (s 18 0 0).toNat := by
  have hn := lw_n h
  have e1 : pd (fun q => if kid s p q then spr s x q else 1) (s 18 0 0).toNat = pd (fun q => pd (fun r => if kid s p q && onb s q r then tf s x r else 1) (s 18 0 0).toNat) (s 18 0 0).toNat := by
    refine pd_cong fun q q0 q1 => ?_
    cases hk : kid s p q with
    | true =>
      simp only [Bool.true_and, if_true]
      rfl
    | false =>
      simp only [Bool.false_and, Bool.false_eq_true, if_false]
      exact (pd_1 fun _ _ _ => rfl).symm
  have e2 : tf s x p = pd (fun r => if r = p then tf s x r else 1) (s 18 0 0).toNat := by
    rw [pd_one (k := p) p0 (by omega) fun i _ _ hi => if_neg hi, if_pos rfl]
  rw [e1, pd_swap, e2, ← pd_mul]
  unfold spr
  refine pd_cong fun r r0 r1 => ?_
  rcases kid_one h p0 p1 r0 (show r < s 18 0 0 by omega) with ⟨hq, c, c0, c1, hk, hc, hu⟩ | ⟨hq, hu⟩
  · rw [if_pos (onb_t.mpr hq.1), if_neg hq.2, Int.one_mul, pd_one (k := c) c0 (by omega) fun d d0 d1 hd => if_neg fun z => hu d d0 (by omega) hd (by rw [Bool.and_eq_true, onb_t] at z; exact z), if_pos (by rw [hk, onb_t.mpr hc]; rfl)]
  · rw [pd_1 (f := fun i => if kid s p i && onb s i r then tf s x r else 1) fun d d0 d1 => if_neg fun z => hu d d0 (by omega) (by rw [Bool.and_eq_true, onb_t] at z; exact z), Int.mul_one]
    by_cases e : r = p
    · rw [e, if_pos (onb_t.mpr (on_self s p)), if_pos rfl]
    · rw [if_neg e, if_neg (fun z => hq ⟨onb_t.mp z, e⟩)]
theorem spr_root {s : zJ} (h : LW s) (x : Int) : spr s x 0 = pd (tf s x) (s 18 0 0).toNat := by
  have hn := lw_n h
  unfold spr
  exact pd_cong fun r r0 r1 => if_pos (onb_t.mpr (on_zero h r r0 (by omega)))
/-- portions of x behind p -/
def cbh (s : zJ) (x p : Int) : Int := cnt (fun k => bt x k && onb s p (s 24 0 k)) (s 18 0 6).toNat
theorem cbh_kids {s : zJ} (h : LW s) {x p : Int} (p0 : 0 ≤ p) (p1 : p < s 18 0 0) : cbh s x p = sty s x p + sm (fun q => if kid s p q then cbh s x q else 0) (s 18 0 0).toNat := by
  have hn := lw_n h
  have e1 : sm (fun q => if kid s p q then cbh s x q else 0) (s 18 0 0).toNat = sm (fun q => sm (fun k => zb (kid s p q && (bt x k && onb s q (s 24 0 k)))) (s 18 0 6).toNat) (s 18 0 0).toNat := by
    refine sm_cong fun q q0 q1 => ?_
    cases hk : kid s p q with
    | true =>
      simp only [Bool.true_and, if_true]
      rfl
    | false =>
      simp only [Bool.false_and, Bool.false_eq_true, if_false]
      exact (sm_zero fun _ _ _ => rfl).symm
  rw [e1, sm_swap]
  unfold cbh sty cnt
  rw [← sm_add]
  refine sm_cong fun k k0 k1 => ?_
  have hk := lw_k h k0 (by omega)
  show zb (bt x k && onb s p (s 24 0 k)) = zb (bt x k && decide (s 24 0 k = p)) + sm (fun i => zb (kid s p i && (bt x k && onb s i (s 24 0 k)))) (s 18 0 0).toNat
  cases hb : bt x k with
  | false =>
    simp only [Bool.false_and, Bool.and_false, zb_f]
    rw [sm_zero fun _ _ _ => rfl]
    rfl
  | true =>
    simp only [Bool.true_and]
    rcases kid_one h p0 p1 (r := s 24 0 k) (by omega) (by omega) with ⟨hq, c, c0, c1, hkc, hc, hu⟩ | ⟨hq, hu⟩
    · rw [onb_t.mpr hq.1, decide_eq_false hq.2, sm_one (k := c) c0 (by omega) fun d d0 d1 hd => ?_, hkc, onb_t.mpr hc]
      · rfl
      · rw [← zb_f]
        congr 1
        rw [← Bool.not_eq_true, Bool.and_eq_true, onb_t]
        exact hu d d0 (by omega) hd
    · rw [sm_zero fun d d0 d1 => ?_, Int.add_zero]
      · congr 1
        by_cases e : s 24 0 k = p
        · rw [e, decide_eq_true rfl, onb_t]
          exact on_self s p
        · rw [decide_eq_false e, onb_f]
          exact fun z => hq ⟨z, e⟩
      · rw [← zb_f]
        congr 1
        rw [← Bool.not_eq_true, Bool.and_eq_true, onb_t]
        exact hu d d0 (by omega)
theorem fac_pos : ∀ n, 1 ≤ fac n
  | 0 => by decide
  | n + 1 => by
    have h := fac_pos n
    rw [fac]
    have : 1 * 1 ≤ fac n * ((n : Int) + 1) := Int.mul_le_mul h (by omega) (by decide) (by omega)
    omega
theorem fac_mono {m n : Nat} (h : m ≤ n) : fac m ≤ fac n := by
  induction n with
  | zero =>
    have : m = 0 := by omega
    rw [this]
    exact Int.le_refl _
  | succ n ih =>
    by_cases e : m = n + 1
    · rw [e]
      exact Int.le_refl _
    · have h1 := ih (by omega)
      have h2 := fac_pos n
      rw [fac]
      have : fac n * 1 ≤ fac n * ((n : Int) + 1) := Int.mul_le_mul_of_nonneg_left (by omega) (by omega)
      omega
theorem fac_app (a : Nat) : ∀ m : Nat, fac (a + 1) * fac (m + 1) ≤ fac (a + (m + 1))
  | 0 => by
    show fac (a + 1) * fac 1 ≤ fac (a + 1)
    have e : fac 1 = 1 := by decide
    rw [e, Int.mul_one]
    exact Int.le_refl _
  | m + 1 => by
    have h := fac_app a m
    have e1 : a + (m + 1 + 1) = (a + (m + 1)) + 1 := by omega
    have f1 : fac (a + (m + 1) + 1) = fac (a + (m + 1)) * (((a + (m + 1) : Nat) : Int) + 1) := rfl
    have f2 : fac (m + 1 + 1) = fac (m + 1) * (((m + 1 : Nat) : Int) + 1) := rfl
    rw [e1, f1, f2, ← Int.mul_assoc]
    have p1 := fac_pos (a + 1)
    have p2 := fac_pos (m + 1)
    refine Int.mul_le_mul h ?_ (by omega) ?_
    · omega
    · have := fac_pos (a + (m + 1))
      omega
theorem has_cbh {s : zJ} {x q : Int} : (has s x q = true ↔ 1 ≤ cbh s x q) ∧ 0 ≤ cbh s x q := by
  have h1 : 0 < cbh s x q ↔ ∃ i : Int, 0 ≤ i ∧ i < (s 18 0 6).toNat ∧ (bt x i && onb s q (s 24 0 i)) = true := cnt_pos
  refine ⟨?_, (cnt_rng _ _).1⟩
  rw [has_t]
  constructor
  · rintro ⟨k, a, b, c, d⟩
    have := h1.mpr ⟨k, a, b, by rw [c, onb_t.mpr d]; rfl⟩
    omega
  · intro z
    obtain ⟨k, a, b, c⟩ := h1.mp (by omega)
    rw [Bool.and_eq_true, onb_t] at c
    exact ⟨k, a, b, c.1, c.2⟩
/-- no more orders than of all -/
theorem spr_le {s : zJ} (h : LW s) (x : Int) : ∀ (n : Nat) (p : Int), n = (s 18 0 0 - p).toNat → 0 ≤ p → p < s 18 0 0 → 1 ≤ spr s x p ∧ spr s x p ≤ fac (cbh s x p).toNat := by
  have hn := lw_n h
  intro n
  induction n using Nat.strongRecOn with
  | _ n ih =>
  intro p hm p0 p1
  have hst := cnt_rng (fun k => bt x k && decide (s 24 0 k = p)) (s 18 0 6).toNat
  have part : ∀ m : Nat, m ≤ (s 18 0 0).toNat → 0 ≤ cnt (fun c => kid s p c && has s x c) m ∧ cnt (fun c => kid s p c && has s x c) m ≤ sm (fun q => if kid s p q then cbh s x q else 0) m ∧ 1 ≤ pd (fun q => if kid s p q then spr s x q else 1) m ∧ fac (sty s x p).toNat * fac (cnt (fun c => kid s p c && has s x c) m).toNat * pd (fun q => if kid s p q then spr s x q else 1) m ≤ fac (sty s x p + sm (fun q => if kid s p q then cbh s x q else 0) m).toNat := by
    intro m
    induction m with
    | zero =>
      intro _
      refine ⟨by simp [cnt, sm], by simp [cnt, sm], by simp [pd], ?_⟩
      simp only [cnt, sm, pd, Int.add_zero, Int.mul_one]
      have e : fac (Int.toNat 0) = 1 := rfl
      rw [e, Int.mul_one]
      exact Int.le_refl _
    | succ m ihm =>
      intro hm1
      obtain ⟨c0, c1, d0, d1⟩ := ihm (by omega)
      have e1 : cnt (fun c => kid s p c && has s x c) (m + 1) = cnt (fun c => kid s p c && has s x c) m + zb (kid s p m && has s x m) := rfl
      have e2 : sm (fun q => if kid s p q then cbh s x q else 0) (m + 1) = sm (fun q => if kid s p q then cbh s x q else 0) m + (if kid s p m then cbh s x m else 0) := rfl
      have e3 : pd (fun q => if kid s p q then spr s x q else 1) (m + 1) = pd (fun q => if kid s p q then spr s x q else 1) m * (if kid s p m then spr s x m else 1) := rfl
      rw [e1, e2, e3]
      by_cases hz : (kid s p m && has s x m) = true
      · have hz2 := hz
        rw [Bool.and_eq_true] at hz2
        have hk1 := kid_t.mp hz2.1
        have hc := has_cbh.1.mp hz2.2
        have hi := ih _ (by omega) (m : Int) rfl (by omega) (by omega)
        rw [hz, if_pos hz2.1, if_pos hz2.1, zb_t]
        refine ⟨by omega, by omega, ?_, ?_⟩
        · have : 1 * 1 ≤ pd (fun q => if kid s p q then spr s x q else 1) m * spr s x m := Int.mul_le_mul d0 hi.1 (by decide) (by omega)
          omega
        · generalize cnt (fun c => kid s p c && has s x c) m = C at c0 c1 d1
          generalize sm (fun q => if kid s p q then cbh s x q else 0) m = S at c1 d1
          generalize pd (fun q => if kid s p q then spr s x q else 1) m = P at d0 d1
          have hs0 : 0 ≤ sty s x p := hst.1
          generalize sty s x p = A at hs0 d1
          have eC : fac (C + 1).toNat = fac C.toNat * (C + 1) := by
            have e5 : (C + 1).toNat = C.toNat + 1 := by omega
            rw [e5, fac]
            congr 1
            omega
          have e6 : fac A.toNat * (fac C.toNat * (C + 1)) * (P * spr s x m) = (fac A.toNat * fac C.toNat * P) * ((C + 1) * spr s x m) := by ac_rfl
          rw [eC, e6]
          have h1 : (C + 1) * spr s x m ≤ (A + S + 1) * fac (cbh s x m).toNat := Int.mul_le_mul (by omega) hi.2 (by omega) (by omega)
          have h0 : 0 ≤ (C + 1) * spr s x m := Int.mul_nonneg (by omega) (by omega)
          have hf := fac_pos (A + S).toNat
          have h2 := Int.mul_le_mul d1 h1 h0 (by omega)
          have e7 : fac (A + S).toNat * ((A + S + 1) * fac (cbh s x m).toNat) = fac ((A + S).toNat + 1) * fac ((cbh s x m).toNat - 1 + 1) := by
            have e8 : (cbh s x m).toNat - 1 + 1 = (cbh s x m).toNat := by omega
            have e9 : fac ((A + S).toNat + 1) = fac (A + S).toNat * (((A + S).toNat : Int) + 1) := rfl
            have e10 : (((A + S).toNat : Nat) : Int) = A + S := by omega
            rw [e8, e9, e10, Int.mul_assoc]
          have h3 := fac_app (A + S).toNat ((cbh s x m).toNat - 1)
          rw [← e7] at h3
          have e11 : (A + (S + cbh s x m)).toNat = (A + S).toNat + ((cbh s x m).toNat - 1 + 1) := by omega
          rw [e11]
          omega
      · rw [Bool.not_eq_true] at hz
        have hcz : (if kid s p m then cbh s x m else 0) = 0 ∧ (if kid s p m then spr s x m else 1) = 1 := by
          cases hk : kid s p m with
          | false => exact ⟨rfl, rfl⟩
          | true =>
            rw [hk, Bool.true_and] at hz
            have h2 := has_cbh (s := s) (x := x) (q := m)
            have : ¬ 1 ≤ cbh s x m := fun z => by rw [h2.1.mpr z] at hz; cases hz
            exact ⟨by rw [if_pos rfl]; omega, by rw [if_pos rfl]; exact spr_no h (by omega) (by omega) hz⟩
        rw [hz, zb_f, hcz.1, hcz.2, Int.add_zero, Int.add_zero, Int.mul_one]
        exact ⟨c0, c1, d0, d1⟩
  obtain ⟨c0, c1, d0, d1⟩ := part _ (Nat.le_refl _)
  rw [spr_kids h p0 p1, cbh_kids h p0 p1]
  refine ⟨?_, d1⟩
  have f1 := fac_pos (sty s x p).toNat
  have f2 := fac_pos (gro s x p).toNat
  have f3 : 1 * 1 ≤ fac (sty s x p).toNat * fac (gro s x p).toNat := Int.mul_le_mul f1 f2 (by decide) (by omega)
  have f4 : 1 * 1 ≤ tf s x p * pd (fun q => if kid s p q then spr s x q else 1) (s 18 0 0).toNat := Int.mul_le_mul (by unfold tf; omega) d0 (by decide) (by unfold tf; omega)
  omega
theorem spr_rng {s : zJ} (h : LW s) (x : Int) : 1 ≤ spr s x 0 ∧ spr s x 0 ≤ 5040 := by
  have hn := lw_n h
  by_cases h0 : 0 < s 18 0 0
  · have h1 := spr_le h x _ 0 rfl (by decide) h0
    have h2 := cnt_rng (fun k => bt x k && onb s 0 (s 24 0 k)) (s 18 0 6).toNat
    have h3 : fac (cbh s x 0).toNat ≤ fac 7 := fac_mono (by unfold cbh; omega)
    have e : fac 7 = 5040 := by decide
    omega
  · have e : (s 18 0 0).toNat = 0 := by omega
    unfold spr
    rw [e]
    simp [pd]
theorem grs_gro {s : zJ} (h : LW s) (hT : TW s) {x p : Int} (x0 : 0 ≤ x) (x1 : x < 2147483648) : grs s x p = gro s x p := by
  have hn := lw_n h
  unfold grs gro
  refine cnt_cong fun c c0 c1 => ?_
  unfold kid grB has
  rw [Bool.and_assoc]
  congr 2
  have ht := hT.2.2.2.1 c c0 (by omega)
  have hb := bs_lt (fun k => onb s c (s 24 0 k)) (s 18 0 6).toNat
  have h7 := pw7 hn.2.2.2.1
  have hz := zand_le x0 x1 (y := s 37 0 c) (by rw [ht]; exact hb.1)
  have e : zand x (s 37 0 c) = gbs s x c := by
    unfold gbs
    refine bs_of hz.1 fun k k0 => ?_
    rw [bt_and x0 x1 (by rw [ht]; exact hb.1), ht, bt_bs _ _ k k0]
    cases decide (k < ((s 18 0 6).toNat : Int)) <;> cases bt x k <;> simp
  rw [e]
theorem sty_pct {s : zJ} (h : LW s) (hT : TW s) {x p : Int} (x0 : 0 ≤ x) (x1 : x < 2147483648) (p0 : 0 ≤ p) (p1 : p < s 18 0 0) : (0 ≤ zand x (s 38 0 p) ∧ zand x (s 38 0 p) < 128) ∧ pct (zand x (s 38 0 p)) 14 = sty s x p := by
  have hn := lw_n h
  have ht := hT.2.2.2.2.1 p p0 p1
  have hb := bs_lt (fun k => decide (s 24 0 k = p)) (s 18 0 6).toNat
  have h7 := pw7 hn.2.2.2.1
  have hz := zand_le x0 x1 (y := s 38 0 p) (by rw [ht]; exact hb.1)
  have e : zand x (s 38 0 p) = bs (fun k => bt x k && decide (s 24 0 k = p)) (s 18 0 6).toNat := by
    refine bs_of hz.1 fun k k0 => ?_
    rw [bt_and x0 x1 (by rw [ht]; exact hb.1), ht, bt_bs _ _ k k0]
    cases decide (k < ((s 18 0 6).toNat : Int)) <;> cases bt x k <;> simp
  refine ⟨⟨hz.1, by rw [ht] at hz ⊢; omega⟩, ?_⟩
  rw [e, pct_bs _ (by omega)]
  rfl
theorem c70 {L : Nat} {xs : Nat → Int32} (hL : L ≤ 3072) {D : Nat} {J : zJ} {K : zK} {Q : zR → Nat → zJ → zK → Prop} {s : zJ} (hE : EqS s J) (h : LW s) (hT : TW s) {x : Int} (hD : 2 ≤ D) (x0 : 0 ≤ x) (x1 : x < 2147483648) (hQ : Q (.inl (some (zi (spr s x 0)))) 0 J K) : zCall L xs D 70 [zr 89, zi x] J K Q := by
  obtain ⟨D, rfl⟩ : ∃ d, D = d + 1 := ⟨D - 1, by omega⟩
  have hn := lw_n h
  have h7 := pw7 hn.2.2.2.1
  rw [spr_root h] at hQ
  have e18 := hE 18 (by decide) (by decide)
  have e38 := hE 38 (by decide) (by decide)
  refine z70 hL ?_
  have key : ∀ (n : Nat) (x3 : Int), n = (s 18 0 0 - x3).toNat → 0 ≤ x3 → x3 ≤ s 18 0 0 → zGo L xs (D + 1) 70 4 [some (zr 89), some (zi x), some (zi (pd (tf s x) x3.toNat)), some (zi x3)] [] J K Q := by
    intro n; induction n using Nat.strongRecOn with
    | _ n ih =>
    intro x3 hm h0 h1
    refine z70_4 hL ?_
    rw [e18, e38]
    by_cases hc : x3 < s 18 0 0
    · have hs := sty_pct h hT x0 x1 h0 hc
      have hsr := cnt_rng (fun k => bt x k && decide (s 24 0 k = x3)) (s 18 0 6).toNat
      have hsr2 : 0 ≤ sty s x x3 ∧ sty s x x3 ≤ (s 18 0 6).toNat := hsr
      have hgr : 0 ≤ gro s x x3 ∧ gro s x x3 ≤ (s 18 0 0).toNat := cnt_rng _ _
      have hi := ih _ (by omega) (x3 + 1) rfl (by omega) (by omega)
      rw [pd_next h0] at hi
      refine ⟨⟨by omega, by omega⟩, ⟨by omega, by omega⟩, fun _ => by omega, fun _ => ⟨by omega, by omega, ?_⟩⟩
      refine c317 hL (by omega) hs.1.1 (by omega) (zaI_of ?_)
      rw [hs.2]
      refine c65 hL (by omega) (by omega) (by omega) (zaI_of ?_)
      refine c69 hL hE h (by omega) h0 hc ⟨x0, x1⟩ (fun p p0 p1 => by rw [hT.2.2.2.1 p p0 p1]; exact (bs_lt _ _).1) (zaI_of ?_)
      rw [grs_gro h hT x0 x1]
      refine c65 hL (by omega) (by omega) (by omega) (zaI_of ?_)
      rw [Int.mul_assoc]
      exact hi
    · have e : x3 = s 18 0 0 := by omega
      subst e
      exact ⟨⟨by omega, by omega⟩, ⟨by omega, by omega⟩, fun _ => hQ, fun q => by omega⟩
  exact key _ 0 rfl (by decide) (by omega)
/-- the model's way of counting them -/
theorem c276 {L : Nat} {xs : Nat → Int32} (hL : L ≤ 3072) {J : zJ} {K : zK} {s : zJ} (hM : ML s J) (h : LW s) : ∀ (d : Nat) (D : Nat) (x p : Int) (Q : zR → Nat → zJ → zK → Prop), d = (s 18 0 0 - p).toNat → d + 3 ≤ D → 0 ≤ x → x < 2147483648 → 0 ≤ p → p < s 18 0 0 ∨ p = 0 → (Q (.inl (some (zi (spr s x p)))) 0 J K) → zCall L xs D 276 [zr 142, zi x, zi p] J K Q := by
  intro d
  induction d using Nat.strongRecOn with
  | _ d ihd =>
  intro D x p Q hd hD x0 x1 p0 p1 hQ
  have hn := lw_n h
  obtain ⟨hm0, hm1, -, -⟩ := ml_n hM
  obtain ⟨D, rfl⟩ : ∃ d, D = d + 1 := ⟨D - 1, by omega⟩
  refine z276 hL ?_
  have kids : ∀ (n : Nat) (q : Int), n = (s 18 0 0 - q).toNat → p + 1 ≤ q → q ≤ s 18 0 0 ∨ q = 1 → zGo L xs (D + 1) 276 66 [some (zr 142), some (zi x), some (zi p), some (zi (fac (sty s x p).toNat * fac (cnt (fun c => kid s p c && has s x c) q.toNat).toNat * pd (fun q => if kid s p q then spr s x q else 1) q.toNat)), none, some (zi (cnt (fun c => kid s p c && has s x c) q.toNat)), some (zi q), none] [] J K Q := by
    intro n; induction n using Nat.strongRecOn with
    | _ n ih =>
    intro q hm a0 a1
    refine z276_66 hL ?_
    rw [hm0]
    by_cases hc : q < s 18 0 0
    · have hp := lw_p h (p := q) (by omega) hc
      have hi := ih _ (by omega) (q + 1) rfl (by omega) (by omega)
      rw [cnt_next (by omega), pd_next (by omega)] at hi
      have hcr := cnt_rng (fun c => kid s p c && has s x c) q.toNat
      rw [ml_u hM (by omega) hc]
      refine ⟨by decide, by decide, ⟨by omega, by omega⟩, ⟨by omega, by omega⟩, fun _ => by omega, fun _ => ⟨by omega, by omega, by omega, by omega, by decide, by decide, ⟨by omega, by omega⟩, ⟨by omega, by omega⟩, fun q1 => ⟨zin_0, fun z => absurd rfl z, fun _ => ?_⟩, fun q1 => ?_⟩⟩
      · have hk : kid s p q = false := by
          unfold kid
          rw [decide_eq_false q1, Bool.and_false]
        rw [hk, Bool.false_and, zb_f, Int.add_zero] at hi
        simp only [Bool.false_eq_true, if_false, Int.mul_one] at hi
        exact hi
      · have hk : kid s p q = true := kid_t.mpr ⟨by omega, q1⟩
        rw [hk, Bool.true_and] at hi
        simp only [if_true] at hi
        have hg : 0 ≤ gbs s x q ∧ gbs s x q < 2 ^ (s 18 0 6).toNat := bs_lt _ _
        have h7 := pw7 hn.2.2.2.1
        refine c232 hL hM h (by omega) ⟨x0, x1⟩ (by omega) hc (zaI_of ⟨⟨by omega, by omega⟩, fun q2 => ?_, fun q2 => ?_⟩)
        · have hh : has s x q = true := decide_eq_true q2
          refine ihd _ (by omega) D (gbs s x q) q _ rfl (by omega) hg.1 (by omega) (by omega) (Or.inl hc) (zaI_of ?_)
          rw [spr_gbs h (by omega) hc]
          rw [hh, zb_t] at hi
          have e5 : (cnt (fun c => kid s p c && has s x c) q.toNat + 1).toNat = (cnt (fun c => kid s p c && has s x c) q.toNat).toNat + 1 := by omega
          have e6 : ((cnt (fun c => kid s p c && has s x c) q.toNat).toNat : Int) = cnt (fun c => kid s p c && has s x c) q.toNat := by omega
          rw [e5, fac, e6] at hi
          have e7 : fac (sty s x p).toNat * (fac (cnt (fun c => kid s p c && has s x c) q.toNat).toNat * (cnt (fun c => kid s p c && has s x c) q.toNat + 1)) * (pd (fun q => if kid s p q then spr s x q else 1) q.toNat * spr s x q) = fac (sty s x p).toNat * fac (cnt (fun c => kid s p c && has s x c) q.toNat).toNat * pd (fun q => if kid s p q then spr s x q else 1) q.toNat * ((cnt (fun c => kid s p c && has s x c) q.toNat + 1) * spr s x q) := by ac_rfl
          rw [e7] at hi
          exact hi
        · have hh : has s x q = false := by
            unfold has
            rw [q2]
            rfl
          rw [hh, zb_f, Int.add_zero, spr_no h (by omega) hc hh, Int.mul_one] at hi
          exact hi
    · refine ⟨by decide, by decide, ⟨by omega, by omega⟩, ⟨by omega, by omega⟩, fun _ => ?_, fun z => by omega⟩
      by_cases hpp : p < s 18 0 0
      · have e : q = s 18 0 0 := by omega
        subst e
        rw [spr_kids h p0 hpp] at hQ
        exact hQ
      · have ep : p = 0 := by omega
        have e0 : s 18 0 0 = 0 := by omega
        have en : s 18 0 6 = 0 := by
          rcases Int.lt_or_le 0 (s 18 0 6) with z | z
          · have := lw_k h (k := 0) (by decide) z
            omega
          · omega
        have eq1 : q = 1 := by omega
        subst ep
        subst eq1
        have e1 : sty s x 0 = 0 := by
          unfold sty
          rw [en]
          rfl
        have hk0 : kid s 0 0 = false := by
          unfold kid
          simp
        have e2 : cnt (fun c => kid s 0 c && has s x c) (Int.toNat 1) = 0 := sm_zero fun i i0 i1 => by
          have : i = 0 := by omega
          show zb (kid s 0 i && _) = 0
          rw [this, hk0]
          rfl
        have e3 : pd (fun q => if kid s 0 q then spr s x q else 1) (Int.toNat 1) = 1 := pd_1 fun i i0 i1 => by
          have : i = 0 := by omega
          rw [this, hk0]
          rfl
        have e4 : spr s x 0 = 1 := by
          unfold spr
          rw [e0]
          rfl
        rw [e4] at hQ
        rw [e1, e2, e3]
        exact hQ
  have stay : ∀ (n : Nat) (k : Int), n = (s 18 0 6 - k).toNat → 0 ≤ k → k ≤ s 18 0 6 → zGo L xs (D + 1) 276 11 [some (zr 142), some (zi x), some (zi p), some (zi (fac (cnt (fun k => bt x k && decide (s 24 0 k = p)) k.toNat).toNat)), some (zi (cnt (fun k => bt x k && decide (s 24 0 k = p)) k.toNat)), some (zi 0), some (zi k), none] [] J K Q := by
    intro n; induction n using Nat.strongRecOn with
    | _ n ih =>
    intro k hm h0 h1
    refine z276_11 hL ?_
    rw [hm1]
    by_cases hc : k < s 18 0 6
    · have hk := lw_k h h0 hc
      have hi := ih _ (by omega) (k + 1) rfl (by omega) (by omega)
      rw [cnt_next h0] at hi
      have hcr := cnt_rng (fun k => bt x k && decide (s 24 0 k = p)) k.toNat
      refine ⟨by decide, by decide, ⟨by omega, by omega⟩, ⟨by omega, by omega⟩, fun _ => by omega, fun _ => ⟨⟨by omega, by omega⟩, by omega, by omega, ?_⟩⟩
      rw [bt_shz x0 x1, (ml_k hM h0 hc).1]
      refine ⟨zin_zb _, fun q => ?_, fun q => ⟨by omega, by omega, by omega, by omega, by decide, by decide, ⟨by omega, by omega⟩, ⟨by omega, by omega⟩, fun q2 => ?_, fun q2 => ?_⟩⟩
      · rw [zb_0.mp q, Bool.false_and, zb_f, Int.add_zero] at hi
        exact hi
      · rw [zb_1.mp q, Bool.true_and, decide_eq_true q2, zb_t] at hi
        have e5 : (cnt (fun k => bt x k && decide (s 24 0 k = p)) k.toNat + 1).toNat = (cnt (fun k => bt x k && decide (s 24 0 k = p)) k.toNat).toNat + 1 := by omega
        have e6 : ((cnt (fun k => bt x k && decide (s 24 0 k = p)) k.toNat).toNat : Int) = cnt (fun k => bt x k && decide (s 24 0 k = p)) k.toNat := by omega
        rw [e5, fac, e6] at hi
        exact hi
      · rw [zb_1.mp q, Bool.true_and, decide_eq_false q2, zb_f, Int.add_zero] at hi
        exact hi
    · have e : k = s 18 0 6 := by omega
      subst e
      refine ⟨by decide, by decide, ⟨by omega, by omega⟩, ⟨by omega, by omega⟩, fun _ => ?_, fun z => by omega⟩
      have hk := kids _ (p + 1) rfl (by omega) (by omega)
      have hlow : ∀ i : Int, 0 ≤ i → i < p + 1 → kid s p i = false := fun i i0 i1 => by
        unfold kid
        rw [decide_eq_false (by omega), Bool.false_and]
      have e2 : cnt (fun c => kid s p c && has s x c) (p + 1).toNat = 0 := cnt_low fun i i0 i1 => by rw [hlow i i0 i1, Bool.false_and]
      have e3 : pd (fun q => if kid s p q then spr s x q else 1) (p + 1).toNat = 1 := pd_1 fun i i0 i1 => by
        rw [hlow i i0 (by omega)]
        rfl
      rw [e2, e3, Int.mul_one] at hk
      have e4 : fac (Int.toNat 0) = 1 := rfl
      rw [e4, Int.mul_one] at hk
      exact hk
  exact stay _ 0 rfl (by decide) (by omega)
theorem op5 {G : zJ → zK → Prop} (hG : GOk G) : ∀ a : Int, zin a → OpW (Inv G) 338 4 170 275 zin [zi a] := by
  intro b hb
  intro L xs D D2 J K hL hD hD2 hI; obtain ⟨⟨hW, hT, hP, hM, hC, hTp, hF, hIm⟩, hg⟩ := id hI; have hE := eqs_rfl J; have hn := lw_n hW; have hpn := pw_n hP
  obtain ⟨D, rfl⟩ : ∃ d, D = d + 1 := ⟨D - 1, by omega⟩
  obtain ⟨D2, rfl⟩ : ∃ d, D2 = d + 1 := ⟨D2 - 1, by omega⟩
  have h7 := pw7 hn.2.2.2.1
  have hM0 := ml_fm hM (fm_t J 0)
  have t0 : zup J 142 0 0 0 142 0 0 = 0 := zup_eq _ _ _ _ _
  refine z170 hL ?_
  refine c168 hL hE hW (by omega) hb (fun g0 g1 => zaV_of ?_) fun hc => zaV_ex (Or.inr ⟨0, 1, rfl, rfl, zonb_ok (by decide +kernel), by decide, by decide, ?_⟩)
  · have hr := spr_rng hW b
    refine c70 hL hE hW hT (by omega) g0 (by omega) (zaI_of (Or.inl ⟨_, rfl, rfl, ⟨by omega, by omega⟩, fun x => ?_⟩))
    refine z275 hL ?_
    refine c193 hL hM0 hW (by omega) hb (zaI_of ⟨zin_zb _, fun _ => ?_, fun q => by rw [zb_0, decide_eq_false_iff_not] at q; omega⟩)
    refine c195F hL (by omega) t0 (zaI_of ⟨zin_0, fun _ => ?_, fun q => absurd rfl q⟩)
    refine c276 hL hM0 hW _ D2 b 0 _ rfl (by omega) g0 (by omega) (by decide) (Or.inr rfl) (zaI_of ?_)
    exact fin_w hG hI (fc_rfl J) (fm_t J 0) rfl t0 _ x
  · have fin := fin_x hG hI (fc_rfl J) (fm_t2 J 0 1) rfl (zup_eq _ _ _ _ _) 0 zin_0
    refine z275 hL ?_
    refine c193 hL hM0 hW (by omega) hb (zaI_of ⟨zin_zb _, fun q => by rw [zb_1, decide_eq_true_iff] at q; omega, fun _ => ?_⟩)
    exact c195T hL (by omega) t0 (by decide) (zaI_of ⟨zin_1, fun q => absurd q (by decide), fun _ => fin⟩)
