/-! FEWEST ENGINES: matchings, and sets of which no two follow -/
theorem cnt_del {R : Int → Bool} {k : Int} {n : Nat} (k0 : 0 ≤ k) (k1 : k < n) (hk : R k = true) : cnt R n = cnt (fun x => R x && decide (x ≠ k)) n + 1 := by
  have h1 : sm (fun x => if x = k then 1 else 0) n = 1 := by
    rw [sm_one k0 k1 fun i _ _ hi => if_neg hi, if_pos rfl]
  have h2 := sm_add (fun x => zb (R x && decide (x ≠ k))) (fun x => if x = k then 1 else 0) n
  rw [h1] at h2
  unfold cnt
  rw [← h2]
  refine sm_cong fun i _ _ => ?_
  by_cases e : i = k
  · rw [if_pos e, e, hk]
    simp [zb]
  · rw [if_neg e, decide_eq_true e, Bool.and_true, Int.add_zero]
theorem cnt_inj (f : Int → Int) {m : Nat} : ∀ (n : Nat) (P R : Int → Bool), (∀ i : Int, 0 ≤ i → i < n → P i = true → 0 ≤ f i ∧ f i < m ∧ R (f i) = true) → (∀ i j : Int, 0 ≤ i → i < n → 0 ≤ j → j < n → P i = true → P j = true → f i = f j → i = j) → cnt P n ≤ cnt R m
  | 0, P, R, _, _ => (cnt_rng R m).1
  | n + 1, P, R, h1, h2 => by
    have e : cnt P (n + 1) = cnt P n + zb (P n) := rfl
    rw [e]
    cases hp : P n with
    | false =>
      rw [zb_f, Int.add_zero]
      exact cnt_inj f n P R (fun i a b => h1 i a (by omega)) fun i j a b c d => h2 i j a (by omega) c (by omega)
    | true =>
      obtain ⟨f0, f1, f2⟩ := h1 n (by omega) (by omega) hp
      rw [zb_t, cnt_del f0 f1 f2]
      have := cnt_inj f n P (fun x => R x && decide (x ≠ f n)) (fun i a b c => by
        obtain ⟨g0, g1, g2⟩ := h1 i a (by omega) c
        refine ⟨g0, g1, ?_⟩
        rw [g2, Bool.true_and, decide_eq_true_iff]
        intro z
        have := h2 i n a (by omega) (by omega) (by omega) c hp z
        omega) fun i j a b c d => h2 i j a (by omega) c (by omega)
      omega
/-- those of P, and those not -/
theorem cnt_split (P R : Int → Bool) (n : Nat) : cnt P n = cnt (fun x => P x && R x) n + cnt (fun x => P x && !R x) n := by
  unfold cnt
  rw [← sm_add]
  refine sm_cong fun i _ _ => ?_
  show zb (P i) = zb (P i && R i) + zb (P i && !R i)
  cases P i <;> cases R i <;> rfl
theorem cnt_mono {P R : Int → Bool} {n : Nat} (h : ∀ i : Int, 0 ≤ i → i < n → P i = true → R i = true) : cnt P n ≤ cnt R n := sm_mono fun i a b => by
  show zb (P i) ≤ zb (R i)
  cases hp : P i with
  | false =>
    have := zb_01 (R i)
    rw [zb_f]
    omega
  | true =>
    rw [h i a b hp]
    exact Int.le_refl _
/-- d: for each job the one ahead of it, -1 for none; each is ahead of one at most -/
def Mat (n : Nat) (E : Int → Int → Bool) (S : Int → Bool) (d : Int → Int) : Prop :=
  (∀ y : Int, 0 ≤ y → y < n → d y ≠ -1 → 0 ≤ d y ∧ d y < n ∧ S (d y) = true ∧ S y = true ∧ E (d y) y = true) ∧
  (∀ y z : Int, 0 ≤ y → y < n → 0 ≤ z → z < n → d y = d z → d y ≠ -1 → y = z)
/-- all behind x are in T -/
def Nb (n : Nat) (E : Int → Int → Bool) (S : Int → Bool) (T : Int → Bool) (x : Int) : Prop := ∀ z : Int, 0 ≤ z → z < n → S z = true → E x z = true → T z = true
def Cls (n : Nat) (E : Int → Int → Bool) (S : Int → Bool) (d : Int → Int) (T : Int → Bool) : Prop := ∀ y : Int, 0 ≤ y → y < n → T y = true → d y ≠ -1 ∧ Nb n E S T (d y)
def Ant (n : Nat) (E : Int → Int → Bool) (A : Int → Bool) : Prop := ∀ a b : Int, 0 ≤ a → a < n → 0 ≤ b → b < n → A a = true → A b = true → E a b = false
def mtd (n : Nat) (d : Int → Int) : Int := cnt (fun y => decide (d y ≠ -1)) n
/-- no set of which no two follow is greater -/
theorem ant_le {n : Nat} {E : Int → Int → Bool} {S A : Int → Bool} {d : Int → Int} (hE : ∀ a b c : Int, 0 ≤ a → a < n → 0 ≤ b → b < n → 0 ≤ c → c < n → E a b = true → E b c = true → E a c = true) (hM : Mat n E S d) (hA : Ant n E A) (hS : ∀ i : Int, 0 ≤ i → i < n → A i = true → S i = true) : cnt A n ≤ cnt S n - mtd n d := by
  have h1 := cnt_split S A n
  have h2 : cnt (fun x => S x && A x) n = cnt A n := cnt_cong fun i a b => by
    cases hc : A i with
    | false => rw [Bool.and_false]
    | true => rw [hS i a b hc]; rfl
  have pos : ∀ y : Int, 0 < cnt (fun a => A a && E a y) n ↔ ∃ a : Int, 0 ≤ a ∧ a < n ∧ A a = true ∧ E a y = true := fun y => by
    rw [cnt_pos]
    constructor
    · rintro ⟨a, a0, a1, h⟩
      rw [Bool.and_eq_true] at h
      exact ⟨a, a0, a1, h.1, h.2⟩
    · rintro ⟨a, a0, a1, h⟩
      exact ⟨a, a0, a1, by rw [h.1, h.2]; rfl⟩
  have h3 : mtd n d ≤ cnt (fun x => S x && !A x) n := by
    refine cnt_inj (fun y => if 0 < cnt (fun a => A a && E a y) n then y else d y) n _ _ (fun y y0 y1 hy => ?_) (fun y z y0 y1 z0 z1 hy hz e => ?_)
    · have hy2 : d y ≠ -1 := of_decide_eq_true hy
      obtain ⟨a1, a2, a3, a4, a5⟩ := hM.1 y y0 y1 hy2
      show 0 ≤ (if 0 < cnt (fun a => A a && E a y) n then y else d y) ∧ _
      by_cases hc : 0 < cnt (fun a => A a && E a y) n
      · rw [if_pos hc]
        refine ⟨y0, y1, ?_⟩
        obtain ⟨a, b0, b1, b2, b3⟩ := (pos y).mp hc
        cases hay : A y with
        | false => rw [a4]; rfl
        | true =>
          rw [hA a y b0 b1 y0 y1 b2 hay] at b3
          cases b3
      · rw [if_neg hc]
        refine ⟨a1, a2, ?_⟩
        cases hay : A (d y) with
        | false => rw [a3]; rfl
        | true => exact absurd ((pos y).mpr ⟨d y, a1, a2, hay, a5⟩) hc
    · have hy2 : d y ≠ -1 := of_decide_eq_true hy
      have hz2 : d z ≠ -1 := of_decide_eq_true hz
      have e2 : (if 0 < cnt (fun a => A a && E a y) n then y else d y) = (if 0 < cnt (fun a => A a && E a z) n then z else d z) := e
      by_cases hc : 0 < cnt (fun a => A a && E a y) n
      · by_cases hd : 0 < cnt (fun a => A a && E a z) n
        · rw [if_pos hc, if_pos hd] at e2
          exact e2
        · rw [if_pos hc, if_neg hd] at e2
          obtain ⟨a, b0, b1, b2, b3⟩ := (pos y).mp hc
          have h5 := (hM.1 z z0 z1 hz2).2.2.2.2
          rw [← e2] at h5
          exact absurd ((pos z).mpr ⟨a, b0, b1, b2, hE a y z b0 b1 y0 y1 z0 z1 b3 h5⟩) hd
      · by_cases hd : 0 < cnt (fun a => A a && E a z) n
        · rw [if_neg hc, if_pos hd] at e2
          obtain ⟨a, b0, b1, b2, b3⟩ := (pos z).mp hd
          have h5 := (hM.1 y y0 y1 hy2).2.2.2.2
          rw [e2] at h5
          exact absurd ((pos y).mpr ⟨a, b0, b1, b2, hE a z y b0 b1 z0 z1 y0 y1 b3 h5⟩) hc
        · rw [if_neg hc, if_neg hd] at e2
          exact hM.2 y z y0 y1 z0 z1 e2 hy2
  omega
/-- and one is as great -/
theorem ant_ge {n : Nat} {E : Int → Int → Bool} {S T : Int → Bool} {d : Int → Int} (hM : Mat n E S d) (hT : Cls n E S d T) (hC : ∀ x : Int, 0 ≤ x → x < n → S x = true → (∃ y : Int, 0 ≤ y ∧ y < n ∧ d y = x) ∨ Nb n E S T x) : ∃ A : Int → Bool, (∀ i : Int, 0 ≤ i → i < n → A i = true → S i = true) ∧ Ant n E A ∧ cnt S n - mtd n d ≤ cnt A n := by
  have zl : ∀ x : Int, (0 < cnt (fun y => decide (d y = x)) n ↔ ∃ y : Int, 0 ≤ y ∧ y < n ∧ d y = x) ∧ (0 < cnt (fun y => T y && decide (d y = x)) n ↔ ∃ y : Int, 0 ≤ y ∧ y < n ∧ T y = true ∧ d y = x) := fun x => by
    rw [cnt_pos, cnt_pos]
    simp only [decide_eq_true_iff, Bool.and_eq_true]
    exact ⟨trivial, trivial⟩
  refine ⟨fun v => S v && (!T v && (!decide (0 < cnt (fun y => decide (d y = v)) n) || decide (0 < cnt (fun y => T y && decide (d y = v)) n))), fun i _ _ h => (Bool.and_eq_true _ _ ▸ h).1, ?_, ?_⟩
  · intro a b a0 a1 b0 b1 ha hb
    cases he : E a b with
    | false => rfl
    | true =>
      exfalso
      simp only [Bool.and_eq_true, Bool.or_eq_true, Bool.not_eq_true', decide_eq_true_iff, decide_eq_false_iff_not] at ha hb
      have hbT : T b = true := by
        rcases ha.2.2 with h | h
        · rcases hC a a0 a1 ha.1 with z | z
          · exact absurd ((zl a).1.mpr z) h
          · exact z b b0 b1 hb.1 he
        · obtain ⟨y, y0, y1, y2, y3⟩ := (zl a).2.mp h
          have := (hT y y0 y1 y2).2
          rw [y3] at this
          exact this b b0 b1 hb.1 he
      rw [hbT] at hb
      cases hb.2.1
  · generalize hA : (fun v => S v && (!T v && (!decide (0 < cnt (fun y => decide (d y = v)) n) || decide (0 < cnt (fun y => T y && decide (d y = v)) n)))) = A
    have hAv : ∀ v, A v = (S v && (!T v && (!decide (0 < cnt (fun y => decide (d y = v)) n) || decide (0 < cnt (fun y => T y && decide (d y = v)) n)))) := fun v => by rw [← hA]
    have h1 := cnt_split S A n
    have h2 : cnt (fun x => S x && A x) n = cnt A n := cnt_cong fun i a b => by
      rw [hAv i]
      cases S i <;> simp
    have h3 : cnt (fun x => S x && !A x) n ≤ mtd n d := by
      have g2 : ∀ v : Int, 0 ≤ v → v < n → (S v && !A v) = true → T v = false → ∃ y : Int, 0 ≤ y ∧ y < n ∧ d y = v ∧ T y = false ∧ fnd (fun y => decide (d y = v)) n = y := by
        intro v v0 v1 hv hTv
        rw [hAv v, Bool.and_eq_true] at hv
        have hv2 := hv.2
        rw [hv.1, hTv] at hv2
        simp only [Bool.not_false, Bool.true_and, Bool.not_eq_true', Bool.or_eq_false_iff, decide_eq_false_iff_not, Bool.not_eq_false', decide_eq_true_iff] at hv2
        obtain ⟨y, y0, y1, y2⟩ := (zl v).1.mp hv2.1
        rcases fnd_is (fun y => decide (d y = v)) n with ⟨f1, f2⟩ | ⟨f1, f2, f3, _⟩
        · have := f2 y y0 y1
          simp [y2] at this
        · have f3 := of_decide_eq_true f3
          refine ⟨_, f1, f2, f3, ?_, rfl⟩
          cases ht : T (fnd (fun y => decide (d y = v)) n) with
          | false => rfl
          | true => exact absurd ((zl v).2.mpr ⟨_, f1, f2, ht, f3⟩) hv2.2
      refine cnt_inj (fun v => if T v = true then v else fnd (fun y => decide (d y = v)) n) n _ _ (fun v v0 v1 hv => ?_) (fun v w v0 v1 w0 w1 hv hw e => ?_)
      · show 0 ≤ (if T v = true then v else fnd (fun y => decide (d y = v)) n) ∧ _
        by_cases hTv : T v = true
        · rw [if_pos hTv]
          exact ⟨v0, v1, decide_eq_true (hT v v0 v1 hTv).1⟩
        · rw [if_neg hTv]
          obtain ⟨y, y0, y1, y2, y3, y4⟩ := g2 v v0 v1 hv (by simpa using hTv)
          rw [y4]
          refine ⟨y0, y1, decide_eq_true ?_⟩
          rw [y2]
          omega
      · have e2 : (if T v = true then v else fnd (fun y => decide (d y = v)) n) = (if T w = true then w else fnd (fun y => decide (d y = w)) n) := e
        by_cases hTv : T v = true
        · by_cases hTw : T w = true
          · rw [if_pos hTv, if_pos hTw] at e2
            exact e2
          · rw [if_pos hTv, if_neg hTw] at e2
            obtain ⟨y, y0, y1, y2, y3, y4⟩ := g2 w w0 w1 hw (by simpa using hTw)
            rw [y4] at e2
            rw [← e2, hTv] at y3
            cases y3
        · obtain ⟨y, y0, y1, y2, y3, y4⟩ := g2 v v0 v1 hv (by simpa using hTv)
          by_cases hTw : T w = true
          · rw [if_neg hTv, if_pos hTw, y4] at e2
            rw [e2, hTw] at y3
            cases y3
          · rw [if_neg hTv, if_neg hTw, y4] at e2
            obtain ⟨y', y0', y1', y2', y3', y4'⟩ := g2 w w0 w1 hw (by simpa using hTw)
            rw [y4'] at e2
            rw [← y2, ← y2', e2]
    omega
/-- the job x has been put ahead of one more, those of t untouched -/
def Tr (n : Nat) (E : Int → Int → Bool) (S t : Int → Bool) (x : Int) (d d' : Int → Int) : Prop :=
  (∀ y : Int, 0 ≤ y → y < n → t y = true → d' y = d y) ∧
  (∃ u : Int, 0 ≤ u ∧ u < n ∧ d u = -1 ∧ d' u ≠ -1 ∧ ∀ y : Int, 0 ≤ y → y < n → y ≠ u → (d' y = -1 ↔ d y = -1)) ∧
  (∀ y : Int, 0 ≤ y → y < n → t y = false → d' y ≠ -1 → d' y = x ∨ ∃ z : Int, 0 ≤ z ∧ z < n ∧ t z = false ∧ d z = d' y) ∧
  (∃ y : Int, 0 ≤ y ∧ y < n ∧ t y = false ∧ d' y = x) ∧
  (∀ z : Int, 0 ≤ z → z < n → t z = false → d z ≠ -1 → ∃ y : Int, 0 ≤ y ∧ y < n ∧ t y = false ∧ d' y = d z) ∧
  (∀ y z : Int, 0 ≤ y → y < n → 0 ≤ z → z < n → t y = false → t z = false → d' y = d' z → d' y ≠ -1 → y = z) ∧
  (∀ y : Int, 0 ≤ y → y < n → d' y ≠ -1 → 0 ≤ d' y ∧ d' y < n ∧ S (d' y) = true ∧ S y = true ∧ E (d' y) y = true) ∧
  (∀ T : Int → Bool, Cls n E S d T → ¬ Nb n E S T x ∧ ∀ y : Int, 0 ≤ y → y < n → T y = true → d' y = d y)
def dup (d : Int → Int) (k v : Int) : Int → Int := fun y => if y = k then v else d y
theorem dup_eq (d : Int → Int) (k v : Int) : dup d k v k = v := if_pos rfl
theorem dup_ne (d : Int → Int) {k v y : Int} (h : y ≠ k) : dup d k v y = d y := if_neg h
theorem tr_free {n : Nat} {E : Int → Int → Bool} {S t : Int → Bool} {x w : Int} {d : Int → Int} (hM : Mat n E S d) (x0 : 0 ≤ x) (x1 : x < n) (hx : S x = true) (hn : ∀ y : Int, 0 ≤ y → y < n → t y = false → d y ≠ x) (w0 : 0 ≤ w) (w1 : w < n) (hw : S w = true) (he : E x w = true) (ht : t w = false) (hd : d w = -1) : Tr n E S t x d (dup d w x) := by
  refine ⟨fun y y0 y1 hy => dup_ne d ?_, ⟨w, w0, w1, hd, ?_, fun y y0 y1 hy => ?_⟩, fun y y0 y1 hy hy2 => ?_, ⟨w, w0, w1, ht, dup_eq d w x⟩, fun z z0 z1 hz hz2 => ⟨z, z0, z1, hz, dup_ne d ?_⟩, fun y z y0 y1 z0 z1 hy hz e e2 => ?_, fun y y0 y1 hy => ?_, fun T hT => ?_⟩
  · intro e
    rw [e, ht] at hy
    cases hy
  · rw [dup_eq]
    omega
  · rw [dup_ne d hy]
  · by_cases e : y = w
    · left
      rw [e, dup_eq]
    · right
      exact ⟨y, y0, y1, hy, (dup_ne d e).symm⟩
  · intro e
    rw [e] at hz2
    exact hz2 hd
  · by_cases e3 : y = w
    · by_cases e4 : z = w
      · rw [e3, e4]
      · rw [e3, dup_eq, dup_ne d e4] at e
        exact absurd e.symm (hn z z0 z1 hz)
    · by_cases e4 : z = w
      · rw [e4, dup_eq, dup_ne d e3] at e
        exact absurd e (hn y y0 y1 hy)
      · rw [dup_ne d e3] at e e2
        rw [dup_ne d e4] at e
        exact hM.2 y z y0 y1 z0 z1 e e2
  · by_cases e : y = w
    · rw [e, dup_eq]
      exact ⟨x0, x1, hx, hw, he⟩
    · rw [dup_ne d e] at hy ⊢
      exact hM.1 y y0 y1 hy
  · have hTw : T w = false := by
      cases hc : T w with
      | false => rfl
      | true => exact absurd hd (hT w w0 w1 hc).1
    refine ⟨fun hnb => ?_, fun y y0 y1 hy => dup_ne d ?_⟩
    · have := hnb w w0 w1 hw he
      rw [hTw] at this
      cases this
    · intro e
      rw [e, hTw] at hy
      cases hy
/-- the one ahead of w goes elsewhere -/
theorem tr_rec {n : Nat} {E : Int → Int → Bool} {S t t1 : Int → Bool} {x w : Int} {d d1 : Int → Int} (hM : Mat n E S d) (x0 : 0 ≤ x) (x1 : x < n) (hx : S x = true) (hn : ∀ y : Int, 0 ≤ y → y < n → t y = false → d y ≠ x) (w0 : 0 ≤ w) (w1 : w < n) (hw : S w = true) (he : E x w = true) (ht : t w = false) (hd : d w ≠ -1) (ht1 : ∀ y : Int, 0 ≤ y → y < n → (t1 y = true ↔ t y = true ∨ y = w)) (h : Tr n E S t1 (d w) d d1) : Tr n E S t x d (dup d1 w x) := by
  obtain ⟨h1, ⟨u, u0, u1, u2, u3, u4⟩, h3, ⟨v, v0, v1, v2, v3⟩, h5, h6, h7, h8⟩ := h
  have tf : ∀ y : Int, 0 ≤ y → y < n → t1 y = false → t y = false ∧ y ≠ w := fun y y0 y1 hy => by
    constructor
    · cases hc : t y with
      | false => rfl
      | true =>
        rw [(ht1 y y0 y1).mpr (Or.inl hc)] at hy
        cases hy
    · intro e
      rw [(ht1 y y0 y1).mpr (Or.inr e)] at hy
      cases hy
  have tf2 : ∀ y : Int, 0 ≤ y → y < n → t y = false → y ≠ w → t1 y = false := fun y y0 y1 hy hne => by
    cases hc : t1 y with
    | false => rfl
    | true =>
      rcases (ht1 y y0 y1).mp hc with z | z
      · rw [hy] at z
        cases z
      · exact absurd z hne
  have huw : u ≠ w := fun e => by
    rw [e] at u2
    exact hd u2
  have hxw : ∀ y : Int, 0 ≤ y → y < n → t1 y = false → d1 y ≠ x := by
    intro y y0 y1 hy e
    rcases h3 y y0 y1 hy (by rw [e]; omega) with z | ⟨z, z0, z1, z2, z3⟩
    · exact hn w w0 w1 ht (by rw [← z, e])
    · exact hn z z0 z1 (tf z z0 z1 z2).1 (by rw [z3, e])
  refine ⟨fun y y0 y1 hy => ?_, ⟨u, u0, u1, u2, ?_, fun y y0 y1 hy => ?_⟩, fun y y0 y1 hy hy2 => ?_, ⟨w, w0, w1, ht, dup_eq d1 w x⟩, fun z z0 z1 hz hz2 => ?_, fun y z y0 y1 z0 z1 hy hz e e2 => ?_, fun y y0 y1 hy => ?_, fun T hT => ?_⟩
  · have e : y ≠ w := fun e => by
      rw [e, ht] at hy
      cases hy
    rw [dup_ne d1 e]
    exact h1 y y0 y1 ((ht1 y y0 y1).mpr (Or.inl hy))
  · rw [dup_ne d1 huw]
    exact u3
  · by_cases e : y = w
    · rw [e, dup_eq]
      constructor
      · intro z
        omega
      · intro z
        exact absurd z hd
    · rw [dup_ne d1 e]
      exact u4 y y0 y1 hy
  · by_cases e : y = w
    · left
      rw [e, dup_eq]
    · rw [dup_ne d1 e] at hy2 ⊢
      rcases h3 y y0 y1 (tf2 y y0 y1 hy e) hy2 with z | ⟨z, z0, z1, z2, z3⟩
      · exact Or.inr ⟨w, w0, w1, ht, z.symm⟩
      · exact Or.inr ⟨z, z0, z1, (tf z z0 z1 z2).1, z3⟩
  · by_cases e : z = w
    · refine ⟨v, v0, v1, (tf v v0 v1 v2).1, ?_⟩
      rw [dup_ne d1 (tf v v0 v1 v2).2, v3, e]
    · obtain ⟨y, y0, y1, y2, y3⟩ := h5 z z0 z1 (tf2 z z0 z1 hz e) hz2
      refine ⟨y, y0, y1, (tf y y0 y1 y2).1, ?_⟩
      rw [dup_ne d1 (tf y y0 y1 y2).2, y3]
  · by_cases e3 : y = w
    · by_cases e4 : z = w
      · rw [e3, e4]
      · rw [e3, dup_eq, dup_ne d1 e4] at e
        exact absurd e.symm (hxw z z0 z1 (tf2 z z0 z1 hz e4))
    · by_cases e4 : z = w
      · rw [e4, dup_eq, dup_ne d1 e3] at e
        exact absurd e (hxw y y0 y1 (tf2 y y0 y1 hy e3))
      · rw [dup_ne d1 e3] at e e2
        rw [dup_ne d1 e4] at e
        exact h6 y z y0 y1 z0 z1 (tf2 y y0 y1 hy e3) (tf2 z z0 z1 hz e4) e e2
  · by_cases e : y = w
    · rw [e, dup_eq]
      exact ⟨x0, x1, hx, hw, he⟩
    · rw [dup_ne d1 e] at hy ⊢
      exact h7 y y0 y1 hy
  · obtain ⟨k1, k2⟩ := h8 T hT
    have hTw : T w = false := by
      cases hc : T w with
      | false => rfl
      | true => exact absurd (hT w w0 w1 hc).2 k1
    refine ⟨fun hnb => ?_, fun y y0 y1 hy => ?_⟩
    · have := hnb w w0 w1 hw he
      rw [hTw] at this
      cases this
    · have e : y ≠ w := fun e => by
        rw [e, hTw] at hy
        cases hy
      rw [dup_ne d1 e]
      exact k2 y y0 y1 hy
/-- with fewer tried -/
theorem tr_wk {n : Nat} {E : Int → Int → Bool} {S t t0 : Int → Bool} {x : Int} {d d' : Int → Int} (hM : Mat n E S d) (hn : ∀ y : Int, 0 ≤ y → y < n → t0 y = false → d y ≠ x) (hs : ∀ y : Int, 0 ≤ y → y < n → t0 y = true → t y = true) (h : Tr n E S t x d d') : Tr n E S t0 x d d' := by
  obtain ⟨h1, h2, h3, ⟨v, v0, v1, v2, v3⟩, h5, h6, h7, h8⟩ := h
  have tf : ∀ y : Int, 0 ≤ y → y < n → t y = false → t0 y = false := fun y y0 y1 hy => by
    cases hc : t0 y with
    | false => rfl
    | true =>
      rw [hs y y0 y1 hc] at hy
      cases hy
  have cross : ∀ y z : Int, 0 ≤ y → y < n → 0 ≤ z → z < n → t0 y = false → t y = true → t z = false → d' y = d' z → d' y ≠ -1 → False := by
    intro y z y0 y1 z0 z1 a1 a2 a3 e e2
    have e3 := h1 y y0 y1 a2
    rcases h3 z z0 z1 a3 (by rw [← e]; exact e2) with q | ⟨w, w0, w1, w2, w3⟩
    · exact hn y y0 y1 a1 (by rw [← e3, e, q])
    · have := hM.2 y w y0 y1 w0 w1 (by rw [w3, ← e, e3]) (by rw [← e3]; exact e2)
      rw [← this, a2] at w2
      cases w2
  refine ⟨fun y y0 y1 hy => h1 y y0 y1 (hs y y0 y1 hy), h2, fun y y0 y1 hy hy2 => ?_, ⟨v, v0, v1, tf v v0 v1 v2, v3⟩, fun z z0 z1 hz hz2 => ?_, fun y z y0 y1 z0 z1 hy hz e e2 => ?_, h7, h8⟩
  · cases hc : t y with
    | true => exact Or.inr ⟨y, y0, y1, hy, (h1 y y0 y1 hc).symm⟩
    | false =>
      rcases h3 y y0 y1 hc hy2 with z | ⟨z, z0, z1, z2, z3⟩
      · exact Or.inl z
      · exact Or.inr ⟨z, z0, z1, tf z z0 z1 z2, z3⟩
  · cases hc : t z with
    | true => exact ⟨z, z0, z1, hz, h1 z z0 z1 hc⟩
    | false =>
      obtain ⟨y, y0, y1, y2, y3⟩ := h5 z z0 z1 hc hz2
      exact ⟨y, y0, y1, tf y y0 y1 y2, y3⟩
  · cases hc : t y with
    | true =>
      cases hd : t z with
      | true =>
        have e3 := h1 y y0 y1 hc
        have e4 := h1 z z0 z1 hd
        exact hM.2 y z y0 y1 z0 z1 (by rw [← e3, ← e4]; exact e) (by rw [← e3]; exact e2)
      | false => exact (cross y z y0 y1 z0 z1 hy hc hd e e2).elim
    | false =>
      cases hd : t z with
      | true => exact (cross z y z0 z1 y0 y1 hz hd hc e.symm (by rw [← e]; exact e2)).elim
      | false => exact h6 y z y0 y1 z0 z1 hc hd e e2
/-- nothing found: all that was tried is closed -/
def Fa (n : Nat) (E : Int → Int → Bool) (S t t' : Int → Bool) (x : Int) (d : Int → Int) : Prop :=
  (∀ y : Int, 0 ≤ y → y < n → t y = true → t' y = true) ∧ (∀ y : Int, 0 ≤ y → y < n → t' y = true → t y = false → d y ≠ -1 ∧ Nb n E S t' (d y)) ∧ Nb n E S t' x
/-- after a whole search -/
theorem tr_mat {n : Nat} {E : Int → Int → Bool} {S : Int → Bool} {x : Int} {d d' : Int → Int} (h : Tr n E S (fun _ => false) x d d') : Mat n E S d' ∧ mtd n d' = mtd n d + 1 := by
  obtain ⟨h1, ⟨u, u0, u1, u2, u3, u4⟩, h3, h4, h5, h6, h7, h8⟩ := h
  refine ⟨⟨h7, fun y z y0 y1 z0 z1 => h6 y z y0 y1 z0 z1 rfl rfl⟩, ?_⟩
  unfold mtd
  rw [cnt_del (R := fun y => decide (d' y ≠ -1)) u0 u1 (decide_eq_true u3)]
  congr 1
  refine cnt_cong fun y y0 y1 => ?_
  by_cases e : y = u
  · rw [decide_eq_false (p := y ≠ u) (fun z => z e), Bool.and_false, e, u2]
    rfl
  · rw [decide_eq_true (p := y ≠ u) e, Bool.and_true]
    have := u4 y y0 y1 e
    exact decide_eq_decide.mpr (not_congr this)
/-! the greatest such sets -/
def Wid (n : Nat) (E : Int → Int → Bool) (S : Int → Bool) (w : Int) : Prop := (∃ A : Int → Bool, (∀ i : Int, 0 ≤ i → i < n → A i = true → S i = true) ∧ Ant n E A ∧ cnt A n = w) ∧ ∀ A : Int → Bool, (∀ i : Int, 0 ≤ i → i < n → A i = true → S i = true) → Ant n E A → cnt A n ≤ w
theorem wid_one {n : Nat} {E : Int → Int → Bool} {S : Int → Bool} {w v : Int} (h1 : Wid n E S w) (h2 : Wid n E S v) : w = v := by
  obtain ⟨⟨A, a1, a2, a3⟩, a4⟩ := h1
  obtain ⟨⟨B, b1, b2, b3⟩, b4⟩ := h2
  have := a4 B b1 b2
  have := b4 A a1 a2
  omega
theorem wid_of {n : Nat} {E : Int → Int → Bool} {S T : Int → Bool} {d : Int → Int} (hE : ∀ a b c : Int, 0 ≤ a → a < n → 0 ≤ b → b < n → 0 ≤ c → c < n → E a b = true → E b c = true → E a c = true) (hM : Mat n E S d) (hT : Cls n E S d T) (hC : ∀ x : Int, 0 ≤ x → x < n → S x = true → (∃ y : Int, 0 ≤ y ∧ y < n ∧ d y = x) ∨ Nb n E S T x) : Wid n E S (cnt S n - mtd n d) := by
  obtain ⟨A, a1, a2, a3⟩ := ant_ge hM hT hC
  have := ant_le hE hM a2 a1
  exact ⟨⟨A, a1, a2, by omega⟩, fun B b1 b2 => ant_le hE hM b2 b1⟩
/-- one step of enginesFor -/
def Eng (n : Nat) (E : Int → Int → Bool) (S : Int → Bool) (j : Int) (d : Int → Int) : Prop := Mat n E S d ∧ (∀ y : Int, 0 ≤ y → y < n → d y < j) ∧ ∃ T : Int → Bool, Cls n E S d T ∧ ∀ x : Int, 0 ≤ x → x < j → S x = true → (∃ y : Int, 0 ≤ y ∧ y < n ∧ d y = x) ∨ Nb n E S T x
theorem eng_no {n : Nat} {E : Int → Int → Bool} {S : Int → Bool} {j : Int} {d : Int → Int} (h : Eng n E S j d) (hj : S j = false) : Eng n E S (j + 1) d := by
  obtain ⟨h1, h2, T, h3, h4⟩ := h
  refine ⟨h1, fun y y0 y1 => by have := h2 y y0 y1; omega, T, h3, fun x x0 x1 hx => ?_⟩
  by_cases e : x = j
  · rw [e, hj] at hx
    cases hx
  · exact h4 x x0 (by omega) hx
theorem eng_t {n : Nat} {E : Int → Int → Bool} {S : Int → Bool} {j : Int} {d d' : Int → Int} (h : Eng n E S j d) (ht : Tr n E S (fun _ => false) j d d') : Eng n E S (j + 1) d' := by
  obtain ⟨h1, h2, T, h3, h4⟩ := h
  have hm := (tr_mat ht).1
  obtain ⟨t1, t2, t3, ⟨v, v0, v1, v2, v3⟩, t5, t6, t7, t8⟩ := ht
  obtain ⟨k1, k2⟩ := t8 T h3
  refine ⟨hm, fun y y0 y1 => ?_, T, fun y y0 y1 hy => ?_, fun x x0 x1 hx => ?_⟩
  · by_cases e : d' y = -1
    · by_cases ej : d y = -1
      · have := h2 y y0 y1
        omega
      · obtain ⟨a, _⟩ := h1.1 y y0 y1 ej
        have := h2 y y0 y1
        omega
    · rcases t3 y y0 y1 rfl e with z | ⟨z, z0, z1, _, z3⟩
      · omega
      · have := h2 z z0 z1
        omega
  · rw [k2 y y0 y1 hy]
    exact h3 y y0 y1 hy
  · by_cases e : x = j
    · rw [e]
      exact Or.inl ⟨v, v0, v1, v3⟩
    · rcases h4 x x0 (by omega) hx with ⟨y, y0, y1, y2⟩ | z
      · obtain ⟨w, w0, w1, _, w3⟩ := t5 y y0 y1 rfl (by rw [y2]; omega)
        exact Or.inl ⟨w, w0, w1, w3.trans y2⟩
      · exact Or.inr z
theorem eng_f {n : Nat} {E : Int → Int → Bool} {S t : Int → Bool} {j : Int} {d : Int → Int} (h : Eng n E S j d) (hf : Fa n E S (fun _ => false) t j d) : Eng n E S (j + 1) d := by
  obtain ⟨h1, h2, T, h3, h4⟩ := h
  refine ⟨h1, fun y y0 y1 => by have := h2 y y0 y1; omega, fun y => T y || t y, fun y y0 y1 hy => ?_, fun x x0 x1 hx => ?_⟩
  · rw [Bool.or_eq_true] at hy
    rcases hy with z | z
    · exact ⟨(h3 y y0 y1 z).1, fun w w0 w1 w2 w3 => by show (T w || t w) = true; rw [(h3 y y0 y1 z).2 w w0 w1 w2 w3]; rfl⟩
    · have := hf.2.1 y y0 y1 z rfl
      exact ⟨this.1, fun w w0 w1 w2 w3 => by show (T w || t w) = true; rw [this.2 w w0 w1 w2 w3, Bool.or_true]⟩
  · by_cases e : x = j
    · rw [e]
      exact Or.inr fun w w0 w1 w2 w3 => by show (T w || t w) = true; rw [hf.2.2 w w0 w1 w2 w3, Bool.or_true]
    · rcases h4 x x0 (by omega) hx with z | z
      · exact Or.inl z
      · exact Or.inr fun w w0 w1 w2 w3 => by show (T w || t w) = true; rw [z w w0 w1 w2 w3]; rfl
