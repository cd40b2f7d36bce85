/-! THE EVENING in the class: rows run from one place where rows may join to the next -/
def hlt (s : zJ) (p : Int) : Bool := decide (1 ≤ p) && opn s p && decide (2 ≤ cnt (fun k => onb s p (s 24 0 k)) (s 18 0 6).toNat)
def nhf (s : zJ) : Nat → Int → Int
  | 0, _ => 0
  | n + 1, p => if s 19 0 p = 0 ∨ hlt s (s 19 0 p) = true then s 19 0 p else nhf s n (s 19 0 p)
def nxh (s : zJ) (p : Int) : Int := nhf s 12 p
/-- where a row at p is held to be -/
def ath (s : zJ) (p : Int) : Int := if p = 0 ∨ hlt s p = true then p else nxh s p
theorem nhf_fuel {s : zJ} (h : LW s) : ∀ (n m : Nat) (p : Int), 1 ≤ p → p < s 18 0 0 → p ≤ n → p ≤ m → nhf s n p = nhf s m p := by
  intro n
  induction n with
  | zero =>
    intro m p h0 h1 h2
    omega
  | succ n ih =>
    intro m p h0 h1 h2 h3
    cases m with
    | zero => omega
    | succ m =>
      have hu := lw_up h h0 h1
      have hp := lw_p h (p := p) (by omega) h1
      rw [nhf, nhf]
      split
      · rfl
      · next hc =>
        have : s 19 0 p ≠ 0 := fun e => hc (Or.inl e)
        exact ih m _ (by omega) (by omega) (by omega) (by omega)
theorem nxh_up {s : zJ} (h : LW s) {p : Int} (h0 : 1 ≤ p) (h1 : p < s 18 0 0) : nxh s p = ath s (s 19 0 p) := by
  have hn := lw_n h
  have hu := lw_up h h0 h1
  have hp := lw_p h (p := p) (by omega) h1
  unfold nxh ath
  rw [nhf]
  split
  · rfl
  · next hc =>
    have : s 19 0 p ≠ 0 := fun e => hc (Or.inl e)
    exact nhf_fuel h 11 12 _ (by omega) (by omega) (by omega) (by omega)
theorem ath_rng {s : zJ} (h : LW s) : ∀ p, 0 ≤ p → p < s 18 0 0 → 0 ≤ ath s p ∧ ath s p ≤ p ∧ (ath s p = 0 ∨ hlt s (ath s p) = true) := by
  refine up_ind h ?_ ?_
  · unfold ath
    rw [if_pos (Or.inl rfl)]
    exact ⟨Int.le_refl 0, Int.le_refl 0, Or.inl rfl⟩
  · intro q h0 h1 ih
    have hu := lw_up h h0 h1
    by_cases hc : hlt s q = true
    · have e : ath s q = q := by
        unfold ath
        rw [if_pos (Or.inr hc)]
      rw [e]
      exact ⟨by omega, Int.le_refl q, Or.inr hc⟩
    · have e : ath s q = ath s (s 19 0 q) := by
        rw [← nxh_up h h0 h1]
        unfold ath
        rw [if_neg (by rintro (z | z); omega; exact hc z)]
      rw [e]
      exact ⟨ih.1, by omega, ih.2.2⟩
theorem ath_h {s : zJ} {p : Int} (h : hlt s p = true) : ath s p = p := by
  unfold ath
  rw [if_pos (Or.inr h)]
theorem ath_n {s : zJ} (h : LW s) {p : Int} (h0 : 1 ≤ p) (h1 : p < s 18 0 0) (hc : hlt s p = false) : ath s p = ath s (s 19 0 p) ∧ ath s p < p := by
  have hu := lw_up h h0 h1
  have hp := lw_p h (p := p) (by omega) h1
  have e : ath s p = ath s (s 19 0 p) := by
    rw [← nxh_up h h0 h1]
    unfold ath
    rw [if_neg (by rintro (z | z); omega; rw [hc] at z; cases z)]
  have := ath_rng h (s 19 0 p) (by omega) (by omega)
  exact ⟨e, by omega⟩
/-- a row at p is where it is held to be, some minutes later -/
def mnt (s : zJ) (p t : Int) : Int := t + way s p (ath s p)
theorem mnt_h {s : zJ} {p t : Int} (h : hlt s p = true) : mnt s p t = t := by
  unfold mnt
  rw [ath_h h, way_self]
  omega
theorem mnt_n {s : zJ} (h : LW s) {p t : Int} (h0 : 1 ≤ p) (h1 : p < s 18 0 0) (hc : hlt s p = false) : mnt s p t = mnt s (s 19 0 p) (t + s 20 0 p) := by
  have hu := lw_up h h0 h1
  have hp := lw_p h (p := p) (by omega) h1
  have ha := ath_n h h0 h1 hc
  have hr := ath_rng h p (by omega) h1
  unfold mnt
  rw [way_up h hr.1 ha.2 h1, ha.1]
  omega
theorem mnt_rng {s : zJ} (h : LW s) {p t : Int} (h0 : 0 ≤ p) (h1 : p < s 18 0 0) : t ≤ mnt s p t ∧ mnt s p t ≤ t + 5280 := by
  have hr := ath_rng h p h0 h1
  have := way_rng h h0 h1 hr.1 (by omega)
  unfold mnt
  omega
/-- portions as bits -/
def lbt (l : List Int) : Int := bs (fun k => decide (k ∈ l)) 7
def lst : List Int → Int
  | [] => -1
  | [x] => x
  | _ :: y :: r => lst (y :: r)
/-- each portion's next one -/
def Ch (a : Int → Int) : List Int → Prop
  | [] => True
  | [x] => a x = -1
  | x :: y :: r => a x = y ∧ Ch a (y :: r)
theorem ch_cong {a b : Int → Int} : ∀ {l : List Int}, Ch a l → (∀ k ∈ l, b k = a k) → Ch b l
  | [], _, _ => trivial
  | [x], h, e => by
    show b x = -1
    rw [e x List.mem_cons_self]
    exact h
  | x :: y :: r, h, e => by
    refine ⟨?_, ch_cong h.2 fun k hk => e k (List.mem_cons_of_mem _ hk)⟩
    rw [e x List.mem_cons_self]
    exact h.1
theorem lst_mem : ∀ {l : List Int}, l ≠ [] → lst l ∈ l
  | [], h => absurd rfl h
  | [x], _ => List.mem_cons_self
  | x :: y :: r, _ => List.mem_cons_of_mem _ (lst_mem (l := y :: r) (by simp))
theorem lst_app : ∀ (l : List Int) {r : List Int}, r ≠ [] → lst (l ++ r) = lst r
  | [], _, _ => rfl
  | [x], r, h => by
    cases r with
    | nil => exact absurd rfl h
    | cons y r => rfl
  | x :: y :: l, r, h => by
    show lst (y :: l ++ r) = lst r
    exact lst_app (y :: l) h
/-- one behind the other -/
theorem ch_app {a : Int → Int} {o : Int} {r : List Int} : ∀ {l : List Int}, l ≠ [] → l.Nodup → Ch a l → Ch a (o :: r) → (∀ k ∈ o :: r, k ∉ l) → Ch (fun k => if k = lst l then o else a k) (l ++ o :: r)
  | [], h, _, _, _, _ => absurd rfl h
  | [x], _, _, _, h2, hd => by
    refine ⟨if_pos rfl, ch_cong h2 fun k hk => ?_⟩
    rw [if_neg]
    intro e
    exact hd k hk (by rw [e]; exact List.mem_cons_self)
  | x :: y :: l, _, hn, h1, h2, hd => by
    rw [List.nodup_cons] at hn
    have hne : x ≠ lst (x :: y :: l) := by
      intro e
      apply hn.1
      rw [e]
      exact lst_mem (l := y :: l) (by simp)
    refine ⟨?_, ch_app (l := y :: l) (by simp) hn.2 h1.2 h2 fun k hk q => hd k hk (List.mem_cons_of_mem _ q)⟩
    show (if x = lst (x :: y :: l) then o else a x) = y
    rw [if_neg hne]
    exact h1.1
theorem lbt_rng (l : List Int) : 0 ≤ lbt l ∧ lbt l < 128 := bs_lt _ 7
theorem bt_lbt {l : List Int} (hl : ∀ k ∈ l, 0 ≤ k ∧ k < 7) {k : Int} (hk : 0 ≤ k) : bt (lbt l) k = decide (k ∈ l) := by
  unfold lbt
  rw [bt_bs _ _ _ hk]
  by_cases e : k ∈ l
  · have := hl k e
    simp [e]
    omega
  · simp [e]
theorem lbt_or {l r : List Int} (hl : ∀ k ∈ l, 0 ≤ k ∧ k < 7) (hr : ∀ k ∈ r, 0 ≤ k ∧ k < 7) : zor (lbt l) (lbt r) = lbt (l ++ r) := by
  have h1 := lbt_rng l
  have h2 := lbt_rng r
  have h3 := lbt_rng (l ++ r)
  have hz := zor_ge (x := lbt l) (y := lbt r) h1.1 (by omega) h2.1 (by omega)
  refine bt_ext hz.1 h3.1 fun k hk => ?_
  rw [bt_or h1.1 (by omega) h2.1 (by omega), bt_lbt hl hk, bt_lbt hr hk, bt_lbt (fun k hk => by
    rw [List.mem_append] at hk
    rcases hk with q | q
    · exact hl k q
    · exact hr k q) hk]
  by_cases a : k ∈ l <;> by_cases b : k ∈ r <;> simp [a, b]
/-- carriages of a row -/
theorem ldf_lbt {s : zJ} (h : LW s) : ∀ {l : List Int}, l.Nodup → (∀ k ∈ l, 0 ≤ k ∧ k < s 18 0 6) → ldf s (lbt l) = lln s l
  | [], _, _ => by
    unfold ldf
    rw [lln]
    refine sm_zero fun i i0 i1 => ?_
    rw [bt_lbt (fun k hk => by cases hk) i0]
    simp
  | x :: r, hd, hk => by
    have hn := lw_n h
    rw [List.nodup_cons] at hd
    have ih := ldf_lbt h hd.2 fun k q => hk k (List.mem_cons_of_mem _ q)
    have hx := hk x List.mem_cons_self
    rw [lln, ← ih]
    unfold ldf
    have e : ∀ i : Int, 0 ≤ i → i < (s 18 0 6).toNat → (if bt (lbt (x :: r)) i = true then s 25 0 i else 0) = (if i = x then s 25 0 x else 0) + (if bt (lbt r) i = true then s 25 0 i else 0) := by
      intro i i0 i1
      rw [bt_lbt (fun k q => by have := hk k q; omega) i0, bt_lbt (fun k q => by have := hk k (List.mem_cons_of_mem _ q); omega) i0]
      by_cases e : i = x
      · subst e
        simp [hd.1]
      · simp [e]
    rw [sm_cong e, sm_add, sm_one (k := x) hx.1 (by omega) fun i _ _ q => if_neg q, if_pos rfl]
/-- the least bit -/
def lob : Bool := (List.range 128).all fun x => Nat.beq x 0 || decide (zand (x : Int) (-(x : Int)) = 2 ^ (fnd (fun k => bt (x : Int) k) 7).toNat)
theorem lob_ok : lob = true := by decide +kernel
theorem lmn_ok : ∀ {l : List Int}, l ≠ [] → (∀ k ∈ l, 0 ≤ k ∧ k < 7) → lmn l ∈ l ∧ ∀ k ∈ l, lmn l ≤ k
  | [], h, _ => absurd rfl h
  | x :: r, _, hk => by
    have hx := hk x List.mem_cons_self
    cases hr : r with
    | nil =>
      rw [lmn, lmn, if_pos (by omega)]
      refine ⟨List.mem_cons_self, fun k q => ?_⟩
      rw [List.mem_singleton] at q
      omega
    | cons y t =>
      rw [← hr]
      have ih := lmn_ok (l := r) (by rw [hr]; simp) fun k q => hk k (List.mem_cons_of_mem _ q)
      rw [lmn]
      split
      · refine ⟨List.mem_cons_self, fun k q => ?_⟩
        rw [List.mem_cons] at q
        rcases q with q | q
        · omega
        · have := ih.2 k q
          omega
      · refine ⟨List.mem_cons_of_mem _ ih.1, fun k q => ?_⟩
        rw [List.mem_cons] at q
        rcases q with q | q
        · omega
        · exact ih.2 k q
theorem low_lbt {l : List Int} (h : l ≠ []) (hk : ∀ k ∈ l, 0 ≤ k ∧ k < 7) : zand (lbt l) (-(lbt l)) = 2 ^ (lmn l).toNat := by
  have hl := lbt_rng l
  have hm := lmn_ok h hk
  have hmk := hk _ hm.1
  have hb := lob_ok
  unfold lob at hb
  rw [List.all_eq_true] at hb
  have hx := hb (lbt l).toNat (List.mem_range.mpr (by omega))
  have e : (((lbt l).toNat : Nat) : Int) = lbt l := by omega
  rw [e, Bool.or_eq_true, decide_eq_true_eq] at hx
  have hf : fnd (fun k => bt (lbt l) k) 7 = lmn l := by
    refine fnd_at hmk.1 (by omega) ?_ fun i i0 i1 => ?_
    · rw [bt_lbt hk hmk.1]
      simp [hm.1]
    · rw [bt_lbt hk i0]
      simp
      intro q
      have := hm.2 i q
      omega
  rcases hx with q | q
  · have h0 : lbt l = 0 := by
      have := Nat.eq_of_beq_eq_true q
      omega
    have : bt (lbt l) (lmn l) = true := by
      rw [bt_lbt hk hmk.1]
      simp [hm.1]
    rw [h0, bt_zero] at this
    cases this
  · rw [q, hf]
theorem pw_lt {m n : Nat} : (2 : Int) ^ m < 2 ^ n ↔ m < n := by
  rw [pw_nat, pw_nat]
  constructor
  · intro h
    rcases Nat.lt_or_ge m n with q | q
    · exact q
    · have := Nat.pow_le_pow_right (n := 2) (by decide) q
      omega
  · intro h
    have := Nat.pow_lt_pow_right (a := 2) (by decide) h
    omega
/-- a row of the class -/
def Rc (J : zJ) (g : Int) (l : List Int) : Prop := J 124 0 g = lbt l ∧ J 125 0 g = lst l ∧ Ch (J 126 0) l
/-- rows of the class; those of t have left p in the picture, but not yet here -/
def CR (s J : zJ) (E : Ev) (p : Int) (t : List Int) : Prop := ∀ g, 0 ≤ g → g < s 18 0 6 → (E.2.2 g < 0 → J 122 0 g = -1) ∧ (0 ≤ E.2.2 g → ((g ∈ t → J 122 0 g = p ∧ E.2.2 g = s 19 0 p ∧ J 123 0 g = E.2.1 g - s 20 0 p) ∧ (g ∉ t → J 122 0 g = ath s (E.2.2 g) ∧ J 123 0 g = mnt s (E.2.2 g) (E.2.1 g))) ∧ Rc J g (E.1 g))
/-- what is prepared -/
def PR (s J : zJ) (w : Int → Int) : Prop := J 117 0 4 = bs (hlt s) (s 18 0 0).toNat ∧ (∀ p, 1 ≤ p → p < s 18 0 0 → J 119 0 p = nxh s p) ∧ (∀ p, 1 ≤ p → p < s 18 0 0 → J 118 0 p = w p ∧ 0 ≤ w p ∧ w p ≤ 60)
theorem c14 {L : Nat} {xs : Nat → Int32} (hL : L ≤ 3072) {D : Nat} {J : zJ} {K : zK} {Q : zR → Nat → zJ → zK → Prop} {s : zJ} (h : LW s) {w : Int → Int} (hR : PR s J w) {p : Int} (hD : 1 ≤ D) (h0 : 0 ≤ p) (h1 : p < s 18 0 0) (hQ : Q (.inl (some (zi (zb (hlt s p))))) 0 J K) : zCall L xs D 14 [zr 117, zi p] J K Q := by
  obtain ⟨D, rfl⟩ : ∃ d, D = d + 1 := ⟨D - 1, by omega⟩
  have hn := lw_n h
  have hb := bs_lt (hlt s) (s 18 0 0).toNat
  have hb2 := pw_31 (n := (s 18 0 0).toNat) (by omega)
  refine z14 hL ?_
  rw [hR.1]
  simp only [bt_shz hb.1 (show bs (hlt s) (s 18 0 0).toNat < 2147483648 by omega), zb_0, zb_1, bt_bs _ _ _ h0]
  have e : decide (p < (((s 18 0 0).toNat : Nat) : Int)) = true := decide_eq_true (by omega)
  simp only [e, Bool.true_and]
  refine ⟨⟨by omega, by omega⟩, h0, by omega, zin_zb _, fun q => ⟨by simp, ?_⟩, fun q => ⟨by simp, ?_⟩⟩
  · rw [q] at hQ
    exact hQ
  · rw [q] at hQ
    exact hQ
theorem c3 {L : Nat} {xs : Nat → Int32} (hL : L ≤ 3072) {D : Nat} {J : zJ} {K : zK} {Q : zR → Nat → zJ → zK → Prop} {s : zJ} (h : LW s) {E : Ev} {p T g o : Int} {t : List Int} (hD : 1 ≤ D) (hE : EO s E p T) (hT : T ≤ 20000) (hp : p < s 18 0 0) (hC : CR s J E p t) (h0 : 0 ≤ g) (h1 : g < s 18 0 6) (h2 : E.2.2 g = p) (o0 : 0 ≤ o) (o1 : o < s 18 0 6) (o2 : E.2.2 o = p) (hh : hlt s p = true) (hg : g ∉ t) (ho : o ∉ t) (hQ : Q (.inl (some (zi (zb (ahd E g o))))) 0 J K) : zCall L xs D 3 [zr 121, zi g, zi o] J K Q := by
  obtain ⟨D, rfl⟩ : ∃ d, D = d + 1 := ⟨D - 1, by omega⟩
  have hn := lw_n h
  have hp1 : 1 ≤ p := by
    unfold hlt at hh
    simp only [Bool.and_eq_true, decide_eq_true_eq] at hh
    exact hh.1.1
  have bg := hE.2.1 g h0 h1 (by omega)
  have bo := hE.2.1 o o0 o1 (by omega)
  have rg := (hC g h0 h1).2 (by omega)
  have ro := (hC o o0 o1).2 (by omega)
  have mg : J 123 0 g = E.2.1 g := by rw [(rg.1.2 hg).2, h2, mnt_h hh]
  have mo : J 123 0 o = E.2.1 o := by rw [(ro.1.2 ho).2, o2, mnt_h hh]
  have kg : ∀ k ∈ E.1 g, 0 ≤ k ∧ k < 7 := fun k hk => by
    have := bg.2.2.2.1 k hk
    omega
  have ko : ∀ k ∈ E.1 o, 0 ≤ k ∧ k < 7 := fun k hk => by
    have := bo.2.2.2.1 k hk
    omega
  have ng : E.1 g ≠ [] := by
    obtain ⟨r, hr⟩ := bg.2.1
    rw [hr]
    simp
  have no : E.1 o ≠ [] := by
    obtain ⟨r, hr⟩ := bo.2.1
    rw [hr]
    simp
  have lg := kg _ (lmn_ok ng kg).1
  have lo := ko _ (lmn_ok no ko).1
  have pg : (2 : Int) ^ (lmn (E.1 g)).toNat ≤ 2 ^ 7 := pw_le (by omega)
  have po : (2 : Int) ^ (lmn (E.1 o)).toNat ≤ 2 ^ 7 := pw_le (by omega)
  have pg0 := pw_pos (lmn (E.1 g)).toNat
  have po0 := pw_pos (lmn (E.1 o)).toNat
  refine z3 hL ?_
  rw [mg, mo, rg.2.1, ro.2.1, low_lbt ng kg, low_lbt no ko]
  refine ⟨by omega, by omega, by omega, by omega, ⟨by omega, by omega⟩, ⟨by omega, by omega⟩, fun q => ⟨by omega, by omega, by omega, by omega, by omega, by omega, by omega, by omega, ⟨by omega, by omega⟩, ⟨by omega, by omega⟩, fun z => ⟨Or.inl rfl, ?_⟩, fun z => ⟨Or.inr rfl, ?_⟩⟩, fun q => ⟨by omega, by omega, by omega, by omega, ⟨by omega, by omega⟩, ⟨by omega, by omega⟩, fun z => ⟨Or.inl rfl, ?_⟩, fun z => ⟨Or.inr rfl, ?_⟩⟩⟩
  · have hz : ¬ (lmn (E.1 g)).toNat < (lmn (E.1 o)).toNat := fun y => by
      have := pw_lt.mpr y
      omega
    have e : ahd E g o = false := by
      simp [ahd]
      omega
    rw [e] at hQ
    exact hQ
  · have hz := pw_lt.mp z
    have e : ahd E g o = true := by
      simp [ahd]
      omega
    rw [e] at hQ
    exact hQ
  · have e : ahd E g o = false := by
      simp [ahd]
      omega
    rw [e] at hQ
    exact hQ
  · have e : ahd E g o = true := by simp [ahd, z]
    rw [e] at hQ
    exact hQ
/-- the relation speaks of 122 to 126 -/
theorem cr_eq {s J J' : zJ} {E : Ev} {p : Int} {t : List Int} (h : CR s J E p t) (e2 : J' 122 = J 122) (e3 : J' 123 = J 123) (e4 : J' 124 = J 124) (e5 : J' 125 = J 125) (e6 : J' 126 = J 126) : CR s J' E p t := by
  unfold CR Rc at h ⊢
  rw [e2, e3, e4, e5, e6]
  exact h
/-- who is at p -/
theorem cr_at {s J : zJ} (h : LW s) {E : Ev} {p T : Int} (hE : EO s E p T) (hp : p < s 18 0 0) (hh : hlt s p = true) (hC : CR s J E p []) {g : Int} (h0 : 0 ≤ g) (h1 : g < s 18 0 6) : (J 122 0 g = p ↔ E.2.2 g = p) ∧ zin (J 122 0 g) := by
  have hn := lw_n h
  have hp1 : 1 ≤ p := by
    unfold hlt at hh
    simp only [Bool.and_eq_true, decide_eq_true_eq] at hh
    exact hh.1.1
  have hc := hC g h0 h1
  rcases Int.lt_or_le (E.2.2 g) 0 with q | q
  · have := hc.1 q
    exact ⟨by omega, by rw [this]; exact ⟨by decide, by decide⟩⟩
  · have h2 := ((hc.2 q).1.2 (by simp)).1
    have hw := (hE.2.1 g h0 h1 q).1
    have hr := ath_rng h _ q (by omega)
    refine ⟨⟨fun e => by omega, fun e => ?_⟩, ⟨by omega, by omega⟩⟩
    rw [h2, e, ath_h hh]
theorem c11 {L : Nat} {xs : Nat → Int32} (hL : L ≤ 3072) {D : Nat} {J : zJ} {K : zK} {Q : zR → Nat → zJ → zK → Prop} {s : zJ} (hE : EqS s J) (h : LW s) {E : Ev} {p T : Int} (hD : 2 ≤ D) (hO : EO s E p T) (hT : T ≤ 20000) (hp : p < s 18 0 0) (hh : hlt s p = true) (hC : CR s J E p []) (hQ : ∀ J' : zJ, (∀ b : Nat, b ≠ 117 → b ≠ 133 → J' b = J b) → (∀ k, k ≠ 10 → J' 117 0 k = J 117 0 k) → J' 117 0 10 = (ord E p (s 18 0 6).toNat).length → Ar (J' 133 0) (ord E p (s 18 0 6).toNat) → Q (.inl none) 0 J' K) : zCall L xs D 11 [zr 117, zi p] J K Q := by
  obtain ⟨D, rfl⟩ : ∃ d, D = d + 1 := ⟨D - 1, by omega⟩
  have hn := lw_n h
  have hp1 : 1 ≤ p := by
    unfold hlt at hh
    simp only [Bool.and_eq_true, decide_eq_true_eq] at hh
    exact hh.1.1
  have key : ∀ (n : Nat) (g : Nat) (J1 : zJ), n = (s 18 0 6).toNat - g → (g : Int) ≤ s 18 0 6 → (∀ b, b ≠ 117 → b ≠ 133 → J1 b = J b) → (∀ k, k ≠ 10 → J1 117 0 k = J 117 0 k) → J1 117 0 10 = (ord E p g).length → Ar (J1 133 0) (ord E p g) → zGo L xs (D + 1) 11 7 [some (zr 117), some (zi p), some (zi (g : Int)), none] [] J1 K Q := by
    intro n; induction n using Nat.strongRecOn with
    | _ n ih =>
    intro g J1 hm hg hF1 hF2 hlen har
    have e18 : J1 18 = s 18 := (hF1 18 (by decide) (by decide)).trans (hE 18 (by decide) (by decide))
    have hC1 : CR s J1 E p [] := cr_eq hC (hF1 _ (by decide) (by decide)) (hF1 _ (by decide) (by decide)) (hF1 _ (by decide) (by decide)) (hF1 _ (by decide) (by decide)) (hF1 _ (by decide) (by decide))
    refine z11_7 hL ?_
    rw [e18]
    by_cases hc : (g : Int) < s 18 0 6
    · have hat := cr_at h hO hp hh hC1 (g := g) (by omega) hc
      have e1 : ((g + 1 : Nat) : Int) = (g : Int) + 1 := by omega
      refine ⟨⟨by omega, by omega⟩, ⟨by omega, by omega⟩, fun _ => by omega, fun _ => ⟨by omega, by omega, hat.2, ⟨by omega, by omega⟩, fun q => ?_, fun q => ?_⟩⟩
      · have eo : ord E p (g + 1) = ord E p g := by rw [ord, if_neg (fun z => q (hat.1.mpr z))]
        rw [← e1]
        exact ih _ (by omega) (g + 1) J1 rfl (by omega) hF1 hF2 (by rw [eo]; exact hlen) (by rw [eo]; exact har)
      · have hgp := hat.1.mp q
        have hll := len_ord E p g
        have eo : ord E p (g + 1) = ins (fun e => ahd E g e) (ord E p g) g := by rw [ord, if_pos hgp]
        rw [hlen]
        generalize hl : ord E p g = l at hlen har eo hll
        have hmem : ∀ x ∈ l, 0 ≤ x ∧ x < (g : Int) ∧ E.2.2 x = p := fun x hx => by
          rw [← hl] at hx
          exact mem_ord.mp hx
        have inner : ∀ (i : Nat) (J2 : zJ), i ≤ l.length → (∀ b, b ≠ 117 → b ≠ 133 → J2 b = J b) → (∀ k, k ≠ 10 → J2 117 0 k = J 117 0 k) → J2 117 0 10 = l.length → (∀ (j : Nat) (v : Int), j < i → l[j]? = some v → J2 133 0 (j : Int) = v) → (∀ (j : Nat) (v : Int), i ≤ j → l[j]? = some v → J2 133 0 ((j : Int) + 1) = v) → (l.drop i).all (fun e => ahd E g e) = true → zGo L xs (D + 1) 11 36 [some (zr 117), some (zi p), some (zi (g : Int)), some (zi (i : Int))] [] J2 K Q := by
          intro i
          induction i with
          | zero =>
            intro J2 _ hG1 hG2 hl2 g1 g2 g3
            refine z11_36 hL ⟨⟨by omega, by omega⟩, fun _ => ⟨by omega, by omega, ?_⟩, fun q => by omega⟩
            rw [hl2, ← e1]
            have hcut : cut (fun e => ahd E g e) l = 0 := cut_at (Nat.zero_le _) g3 (Or.inl rfl)
            refine ih _ (by omega) (g + 1) _ rfl (by omega) (fun b x y => by rw [zup_ne _ _ _ _ x, zup_ne _ _ _ _ y]; exact hG1 b x y) (fun k hk => by rw [zup_nk _ _ hk, zup_ne _ _ _ _ (by decide)]; exact hG2 k hk) ?_ ?_
            · rw [zup_eq, eo, len_ins]
              omega
            · intro j v hv
              rw [eo, ins_get, hcut, if_neg (by omega)] at hv
              rw [zup_ne _ _ _ _ (by decide), zup_at]
              by_cases e : j = 0
              · rw [if_pos e] at hv
                rw [if_pos ⟨rfl, rfl, by omega⟩]
                exact Option.some.inj hv
              · rw [if_neg e] at hv
                rw [if_neg (by rintro ⟨-, -, q⟩; omega)]
                have := g2 (j - 1) v (by omega) hv
                have e3 : ((j - 1 : Nat) : Int) + 1 = j := by omega
                rw [e3] at this
                exact this
          | succ i ihi =>
            intro J2 hi hG1 hG2 hl2 g1 g2 g3
            have hC2 : CR s J2 E p [] := cr_eq hC (hG1 _ (by decide) (by decide)) (hG1 _ (by decide) (by decide)) (hG1 _ (by decide) (by decide)) (hG1 _ (by decide) (by decide)) (hG1 _ (by decide) (by decide))
            have hli : i < l.length := by omega
            have hx := hmem _ (List.getElem_mem hli)
            have ea : J2 133 0 (i : Int) = l[i] := g1 i _ (by omega) (List.getElem?_eq_getElem hli)
            have e3 : ((i + 1 : Nat) : Int) - 1 = i := by omega
            have e4 : ((i + 1 : Nat) : Int) + (-1) = i := by omega
            refine z11_36 hL ⟨⟨by omega, by omega⟩, fun q => by omega, fun _ => ⟨by omega, by omega, ?_⟩⟩
            rw [e3, e4, ea]
            refine c3 hL h (by omega) hO hT hp hC2 (by omega) hc hgp hx.1 (by omega) hx.2.2 hh (by simp) (by simp) (zaI_of ⟨zin_zb _, fun z => ⟨by omega, by omega, ?_⟩, fun z => ⟨by omega, by omega, by omega, by omega, ?_⟩⟩)
            · rw [hl2, ← e1]
              have hcut : cut (fun e => ahd E g e) l = i + 1 := cut_at hi g3 (Or.inr ⟨l[i], List.getElem?_eq_getElem hli, zb_0.mp z⟩)
              refine ih _ (by omega) (g + 1) _ rfl (by omega) (fun b x y => by rw [zup_ne _ _ _ _ x, zup_ne _ _ _ _ y]; exact hG1 b x y) (fun k hk => by rw [zup_nk _ _ hk, zup_ne _ _ _ _ (by decide)]; exact hG2 k hk) ?_ ?_
              · rw [zup_eq, eo, len_ins]
                omega
              · intro j v hv
                rw [eo, ins_get, hcut] at hv
                rw [zup_ne _ _ _ _ (by decide), zup_at]
                by_cases e5 : j < i + 1
                · rw [if_pos e5] at hv
                  rw [if_neg (by rintro ⟨-, -, q⟩; omega)]
                  exact g1 j v e5 hv
                · rw [if_neg e5] at hv
                  by_cases e6 : j = i + 1
                  · rw [if_pos e6] at hv
                    rw [if_pos ⟨rfl, rfl, by omega⟩]
                    exact Option.some.inj hv
                  · rw [if_neg e6] at hv
                    rw [if_neg (by rintro ⟨-, -, q⟩; omega)]
                    have := g2 (j - 1) v (by omega) hv
                    have e7 : ((j - 1 : Nat) : Int) + 1 = j := by omega
                    rw [e7] at this
                    exact this
            · refine ihi _ (by omega) (fun b x y => by rw [zup_ne _ _ _ _ y]; exact hG1 b x y) (fun k hk => by rw [zup_ne _ _ _ _ (by decide)]; exact hG2 k hk) (by rw [zup_ne _ _ _ _ (by decide)]; exact hl2) (fun j v hj hv => ?_) (fun j v hj hv => ?_) ?_
              · rw [zup_at, if_neg (by rintro ⟨-, -, q⟩; omega)]
                exact g1 j v (by omega) hv
              · rw [zup_at]
                by_cases e5 : j = i
                · subst e5
                  rw [if_pos ⟨rfl, rfl, by omega⟩, ea]
                  rw [List.getElem?_eq_getElem hli] at hv
                  exact Option.some.inj hv
                · rw [if_neg (by rintro ⟨-, -, q⟩; omega)]
                  exact g2 j v (by omega) hv
              · rw [List.drop_eq_getElem_cons hli, List.all_cons, zb_1.mp z]
                exact g3
        refine inner l.length J1 (Nat.le_refl _) hF1 hF2 hlen (fun j v _ hv => har j v hv) (fun j v hj hv => ?_) ?_
        · have := (List.getElem?_eq_some_iff.mp hv).1
          omega
        · rw [List.drop_length]
          rfl
    · have e : g = (s 18 0 6).toNat := by omega
      subst e
      exact ⟨⟨by omega, by omega⟩, ⟨by omega, by omega⟩, fun _ => hQ J1 hF1 hF2 hlen har, fun _ => by omega⟩
  refine z11 hL (key _ 0 _ rfl (by omega) (fun b x y => zup_ne _ _ _ _ x) (fun k hk => zup_nk _ _ hk) ?_ (fun j v hv => by cases hv))
  rw [zup_eq]
  rfl
