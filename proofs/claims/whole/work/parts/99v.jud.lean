/-! JUDGING A TRAIN: pure -/
/-- carriages of a part of a row -/
def lns (s : zJ) (a : Int → Int) (fr to : Int) : Int := sm (fun i => if fr ≤ i then s 25 0 (a i) else 0) to.toNat
def sgP (a : Int → Int) (fr to k : Int) : Bool := decide (0 < cnt (fun i => decide (fr ≤ i) && decide (a i = k)) to.toNat)
theorem sgP_t {a : Int → Int} {fr to k : Int} (f0 : 0 ≤ fr) : sgP a fr to k = true ↔ ∃ i, fr ≤ i ∧ i < to ∧ a i = k := by
  unfold sgP
  rw [decide_eq_true_iff, cnt_pos]
  constructor
  · rintro ⟨i, h0, h1, h2⟩
    rw [Bool.and_eq_true, decide_eq_true_iff, decide_eq_true_iff] at h2
    exact ⟨i, h2.1, by omega, h2.2⟩
  · rintro ⟨i, h0, h1, h2⟩
    exact ⟨i, by omega, by omega, by rw [decide_eq_true h0, decide_eq_true h2]; rfl⟩
def sgb (a : Int → Int) (fr to : Int) : Int := bs (sgP a fr to) 7
theorem sgb_lt (a : Int → Int) (fr to : Int) : 0 ≤ sgb a fr to ∧ sgb a fr to < 128 := by
  have := bs_lt (sgP a fr to) 7
  unfold sgb
  omega
def Inj (a : Int → Int) (fr to : Int) : Prop := ∀ i j : Int, fr ≤ i → i < j → j < to → a i ≠ a j
theorem inj_wk {a : Int → Int} {fr to fr' to' : Int} (h : Inj a fr to) (h1 : fr ≤ fr') (h2 : to' ≤ to) : Inj a fr' to' := fun i j x y z => h i j (by omega) y (by omega)
theorem inj_eq {a : Int → Int} {fr to : Int} (h : Inj a fr to) {i j : Int} (i0 : fr ≤ i) (i1 : i < to) (j0 : fr ≤ j) (j1 : j < to) (e : a i = a j) : i = j := by
  rcases Int.lt_trichotomy i j with z | z | z
  · exact absurd e (h i j i0 z j1)
  · exact z
  · exact absurd e.symm (h j i j0 z i1)
theorem ldf_sgb {s : zJ} (h : LW s) {a : Int → Int} {fr : Int} (f0 : 0 ≤ fr) : ∀ (n : Nat) (to : Int), to = fr + n → Inj a fr to → (∀ i : Int, fr ≤ i → i < to → 0 ≤ a i ∧ a i < s 18 0 6) → ldf s (sgb a fr to) = lns s a fr to
  | 0, to, e, _, _ => by
    have hn := lw_n h
    have e1 : lns s a fr to = 0 := sm_zero fun i i0 i1 => if_neg (by omega)
    rw [e1]
    unfold ldf
    refine sm_zero fun k k0 k1 => if_neg fun z => ?_
    unfold sgb at z
    rw [bt_bs _ _ k k0, Bool.and_eq_true, sgP_t f0] at z
    obtain ⟨_, i, i0, i1, _⟩ := z
    omega
  | n + 1, to, e, hi, hr => by
    have hn := lw_n h
    have ih := ldf_sgb h f0 n (fr + n) rfl (inj_wk hi (Int.le_refl _) (by omega)) fun i i0 i1 => hr i i0 (by omega)
    have et : to = (fr + n) + 1 := by omega
    have hb := hr (fr + n) (by omega) (by omega)
    have e1 : lns s a fr to = lns s a fr (fr + n) + s 25 0 (a (fr + n)) := by
      unfold lns
      rw [et, sm_next (by omega), if_pos (by omega)]
    rw [e1, ← ih]
    unfold ldf
    have e2 : s 25 0 (a (fr + n)) = sm (fun k => if k = a (fr + n) then s 25 0 k else 0) (s 18 0 6).toNat := by
      rw [sm_one hb.1 (by omega) fun i _ _ hi => if_neg hi, if_pos rfl]
    rw [e2, ← sm_add]
    refine sm_cong fun k k0 k1 => ?_
    have hk : bt (sgb a fr to) k = (bt (sgb a fr (fr + n)) k || decide (k = a (fr + n))) := by
      unfold sgb
      rw [bt_bs _ _ k k0, bt_bs _ _ k k0, decide_eq_true (p := k < ((7 : Nat) : Int)) (by omega), Bool.true_and, Bool.true_and, Bool.eq_iff_iff, Bool.or_eq_true, sgP_t f0, sgP_t f0, decide_eq_true_iff]
      constructor
      · rintro ⟨i, i0, i1, i2⟩
        by_cases q : i = fr + n
        · right
          rw [← q, i2]
        · exact Or.inl ⟨i, i0, by omega, i2⟩
      · rintro (⟨i, i0, i1, i2⟩ | q)
        · exact ⟨i, i0, by omega, i2⟩
        · exact ⟨fr + n, by omega, by omega, q.symm⟩
    rw [hk]
    by_cases q : k = a (fr + n)
    · have hno : bt (sgb a fr (fr + n)) k = false := by
        unfold sgb
        rw [bt_bs _ _ k k0, ← Bool.not_eq_true, Bool.and_eq_true, sgP_t f0]
        rintro ⟨_, i, i0, i1, i2⟩
        exact hi i (fr + n) i0 i1 (by omega) (by rw [i2, q])
      rw [hno, decide_eq_true q, if_pos q]
      simp
    · rw [decide_eq_false q, if_neg q, Bool.or_false, Int.add_zero]
theorem lns_rng {s : zJ} (h : LW s) {a : Int → Int} {fr to : Int} (f0 : 0 ≤ fr) (t7 : to ≤ 7) (hr : ∀ i : Int, fr ≤ i → i < to → 0 ≤ a i ∧ a i < s 18 0 6) : 0 ≤ lns s a fr to ∧ lns s a fr to ≤ 105 := by
  have := sm_nn (f := fun i => if fr ≤ i then s 25 0 (a i) else 0) (c := 15) (n := to.toNat) fun i i0 i1 => by
    by_cases q : fr ≤ i
    · rw [if_pos q]
      have h1 := hr i q (by omega)
      have := lw_k h h1.1 h1.2
      omega
    · rw [if_neg q]
      omega
  unfold lns
  omega
def tke (tk e : Int) : Int := zor tk (1 * 2 ^ e.toNat)
theorem tke_ok {tk e : Int} (t0 : 0 ≤ tk) (t1 : tk < 256) (e0 : 0 ≤ e) (e1 : e < 8) : (0 ≤ tke tk e ∧ tke tk e < 256) ∧ ∀ k : Int, 0 ≤ k → bt (tke tk e) k = (bt tk k || decide (e = k)) := by
  have := bt_or1 (t := tk) (k := e) (n := 8) (by decide) t0 t1 e0 e1
  exact this
theorem frE_rng {s : zJ} (h : LW s) (p n x : Int) : frE s p n x = -1 ∨ (0 ≤ frE s p n x ∧ frE s p n x < 8) := by
  have hn := lw_n h
  unfold frE
  rcases fnd_is (fun e => decide (s 28 0 e = p) && !bt x e && decide (n ≤ s 29 0 e)) (s 18 0 11).toNat with ⟨z, _⟩ | ⟨z, z1, _⟩
  · exact Or.inl z
  · exact Or.inr ⟨z, by omega⟩
def jpre (l : List Int) (R : Option (List Int) × Int) : Option (List Int) × Int := (R.1.map fun es => l ++ es, R.2)
theorem jpre_nil (R : Option (List Int) × Int) : jpre [] R = R := by
  obtain ⟨o, t⟩ := R
  cases o <;> rfl
theorem jpre_app (l r : List Int) (R : Option (List Int) × Int) : jpre (l ++ r) R = jpre l (jpre r R) := by
  obtain ⟨o, t⟩ := R
  cases o with
  | none => rfl
  | some es =>
    unfold jpre
    simp
/-- engines of the groups behind the first -/
def jeg (s : zJ) (p : Int) (ld : Int → Int → Int) : List Int → Int → Int → Option (List Int) × Int
  | [], _, tk => (some [], tk)
  | b :: r, st, tk => if frE s p (ld b (hdo r st)) tk = -1 then (none, tk) else jpre [frE s p (ld b (hdo r st)) tk] (jeg s p ld r st (tke tk (frE s p (ld b (hdo r st)) tk)))
theorem jeg_ok {s : zJ} (h : LW s) (p : Int) (ld : Int → Int → Int) : ∀ (gs : List Int) (st tk : Int), 0 ≤ tk → tk < 256 → (0 ≤ (jeg s p ld gs st tk).2 ∧ (jeg s p ld gs st tk).2 < 256) ∧ ∀ es, (jeg s p ld gs st tk).1 = some es → es.length = gs.length ∧ ∀ e ∈ es, 0 ≤ e ∧ e < 8
  | [], st, tk, t0, t1 => ⟨⟨t0, t1⟩, fun es he => by
      have e : es = [] := (Option.some.inj he).symm
      rw [e]
      exact ⟨rfl, fun e he => by cases he⟩⟩
  | b :: r, st, tk, t0, t1 => by
    rw [jeg]
    by_cases q : frE s p (ld b (hdo r st)) tk = -1
    · rw [if_pos q]
      exact ⟨⟨t0, t1⟩, fun es he => by cases he⟩
    · rw [if_neg q]
      have hf : 0 ≤ frE s p (ld b (hdo r st)) tk ∧ frE s p (ld b (hdo r st)) tk < 8 := (frE_rng h p (ld b (hdo r st)) tk).resolve_left q
      have ht := (tke_ok t0 t1 hf.1 hf.2).1
      obtain ⟨i1, i2⟩ := jeg_ok h p ld r st (tke tk (frE s p (ld b (hdo r st)) tk)) ht.1 ht.2
      refine ⟨i1, fun es he => ?_⟩
      unfold jpre at he
      cases ho : (jeg s p ld r st (tke tk (frE s p (ld b (hdo r st)) tk))).1 with
      | none =>
        rw [ho] at he
        cases he
      | some es2 =>
        rw [ho] at he
        have e : es = frE s p (ld b (hdo r st)) tk :: es2 := (Option.some.inj he).symm
        obtain ⟨j1, j2⟩ := i2 es2 ho
        rw [e]
        refine ⟨by rw [List.length_cons, List.length_cons, j1], fun x hx => ?_⟩
        rcases List.mem_cons.mp hx with z | z
        · rw [z]
          exact hf
        · exact j2 x z
abbrev Wr : Type := Int × Int × Int × Int
/-- engines at a place -/
def jhe (s : zJ) (a : Int → Int) (p lo hi mi en tk : Int) (gs : List Int) (st : Int) : Sum (Int × Int) (List It × Int × Int × Int) :=
  if p = 0 ∧ frE s 0 (lns s a lo hi) tk = -1 then .inl (100, tk) else
  match jeg s p (lns s a) (gs.drop 1) st (if p = 0 then tke tk (frE s 0 (lns s a lo hi) tk) else tk) with
  | (none, t2) => .inl (100 + p, t2)
  | (some es, t2) => .inr (kdm (ky s a p) (s 20 0) (lat ((if p = 0 then frE s 0 (lns s a lo hi) tk else en) :: es)) mi (if 0 < ncu gs st hi then s 22 0 p else 0) gs st 0, t2, st, if p = 0 then frE s 0 (lns s a lo hi) tk else en)
def jhr (s : zJ) (a : Int → Int) (v : It) (tk : Int) : Sum (Int × Int) (List It × Int × Int × Int) :=
  if s 21 0 v.1 < lns s a v.2.1 v.2.2.1 then .inl (300 + v.1, tk) else
  match spl (ky s a v.1) v.1 v.2.1 v.2.2.1 with
  | none => .inl (200 + v.1, tk)
  | some (gs, st) => if 0 < ncu gs st v.2.2.1 ∧ (isF s v.1 && !bt (s 40 0 10) v.1) = false then .inl (400 + v.1, tk) else jhe s a v.1 v.2.1 v.2.2.1 v.2.2.2.1 v.2.2.2.2 tk gs st
/-- rows one after the other: the error, engines taken, who stays where -/
def jdW (s : zJ) (a : Int → Int) : Nat → List It → Int → Int × Int × List Wr
  | 0, _, tk => (0, tk, [])
  | _ + 1, [], tk => (0, tk, [])
  | n + 1, v :: r, tk => match jhr s a v tk with
    | .inl (e, t2) => (e, t2, [])
    | .inr (ks, t2, st, e0) => ((jdW s a n (ks ++ r) t2).1, (jdW s a n (ks ++ r) t2).2.1, (st, v.2.2.1, v.2.2.2.1, e0) :: (jdW s a n (ks ++ r) t2).2.2)
theorem jhe_err {s : zJ} {a : Int → Int} {p lo hi mi en tk e t2 st : Int} {gs : List Int} (p0 : 0 ≤ p) (h : jhe s a p lo hi mi en tk gs st = .inl (e, t2)) : e = 100 + p := by
  unfold jhe at h
  by_cases q : p = 0 ∧ frE s 0 (lns s a lo hi) tk = -1
  · rw [if_pos q] at h
    have := Sum.inl.inj h
    rw [Prod.mk.injEq] at this
    omega
  · rw [if_neg q] at h
    split at h
    · have := Sum.inl.inj h
      rw [Prod.mk.injEq] at this
      omega
    · cases h
theorem jhr_err {s : zJ} {a : Int → Int} {v : It} {tk e t2 : Int} (p0 : 0 ≤ v.1) (p1 : v.1 < 12) (h : jhr s a v tk = .inl (e, t2)) : 100 ≤ e ∧ e < 412 := by
  unfold jhr at h
  by_cases q : s 21 0 v.1 < lns s a v.2.1 v.2.2.1
  · rw [if_pos q] at h
    have := Sum.inl.inj h
    rw [Prod.mk.injEq] at this
    omega
  · rw [if_neg q] at h
    split at h
    · have := Sum.inl.inj h
      rw [Prod.mk.injEq] at this
      omega
    · rename_i gs st _
      by_cases q2 : 0 < ncu gs st v.2.2.1 ∧ (isF s v.1 && !bt (s 40 0 10) v.1) = false
      · rw [if_pos q2] at h
        have := Sum.inl.inj h
        rw [Prod.mk.injEq] at this
        omega
      · rw [if_neg q2] at h
        have := jhe_err p0 h
        omega
theorem jhe_ok {s : zJ} (h : LW s) {a : Int → Int} {p lo hi mi en tk : Int} {gs : List Int} {st : Int} (t0 : 0 ≤ tk) (t1 : tk < 256) : (∀ e t2, jhe s a p lo hi mi en tk gs st = .inl (e, t2) → 0 ≤ t2 ∧ t2 < 256) ∧ ∀ ks t2 st' e0, jhe s a p lo hi mi en tk gs st = .inr (ks, t2, st', e0) → (0 ≤ t2 ∧ t2 < 256) ∧ st' = st ∧ (-1 ≤ en → en < 8 → -1 ≤ e0 ∧ e0 < 8) ∧ ∃ es : List Int, es.length = (gs.drop 1).length ∧ (∀ e ∈ es, 0 ≤ e ∧ e < 8) ∧ ks = kdm (ky s a p) (s 20 0) (lat (e0 :: es)) mi (if 0 < ncu gs st hi then s 22 0 p else 0) gs st 0 := by
  unfold jhe
  by_cases q : p = 0 ∧ frE s 0 (lns s a lo hi) tk = -1
  · rw [if_pos q]
    refine ⟨fun e t2 hh => ?_, fun ks t2 st' e0 hh => by cases hh⟩
    have := Sum.inl.inj hh
    rw [Prod.mk.injEq] at this
    omega
  · rw [if_neg q]
    have htk : 0 ≤ (if p = 0 then tke tk (frE s 0 (lns s a lo hi) tk) else tk) ∧ (if p = 0 then tke tk (frE s 0 (lns s a lo hi) tk) else tk) < 256 := by
      by_cases qp : p = 0
      · rw [if_pos qp]
        have hf := (frE_rng h 0 (lns s a lo hi) tk).resolve_left fun z => q ⟨qp, z⟩
        exact (tke_ok t0 t1 hf.1 hf.2).1
      · rw [if_neg qp]
        exact ⟨t0, t1⟩
    obtain ⟨j1, j2⟩ := jeg_ok h p (lns s a) (gs.drop 1) st _ htk.1 htk.2
    split
    · rename_i t2 hj
      rw [hj] at j1
      refine ⟨fun e t3 hh => ?_, fun ks t2 st' e0 hh => by cases hh⟩
      have := Sum.inl.inj hh
      rw [Prod.mk.injEq] at this
      rw [← this.2]
      exact j1
    · rename_i es t2 hj
      rw [hj] at j1 j2
      refine ⟨fun e t3 hh => (by cases hh), fun ks t3 st' e0 hh => ?_⟩
      have hh := Sum.inr.inj hh
      rw [Prod.mk.injEq, Prod.mk.injEq, Prod.mk.injEq] at hh
      obtain ⟨g1, g2, g3, g4⟩ := hh
      obtain ⟨k1, k2⟩ := j2 es rfl
      refine ⟨by rw [← g2]; exact j1, g3.symm, fun n0 n1 => ?_, es, k1, k2, by rw [← g1, ← g4]⟩
      rw [← g4]
      by_cases qp : p = 0
      · rw [if_pos qp]
        have hf := (frE_rng h 0 (lns s a lo hi) tk).resolve_left fun z => q ⟨qp, z⟩
        omega
      · rw [if_neg qp]
        exact ⟨n0, n1⟩
theorem jhr_ok {s : zJ} (h : LW s) {a : Int → Int} {v : It} {tk : Int} (t0 : 0 ≤ tk) (t1 : tk < 256) (hS : Seg s a v.1 v.2.1 v.2.2.1) : (∀ e t2, jhr s a v tk = .inl (e, t2) → 0 ≤ t2 ∧ t2 < 256) ∧ ∀ ks t2 st e0, jhr s a v tk = .inr (ks, t2, st, e0) → (0 ≤ t2 ∧ t2 < 256) ∧ (-1 ≤ v.2.2.2.2 → v.2.2.2.2 < 8 → -1 ≤ e0 ∧ e0 < 8) ∧ ∃ gs es : List Int, spl (ky s a v.1) v.1 v.2.1 v.2.2.1 = some (gs, st) ∧ es.length = (gs.drop 1).length ∧ (∀ e ∈ es, 0 ≤ e ∧ e < 8) ∧ ks = kdm (ky s a v.1) (s 20 0) (lat (e0 :: es)) v.2.2.2.1 (if 0 < ncu gs st v.2.2.1 then s 22 0 v.1 else 0) gs st 0 := by
  unfold jhr
  by_cases q : s 21 0 v.1 < lns s a v.2.1 v.2.2.1
  · rw [if_pos q]
    refine ⟨fun e t2 hh => ?_, fun ks t2 st' e0 hh => by cases hh⟩
    have := Sum.inl.inj hh
    rw [Prod.mk.injEq] at this
    omega
  · rw [if_neg q]
    split
    · refine ⟨fun e t2 hh => ?_, fun ks t2 st' e0 hh => by cases hh⟩
      have := Sum.inl.inj hh
      rw [Prod.mk.injEq] at this
      omega
    · rename_i gs st hsp
      by_cases q2 : 0 < ncu gs st v.2.2.1 ∧ (isF s v.1 && !bt (s 40 0 10) v.1) = false
      · rw [if_pos q2]
        refine ⟨fun e t2 hh => ?_, fun ks t2 st' e0 hh => by cases hh⟩
        have := Sum.inl.inj hh
        rw [Prod.mk.injEq] at this
        omega
      · rw [if_neg q2]
        obtain ⟨k1, k2⟩ := jhe_ok h (a := a) (p := v.1) (lo := v.2.1) (hi := v.2.2.1) (mi := v.2.2.2.1) (en := v.2.2.2.2) (gs := gs) (st := st) t0 t1
        refine ⟨k1, fun ks t2 st' e0 hh => ?_⟩
        obtain ⟨m1, m2, m3, es, m4, m5, m6⟩ := k2 ks t2 st' e0 hh
        subst m2
        exact ⟨m1, m3, gs, es, hsp, m4, m5, m6⟩
/-- what a place sends on is less -/
theorem jhr_ks {s : zJ} (h : LW s) {a : Int → Int} {v : It} {tk t2 st e0 : Int} {ks : List It} (t0 : 0 ≤ tk) (t1 : tk < 256) (hS : Seg s a v.1 v.2.1 v.2.2.1) (hj : jhr s a v tk = .inr (ks, t2, st, e0)) : Its s a ks ∧ mus ks + 1 ≤ (12 - v.1) * (v.2.2.1 - v.2.1) ∧ lens ks ≤ v.2.2.1 - v.2.1 ∧ (v.2.1 ≤ st ∧ st ≤ v.2.2.1) ∧ ∀ w ∈ ks, v.2.1 ≤ w.2.1 ∧ w.2.2.1 ≤ st := by
  have hn := lw_n h
  obtain ⟨_, _, gs, es, hsp, _, _, hk⟩ := (jhr_ok h t0 t1 hS).2 ks t2 st e0 hj
  obtain ⟨⟨p0, p1⟩, ⟨l0, l1, l2⟩, hrow⟩ := id hS
  obtain ⟨hc, hlo, hst, _⟩ := (spl_ok (f := ky s a v.1) p0 l1 fun i h0 h1 => (ky_rng h hS h0 h1).1).2 gs st hsp
  have hcl := chn_len hc
  obtain ⟨i1, i2, i3⟩ := kdm_ok h hS (s 20 0) (lat (e0 :: es)) v.2.2.2.1 (if 0 < ncu gs st v.2.2.1 then s 22 0 v.1 else 0) gs st 0 hc (by omega)
  rw [← hk] at i1 i2 i3
  have hmm : (11 - v.1) * (st - hdo gs st) ≤ (11 - v.1) * (v.2.2.1 - v.2.1) := Int.mul_le_mul_of_nonneg_left (by omega) (by omega)
  have hm2 : (12 - v.1) * (v.2.2.1 - v.2.1) = (11 - v.1) * (v.2.2.1 - v.2.1) + (v.2.2.1 - v.2.1) := by
    have e : 12 - v.1 = (11 - v.1) + 1 := by omega
    rw [e, Int.add_mul, Int.one_mul]
  refine ⟨i1, by omega, by omega, ⟨by omega, hst⟩, fun w hw => ?_⟩
  rw [hk] at hw
  obtain ⟨b, e, h1, h2, h3, h4, h5, h6, h7, h8, h9, h10⟩ := kdm_mem _ _ _ _ _ gs st 0 hc w hw
  omega
theorem its_app {s : zJ} {a : Int → Int} {l r : List It} (h1 : Its s a l) (h2 : Its s a r) : Its s a (l ++ r) := fun v hv => by
  rcases List.mem_append.mp hv with z | z
  · exact h1 v z
  · exact h2 v z
theorem its_tl {s : zJ} {a : Int → Int} {v : It} {r : List It} (h : Its s a (v :: r)) : Its s a r := fun w hw => h w (List.mem_cons_of_mem _ hw)
theorem mus_nil {s : zJ} (hW : LW s) {a : Int → Int} {l : List It} (h : Its s a l) (h0 : mus l ≤ 0) : l = [] := by
  have h1 := lens_ge h
  have h2 := mus_ge hW h
  cases l with
  | nil => rfl
  | cons v r =>
    rw [List.length_cons] at h1
    omega
theorem jdW_nil (s : zJ) (a : Int → Int) (n : Nat) (tk : Int) : jdW s a n [] tk = (0, tk, []) := by cases n <;> rfl
theorem mus_0 {s : zJ} (hW : LW s) {a : Int → Int} {l : List It} (h : Its s a l) : 0 ≤ mus l := by
  have h1 := lens_ge h
  have h2 := mus_ge hW h
  omega
theorem jdW_fuel {s : zJ} (h : LW s) {a : Int → Int} : ∀ (n m : Nat) (l : List It) (tk : Int), 0 ≤ tk → tk < 256 → Its s a l → mus l ≤ n → mus l ≤ m → jdW s a n l tk = jdW s a m l tk := by
  intro n
  induction n with
  | zero =>
    intro m l tk t0 t1 hi h1 h2
    rw [mus_nil h hi (by omega), jdW_nil, jdW_nil]
  | succ n ih =>
    intro m l tk t0 t1 hi h1 h2
    cases l with
    | nil => rw [jdW_nil, jdW_nil]
    | cons v r =>
      cases m with
      | zero =>
        have := mus_nil h hi (by omega)
        cases this
      | succ m =>
        have hS := hi v List.mem_cons_self
        have hml : mus (v :: r) = (12 - v.1) * (v.2.2.1 - v.2.1) + mus r := rfl
        rw [jdW, jdW]
        cases hj : jhr s a v tk with
        | inl x => rfl
        | inr x =>
          obtain ⟨ks, t2, st, e0⟩ := x
          have h3 := jhr_ks h t0 t1 hS hj
          have h4 := ((jhr_ok h t0 t1 hS).2 ks t2 st e0 hj).1
          have := ih m (ks ++ r) t2 h4.1 h4.2 (its_app h3.1 (its_tl hi)) (by rw [mus_app]; omega) (by rw [mus_app]; omega)
          simp only [this]
/-- one list behind the other -/
theorem jdW_app {s : zJ} (h : LW s) {a : Int → Int} : ∀ (n : Nat) (l r : List It) (tk : Int), 0 ≤ tk → tk < 256 → Its s a l → Its s a r → mus l + mus r ≤ n → ((jdW s a n l tk).1 ≠ 0 → (jdW s a n (l ++ r) tk).1 = (jdW s a n l tk).1 ∧ (jdW s a n (l ++ r) tk).2.1 = (jdW s a n l tk).2.1) ∧ ((jdW s a n l tk).1 = 0 → (jdW s a n (l ++ r) tk).1 = (jdW s a n r (jdW s a n l tk).2.1).1 ∧ (jdW s a n (l ++ r) tk).2.1 = (jdW s a n r (jdW s a n l tk).2.1).2.1 ∧ (jdW s a n (l ++ r) tk).2.2 = (jdW s a n l tk).2.2 ++ (jdW s a n r (jdW s a n l tk).2.1).2.2) ∧ (0 ≤ (jdW s a n l tk).2.1 ∧ (jdW s a n l tk).2.1 < 256) := by
  intro n
  induction n with
  | zero =>
    intro l r tk t0 t1 hl hr hm
    have m1 := mus_0 h hl
    have m2 := mus_0 h hr
    rw [mus_nil h hl (by omega), mus_nil h hr (by omega)]
    exact ⟨fun z => absurd rfl z, fun _ => ⟨rfl, rfl, rfl⟩, t0, t1⟩
  | succ n ih =>
    intro l r tk t0 t1 hl hr hm
    cases l with
    | nil =>
      rw [jdW_nil, List.nil_append]
      exact ⟨fun z => absurd rfl z, fun _ => ⟨rfl, rfl, rfl⟩, t0, t1⟩
    | cons v l2 =>
      have hS := hl v List.mem_cons_self
      have hml : mus (v :: l2) = (12 - v.1) * (v.2.2.1 - v.2.1) + mus l2 := rfl
      have m2 := mus_0 h hr
      have m3 := mus_0 h (its_tl hl)
      rw [List.cons_append, jdW, jdW]
      cases hj : jhr s a v tk with
      | inl x =>
        obtain ⟨e, t2⟩ := x
        have h4 := (jhr_ok h t0 t1 hS).1 e t2 hj
        have h5 := jhr_err hS.1.1 (by have := lw_n h; have := hS.1.2; omega) hj
        show (e ≠ 0 → e = e ∧ t2 = t2) ∧ (e = 0 → _) ∧ _
        exact ⟨fun _ => ⟨rfl, rfl⟩, fun z => by omega, h4⟩
      | inr x =>
        obtain ⟨ks, t2, st, e0⟩ := x
        have h3 := jhr_ks h t0 t1 hS hj
        have h4 := ((jhr_ok h t0 t1 hS).2 ks t2 st e0 hj).1
        obtain ⟨i1, i2, i3⟩ := ih (ks ++ l2) r t2 h4.1 h4.2 (its_app h3.1 (its_tl hl)) hr (by rw [mus_app]; omega)
        simp only
        rw [← List.append_assoc]
        refine ⟨i1, fun z => ?_, i3⟩
        obtain ⟨k1, k2, k3⟩ := i2 z
        have hf := jdW_fuel h (a := a) n (n + 1) r _ i3.1 i3.2 hr (by
          have m4 := mus_0 h h3.1
          have e1 : ((n + 1 : Nat) : Int) = n + 1 := by omega
          omega) (by
          have m4 := mus_0 h h3.1
          omega)
        rw [← hf]
        exact ⟨k1, k2, by rw [k3, List.cons_append]⟩
theorem jdW_rng {s : zJ} (h : LW s) {a : Int → Int} : ∀ (n : Nat) (l : List It) (tk : Int), 0 ≤ tk → tk < 256 → Its s a l → (∀ v ∈ l, 0 ≤ v.2.2.2.1 ∧ v.2.2.2.1 ≤ 1439 + 660 * v.1 ∧ -1 ≤ v.2.2.2.2 ∧ v.2.2.2.2 < 8) → (0 ≤ (jdW s a n l tk).1 ∧ (jdW s a n l tk).1 < 412) ∧ (0 ≤ (jdW s a n l tk).2.1 ∧ (jdW s a n l tk).2.1 < 256) ∧ ∀ w ∈ (jdW s a n l tk).2.2, 0 ≤ w.2.2.1 ∧ w.2.2.1 ≤ 10000 ∧ -1 ≤ w.2.2.2 ∧ w.2.2.2 < 8 := by
  have hn := lw_n h
  intro n
  induction n with
  | zero =>
    intro l tk t0 t1 hi hv
    exact ⟨⟨Int.le_refl 0, by show (0 : Int) < 412; decide⟩, ⟨t0, t1⟩, fun w hw => by cases hw⟩
  | succ n ih =>
    intro l tk t0 t1 hi hv
    cases l with
    | nil => exact ⟨⟨Int.le_refl 0, by show (0 : Int) < 412; decide⟩, ⟨t0, t1⟩, fun w hw => by cases hw⟩
    | cons v r =>
      have hS := hi v List.mem_cons_self
      have hvv := hv v List.mem_cons_self
      rw [jdW]
      cases hj : jhr s a v tk with
      | inl x =>
        obtain ⟨e, t2⟩ := x
        have h4 := (jhr_ok h t0 t1 hS).1 e t2 hj
        have h5 := jhr_err hS.1.1 (by have := hS.1.2; omega) hj
        exact ⟨⟨by show 0 ≤ e; omega, by show e < 412; omega⟩, h4, fun w hw => by cases hw⟩
      | inr x =>
        obtain ⟨ks, t2, st, e0⟩ := x
        have h3 := jhr_ks h t0 t1 hS hj
        obtain ⟨h4, h6, gs, es, hsp, hel, hes, hk⟩ := (jhr_ok h t0 t1 hS).2 ks t2 st e0 hj
        have h7 := h6 hvv.2.2.1 hvv.2.2.2
        obtain ⟨⟨p0, p1⟩, ⟨l0, l1, l2⟩, hrow⟩ := id hS
        obtain ⟨hc, hlo, hst, _⟩ := (spl_ok (f := ky s a v.1) p0 l1 fun i h0 h1 => (ky_rng h hS h0 h1).1).2 gs st hsp
        have hcl := chn_len hc
        have hp := lw_p h p0 p1
        have kb : ∀ (gs' : List Int) (j : Nat), gs.length = j + gs'.length → Chn (ky s a v.1) v.1 v.2.2.1 gs' st → v.2.1 ≤ hdo gs' st → ∀ w ∈ kdm (ky s a v.1) (s 20 0) (lat (e0 :: es)) v.2.2.2.1 (if 0 < ncu gs st v.2.2.1 then s 22 0 v.1 else 0) gs' st j, 0 ≤ w.2.2.2.1 ∧ w.2.2.2.1 ≤ 1439 + 660 * w.1 ∧ -1 ≤ w.2.2.2.2 ∧ w.2.2.2.2 < 8 := by
          intro gs'
          induction gs' with
          | nil =>
            intro j _ _ _ w hw
            cases hw
          | cons b r2 ihk =>
            intro j hjl hcn hle w hw
            obtain ⟨g1, g2, g3, g4, g5, g6⟩ := hcn
            have hle2 : v.2.1 ≤ b := hle
            rw [kdm] at hw
            rw [List.length_cons] at hjl
            rcases List.mem_cons.mp hw with z | z
            · have hkr := ky_rng h hS hle2 (show b < v.2.2.1 by omega)
              have hkk := hkr.2.2.2.2 g4
              have hp2 := lw_p h hkr.1 hkr.2.1
              rw [z]
              have hgap : 0 ≤ (if 0 < ncu gs st v.2.2.1 then s 22 0 v.1 else 0) ∧ (if 0 < ncu gs st v.2.2.1 then s 22 0 v.1 else 0) ≤ 60 := by
                split <;> omega
              generalize (if 0 < ncu gs st v.2.2.1 then s 22 0 v.1 else 0) = gap at hgap
              have hm1 : 0 ≤ gap * ((j : Int) + 1) := Int.mul_nonneg hgap.1 (by omega)
              have hm2 : gap * ((j : Int) + 1) ≤ 60 * 7 := Int.mul_le_mul hgap.2 (by omega) (by omega) (by omega)
              refine ⟨?_, ?_, ?_⟩
              · show 0 ≤ v.2.2.2.1 + gap * ((j : Int) + 1) + s 20 0 (ky s a v.1 b)
                omega
              · show v.2.2.2.1 + gap * ((j : Int) + 1) + s 20 0 (ky s a v.1 b) ≤ 1439 + 660 * ky s a v.1 b
                omega
              · show -1 ≤ lat (e0 :: es) j ∧ lat (e0 :: es) j < 8
                have hmem : lat (e0 :: es) j ∈ e0 :: es := lat_mem (by omega) (by
                  rw [List.length_cons, hel, List.length_drop]
                  omega)
                rcases List.mem_cons.mp hmem with y | y
                · rw [y]
                  exact h7
                · have := hes _ y
                  omega
            · have e : (j : Int) + 1 = ((j + 1 : Nat) : Int) := by omega
              rw [e] at z
              exact ihk (j + 1) (by omega) g6 (by omega) w z
        obtain ⟨i1, i2, i3⟩ := ih (ks ++ r) t2 h4.1 h4.2 (its_app h3.1 (its_tl hi)) (fun w hw => by
          rcases List.mem_append.mp hw with z | z
          · rw [hk] at z
            exact kb gs 0 (by omega) hc (by omega) w z
          · exact hv w (List.mem_cons_of_mem _ z))
        refine ⟨i1, i2, fun w hw => ?_⟩
        rcases List.mem_cons.mp hw with z | z
        · rw [z]
          exact ⟨hvv.1, by show v.2.2.2.1 ≤ 10000; omega, h7.1, h7.2⟩
        · exact i3 w z
/-- where those stay that are written -/
theorem jdW_in {s : zJ} (h : LW s) {a : Int → Int} {lo hi : Int} : ∀ (n : Nat) (l : List It) (tk : Int), 0 ≤ tk → tk < 256 → Its s a l → (∀ v ∈ l, lo ≤ v.2.1 ∧ v.2.2.1 ≤ hi) → ∀ w ∈ (jdW s a n l tk).2.2, lo ≤ w.1 ∧ w.2.1 ≤ hi := by
  intro n
  induction n with
  | zero =>
    intro l tk t0 t1 hit hv w hw
    cases hw
  | succ n ih =>
    intro l tk t0 t1 hit hv w hw
    cases l with
    | nil => cases hw
    | cons v r =>
      have hS := hit v List.mem_cons_self
      have hvv := hv v List.mem_cons_self
      rw [jdW] at hw
      cases hj : jhr s a v tk with
      | inl x =>
        obtain ⟨e, t2⟩ := x
        rw [hj] at hw
        cases hw
      | inr x =>
        obtain ⟨ks, t2, st, e0⟩ := x
        rw [hj] at hw
        have h3 := jhr_ks h t0 t1 hS hj
        have h4 := ((jhr_ok h t0 t1 hS).2 ks t2 st e0 hj).1
        rcases List.mem_cons.mp hw with z | z
        · rw [z]
          exact ⟨by show lo ≤ st; omega, hvv.2⟩
        · refine ih (ks ++ r) t2 h4.1 h4.2 (its_app h3.1 (its_tl hit)) (fun w2 hw2 => ?_) w z
          rcases List.mem_append.mp hw2 with y | y
          · have := h3.2.2.2.2 w2 y
            omega
          · exact hv w2 (List.mem_cons_of_mem _ y)
/-- writing -/
def wr1 (c : Int) (a : Int → Int) (w : Wr) (A : Int → Int) : Int → Int := fun k => if sgP a w.1 w.2.1 k = true then c else A k
def wrV (g : Wr → Int) (a : Int → Int) : List Wr → (Int → Int) → (Int → Int)
  | [], A => A
  | w :: r, A => wrV g a r (wr1 (g w) a w A)
theorem wrV_app (g : Wr → Int) (a : Int → Int) : ∀ (l r : List Wr) (A : Int → Int), wrV g a (l ++ r) A = wrV g a r (wrV g a l A)
  | [], _, _ => rfl
  | w :: l, r, A => by rw [List.cons_append, wrV, wrV, wrV_app g a l r]
theorem wr1_comm {a : Int → Int} {lo hi m : Int} (l0 : 0 ≤ lo) (hi' : Inj a lo hi) {w w' : Wr} (h1 : m ≤ w.1) (h2 : w.2.1 ≤ hi) (h3 : lo ≤ w'.1) (h4 : w'.2.1 ≤ m) (m0 : lo ≤ m) (c c' : Int) (A : Int → Int) : wr1 c a w (wr1 c' a w' A) = wr1 c' a w' (wr1 c a w A) := by
  funext k
  unfold wr1
  by_cases q : sgP a w.1 w.2.1 k = true
  · by_cases q2 : sgP a w'.1 w'.2.1 k = true
    · obtain ⟨i, i0, i1, i2⟩ := (sgP_t (by omega)).mp q
      obtain ⟨j, j0, j1, j2⟩ := (sgP_t (by omega)).mp q2
      exact absurd (by rw [j2, i2]) (hi' j i (by omega) (by omega) (by omega))
    · simp only [q, q2, if_true, if_false, Bool.false_eq_true]
  · simp only [q, if_false, Bool.false_eq_true]
theorem wr1_last {a : Int → Int} {lo hi m : Int} (l0 : 0 ≤ lo) (hi' : Inj a lo hi) {w : Wr} (h1 : m ≤ w.1) (h2 : w.2.1 ≤ hi) (m0 : lo ≤ m) (c : Int) (g : Wr → Int) : ∀ (l : List Wr) (A : Int → Int), (∀ w' ∈ l, lo ≤ w'.1 ∧ w'.2.1 ≤ m) → wr1 c a w (wrV g a l A) = wrV g a l (wr1 c a w A)
  | [], _, _ => rfl
  | w' :: l, A, h => by
    have hw := h w' List.mem_cons_self
    rw [wrV, wrV, wr1_last l0 hi' h1 h2 m0 c g l _ fun x hx => h x (List.mem_cons_of_mem _ hx), wr1_comm l0 hi' h1 h2 hw.1 hw.2 m0]
theorem wrV_out {a : Int → Int} {k : Int} (g : Wr → Int) : ∀ (l : List Wr) (A : Int → Int), (∀ w ∈ l, sgP a w.1 w.2.1 k = false) → wrV g a l A k = A k
  | [], _, _ => rfl
  | w :: l, A, h => by
    rw [wrV, wrV_out g l _ fun x hx => h x (List.mem_cons_of_mem _ hx)]
    unfold wr1
    rw [if_neg (by rw [h w List.mem_cons_self]; simp)]
theorem wrV_cong (g : Wr → Int) (a : Int → Int) {k : Int} : ∀ (l : List Wr) (A B : Int → Int), A k = B k → wrV g a l A k = wrV g a l B k
  | [], _, _, h => h
  | w :: l, A, B, h => by
    rw [wrV, wrV]
    refine wrV_cong g a l _ _ ?_
    unfold wr1
    rw [h]
theorem wrV_rng {g : Wr → Int} {a : Int → Int} {x y : Int} : ∀ (l : List Wr) (A : Int → Int), (∀ w ∈ l, x ≤ g w ∧ g w ≤ y) → (∀ k, x ≤ A k ∧ A k ≤ y) → ∀ k, x ≤ wrV g a l A k ∧ wrV g a l A k ≤ y
  | [], _, _, h2, k => h2 k
  | w :: l, A, h1, h2, k => by
    rw [wrV]
    refine wrV_rng l _ (fun w' hw' => h1 w' (List.mem_cons_of_mem _ hw')) (fun k2 => ?_) k
    unfold wr1
    split
    · exact h1 w List.mem_cons_self
    · exact h2 k2
/-- all trains, one after the other -/
def jit (rm lv : Int → Int) (t : Int) : List It := if rm t = 0 then [] else [(0, 0, rm t, lv t, -1)]
def jaS (s : zJ) (rw : Int → Int → Int) (rm lv : Int → Int) : Nat → (Int × (Int → Int)) × ((Int → Int) × (Int → Int))
  | 0 => ((0, fun _ => 0), (fun _ => -1, fun _ => -1))
  | t + 1 => (((jdW s (rw t) 84 (jit rm lv t) (jaS s rw rm lv t).1.1).2.1, dup (jaS s rw rm lv t).1.2 t (jdW s (rw t) 84 (jit rm lv t) (jaS s rw rm lv t).1.1).1), if (jdW s (rw t) 84 (jit rm lv t) (jaS s rw rm lv t).1.1).1 = 0 then (wrV (fun w => w.2.2.1) (rw t) (jdW s (rw t) 84 (jit rm lv t) (jaS s rw rm lv t).1.1).2.2 (jaS s rw rm lv t).2.1, wrV (fun w => w.2.2.2) (rw t) (jdW s (rw t) 84 (jit rm lv t) (jaS s rw rm lv t).1.1).2.2 (jaS s rw rm lv t).2.2) else (fun k => if sgP (rw t) 0 (rm t) k = true then -1 else (jaS s rw rm lv t).2.1 k, fun k => if sgP (rw t) 0 (rm t) k = true then -1 else (jaS s rw rm lv t).2.2 k))
/-- rows that are well -/
def Rws (s : zJ) (rw : Int → Int → Int) (rm lv : Int → Int) (N : Int) : Prop := ∀ t : Int, 0 ≤ t → t < N → 0 ≤ rm t ∧ rm t ≤ 7 ∧ 0 ≤ lv t ∧ lv t ≤ 1439 ∧ Inj (rw t) 0 (rm t) ∧ (0 < rm t → 0 < s 18 0 0) ∧ ∀ i : Int, 0 ≤ i → i < rm t → 0 ≤ rw t i ∧ rw t i < s 18 0 6
theorem rws_its {s : zJ} (h : LW s) {rw : Int → Int → Int} {rm lv : Int → Int} {N : Int} (hR : Rws s rw rm lv N) {t : Int} (t0 : 0 ≤ t) (t1 : t < N) : Its s (rw t) (jit rm lv t) ∧ mus (jit rm lv t) ≤ 84 ∧ lens (jit rm lv t) ≤ 7 ∧ (∀ v ∈ jit rm lv t, 0 ≤ v.2.2.2.1 ∧ v.2.2.2.1 ≤ 1439 + 660 * v.1 ∧ -1 ≤ v.2.2.2.2 ∧ v.2.2.2.2 < 8) ∧ ∀ v ∈ jit rm lv t, 0 ≤ v.2.1 ∧ v.2.2.1 ≤ rm t := by
  obtain ⟨r1, r2, r3, r4, r5, r6, r7⟩ := hR t t0 t1
  unfold jit
  by_cases q : rm t = 0
  · rw [if_pos q]
    exact ⟨fun v hv => (by cases hv), by decide, by decide, fun v hv => (by cases hv), fun v hv => (by cases hv)⟩
  · rw [if_neg q]
    refine ⟨fun v hv => ?_, ?_, ?_, fun v hv => ?_, fun v hv => ?_⟩
    · rw [List.mem_singleton] at hv
      rw [hv]
      refine ⟨⟨Int.le_refl 0, r6 (by omega)⟩, ⟨Int.le_refl 0, by show 0 < rm t; omega, r2⟩, fun i i0 i1 => ?_⟩
      have hr := r7 i i0 i1
      have hk := lw_k h hr.1 hr.2
      exact ⟨hr.1, hr.2, on_zero h _ (by omega) (by omega)⟩
    · show (12 - 0) * (rm t - 0) + 0 ≤ 84
      omega
    · show (rm t - 0) + 0 ≤ 7
      omega
    · rw [List.mem_singleton] at hv
      rw [hv]
      exact ⟨r3, by show lv t ≤ 1439 + 660 * 0; omega, by show (-1 : Int) ≤ -1; decide, by show (-1 : Int) < 8; decide⟩
    · rw [List.mem_singleton] at hv
      rw [hv]
      exact ⟨Int.le_refl 0, Int.le_refl _⟩
theorem jaS_rng {s : zJ} (h : LW s) {rw : Int → Int → Int} {rm lv : Int → Int} {N : Int} (hR : Rws s rw rm lv N) : ∀ t : Nat, (t : Int) ≤ N → (0 ≤ (jaS s rw rm lv t).1.1 ∧ (jaS s rw rm lv t).1.1 < 256) ∧ (∀ k : Int, 0 ≤ k → k < t → 0 ≤ (jaS s rw rm lv t).1.2 k ∧ (jaS s rw rm lv t).1.2 k < 412) ∧ (∀ k : Int, -1 ≤ (jaS s rw rm lv t).2.1 k ∧ (jaS s rw rm lv t).2.1 k ≤ 10000) ∧ ∀ k : Int, -1 ≤ (jaS s rw rm lv t).2.2 k ∧ (jaS s rw rm lv t).2.2 k ≤ 7
  | 0, _ => ⟨⟨Int.le_refl 0, by show (0 : Int) < 256; decide⟩, fun k k0 k1 => by omega, fun k => ⟨by show (-1 : Int) ≤ -1; decide, by show (-1 : Int) ≤ 10000; decide⟩, fun k => ⟨by show (-1 : Int) ≤ -1; decide, by show (-1 : Int) ≤ 7; decide⟩⟩
  | t + 1, ht => by
    obtain ⟨i1, i2, i3, i4⟩ := jaS_rng h hR t (by omega)
    obtain ⟨q1, q2, q3, q4, q5⟩ := rws_its h hR (t := t) (by omega) (by omega)
    obtain ⟨j1, j2, j3⟩ := jdW_rng h (a := rw t) 84 (jit rm lv t) (jaS s rw rm lv t).1.1 i1.1 i1.2 q1 q4
    rw [jaS]
    refine ⟨j2, fun k k0 k1 => ?_, ?_, ?_⟩
    · show 0 ≤ dup (jaS s rw rm lv t).1.2 t _ k ∧ dup (jaS s rw rm lv t).1.2 t _ k < 412
      by_cases e : k = t
      · rw [e, dup_eq]
        exact j1
      · rw [dup_ne _ e]
        exact i2 k k0 (by omega)
    · intro k
      by_cases e : (jdW s (rw t) 84 (jit rm lv t) (jaS s rw rm lv t).1.1).1 = 0
      · simp only [e, if_true]
        exact wrV_rng _ _ (fun w hw => by have := j3 w hw; omega) i3 k
      · simp only [e, if_false]
        split
        · omega
        · exact i3 k
    · intro k
      by_cases e : (jdW s (rw t) 84 (jit rm lv t) (jaS s rw rm lv t).1.1).1 = 0
      · simp only [e, if_true]
        exact wrV_rng _ _ (fun w hw => by have := j3 w hw; omega) i4 k
      · simp only [e, if_false]
        split
        · omega
        · exact i4 k
