/-! THE INTEGER MACHINE: runs of the small machine behind the constructors, told with unbounded integers.
A value: an int, a long, a reference to a cell, a row of an int[][]. A memory: ints J (cell, row or 0, place), longs K (cell, place). -/
abbrev zV : Type := Int ⊕ Int ⊕ Nat ⊕ (Nat × Int)
abbrev zR : Type := Option zV ⊕ Nat
abbrev zJ : Type := Nat → Int → Int → Int
abbrev zK : Type := Nat → Int → Int
abbrev zLs : Type := List (Option zV)
abbrev zi (x : Int) : zV := Sum.inl x
abbrev zl (x : Int) : zV := Sum.inr (Sum.inl x)
abbrev zr (a : Nat) : zV := Sum.inr (Sum.inr (Sum.inl a))
abbrev zw (a : Nat) (i : Int) : zV := Sum.inr (Sum.inr (Sum.inr (a, i)))
def zsh (a : Nat) : Option (Nat × Nat × List (Option Nat)) := match zP[a / 32]? with
  | some c => (match c[a % 32]? with
    | some x => x
    | none => none)
  | none => none
def zfd (a : Nat) : List (Nat × Nat × Nat) → Option (Nat × Nat)
  | [] => none
  | q :: qs => bif Nat.beq q.1 a then some q.2 else zfd a qs
def zdim (a : Nat) : Option (Nat × Nat) := zfd a zD
def zfr (b : Nat) : List (Nat × Nat × Nat) → Nat × Int
  | [] => (b, 0)
  | q :: qs => if q.1 ≤ b ∧ b ≤ q.1 + q.2.1 then (q.1, (b : Int) - q.1 - 1) else zfr b qs
def zrow (b : Nat) : Nat × Int := zfr b zD
def zad (q : Nat × Int) : Nat := match zdim q.1 with
  | some _ => q.1 + (q.2 + 1).toNat
  | none => q.1
def zIf (J : zJ) : Nat → Nat → Int32 := fun b k => Int32.ofInt (J (zrow b).1 (zrow b).2 k)
def zLf (K : zK) : Nat → Nat → Int64 := fun b k => Int64.ofInt (K b k)
def zmem (g : Nat × Nat × Nat) (J : zJ) (K : zK) : mMM := (zS, g.1, g.2.1, g.2.2, zIf J, zLf K)
def ze (v : zV) : Value := match v with
  | .inl x => .int (Int32.ofInt x)
  | .inr (.inl x) => .long (Int64.ofInt x)
  | .inr (.inr (.inl a)) => .ref a
  | .inr (.inr (.inr q)) => .ref (q.1 + 1 + q.2.toNat)
def zls (ls : zLs) : mLS := ls.map (Option.map ze)
def zre (r : zR) : mRes := match r with
  | .inl v => .inl (v.map ze)
  | .inr E => .inr E
/-- a cell's new contents -/
def zset {α : Type} (J : Nat → α) (a : Nat) (f : α) : Nat → α := fun b => if b = a then f else J b
def fup (f : Int → Int → Int) (i k v : Int) : Int → Int → Int := fun j l => if j = i ∧ l = k then v else f j l
def kup (f : Int → Int) (k v : Int) : Int → Int := fun l => if l = k then v else f l
def fcp (f g : Int → Int → Int) (sp dp n : Int) : Int → Int → Int := fun j l => if j = 0 ∧ dp ≤ l ∧ l < dp + n then f 0 (sp + (l - dp)) else g j l
def zup (J : zJ) (a : Nat) (i k v : Int) : zJ := zset J a (fup (J a) i k v)
def zku (K : zK) (a : Nat) (k v : Int) : zK := zset K a (kup (K a) k v)
def zcp (J : zJ) (a b : Nat) (sp dp n : Int) : zJ := zset J b (fcp (J a) (J b) sp dp n)
theorem zup_at (J : zJ) (a : Nat) (i k v : Int) (b : Nat) (j l : Int) : zup J a i k v b j l = if b = a ∧ j = i ∧ l = k then v else J b j l := by
  unfold zup zset fup
  by_cases h : b = a
  · subst h
    simp
  · simp [h]
theorem zku_at (K : zK) (a : Nat) (k v : Int) (b : Nat) (l : Int) : zku K a k v b l = if b = a ∧ l = k then v else K b l := by
  unfold zku zset kup
  by_cases h : b = a
  · subst h
    simp
  · simp [h]
theorem zcp_at (J : zJ) (a b : Nat) (sp dp n : Int) (c : Nat) (j l : Int) : zcp J a b sp dp n c j l = if c = b ∧ j = 0 ∧ dp ≤ l ∧ l < dp + n then J a 0 (sp + (l - dp)) else J c j l := by
  unfold zcp zset fcp
  by_cases h : c = b
  · subst h
    simp
  · simp [h]
/-- locals that are known as far as these say -/
def zsub (ls : zLs) (lsv : mLS) : Prop := lsv.length = ls.length ∧ ∀ (i : Nat) (v : zV), ls[i]? = some (some v) → lsv[i]? = some (some (ze v))
/-- a run from here to its end -/
def zGo (L : Nat) (xs : Nat → Int32) (D k pc : Nat) (ls : zLs) (st : List zV) (J : zJ) (K : zK) (Q : zR → Nat → zJ → zK → Prop) : Prop :=
  ∀ lsv : mLS, zsub ls lsv → ∀ g : Nat × Nat × Nat, ∃ (n : Nat) (r : zR) (e lo : Nat) (J' : zJ) (K' : zK), mx L xs n D k pc lsv (st.map ze) (zmem g J K) = some (zre r, zmem (lo, g.2.1 + e, g.2.2 + 6 * e) J' K') ∧ Q r e J' K'
/-! facts of the shapes -/
def zc1 : Bool := (List.range 576).all fun a => (match zsh a with
  | some c => decide (zS[a]? = some c) && decide (zad (zrow a) = a) && Nat.ble c.2.1 1000 && (bif Nat.beq c.1 4 then true else decide (zrow a = (a, 0)))
  | none => decide (zad (zrow a) = a))
theorem zc1_ok : zc1 = true := by decide +kernel
def zc2 : Bool := zD.all fun q => (match zsh q.1 with
  | some c => Nat.beq c.1 4 && Nat.beq c.2.1 q.2.1 && ((List.range q.2.1).all fun i => decide (m_rf c.2.2 i = some (q.1 + 1 + i)) && decide (zS[q.1 + 1 + i]? = some (0, q.2.2, [])) && decide (zrow (q.1 + 1 + i) = (q.1, (i : Int)))) && Nat.ble q.2.1 1000 && Nat.ble q.2.2 1000 && Nat.ble (q.1 + q.2.1) 575
  | none => false)
theorem zc2_ok : zc2 = true := by decide +kernel
theorem zsh_lt {a : Nat} {c : Nat × Nat × List (Option Nat)} (h : zsh a = some c) : a < 576 := by
  unfold zsh at h
  split at h
  · next x hx =>
    have h1 : a / 32 < zP.length := (List.getElem?_eq_some_iff.mp hx).1
    have h2 : zP.length = 18 := rfl
    omega
  · cases h
theorem zsh_ok {a : Nat} {c : Nat × Nat × List (Option Nat)} (h : zsh a = some c) : zS[a]? = some c ∧ c.2.1 ≤ 1000 ∧ (c.1 ≠ 4 → zrow a = (a, 0)) := by
  have hz := zc1_ok
  unfold zc1 at hz
  rw [List.all_eq_true] at hz
  have h1 := hz a (List.mem_range.mpr (zsh_lt h))
  rw [h] at h1
  simp only [Bool.and_eq_true, decide_eq_true_eq] at h1
  refine ⟨h1.1.1.1, Nat.le_of_ble_eq_true h1.1.2, fun h4 => ?_⟩
  have h5 : Nat.beq c.1 4 = false := by
    cases hb : Nat.beq c.1 4 with
    | true => exact absurd (Nat.eq_of_beq_eq_true hb) h4
    | false => rfl
  rw [h5] at h1
  exact of_decide_eq_true h1.2
theorem zfr_big {b : Nat} : ∀ (l : List (Nat × Nat × Nat)), (∀ q ∈ l, q.1 + q.2.1 < b) → zfr b l = (b, 0) ∧ zfd b l = none
  | [], _ => ⟨rfl, rfl⟩
  | q :: qs, h => by
    have h1 := h q List.mem_cons_self
    obtain ⟨h2, h3⟩ := zfr_big qs fun x hx => h x (List.mem_cons_of_mem _ hx)
    refine ⟨?_, ?_⟩
    · unfold zfr
      rw [if_neg (by omega)]
      exact h2
    · unfold zfd
      have : Nat.beq q.1 b = false := by
        cases hb : Nat.beq q.1 b with
        | true => have := Nat.eq_of_beq_eq_true hb; omega
        | false => rfl
      rw [this]
      exact h3
theorem zfd_mem {a : Nat} {d : Nat × Nat} : ∀ (l : List (Nat × Nat × Nat)), zfd a l = some d → (a, d) ∈ l
  | [], h => by cases h
  | q :: qs, h => by
    unfold zfd at h
    cases hb : Nat.beq q.1 a with
    | true =>
      rw [hb] at h
      have h1 := Nat.eq_of_beq_eq_true hb
      have h2 : q.2 = d := Option.some.inj h
      have : q = (a, d) := by rw [← h1, ← h2]
      rw [this]
      exact List.mem_cons_self
    | false =>
      rw [hb] at h
      exact List.mem_cons_of_mem _ (zfd_mem qs h)
theorem zdim_ok {a n m : Nat} (h : zdim a = some (n, m)) : ∃ c, zsh a = some c ∧ c.1 = 4 ∧ c.2.1 = n ∧ n ≤ 1000 ∧ m ≤ 1000 ∧ ∀ i : Nat, i < n → m_rf c.2.2 i = some (a + 1 + i) ∧ zS[a + 1 + i]? = some (0, m, []) ∧ zrow (a + 1 + i) = (a, (i : Int)) := by
  have hz := zc2_ok
  unfold zc2 at hz
  rw [List.all_eq_true] at hz
  have h1 := hz _ (zfd_mem zD h)
  simp only at h1
  split at h1
  · next c hc =>
    simp only [Bool.and_eq_true, List.all_eq_true, decide_eq_true_eq, List.mem_range] at h1
    obtain ⟨⟨⟨⟨⟨k1, k2⟩, k3⟩, k4⟩, k5⟩, -⟩ := h1
    exact ⟨c, hc, Nat.eq_of_beq_eq_true k1, Nat.eq_of_beq_eq_true k2, Nat.le_of_ble_eq_true k4, Nat.le_of_ble_eq_true k5, fun i hi => ⟨(k3 i hi).1.1, (k3 i hi).1.2, (k3 i hi).2⟩⟩
  · cases h1
theorem zad_zrow (b : Nat) : zad (zrow b) = b := by
  by_cases hb : b < 576
  · have hz := zc1_ok
    unfold zc1 at hz
    rw [List.all_eq_true] at hz
    have h1 := hz b (List.mem_range.mpr hb)
    split at h1
    · simp only [Bool.and_eq_true, decide_eq_true_eq] at h1
      exact h1.1.1.2
    · exact of_decide_eq_true h1
  · have hD : ∀ q ∈ zD, q.1 + q.2.1 < b := by
      intro q hq
      have hz := zc2_ok
      unfold zc2 at hz
      rw [List.all_eq_true] at hz
      have h1 := hz q hq
      split at h1
      · simp only [Bool.and_eq_true] at h1
        have := Nat.le_of_ble_eq_true h1.2
        omega
      · cases h1
    obtain ⟨h1, h2⟩ := zfr_big zD hD
    unfold zad zrow zdim
    rw [h1, h2]
theorem zrow_inj {b b' : Nat} (h : zrow b = zrow b') : b = b' := by
  rw [← zad_zrow b, ← zad_zrow b', h]
theorem zIf_up {J : zJ} {a b : Nat} {i k v : Int} (hb : zrow b = (a, i)) (hk : 0 ≤ k) : m_up (zIf J) b k.toNat (Int32.ofInt v) = zIf (zup J a i k v) := by
  funext b' k'
  unfold m_up zIf
  rw [zup_at]
  by_cases h : b' = b ∧ k' = k.toNat
  · obtain ⟨rfl, rfl⟩ := h
    rw [if_pos ⟨rfl, rfl⟩, hb, if_pos ⟨rfl, rfl, by omega⟩]
  · rw [if_neg h, if_neg]
    rintro ⟨h1, h2, h3⟩
    refine h ⟨zrow_inj ?_, by omega⟩
    rw [hb]
    exact Prod.ext h1 h2
theorem zLf_up {K : zK} {a : Nat} {k v : Int} (hk : 0 ≤ k) : m_up (zLf K) a k.toNat (Int64.ofInt v) = zLf (zku K a k v) := by
  funext b' k'
  unfold m_up zLf
  rw [zku_at]
  by_cases h : b' = a ∧ k' = k.toNat
  · obtain ⟨rfl, rfl⟩ := h
    rw [if_pos ⟨rfl, rfl⟩, if_pos ⟨rfl, by omega⟩]
  · rw [if_neg h, if_neg]
    rintro ⟨h1, h3⟩
    exact h ⟨h1, by omega⟩
theorem zIf_cp {J : zJ} {a b : Nat} {sp dp n : Int} (ha : zrow a = (a, 0)) (hb : zrow b = (b, 0)) (h1 : 0 ≤ sp) (h2 : 0 ≤ dp) (h3 : 0 ≤ n) : m_cpy (zIf J) a b sp.toNat dp.toNat n.toNat = zIf (zcp J a b sp dp n) := by
  funext c k
  unfold m_cpy zIf
  rw [zcp_at]
  by_cases h : c = b ∧ dp.toNat ≤ k ∧ k < dp.toNat + n.toNat
  · obtain ⟨rfl, h4, h5⟩ := h
    rw [if_pos ⟨rfl, h4, h5⟩, hb, ha, if_pos ⟨rfl, rfl, by omega, by omega⟩]
    have e : ((sp.toNat + (k - dp.toNat) : Nat) : Int) = sp + ((k : Int) - dp) := by omega
    rw [e]
  · rw [if_neg h, if_neg]
    rintro ⟨h4, h5, h6, h7⟩
    refine h ⟨zrow_inj ?_, by omega, by omega⟩
    rw [hb]
    exact Prod.ext h4 h5
/-! numbers -/
theorem z_ix {i : Int} {n : Nat} (h0 : 0 ≤ i) (h1 : i < n) (hn : n ≤ 100000) : m_in (Int32.ofInt i) n = true ∧ (Int32.ofInt i).toNatClampNeg = i.toNat := by
  have e : (Int32.ofInt i).toInt = i := Int32.toInt_ofInt_of_le (by simp; omega) (by simp; omega)
  have e2 : (Int32.ofInt i).toNatClampNeg = i.toNat := by
    unfold Int32.toNatClampNeg
    rw [e]
  refine ⟨?_, e2⟩
  unfold m_in
  rw [e2, Bool.and_eq_true, Bool.not_eq_true', decide_eq_false_iff_not, Int32.lt_iff_toInt_lt, e]
  refine ⟨?_, ?_⟩
  · simp
    omega
  · rw [Nat.blt_eq]
    omega
def zin (x : Int) : Prop := -2147483648 ≤ x ∧ x < 2147483648
theorem zin_e {x : Int} (h : zin x) : (Int32.ofInt x).toInt = x := Int32.toInt_ofInt_of_le (by unfold zin at h; simp; omega) (by unfold zin at h; simp; omega)
theorem zin_lt {x y : Int} (hx : zin x) (hy : zin y) : Int32.ofInt x < Int32.ofInt y ↔ x < y := by
  rw [Int32.lt_iff_toInt_lt, zin_e hx, zin_e hy]
theorem zin_le {x y : Int} (hx : zin x) (hy : zin y) : Int32.ofInt x ≤ Int32.ofInt y ↔ x ≤ y := by
  rw [Int32.le_iff_toInt_le, zin_e hx, zin_e hy]
theorem zin_eq {x y : Int} (hx : zin x) (hy : zin y) : Int32.ofInt x = Int32.ofInt y ↔ x = y := by
  rw [← Int32.toInt_inj, zin_e hx, zin_e hy]
