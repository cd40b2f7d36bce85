/-! RUNS of the integer machine: calls, ends, exceptions; the String constants' letters (printed) -/
def zcs : List (Nat × List Nat) := [(1000023, [114, 111, 111, 116]), (1000024, [112, 108, 97, 99, 101]), (1000025, [102, 111, 114, 107]), (1000026, [112, 111, 114, 116, 105, 111, 110]), (1000027, [108, 97, 116, 101]), (1000028, [101, 110, 103, 105, 110, 101]), (1000029, [119, 97, 110, 116])]
def zsf (a : Nat) : List (Nat × List Nat) → Option (List Nat)
  | [] => none
  | q :: l => bif Nat.beq q.1 a then some q.2 else zsf a l
def zsx (a : Nat) : Option (List Nat) := zsf a zcs
theorem zcs_ok : (zcs.all fun q => (match m_sref q.1 with
  | some t => decide (m_slen t = some q.2.length) && Nat.ble q.2.length 1000 && ((List.range q.2.length).all fun i => decide (m_sat t i = some (Int32.ofNat (q.2.getD i 0))))
  | none => false)) = true := by decide +kernel
theorem zsf_mem {a : Nat} {c : List Nat} : ∀ l : List (Nat × List Nat), zsf a l = some c → (a, c) ∈ l
  | [], h => by cases h
  | q :: l, h => by
    unfold zsf at h
    cases hb : Nat.beq q.1 a with
    | true =>
      rw [hb] at h
      have h1 := Nat.eq_of_beq_eq_true hb
      have h2 : q.2 = c := Option.some.inj h
      have : q = (a, c) := by rw [← h1, ← h2]
      rw [this]
      exact List.mem_cons_self
    | false =>
      rw [hb] at h
      exact List.mem_cons_of_mem _ (zsf_mem l h)
theorem zcs_at {a : Nat} {c : List Nat} (h : zsx a = some c) : ∃ t, m_sref a = some t ∧ m_slen t = some c.length ∧ c.length ≤ 1000 ∧ ∀ i, i < c.length → m_sat t i = some (Int32.ofNat (c.getD i 0)) := by
  have h1 := zcs_ok
  rw [List.all_eq_true] at h1
  have h2 := h1 _ (zsf_mem zcs h)
  simp only at h2
  split at h2
  · next t ht =>
    simp only [Bool.and_eq_true, List.all_eq_true, decide_eq_true_eq, List.mem_range] at h2
    exact ⟨t, ht, h2.1.1, Nat.le_of_ble_eq_true h2.1.2, h2.2⟩
  · cases h2
def zel (a : Nat) : List Nat → Bool
  | [] => false
  | b :: l => Nat.beq b a || zel a l
def zsum : List zV → Nat
  | [] => 0
  | v :: r => zcat v + zsum r
def zsml (r : List zV) : Bool := Nat.ble (zsum r) 8
theorem zsml_ok {r : List zV} (h : zsml r = true) : m_small (r.map ze) = true := by
  unfold zsml at h
  unfold m_small
  have e : ∀ r : List zV, ((r.map ze).map fun v => v.category).sum = zsum r := by
    intro r
    induction r with
    | nil => rfl
    | cons v r ih =>
      rw [List.map_cons, List.map_cons, List.sum_cons, ih, zcat_e]
      rfl
  rw [e]
  exact h
def zsl : List zV → zLs
  | [] => []
  | v :: r => (match v with
    | .inr (.inl x) => some (.inr (.inl x)) :: none :: zsl r
    | v => some v :: zsl r)
theorem zsl_e : ∀ As : List zV, m_sl (As.map ze) = zls (zsl As)
  | [] => rfl
  | v :: r => by
    have e : m_sl ((v :: r).map ze) = (if (ze v).category = 2 then [some (ze v), none] else [some (ze v)]) ++ m_sl (r.map ze) := rfl
    rw [e, zsl_e r, zcat_e]
    rcases v with x | x | a | q <;> rfl
def zent (As : List zV) (nL : Nat) : zLs := zsl As ++ List.replicate (nL - (zsl As).length) none
theorem zent_e (As : List zV) (nL : Nat) : m_enter (As.map ze) nL = zls (zent As nL) := by
  unfold m_enter zent
  rw [zsl_e, zls_len]
  unfold zls
  rw [List.map_append, List.map_replicate]
  rfl
def zargs (t a b : Nat) (st : List zV) : Option (List zV × List zV) :=
  bif Nat.beq (st.take b).length b then
    (bif (Nat.beq t 2 || Nat.beq t 17) then (bif (zsml (st.drop b) && Nat.ble (zsl (st.take b).reverse).length (mprog a).2.2.1) then some ((st.take b).reverse, st.drop b) else none)
    else (match st.drop b with
      | .inr (.inr (.inl q)) :: r => bif (zsml r && Nat.ble (zsl (.inr (.inr (.inl q)) :: (st.take b).reverse)).length (mprog a).2.2.1) then
          (bif Nat.beq t 1 then (match zsh q with
            | some c => bif (Nat.beq c.1 (6 + (mprog a).2.2.2.2.1) && Nat.blt (mprog a).2.2.2.2.1 13) then some (.inr (.inr (.inl q)) :: (st.take b).reverse, r) else none
            | none => none) else some (.inr (.inr (.inl q)) :: (st.take b).reverse, r)) else none
      | _ => none))
  else none
theorem zcondo {α : Type} {b : Bool} {x : Option α} {y : α} (h : (bif b then x else none) = some y) : b = true ∧ x = some y := by
  cases b
  · cases h
  · exact ⟨rfl, h⟩
theorem zargs_ok {t a b : Nat} {st : List zV} {y : List zV × List zV} {g : Nat × Nat × Nat} {J : zJ} {K : zK} (h : zargs t a b st = some y) : m_args t a b (st.map ze) (zmem g J K) = some (y.1.map ze, y.2.map ze) := by
  unfold zargs at h
  obtain ⟨h1, h2⟩ := zcondo h
  have hb := Nat.eq_of_beq_eq_true h1
  unfold m_args
  rw [← List.map_take, ← List.map_drop, List.length_map, if_pos hb, ← List.map_reverse, zsl_e, zls_len]
  cases ht : (Nat.beq t 2 || Nat.beq t 17) with
  | true =>
    rw [ht] at h2
    simp only [cond_true] at h2
    obtain ⟨h3, h4⟩ := zcondo h2
    rw [Bool.and_eq_true] at h3
    have ht' : t = 2 ∨ t = 17 := by
      rw [Bool.or_eq_true] at ht
      rcases ht with ht | ht
      · exact Or.inl (Nat.eq_of_beq_eq_true ht)
      · exact Or.inr (Nat.eq_of_beq_eq_true ht)
    rw [if_pos ht', if_pos ⟨zsml_ok h3.1, Nat.le_of_ble_eq_true h3.2⟩]
    cases h4
    rfl
  | false =>
    rw [ht] at h2
    simp only [cond_false] at h2
    have ht' : ¬ (t = 2 ∨ t = 17) := by
      rintro (rfl | rfl) <;> simp at ht
    rw [if_neg ht']
    split at h2
    · next q r hd =>
      rw [hd]
      obtain ⟨h3, h4⟩ := zcondo h2
      rw [Bool.and_eq_true] at h3
      have e9 : m_sl (.ref q :: (st.take b).reverse.map ze) = zls (zsl (.inr (.inr (.inl q)) :: (st.take b).reverse)) := zsl_e (.inr (.inr (.inl q)) :: (st.take b).reverse)
      show (if m_small (r.map ze) = true ∧ (m_sl (.ref q :: (st.take b).reverse.map ze)).length ≤ (mprog a).2.2.1 then _ else _) = _
      rw [e9, zls_len, if_pos ⟨zsml_ok h3.1, Nat.le_of_ble_eq_true h3.2⟩]
      cases h1t : Nat.beq t 1 with
      | true =>
        rw [h1t] at h4
        simp only [cond_true] at h4
        rw [if_pos (Nat.eq_of_beq_eq_true h1t)]
        split at h4
        · next c hc =>
          obtain ⟨h5, h6⟩ := zcondo h4
          rw [Bool.and_eq_true, Nat.blt_eq] at h5
          rw [zmem_get hc]
          simp only
          rw [if_pos ⟨Nat.eq_of_beq_eq_true h5.1, h5.2⟩]
          cases h6
          rfl
        · cases h4
      | false =>
        rw [h1t] at h4
        simp only [cond_false] at h4
        have hn1 : ¬ t = 1 := by
          rintro rfl
          simp at h1t
        rw [if_neg hn1]
        cases h4
        rfl
    · cases h2
def zon (k pc E : Nat) : Option zR := match m_find pc E (m_tabs k) with
  | some h => (match m_hv k h with
    | some v => some (.inl (some (.inl v.toInt)))
    | none => none)
  | none => bif Nat.blt k 318 then some (.inr E) else none
theorem zon_ok {k pc E : Nat} {r : zR} {M : mMM} (h : zon k pc E = some r) : m_on k pc E M = some (zre r, M) := by
  unfold zon at h
  unfold m_on
  split at h
  · next x hx =>
    rw [hx]
    simp only
    split at h
    · next v hv =>
      rw [hv]
      cases h
      show some (Sum.inl (some (Value.int v)), M) = some (Sum.inl (some (Value.int (Int32.ofInt v.toInt))), M)
      rw [Int32.ofInt_toInt]
    · cases h
  · next hx =>
    rw [hx]
    simp only
    obtain ⟨h1, h2⟩ := zcondo h
    rw [h1]
    cases h2
    rfl
def zmath (a : Nat) (st : List zV) (f : List zV → Prop) : Prop := match st with
  | .inl y :: r => (match a with
    | 318 => zin y ∧ (bif zsml r then f (.inl (if 0 ≤ y then y else 0 - y) :: r) else False)
    | 319 => (match r with
      | .inl x :: r' => zin x ∧ zin y ∧ (bif zsml r' then f (.inl (if x < y then y else x) :: r') else False)
      | _ => False)
    | 320 => (match r with
      | .inl x :: r' => zin x ∧ zin y ∧ (bif zsml r' then f (.inl (if y < x then y else x) :: r') else False)
      | _ => False)
    | _ => False)
  | _ => False
theorem zmath_ok {a : Nat} {st : List zV} {f : List zV → Prop} (h : zmath a st f) : ∃ st', m_math a (st.map ze) = some (st'.map ze) ∧ f st' := by
  unfold zmath at h
  split at h
  · next y r =>
    split at h
    · obtain ⟨h1, h2⟩ := h
      obtain ⟨h3, h4⟩ := zcond h2
      refine ⟨_, ?_, h4⟩
      show (if m_small (r.map ze) = true then some (Value.int (if 0 ≤ Int32.ofInt y then Int32.ofInt y else 0 - Int32.ofInt y) :: r.map ze) else none) = _
      rw [if_pos (zsml_ok h3)]
      have e0 : (0 : Int32) = Int32.ofInt 0 := rfl
      by_cases q : 0 ≤ y
      · have q' : (0 : Int32) ≤ Int32.ofInt y := by
          rw [e0, zin_le ⟨by decide, by decide⟩ h1]
          exact q
        rw [if_pos q, if_pos q']
        rfl
      · have q' : ¬ (0 : Int32) ≤ Int32.ofInt y := by
          rw [e0, zin_le ⟨by decide, by decide⟩ h1]
          exact q
        rw [if_neg q, if_neg q', e0, ← Int32.ofInt_sub]
        rfl
    · split at h
      · next x r' =>
        obtain ⟨h1, h2, h3⟩ := h
        obtain ⟨h5, h6⟩ := zcond h3
        refine ⟨_, ?_, h6⟩
        show (if m_small (r'.map ze) = true then some (Value.int (if Int32.ofInt x < Int32.ofInt y then Int32.ofInt y else Int32.ofInt x) :: r'.map ze) else none) = _
        rw [if_pos (zsml_ok h5)]
        by_cases q : x < y
        · rw [if_pos q, if_pos ((zin_lt h1 h2).mpr q)]
          rfl
        · rw [if_neg q, if_neg (fun z => q ((zin_lt h1 h2).mp z))]
          rfl
      · exact h.elim
    · split at h
      · next x r' =>
        obtain ⟨h1, h2, h3⟩ := h
        obtain ⟨h5, h6⟩ := zcond h3
        refine ⟨_, ?_, h6⟩
        show (if m_small (r'.map ze) = true then some (Value.int (if Int32.ofInt y < Int32.ofInt x then Int32.ofInt y else Int32.ofInt x) :: r'.map ze) else none) = _
        rw [if_pos (zsml_ok h5)]
        by_cases q : y < x
        · rw [if_pos q, if_pos ((zin_lt h2 h1).mpr q)]
          rfl
        · rw [if_neg q, if_neg (fun z => q ((zin_lt h2 h1).mp z))]
          rfl
      · exact h.elim
    · exact h.elim
  · exact h.elim
/-- System.arraycopy -/
def zcopy (D : Nat) (st : List zV) (J : zJ) (f : List zV → zJ → Prop) : Prop := match st with
  | .inl n :: .inl dp :: .inr (.inr (.inl b)) :: .inl sp :: .inr (.inr (.inl a)) :: r => (match zsh a with
    | some ca => (match zsh b with
      | some cb => bif (Nat.beq ca.1 0 && Nat.beq cb.1 0 && zsml r) then (1 ≤ D ∧ 0 ≤ sp ∧ 0 ≤ dp ∧ 0 ≤ n ∧ sp + n ≤ ca.2.1 ∧ dp + n ≤ cb.2.1 ∧ f r (zcp J a b sp dp n)) else False
      | none => False)
    | none => False)
  | _ => False
theorem zcopy_ok {D pc : Nat} {lsv : mLS} {st : List zV} {J : zJ} {K : zK} {g : Nat × Nat × Nat} {f : List zV → zJ → Prop} (h : zcopy D st J f) : ∃ st' J', m_copy D pc lsv (st.map ze) (zmem g J K) = some (pc + 3, lsv, st'.map ze, zmem (1, g.2) J' K) ∧ f st' J' := by
  unfold zcopy at h
  split at h
  · next n dp b sp a r =>
    split at h
    · next ca hca =>
      split at h
      · next cb hcb =>
        obtain ⟨h1, h2, h3, h4, h5, h6, h7, h8⟩ := zcond h
        rw [Bool.and_eq_true, Bool.and_eq_true] at h1
        have k1 := Nat.eq_of_beq_eq_true h1.1.1
        have k2 := Nat.eq_of_beq_eq_true h1.1.2
        have k3 := zsml_ok h1.2
        obtain ⟨a1, a2, a3⟩ := zsh_ok hca
        obtain ⟨b1, b2, b3⟩ := zsh_ok hcb
        have hnn : ∀ x : Int, 0 ≤ x → x ≤ 1000 → ¬ Int32.ofInt x < 0 ∧ (Int32.ofInt x).toNatClampNeg = x.toNat := by
          intro x x0 x1
          have e := zin_e (x := x) ⟨by omega, by omega⟩
          refine ⟨fun z => ?_, by unfold Int32.toNatClampNeg; rw [e]⟩
          rw [Int32.lt_iff_toInt_lt, e] at z
          have : (0 : Int32).toInt = 0 := by decide
          omega
        obtain ⟨n1, n2⟩ := hnn n h5 (by omega)
        obtain ⟨s1, s2⟩ := hnn sp h3 (by omega)
        obtain ⟨d1, d2⟩ := hnn dp h4 (by omega)
        refine ⟨r, zcp J a b sp dp n, ?_, h8⟩
        show (match (zmem g J K).1[a]? with
          | some ca => _
          | none => none) = _
        rw [zmem_get hca]
        show (match (zmem g J K).1[b]? with
          | some cb => _
          | none => none) = _
        rw [zmem_get hcb]
        have k4 : ((r.map ze).map fun v => v.category).sum ≤ 8 := by
          unfold m_small at k3
          exact Nat.le_of_ble_eq_true k3
        show (if ca.1 = 0 ∧ cb.1 = 0 ∧ ¬ Int32.ofInt sp < 0 ∧ ¬ Int32.ofInt dp < 0 ∧ ¬ Int32.ofInt n < 0 ∧ (Int32.ofInt sp).toNatClampNeg + (Int32.ofInt n).toNatClampNeg ≤ ca.2.1 ∧ (Int32.ofInt dp).toNatClampNeg + (Int32.ofInt n).toNatClampNeg ≤ cb.2.1 ∧ 1 ≤ D ∧ ((r.map ze).map fun v => v.category).sum ≤ 8 then some (pc + 3, lsv, r.map ze, m_loose (zmem g J K) (m_cpy (mI (zmem g J K)) a b (Int32.ofInt sp).toNatClampNeg (Int32.ofInt dp).toNatClampNeg (Int32.ofInt n).toNatClampNeg)) else none) = _
        rw [n2, s2, d2, if_pos ⟨k1, k2, s1, d1, n1, by omega, by omega, h2, k4⟩]
        have e : m_cpy (mI (zmem g J K)) a b sp.toNat dp.toNat n.toNat = zIf (zcp J a b sp dp n) := zIf_cp (a3 (by omega)) (b3 (by omega)) h3 h4 h5
        rw [e]
        rfl
      · exact h.elim
    · exact h.elim
  · exact h.elim
/-- a call of a method, from its beginning -/
def zCall (L : Nat) (xs : Nat → Int32) (D a : Nat) (As : List zV) (J : zJ) (K : zK) (Q : zR → Nat → zJ → zK → Prop) : Prop := zGo L xs D a 0 (zent As (mprog a).2.2.1) [] J K Q
/-- behind a call: of a method that answers nothing, an int, a long; of a wrapper; behind an exception -/
def zaV (rs : zR) (e : Nat) (A : Prop) (C : Nat → Prop) : Prop := match rs with
  | .inl none => e = 0 ∧ A
  | .inl (some _) => False
  | .inr E => C E
def zaI (rs : zR) (e : Nat) (B : Int → Prop) (C : Nat → Prop) : Prop := match rs with
  | .inl (some (.inl x)) => e = 0 ∧ B x
  | .inr E => C E
  | _ => False
def zaL (rs : zR) (e : Nat) (B : Int → Prop) (C : Nat → Prop) : Prop := match rs with
  | .inl (some (.inr (.inl x))) => e = 0 ∧ B x
  | .inr E => C E
  | _ => False
def zaW (rs : zR) (B : Int → Prop) : Prop := match rs with
  | .inl (some (.inl x)) => B x
  | _ => False
def zaE (t k pc E : Nat) (f : zR → Prop) : Prop := bif Nat.ble t 2 then (match zon k pc E with
  | some v => f v
  | none => False) else False
def zinv (L : Nat) (xs : Nat → Int32) (k o D : Nat) (nx : (zR → Nat → zJ → zK → Prop) → zN) (i : Instr) (pc : Nat) (ls : zLs) (st : List zV) (J : zJ) (K : zK) (Q : zR → Nat → zJ → zK → Prop) : Prop := match m_inv o i with
  | some (5, _, _) => False
  | some (12, _, _) => zcopy D st J fun st' J' => nx Q (pc + 3) ls st' J' K
  | some (13, _, _) => (match st with
    | .inr (.inr (.inl a)) :: r => (match zsx a with
      | some c => bif zsml r then (8 ≤ D ∧ nx Q (pc + 3) ls (.inl (c.length : Int) :: r) J K) else False
      | none => False)
    | _ => False)
  | some (14, _, _) => (match st with
    | .inl i :: .inr (.inr (.inl a)) :: r => (match zsx a with
      | some c => bif zsml r then (8 ≤ D ∧ 0 ≤ i ∧ i < c.length ∧ nx Q (pc + 3) ls (.inl ((c.getD i.toNat 0 : Nat) : Int) :: r) J K) else False
      | none => False)
    | _ => False)
  | some (t, a, b) => bif (Nat.beq t 2 && Nat.ble 318 a) then zmath a st (fun st' => 1 ≤ D ∧ nx Q (pc + 3) ls st' J K)
    else bif (Nat.blt a 318 || Nat.beq t 17) then (match zargs t a b st with
      | some y => (match D with
        | 0 => False
        | D' + 1 => bif Nat.beq t 17 then (zCall L xs D' a y.1 J K fun rs e J' K' => zaW rs fun x => nx (fun r2 e2 => Q r2 (e2 + e)) (pc + 3) ls (.inl x :: y.2) J' K')
          else (match (mprog a).2.2.2.1 with
            | none => zCall L xs D' a y.1 J K fun rs e J' K' => zaV rs e (nx Q (pc + 3) ls y.2 J' K') fun E => zaE t k pc E fun v => Q v e J' K'
            | some .long => zCall L xs D' a y.1 J K fun rs e J' K' => zaL rs e (fun x => nx Q (pc + 3) ls (.inr (.inl x) :: y.2) J' K') fun E => zaE t k pc E fun v => Q v e J' K'
            | some _ => zCall L xs D' a y.1 J K fun rs e J' K' => zaI rs e (fun x => nx Q (pc + 3) ls (.inl x :: y.2) J' K') fun E => zaE t k pc E fun v => Q v e J' K'))
      | none => False) else False
  | none => False
def zfg : List Nat → zLs → zLs
  | [], ls => ls
  | j :: r, ls => zfg r (ls.set j none)
theorem zfg_sub {lsv : mLS} : ∀ (fs : List Nat) (ls : zLs), zsub ls lsv → zsub (zfg fs ls) lsv
  | [], _, h => h
  | j :: r, ls, h => zfg_sub r _ (zsub_none h j)
def zhd (pc : Nat) : List (Nat × List Nat) → Option (List Nat)
  | [] => none
  | q :: l => bif Nat.beq q.1 pc then some q.2 else zhd pc l
def zret (ret : Option FieldType) (st : List zV) (i : Instr) (f : Option zV → Prop) : Prop := match i with
  | .return_ => (match ret with
    | none => (match st with
      | [] => f none
      | _ => False)
    | some _ => False)
  | .ireturn => (match st with
    | [.inl v] => (match ret with
      | some .int => f (some (.inl v))
      | some .boolean => (v = 0 ∨ v = 1) ∧ f (some (.inl v))
      | _ => False)
    | _ => False)
  | .lreturn => (match st with
    | [.inr (.inl v)] => (match ret with
      | some .long => f (some (.inr (.inl v)))
      | _ => False)
    | _ => False)
  | _ => False
theorem zret_ok {ret : Option FieldType} {st : List zV} {i : Instr} {f : Option zV → Prop} (h : zret ret st i f) : ∃ v, m_ret ret i (st.map ze) = some (v.map ze) ∧ f v := by
  unfold zret at h
  split at h
  · split at h
    · split at h
      · exact ⟨none, rfl, h⟩
      · exact h.elim
    · exact h.elim
  · split at h
    · next v =>
      split at h
      · exact ⟨_, rfl, h⟩
      · refine ⟨_, ?_, h.2⟩
        show (if Int32.ofInt v = 0 ∨ Int32.ofInt v = 1 then _ else _) = _
        rw [if_pos (by rcases h.1 with rfl | rfl; exact Or.inl rfl; exact Or.inr rfl)]
        rfl
      · exact h.elim
    · exact h.elim
  · split at h
    · split at h
      · exact ⟨_, rfl, h⟩
      · exact h.elim
    · exact h.elim
  · exact h.elim
def zrun (L : Nat) (xs : Nat → Int32) (hs : List (Nat × List Nat)) (k o : Nat) (T : List (List (Option (Instr × Nat)))) (ret : Option FieldType) : Nat → Nat → Nat → zLs → List zV → zJ → zK → (zR → Nat → zJ → zK → Prop) → Prop
  | 0, _, _, _, _, _, _, _ => False
  | n + 1, D, pc, ls, st, J, K, Q => (match mins T pc with
    | none => False
    | some q => (match q.1 with
      | .return_ => zret ret st .return_ fun v => Q (.inl v) 0 J K
      | .ireturn => zret ret st .ireturn fun v => Q (.inl v) 0 J K
      | .lreturn => zret ret st .lreturn fun v => Q (.inl v) 0 J K
      | .invokevirtual j => zinv L xs k o D (fun Q' pc' ls' st' J' K' => match zhd pc' hs with
        | some fs => zGo L xs D k pc' (zfg fs ls') st' J' K' Q'
        | none => zrun L xs hs k o T ret n D pc' ls' st' J' K' Q') (.invokevirtual j) pc ls st J K Q
      | .invokestatic j => zinv L xs k o D (fun Q' pc' ls' st' J' K' => match zhd pc' hs with
        | some fs => zGo L xs D k pc' (zfg fs ls') st' J' K' Q'
        | none => zrun L xs hs k o T ret n D pc' ls' st' J' K' Q') (.invokestatic j) pc ls st J K Q
      | .invokespecial j => zinv L xs k o D (fun Q' pc' ls' st' J' K' => match zhd pc' hs with
        | some fs => zGo L xs D k pc' (zfg fs ls') st' J' K' Q'
        | none => zrun L xs hs k o T ret n D pc' ls' st' J' K' Q') (.invokespecial j) pc ls st J K Q
      | .new _ => (match m_thr o T pc with
        | some w => bif (Nat.blt k 318 && Nat.beq o 11 && zsml st) then (8 ≤ D ∧ Q (.inr w.1) 1 J K) else False
        | none => False)
      | i => zstep L xs o (fun pc' ls' st' J' K' => match zhd pc' hs with
        | some fs => zGo L xs D k pc' (zfg fs ls') st' J' K' Q
        | none => zrun L xs hs k o T ret n D pc' ls' st' J' K' Q) i pc ls st J K))
