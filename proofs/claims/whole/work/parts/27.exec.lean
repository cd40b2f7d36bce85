/-! RUNS of the small machine: calls, ends, exceptions -/
abbrev mRes : Type := Option Value ⊕ Nat
def m_sl (As : List Value) : mLS := As.flatMap fun v => if v.category = 2 then [some v, none] else [some v]
def m_enter (As : List Value) (nL : Nat) : mLS := m_sl As ++ List.replicate (nL - (m_sl As).length) none
/-- an end: the instruction, the stack, the answer -/
def m_ret (ret : Option FieldType) (i : Instr) (st : List Value) : Option (Option Value) := match i with
  | .return_ => (match ret with
    | none => (match st with
      | [] => some none
      | _ => none)
    | some _ => none)
  | .ireturn => (match st with
    | [.int v] => (match ret with
      | some .int => some (some (.int v))
      | some .boolean => if v = 0 ∨ v = 1 then some (some (.int v)) else none
      | _ => none)
    | _ => none)
  | .lreturn => (match st with
    | [.long v] => (match ret with
      | some .long => some (some (.long v))
      | _ => none)
    | _ => none)
  | _ => none
/-- a call: which kind of link its instruction may have -/
def m_inv (o : Nat) (i : Instr) : Option (Nat × Nat × Nat) := match i with
  | .invokevirtual j => (match mcp o j with
    | some (1, a, b) => some (1, a, b)
    | some (13, a, b) => some (13, a, b)
    | some (14, a, b) => some (14, a, b)
    | _ => none)
  | .invokestatic j => (match mcp o j with
    | some (2, a, b) => some (2, a, b)
    | some (12, a, b) => some (12, a, b)
    | some (17, a, b) => some (17, a, b)
    | _ => none)
  | .invokespecial j => (match mcp o j with
    | some (3, a, b) => some (3, a, b)
    | some (4, a, b) => some (4, a, b)
    | some (5, a, b) => some (5, a, b)
    | _ => none)
  | _ => none
def m_small (r : List Value) : Bool := Nat.ble (r.map fun v => v.category).sum 8
/-- the arguments of a call and what lies below them -/
def m_args (t a b : Nat) (st : List Value) (M : mMM) : Option (List Value × List Value) :=
  if (st.take b).length = b then
    (if t = 2 ∨ t = 17 then (if m_small (st.drop b) = true ∧ (m_sl (st.take b).reverse).length ≤ (mprog a).2.2.1 then some ((st.take b).reverse, st.drop b) else none)
    else (match st.drop b with
      | .ref q :: r => if m_small r = true ∧ (m_sl (.ref q :: (st.take b).reverse)).length ≤ (mprog a).2.2.1 then
          (if t = 1 then (match M.1[q]? with
            | some c => if c.1 = 6 + (mprog a).2.2.2.2.1 ∧ (mprog a).2.2.2.2.1 < 13 then some (.ref q :: (st.take b).reverse, r) else none
            | none => none) else some (.ref q :: (st.take b).reverse, r)) else none
      | _ => none))
  else none
def m_ic (E : Nat) : Nat := match E with
  | 0 => 121
  | 1 => 424
  | 2 => 196
  | _ => 435
/-- 'throw new E("..")' at pc: E, the three links, whether the text's is wide -/
def m_thr (o : Nat) (t : List (List (Option (Instr × Nat)))) (pc : Nat) : Option (Nat × Nat × Nat × Nat × Bool) := match mins t pc with
  | some (.new ik, 3) => (match mcp o ik with
    | some (15, E, _) => (match mins t (pc + 3) with
      | some (.dup, 1) => (match mins t (pc + 4) with
        | some (.ldc is, 2) => (match mcp o is with
          | some (11, _, _) => (match mins t (pc + 6) with
            | some (.invokespecial ic, 3) => (match mcp o ic with
              | some (16, E', _) => (match mins t (pc + 9) with
                | some (.athrow, 1) => if E = E' ∧ ic = m_ic E then some (E, ik, is, ic, false) else none
                | _ => none)
              | _ => none)
            | _ => none)
          | _ => none)
        | some (.ldc_w is, 3) => (match mcp o is with
          | some (11, _, _) => (match mins t (pc + 7) with
            | some (.invokespecial ic, 3) => (match mcp o ic with
              | some (16, E', _) => (match mins t (pc + 10) with
                | some (.athrow, 1) => if E = E' ∧ ic = m_ic E then some (E, ik, is, ic, true) else none
                | _ => none)
              | _ => none)
            | _ => none)
          | _ => none)
        | _ => none)
      | _ => none)
    | _ => none)
  | _ => none
/-- the tables of the law's wrappers -/
def m_tabs (k : Nat) : List (Nat × Nat × Nat × Nat) := match (mHtab[k - mNP]?) with
  | some t => bif Nat.blt k mNP then [] else t
  | none => []
/-- where an exception E of the call at pc is caught: the handler -/
def m_find (pc E : Nat) : List (Nat × Nat × Nat × Nat) → Option Nat
  | [] => none
  | x :: xs => if x.1 ≤ pc ∧ pc < x.2.1 then (match mcp 13 x.2.2.2 with
      | some (15, E', _) => if E = E' then some x.2.2.1 else m_find pc E xs
      | _ => none) else m_find pc E xs
/-- what a handler answers: it stores the exception, and returns a number -/
def m_hv (k h : Nat) : Option Int32 := match mins (mprog k).2.2.2.2.2 h with
  | some (.astore_n j, 1) => if j.val < (mprog k).2.2.1 then (match mins (mprog k).2.2.2.2.2 (h + 1) with
    | some (.iconst n, 1) => (match mins (mprog k).2.2.2.2.2 (h + 2) with
      | some (.ireturn, 1) => some (Int32.ofInt n)
      | _ => none)
    | _ => none) else none
  | some (.astore j, 2) => if j < (mprog k).2.2.1 then (match mins (mprog k).2.2.2.2.2 (h + 2) with
    | some (.iconst n, 1) => (match mins (mprog k).2.2.2.2.2 (h + 3) with
      | some (.ireturn, 1) => some (Int32.ofInt n)
      | _ => none)
    | _ => none) else none
  | _ => none
def m_on (k pc E : Nat) (M : mMM) : Option (mRes × mMM) := match m_find pc E (m_tabs k) with
  | some h => (match m_hv k h with
    | some v => some (.inl (some (.int v)), M)
    | none => none)
  | none => bif Nat.blt k 318 then some (.inr E, M) else none
def m_math (a : Nat) (st : List Value) : Option (List Value) := match st with
  | .int y :: r => (match a with
    | 318 => if m_small r = true then some (.int (if 0 ≤ y then y else 0 - y) :: r) else none
    | 319 => (match r with
      | .int x :: r' => if m_small r' = true then some (.int (if x < y then y else x) :: r') else none
      | _ => none)
    | 320 => (match r with
      | .int x :: r' => if m_small r' = true then some (.int (if y < x then y else x) :: r') else none
      | _ => none)
    | _ => none)
  | _ => none
def m_sref (a : Nat) : Option Nat := if 1000001 ≤ a then some (a - 1000001) else none
theorem m_sref_ok {a t : Nat} (h : m_sref a = some t) : a = 1000001 + t := by
  unfold m_sref at h
  split at h
  · have := Option.some.inj h
    omega
  · exact absurd h (by simp)
def m_slen (t : Nat) : Option Nat := if 22 ≤ t then (mStrs[t]?).map fun q => q.2.2.length else none
def m_sat (t i : Nat) : Option Int32 := if 22 ≤ t then (match mStrs[t]? with
  | some q => (q.2.2.toList[i]?).map fun ch => Int32.ofNat ch.toNat
  | none => none) else none
def mx (L : Nat) (xs : Nat → Int32) : Nat → Nat → Nat → Nat → mLS → List Value → mMM → Option (mRes × mMM)
  | 0, _, _, _, _, _, _ => none
  | n + 1, d, k, pc, ls, st, M => match mins (mprog k).2.2.2.2.2 pc with
    | none => none
    | some q => (match m_ret (mprog k).2.2.2.1 q.1 st with
      | some v => some (.inl v, M)
      | none => (match m_inv (mprog k).2.2.2.2.1 q.1 with
        | some e => (match e with
          | (5, _, _) => (match st with
            | .ref _ :: r => if m_small r = true ∧ 1 ≤ d then mx L xs n d k (pc + 3) ls r M else none
            | _ => none)
          | (12, _, _) => (match m_copy d pc ls st M with
            | some y => mx L xs n d k y.1 y.2.1 y.2.2.1 y.2.2.2
            | none => none)
          | (13, _, _) => (match st with
            | .ref a :: r => (match (m_sref a).bind m_slen with
              | some z => if m_small r = true ∧ 8 ≤ d then mx L xs n d k (pc + 3) ls (.int (Int32.ofNat z) :: r) M else none
              | none => none)
            | _ => none)
          | (14, _, _) => (match st with
            | .int i :: .ref a :: r => (match (m_sref a).bind (fun t => m_sat t i.toNatClampNeg) with
              | some z => if ¬ i < 0 ∧ m_small r = true ∧ 8 ≤ d then mx L xs n d k (pc + 3) ls (.int z :: r) M else none
              | none => none)
            | _ => none)
          | (t, a, b) => bif (Nat.beq t 2 && Nat.ble 318 a) then (match m_math a st with
              | some st' => if 1 ≤ d then mx L xs n d k (pc + 3) ls st' M else none
              | none => none)
            else bif (Nat.blt a 318 || Nat.beq t 17) then (match m_args t a b st M with
            | some y => (match d with
              | 0 => none
              | d' + 1 => (match mx L xs n d' a 0 (m_enter y.1 (mprog a).2.2.1) [] M with
                | some z => (match z.1 with
                  | .inl none => mx L xs n (d' + 1) k (pc + 3) ls y.2 z.2
                  | .inl (some v) => mx L xs n (d' + 1) k (pc + 3) ls (v :: y.2) z.2
                  | .inr E => bif Nat.ble t 2 then m_on k pc E z.2 else none)
                | none => none))
            | none => none) else none)
        | none => (match m_thr (mprog k).2.2.2.2.1 (mprog k).2.2.2.2.2 pc with
          | some w => if 8 ≤ d ∧ k < 318 ∧ (mprog k).2.2.2.2.1 = 11 ∧ m_small st = true then some (.inr w.1, m_thrown M) else none
          | none => (match mstep d (mprog k).2.2.2.2.1 (m_ini k) L xs q.1 pc ls st M with
            | some y => mx L xs n d k y.1 y.2.1 y.2.2.1 y.2.2.2
            | none => none))))
