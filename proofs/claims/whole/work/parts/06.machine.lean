/-! THE SMALL MACHINE: the instructions that this claim uses, over a memory of shapes and numbers.
A memory: the shapes of the cells (kind, length, references), whether sizes are loose, the exceptions made, the slots used, the ints, the longs.
A kind: 0 int[], 1 byte[], 2 boolean[], 3 long[], 4 int[][], 5 Plan[], 6 + c an object of the class c.
A reference: below 1000000 a cell; 1000000 the script; 1000001 + t the String constant t. -/
abbrev mMS : Type := List (Nat × Nat × List (Option Nat))
abbrev mMM : Type := mMS × Nat × Nat × Nat × (Nat → Nat → Int32) × (Nat → Nat → Int64)
abbrev mLS : Type := List (Option Value)
abbrev mMC : Type := Nat × mLS × List Value × mMM
def mI (M : mMM) : Nat → Nat → Int32 := M.2.2.2.2.1
def mL (M : mMM) : Nat → Nat → Int64 := M.2.2.2.2.2
def mCells (M : mMM) : Nat := M.1.length + M.2.2.1
def mZ (M : mMM) : Nat := M.2.2.2.1
def m_up {α : Type} (f : Nat → Nat → α) (a k : Nat) (v : α) : Nat → Nat → α := fun b j => if b = a ∧ j = k then v else f b j
def m_clr {α : Type} (f : Nat → Nat → α) (a : Nat) (v : α) : Nat → Nat → α := fun b j => if b = a then v else f b j
def m_cpy (f : Nat → Nat → Int32) (a b sp dp n : Nat) : Nat → Nat → Int32 := fun c k => if c = b ∧ dp ≤ k ∧ k < dp + n then f a (sp + (k - dp)) else f c k
def m_setI (M : mMM) (a k : Nat) (v : Int32) : mMM := (M.1, M.2.1, M.2.2.1, M.2.2.2.1, m_up M.2.2.2.2.1 a k v, M.2.2.2.2.2)
def m_setL (M : mMM) (a k : Nat) (v : Int64) : mMM := (M.1, M.2.1, M.2.2.1, M.2.2.2.1, M.2.2.2.2.1, m_up M.2.2.2.2.2 a k v)
def m_setR (M : mMM) (a k : Nat) (r : Nat) : mMM := (match M.1[a]? with
  | some c => M.1.set a (c.1, c.2.1, c.2.2.set k (some r))
  | none => M.1, M.2.1, M.2.2.1, M.2.2.2.1, M.2.2.2.2.1, M.2.2.2.2.2)
/-- a new cell of kind t and length n, with z slots -/
def m_new (M : mMM) (t n : Nat) (rs : List (Option Nat)) (z : Nat) : mMM := (M.1 ++ [(t, n, rs)], M.2.1, M.2.2.1, M.2.2.2.1 + z, m_clr M.2.2.2.2.1 M.1.length 0, m_clr M.2.2.2.2.2 M.1.length 0)
def m_loose (M : mMM) (f : Nat → Nat → Int32) : mMM := (M.1, 1, M.2.2.1, M.2.2.2.1, f, M.2.2.2.2.2)
def m_thrown (M : mMM) : mMM := (M.1, 1, M.2.2.1 + 1, M.2.2.2.1 + 6, M.2.2.2.2.1, M.2.2.2.2.2)
def m_kind (ci k : Nat) : Nat := match mfk[ci]? with
  | some l => (match l[k]? with
    | some t => t
    | none => 9)
  | none => 9
def m_rf (rs : List (Option Nat)) (k : Nat) : Option Nat := match rs[k]? with
  | some x => x
  | none => none
/-- the field k of the object at a -/
def m_fld (M : mMM) (a ci k : Nat) (rs : List (Option Nat)) : Value := match m_kind ci k with
  | 0 => .int (mI M a k)
  | 1 => .long (mL M a k)
  | 2 => va_rf (m_rf rs k)
  | _ => .int (mI M a k)
/-- the locals behind a store -/
def m_drop (ls : mLS) (i : Nat) : mLS := match i with
  | 0 => ls
  | j + 1 => (match ls[j]? with
    | some (some v) => if v.category = 2 then ls.set j none else ls
    | _ => ls)
def m_st1 (ls : mLS) (i : Nat) (v : Value) : mLS := (m_drop ls i).set i (some v)
def m_st2 (ls : mLS) (i : Nat) (v : Value) : mLS := ((m_drop ls i).set (i + 1) none).set i (some v)
def m_jmp (pc : Nat) (off : Int) : Option Nat := if 0 ≤ (pc : Int) + off then some ((pc : Int) + off).toNat else none
def m_if (c : ClassFile.Cond) (x y : Int32) : Bool := match c with
  | .eq => decide (x = y)
  | .ne => decide (¬ x = y)
  | .lt => decide (x < y)
  | .ge => decide (y ≤ x)
  | .gt => decide (y < x)
  | .le => decide (x ≤ y)
def m_br (b : Bool) (pc : Nat) (off : Int) (ls : mLS) (r : List Value) (M : mMM) : Option mMC := match m_jmp pc off with
  | some t => some (bif b then t else pc + 3, ls, r, M)
  | none => none
def m_ld (ls : mLS) (i : Nat) (t : Nat) : Option Value := match ls[i]? with
  | some (some v) => (match v with
    | .int x => if t = 0 then some (.int x) else none
    | .long x => if t = 1 then some (.long x) else none
    | .ref x => if t = 2 then some (.ref x) else none
    | _ => none)
  | _ => none
def m_push (d pc : Nat) (ls : mLS) (st : List Value) (M : mMM) (v : Option Value) : Option mMC := match v with
  | some w => some (pc + d, ls, w :: st, M)
  | none => none
def m_i2 (pc : Nat) (ls : mLS) (st : List Value) (M : mMM) (f : Int32 → Int32 → Option Value) : Option mMC := match st with
  | .int y :: .int x :: r => m_push 1 pc ls r M (f x y)
  | _ => none
def m_l2 (pc : Nat) (ls : mLS) (st : List Value) (M : mMM) (f : Int64 → Int64 → Option Value) : Option mMC := match st with
  | .long y :: .long x :: r => m_push 1 pc ls r M (f x y)
  | _ => none
def m_i1 (pc : Nat) (ls : mLS) (st : List Value) (M : mMM) (f : Int32 → Option Value) : Option mMC := match st with
  | .int x :: r => m_push 1 pc ls r M (f x)
  | _ => none
def m_in (i : Int32) (n : Nat) : Bool := !(decide (i < 0)) && Nat.blt i.toNatClampNeg n
theorem m_in_ok {i : Int32} {n : Nat} (h : m_in i n = true) : vp_in i n := by
  unfold m_in at h
  simp only [Bool.and_eq_true, Bool.not_eq_true', decide_eq_false_iff_not, Nat.blt_eq] at h
  rintro (q | q)
  · exact h.1 q
  · omega
theorem m_in_of {i : Int32} {n : Nat} (h : vp_in i n) : m_in i n = true := by
  unfold m_in
  simp only [Bool.and_eq_true, Bool.not_eq_true', decide_eq_false_iff_not, Nat.blt_eq]
  exact ⟨fun q => h (Or.inl q), Nat.not_le.mp fun q => h (Or.inr q)⟩
/-- the array at a: its kind, its length, its references, if i lies within -/
def m_arr (M : mMM) (a : Nat) (i : Int32) : Option (Nat × Nat × List (Option Nat)) := match M.1[a]? with
  | some c => if m_in i c.2.1 = true then some c else none
  | none => none
def m_sto (d pc : Nat) (ls : mLS) (st : List Value) (M : mMM) (i t : Nat) : Option mMC := match st with
  | v :: r => (match v with
    | .int x => if t = 0 ∧ i < ls.length then some (pc + d, m_st1 ls i (.int x), r, M) else none
    | .long x => if t = 1 ∧ i + 1 < ls.length then some (pc + d, m_st2 ls i (.long x), r, M) else none
    | .ref x => if t = 2 ∧ i < ls.length then some (pc + d, m_st1 ls i (.ref x), r, M) else none
    | _ => none)
  | [] => none
def m_new1 (pc d : Nat) (ls : mLS) (r : List Value) (M : mMM) (t n z : Nat) (rs : List (Option Nat)) : Option mMC :=
  if M.2.1 = 0 ∧ M.1.length + 1 < 1000000 ∧ n ≤ 1000 then some (pc + d, ls, .ref M.1.length :: r, m_new M t n rs z) else none
/-- rows of an int[][] -/
def m_rows : Nat → mMM → Nat → mMM
  | 0, M, _ => M
  | n + 1, M, k => m_rows n (m_new M 0 k [] k) k
def m_get (o pc : Nat) (ls : mLS) (st : List Value) (M : mMM) (idx : Nat) : Option mMC := match st with
  | .ref a :: r => (match mcp o idx with
    | some (0, ci, k) => (match M.1[a]? with
      | some c => if c.1 = 6 + ci ∧ k < c.2.1 then some (pc + 3, ls, m_fld M a ci k c.2.2 :: r, M) else none
      | none => none)
    | _ => none)
  | _ => none
def m_put (o : Nat) (ini : Bool) (pc : Nat) (ls : mLS) (st : List Value) (M : mMM) (idx : Nat) : Option mMC := match st with
  | v :: .ref a :: r => (match mcp o idx with
    | some (0, ci, k) => (match M.1[a]? with
      | some c => if c.1 = 6 + ci ∧ k < c.2.1 then (match m_kind ci k with
          | 0 => (match v with
            | .int x => some (pc + 3, ls, r, m_setI M a k x)
            | _ => none)
          | 1 => (match v with
            | .long x => some (pc + 3, ls, r, m_setL M a k x)
            | _ => none)
          | 2 => (match v with
            | .ref x => if ini = true ∧ o = ci then some (pc + 3, ls, r, m_setR M a k x) else none
            | _ => none)
          | 3 => (match v with
            | .int x => if x = 0 ∨ x = 1 then some (pc + 3, ls, r, m_setI M a k x) else none
            | _ => none)
          | _ => none) else none
      | none => none)
    | _ => none)
  | _ => none
def m_ald (pc : Nat) (ls : mLS) (st : List Value) (M : mMM) (L : Nat) (xs : Nat → Int32) (t : Nat) : Option mMC := match st with
  | .int i :: .ref a :: r => if a = 1000000 then (if t = 0 ∧ m_in i L = true then some (pc + 1, ls, .int (xs i.toNatClampNeg) :: r, M) else none) else (match m_arr M a i with
    | some c => if t = 0 ∧ c.1 = 0 then some (pc + 1, ls, .int (mI M a i.toNatClampNeg) :: r, M)
        else if t = 1 ∧ (c.1 = 1 ∨ c.1 = 2) then some (pc + 1, ls, .int (mI M a i.toNatClampNeg) :: r, M)
        else if t = 3 ∧ c.1 = 3 then some (pc + 1, ls, .long (mL M a i.toNatClampNeg) :: r, M)
        else if t = 4 ∧ (c.1 = 4 ∨ c.1 = 5) then (match m_rf c.2.2 i.toNatClampNeg with
          | some q => some (pc + 1, ls, .ref q :: r, M)
          | none => none)
        else none
    | none => none)
  | _ => none
def m_ast (pc : Nat) (ls : mLS) (st : List Value) (M : mMM) (t : Nat) : Option mMC := match st with
  | v :: .int i :: .ref a :: r => (match m_arr M a i with
    | some c => (match v with
      | .int x => if t = 0 ∧ c.1 = 0 then some (pc + 1, ls, r, m_setI M a i.toNatClampNeg x)
        else if t = 1 ∧ c.1 = 1 then some (pc + 1, ls, r, m_setI M a i.toNatClampNeg (vp_nar .byte x))
        else if t = 1 ∧ c.1 = 2 then some (pc + 1, ls, r, m_setI M a i.toNatClampNeg (vp_nar .boolean x))
        else none
      | .long x => if t = 3 ∧ c.1 = 3 then some (pc + 1, ls, r, m_setL M a i.toNatClampNeg x) else none
      | .ref q => if t = 4 ∧ c.1 = 5 then (match M.1[q]? with
          | some cq => if cq.1 = 12 then some (pc + 1, ls, r, m_setR M a i.toNatClampNeg q) else none
          | none => none) else none
      | _ => none)
    | none => none)
  | _ => none
def m_len (pc : Nat) (ls : mLS) (st : List Value) (M : mMM) (L : Nat) : Option mMC := match st with
  | .ref a :: r => if a = 1000000 then some (pc + 1, ls, .int (Int32.ofNat L) :: r, M) else (match M.1[a]? with
    | some c => if c.1 < 6 then some (pc + 1, ls, .int (Int32.ofNat c.2.1) :: r, M) else none
    | none => none)
  | _ => none
def m_akind (t : ArrayType) : Option Nat := match t with
  | .int => some 0
  | .byte => some 1
  | .boolean => some 2
  | .long => some 3
  | _ => none
def m_newa (pc : Nat) (ls : mLS) (st : List Value) (M : mMM) (t : ArrayType) : Option mMC := match st with
  | .int n :: r => (match m_akind t with
    | some q => if n < 0 then none else m_new1 pc 2 ls r M q n.toNatClampNeg n.toNatClampNeg []
    | none => none)
  | _ => none
def m_mna (o pc : Nat) (ls : mLS) (st : List Value) (M : mMM) (idx dim : Nat) : Option mMC := match st with
  | .int k :: .int n :: r => (match mcp o idx with
    | some (7, _, _) => if dim = 2 ∧ ¬ n < 0 ∧ ¬ k < 0 ∧ M.2.1 = 0 ∧ M.1.length + 2000 < 1000000 ∧ n.toNatClampNeg ≤ 1000 ∧ k.toNatClampNeg ≤ 1000 then
        some (pc + 4, ls, .ref M.1.length :: r, m_rows n.toNatClampNeg (m_new M 4 n.toNatClampNeg ((List.range n.toNatClampNeg).map (fun i => some (M.1.length + 1 + i))) n.toNatClampNeg) k.toNatClampNeg) else none
    | _ => none)
  | _ => none
def m_cast (o pc : Nat) (ls : mLS) (st : List Value) (M : mMM) (idx : Nat) : Option mMC := match st with
  | .int n :: r => (match mcp o idx with
    | some (6, 6, _) => if n < 0 then none else m_new1 pc 3 ls r M 5 n.toNatClampNeg n.toNatClampNeg (List.replicate n.toNatClampNeg none)
    | _ => none)
  | _ => none
def m_obj (o pc : Nat) (ls : mLS) (st : List Value) (M : mMM) (idx : Nat) : Option mMC := match mcp o idx with
  | some (6, ci, N) => m_new1 pc 3 ls st M (6 + ci) N N (List.replicate N none)
  | _ => none
def m_ldc (o pc d : Nat) (ls : mLS) (st : List Value) (M : mMM) (idx : Nat) : Option mMC := match mcp o idx with
  | some (9, v, _) => some (pc + d, ls, .int (Int32.ofNat v) :: st, M)
  | some (11, t, _) => if d = 2 then some (pc + 2, ls, .ref (1000001 + t) :: st, M) else none
  | _ => none
def m_ldc2 (o pc : Nat) (ls : mLS) (st : List Value) (M : mMM) (idx : Nat) : Option mMC := match mcp o idx with
  | some (10, v, _) => some (pc + 3, ls, .long (Int64.ofNat v) :: st, M)
  | _ => none
def m_sw (pc : Nat) (ls : mLS) (st : List Value) (M : mMM) (d lo hi : Int) (offs : Array Int) : Option mMC := match st with
  | .int x :: r => if x.toInt < lo ∨ hi < x.toInt then (match m_jmp pc d with
      | some t => some (t, ls, r, M)
      | none => none) else (match offs[(x.toInt - lo).toNat]? with
      | some off => (match m_jmp pc off with
        | some t => some (t, ls, r, M)
        | none => none)
      | none => none)
  | _ => none
def m_copy (d pc : Nat) (ls : mLS) (st : List Value) (M : mMM) : Option mMC := match st with
  | .int n :: .int dp :: .ref b :: .int sp :: .ref a :: r => (match M.1[a]? with
    | some ca => (match M.1[b]? with
      | some cb => if ca.1 = 0 ∧ cb.1 = 0 ∧ ¬ sp < 0 ∧ ¬ dp < 0 ∧ ¬ n < 0 ∧ sp.toNatClampNeg + n.toNatClampNeg ≤ ca.2.1 ∧ dp.toNatClampNeg + n.toNatClampNeg ≤ cb.2.1 ∧ 1 ≤ d ∧ (r.map fun v => v.category).sum ≤ 8 then
          some (pc + 3, ls, r, m_loose M (m_cpy (mI M) a b sp.toNatClampNeg dp.toNatClampNeg n.toNatClampNeg)) else none
      | none => none)
    | none => none)
  | _ => none
def m_iinc (pc : Nat) (ls : mLS) (st : List Value) (M : mMM) (i : Nat) (n : Int) : Option mMC := match ls[i]? with
  | some (some v) => (match v with
    | .int x => some (pc + 3, m_st1 ls i (.int (x + Int32.ofInt n)), st, M)
    | _ => none)
  | _ => none
/-- one instruction that is no call and no end -/
def mstep (d o : Nat) (ini : Bool) (L : Nat) (xs : Nat → Int32) (i : Instr) (pc : Nat) (ls : mLS) (st : List Value) (M : mMM) : Option mMC := match i with
  | .iload k => m_push 2 pc ls st M (m_ld ls k 0)
  | .iload_n k => m_push 1 pc ls st M (m_ld ls k.val 0)
  | .lload k => m_push 2 pc ls st M (m_ld ls k 1)
  | .lload_n k => m_push 1 pc ls st M (m_ld ls k.val 1)
  | .aload k => m_push 2 pc ls st M (m_ld ls k 2)
  | .aload_n k => m_push 1 pc ls st M (m_ld ls k.val 2)
  | .istore k => m_sto 2 pc ls st M k 0
  | .istore_n k => m_sto 1 pc ls st M k.val 0
  | .lstore k => m_sto 2 pc ls st M k 1
  | .lstore_n k => m_sto 1 pc ls st M k.val 1
  | .astore k => m_sto 2 pc ls st M k 2
  | .astore_n k => m_sto 1 pc ls st M k.val 2
  | .iinc k n => m_iinc pc ls st M k n
  | .iconst n => m_push 1 pc ls st M (some (.int (Int32.ofInt n)))
  | .bipush n => m_push 2 pc ls st M (some (.int (Int8.ofInt n).toInt32))
  | .sipush n => m_push 3 pc ls st M (some (.int (Int16.ofInt n).toInt32))
  | .lconst n => m_push 1 pc ls st M (some (.long (Int64.ofNat n.val)))
  | .ldc k => m_ldc o pc 2 ls st M k
  | .ldc_w k => m_ldc o pc 3 ls st M k
  | .ldc2_w k => m_ldc2 o pc ls st M k
  | .iadd => m_i2 pc ls st M fun x y => some (.int (x + y))
  | .isub => m_i2 pc ls st M fun x y => some (.int (x - y))
  | .imul => m_i2 pc ls st M fun x y => some (.int (x * y))
  | .idiv => m_i2 pc ls st M fun x y => if y = 0 then none else some (.int (x / y))
  | .irem => m_i2 pc ls st M fun x y => if y = 0 then none else some (.int (x - x / y * y))
  | .iand => m_i2 pc ls st M fun x y => some (.int (x &&& y))
  | .ior => m_i2 pc ls st M fun x y => some (.int (x ||| y))
  | .ixor => m_i2 pc ls st M fun x y => some (.int (x ^^^ y))
  | .ishl => m_i2 pc ls st M fun x y => some (.int (x <<< (y &&& 31)))
  | .ishr => m_i2 pc ls st M fun x y => some (.int (x >>> (y &&& 31)))
  | .iushr => m_i2 pc ls st M fun x y => some (.int (x.toUInt32 >>> (y.toUInt32 &&& Int32.toUInt32 31)).toInt32)
  | .ineg => m_i1 pc ls st M fun x => some (.int (-x))
  | .i2l => m_i1 pc ls st M fun x => some (.long x.toInt64)
  | .i2b => m_i1 pc ls st M fun x => some (.int x.toInt8.toInt32)
  | .ladd => m_l2 pc ls st M fun x y => some (.long (x + y))
  | .lsub => m_l2 pc ls st M fun x y => some (.long (x - y))
  | .lmul => m_l2 pc ls st M fun x y => some (.long (x * y))
  | .ldiv => m_l2 pc ls st M fun x y => if y = 0 then none else some (.long (x / y))
  | .land => m_l2 pc ls st M fun x y => some (.long (x &&& y))
  | .lcmp => m_l2 pc ls st M fun x y => some (.int (lg_cmp x y))
  | .lshl => (match st with
    | .int y :: .long x :: r => m_push 1 pc ls r M (some (.long (x <<< (y.toInt64 &&& 63))))
    | _ => none)
  | .l2i => (match st with
    | .long x :: r => m_push 1 pc ls r M (some (.int x.toInt32))
    | _ => none)
  | .dup => (match st with
    | v :: r => if v.category = 1 then some (pc + 1, ls, v :: v :: r, M) else none
    | [] => none)
  | .dup2 => (match st with
    | v :: w :: r => if v.category = 1 ∧ w.category = 1 then some (pc + 1, ls, v :: w :: v :: w :: r, M) else none
    | _ => none)
  | .pop => (match st with
    | v :: r => if v.category = 1 then some (pc + 1, ls, r, M) else none
    | [] => none)
  | .goto off => (match m_jmp pc off with
    | some t => some (t, ls, st, M)
    | none => none)
  | .ifCond c off => (match st with
    | .int x :: r => m_br (m_if c x 0) pc off ls r M
    | _ => none)
  | .if_icmp c off => (match st with
    | .int y :: .int x :: r => m_br (m_if c x y) pc off ls r M
    | _ => none)
  | .tableswitch df lo hi offs => m_sw pc ls st M df lo hi offs
  | .getfield k => m_get o pc ls st M k
  | .putfield k => m_put o ini pc ls st M k
  | .iaload => m_ald pc ls st M L xs 0
  | .baload => m_ald pc ls st M L xs 1
  | .laload => m_ald pc ls st M L xs 3
  | .aaload => m_ald pc ls st M L xs 4
  | .iastore => m_ast pc ls st M 0
  | .bastore => m_ast pc ls st M 1
  | .lastore => m_ast pc ls st M 3
  | .aastore => m_ast pc ls st M 4
  | .arraylength => m_len pc ls st M L
  | .newarray t => m_newa pc ls st M t
  | .multianewarray k dim => m_mna o pc ls st M k dim
  | .anewarray k => m_cast o pc ls st M k
  | .new k => m_obj o pc ls st M k
  | _ => none
