/-! one instruction of the integer machine -/
abbrev zN : Type := Nat → zLs → List zV → zJ → zK → Prop
def zcat (v : zV) : Nat := match v with
  | .inr (.inl _) => 2
  | _ => 1
theorem zcat_e (v : zV) : (ze v).category = zcat v := by
  rcases v with x | x | a | q <;> rfl
def zdA (a : Option zV) : Option zV := match a with
  | some (.inr (.inl _)) => none
  | a => a
def zdrop : zLs → Nat → zLs
  | l, 0 => l
  | [], _ + 1 => []
  | a :: l, 1 => zdA a :: l
  | a :: l, i + 2 => a :: zdrop l (i + 1)
def zdropo (ls : zLs) (i : Nat) : zLs := match i with
  | 0 => ls
  | j + 1 => (match ls[j]? with
    | some (some (.inr (.inl _))) => ls.set j none
    | _ => ls)
theorem zdrop_e : ∀ (ls : zLs) (i : Nat), zdrop ls i = zdropo ls i
  | [], 0 => rfl
  | _ :: _, 0 => rfl
  | [], _ + 1 => rfl
  | a :: l, 1 => by
    rcases a with _ | v
    · rfl
    · rcases v with x | x | x | x <;> rfl
  | a :: l, i + 2 => by
    have h := zdrop_e l (i + 1)
    show a :: zdrop l (i + 1) = _
    rw [h]
    unfold zdropo
    simp only [List.getElem?_cons_succ]
    generalize l[i]? = q
    rcases q with _ | _ | v
    · rfl
    · rfl
    · rcases v with x | x | x | x <;> rfl
def zst1 (ls : zLs) (i : Nat) (v : zV) : zLs := (zdrop ls i).set i (some v)
def zst2 (ls : zLs) (i : Nat) (v : zV) : zLs := ((zdrop ls i).set (i + 1) none).set i (some v)
theorem zls_set (ls : zLs) (i : Nat) (v : Option zV) : zls (ls.set i v) = (zls ls).set i (v.map ze) := by
  unfold zls
  rw [List.map_set]
theorem zls_get (ls : zLs) (i : Nat) : (zls ls)[i]? = (ls[i]?).map (Option.map ze) := by
  unfold zls
  rw [List.getElem?_map]
theorem zls_len (ls : zLs) : (zls ls).length = ls.length := by simp [zls]
theorem zsub_refl (ls : zLs) : zsub ls (zls ls) := by
  refine ⟨zls_len ls, fun i v h => ?_⟩
  rw [zls_get, h]
  rfl
theorem zsub_none {ls : zLs} {lsv : mLS} (h : zsub ls lsv) (j : Nat) : zsub (ls.set j none) lsv := by
  refine ⟨by rw [List.length_set]; exact h.1, fun i v hi => ?_⟩
  by_cases e : j = i
  · subst e
    have hl : j < ls.length := by
      have := (List.getElem?_eq_some_iff.mp hi).1
      simpa using this
    rw [List.getElem?_set_self hl] at hi
    cases hi
  · rw [List.getElem?_set_ne e] at hi
    exact h.2 i v hi
theorem zdrop_len (ls : zLs) (i : Nat) : (zdrop ls i).length = ls.length := by
  rw [zdrop_e]
  unfold zdropo
  split
  · rfl
  · split
    · simp
    · rfl
theorem zdrop_sub {ls : zLs} {lsv : mLS} (h : zsub ls lsv) (i : Nat) : zsub (zdrop ls i) (m_drop lsv i) := by
  refine ⟨by rw [m_drop_len, zdrop_len]; exact h.1, fun j v hj => ?_⟩
  cases i with
  | zero =>
    rw [zdrop_e] at hj
    exact h.2 j v hj
  | succ q =>
    rw [zdrop_e] at hj
    unfold zdropo at hj
    simp only at hj
    unfold m_drop
    simp only
    by_cases e : j = q
    · subst e
      split at hj
      · next x hx =>
        have hl := (List.getElem?_eq_some_iff.mp hx).1
        rw [List.getElem?_set_self hl] at hj
        cases hj
      · next hx =>
        have h1 := h.2 j v hj
        rw [h1]
        simp only
        have hc : ¬ (ze v).category = 2 := by
          rw [zcat_e]
          rcases v with a | a | a | a
          · exact fun z => absurd z (by show ¬ (1 = 2); decide)
          · exact absurd hj (hx a)
          · exact fun z => absurd z (by show ¬ (1 = 2); decide)
          · exact fun z => absurd z (by show ¬ (1 = 2); decide)
        rw [if_neg hc]
        exact h1
    · have h1 : ls[j]? = some (some v) := by
        split at hj
        · rw [List.getElem?_set_ne (Ne.symm e)] at hj
          exact hj
        · exact hj
      have h2 := h.2 j v h1
      split
      · split
        · rw [List.getElem?_set_ne (Ne.symm e)]
          exact h2
        · exact h2
      · exact h2
theorem zset_sub {ls : zLs} {lsv : mLS} (h : zsub ls lsv) (i : Nat) (v : zV) : zsub (ls.set i (some v)) (lsv.set i (some (ze v))) := by
  refine ⟨by rw [List.length_set, List.length_set]; exact h.1, fun j w hj => ?_⟩
  by_cases e : i = j
  · subst e
    have hl : i < ls.length := by
      have := (List.getElem?_eq_some_iff.mp hj).1
      simpa using this
    rw [List.getElem?_set_self hl] at hj
    cases hj
    rw [List.getElem?_set_self (by rw [h.1]; exact hl)]
  · rw [List.getElem?_set_ne e] at hj
    rw [List.getElem?_set_ne e]
    exact h.2 j w hj
theorem zset_none {ls : zLs} {lsv : mLS} (h : zsub ls lsv) (i : Nat) : zsub (ls.set i none) (lsv.set i none) := by
  refine ⟨by rw [List.length_set, List.length_set]; exact h.1, fun j w hj => ?_⟩
  by_cases e : i = j
  · subst e
    have hl : i < ls.length := by
      have := (List.getElem?_eq_some_iff.mp hj).1
      simpa using this
    rw [List.getElem?_set_self hl] at hj
    cases hj
  · rw [List.getElem?_set_ne e] at hj
    rw [List.getElem?_set_ne e]
    exact h.2 j w hj
theorem zst1_sub {ls : zLs} {lsv : mLS} (h : zsub ls lsv) (i : Nat) (v : zV) : zsub (zst1 ls i v) (m_st1 lsv i (ze v)) := zset_sub (zdrop_sub h i) i v
theorem zst2_sub {ls : zLs} {lsv : mLS} (h : zsub ls lsv) (i : Nat) (v : zV) : zsub (zst2 ls i v) (m_st2 lsv i (ze v)) := zset_sub (zset_none (zdrop_sub h i) (i + 1)) i v
def zldi (n : zN) (pc : Nat) (ls : zLs) (st : List zV) (J : zJ) (K : zK) (j : Nat) : Prop := match ls[j]? with
  | some (some (.inl x)) => n pc ls (.inl x :: st) J K
  | _ => False
def zldl (n : zN) (pc : Nat) (ls : zLs) (st : List zV) (J : zJ) (K : zK) (j : Nat) : Prop := match ls[j]? with
  | some (some (.inr (.inl x))) => n pc ls (.inr (.inl x) :: st) J K
  | _ => False
def zldr (n : zN) (pc : Nat) (ls : zLs) (st : List zV) (J : zJ) (K : zK) (j : Nat) : Prop := match ls[j]? with
  | some (some (.inr (.inr x))) => n pc ls (.inr (.inr x) :: st) J K
  | _ => False
def zsti (n : zN) (pc : Nat) (ls : zLs) (st : List zV) (J : zJ) (K : zK) (j : Nat) : Prop := match st with
  | .inl x :: r => bif Nat.blt j ls.length then n pc (zst1 ls j (.inl x)) r J K else False
  | _ => False
def zstl (n : zN) (pc : Nat) (ls : zLs) (st : List zV) (J : zJ) (K : zK) (j : Nat) : Prop := match st with
  | .inr (.inl x) :: r => bif Nat.blt (j + 1) ls.length then n pc (zst2 ls j (.inr (.inl x))) r J K else False
  | _ => False
def zstr (n : zN) (pc : Nat) (ls : zLs) (st : List zV) (J : zJ) (K : zK) (j : Nat) : Prop := match st with
  | .inr (.inr x) :: r => bif Nat.blt j ls.length then n pc (zst1 ls j (.inr (.inr x))) r J K else False
  | _ => False
def zinc (n : zN) (pc : Nat) (ls : zLs) (st : List zV) (J : zJ) (K : zK) (j : Nat) (c : Int) : Prop := match ls[j]? with
  | some (some (.inl x)) => n pc (zst1 ls j (.inl (x + c))) st J K
  | _ => False
def ztest (c : ClassFile.Cond) (x y : Int) (a b : Prop) : Prop := match c with
  | .eq => (x = y → a) ∧ (x ≠ y → b)
  | .ne => (x ≠ y → a) ∧ (x = y → b)
  | .lt => (x < y → a) ∧ (y ≤ x → b)
  | .ge => (y ≤ x → a) ∧ (x < y → b)
  | .gt => (y < x → a) ∧ (x ≤ y → b)
  | .le => (x ≤ y → a) ∧ (y < x → b)
def zif (n : zN) (pc : Nat) (off : Int) (c : ClassFile.Cond) (ls : zLs) (st : List zV) (J : zJ) (K : zK) : Prop := match st with
  | .inl x :: r => zin x ∧ (match m_jmp pc off with
    | some t => ztest c x 0 (n t ls r J K) (n (pc + 3) ls r J K)
    | none => False)
  | _ => False
def zicmp (n : zN) (pc : Nat) (off : Int) (c : ClassFile.Cond) (ls : zLs) (st : List zV) (J : zJ) (K : zK) : Prop := match st with
  | .inl y :: .inl x :: r => zin x ∧ zin y ∧ (match m_jmp pc off with
    | some t => ztest c x y (n t ls r J K) (n (pc + 3) ls r J K)
    | none => False)
  | _ => False
def zswt (n : zN) (pc : Nat) (ls : zLs) (r : List zV) (J : zJ) (K : zK) (x : Int) : Int → List Int → Prop
  | _, [] => True
  | lo, off :: offs => (match m_jmp pc off with
    | some t => (x = lo → n t ls r J K)
    | none => False) ∧ zswt n pc ls r J K x (lo + 1) offs
def zsw (n : zN) (pc : Nat) (d lo hi : Int) (offs : Array Int) (ls : zLs) (st : List zV) (J : zJ) (K : zK) : Prop := match st with
  | .inl x :: r => zin x ∧ (match m_jmp pc d with
    | some t => (x < lo ∨ hi < x → n t ls r J K)
    | none => False) ∧ lo + offs.toList.length = hi + 1 ∧ zswt n pc ls r J K x lo offs.toList
  | _ => False
def zget (o : Nat) (n : zN) (pc : Nat) (ls : zLs) (st : List zV) (J : zJ) (K : zK) (idx : Nat) : Prop := match st with
  | .inr (.inr (.inl a)) :: r => (match mcp o idx with
    | some (0, ci, k) => (match zsh a with
      | some c => bif (Nat.beq c.1 (6 + ci) && Nat.blt k c.2.1) then (match m_kind ci k with
          | 1 => n (pc + 3) ls (.inr (.inl (K a k)) :: r) J K
          | 2 => (match m_rf c.2.2 k with
            | some q => n (pc + 3) ls (.inr (.inr (.inl q)) :: r) J K
            | none => False)
          | _ => n (pc + 3) ls (.inl (J a 0 k) :: r) J K) else False
      | none => False)
    | _ => False)
  | _ => False
def zput (o : Nat) (n : zN) (pc : Nat) (ls : zLs) (st : List zV) (J : zJ) (K : zK) (idx : Nat) : Prop := match st with
  | v :: .inr (.inr (.inl a)) :: r => (match mcp o idx with
    | some (0, ci, k) => (match zsh a with
      | some c => bif (Nat.beq c.1 (6 + ci) && Nat.blt k c.2.1) then (match m_kind ci k with
          | 0 => (match v with
            | .inl x => n (pc + 3) ls r (zup J a 0 k x) K
            | _ => False)
          | 1 => (match v with
            | .inr (.inl x) => n (pc + 3) ls r J (zku K a k x)
            | _ => False)
          | 3 => (match v with
            | .inl x => (x = 0 ∨ x = 1) ∧ n (pc + 3) ls r (zup J a 0 k x) K
            | _ => False)
          | _ => False) else False
      | none => False)
    | _ => False)
  | _ => False
def ziald (L : Nat) (xs : Nat → Int32) (n : zN) (pc : Nat) (ls : zLs) (st : List zV) (J : zJ) (K : zK) : Prop := match st with
  | .inl i :: .inr (.inr (.inl a)) :: r => bif Nat.beq a 1000000 then (0 ≤ i ∧ i < L ∧ n (pc + 1) ls (.inl (xs i.toNat).toInt :: r) J K) else (match zsh a with
    | some c => bif Nat.beq c.1 0 then (0 ≤ i ∧ i < c.2.1 ∧ n (pc + 1) ls (.inl (J a 0 i) :: r) J K) else False
    | none => False)
  | .inl i :: .inr (.inr (.inr q)) :: r => (match zdim q.1 with
    | some d => 0 ≤ q.2 ∧ q.2 < d.1 ∧ 0 ≤ i ∧ i < d.2 ∧ n (pc + 1) ls (.inl (J q.1 q.2 i) :: r) J K
    | none => False)
  | _ => False
def zbald (n : zN) (pc : Nat) (ls : zLs) (st : List zV) (J : zJ) (K : zK) : Prop := match st with
  | .inl i :: .inr (.inr (.inl a)) :: r => (match zsh a with
    | some c => bif (Nat.beq c.1 1 || Nat.beq c.1 2) then (0 ≤ i ∧ i < c.2.1 ∧ n (pc + 1) ls (.inl (J a 0 i) :: r) J K) else False
    | none => False)
  | _ => False
def zlald (n : zN) (pc : Nat) (ls : zLs) (st : List zV) (J : zJ) (K : zK) : Prop := match st with
  | .inl i :: .inr (.inr (.inl a)) :: r => (match zsh a with
    | some c => bif Nat.beq c.1 3 then (0 ≤ i ∧ i < c.2.1 ∧ n (pc + 1) ls (.inr (.inl (K a i)) :: r) J K) else False
    | none => False)
  | _ => False
def zaald (n : zN) (pc : Nat) (ls : zLs) (st : List zV) (J : zJ) (K : zK) : Prop := match st with
  | .inl i :: .inr (.inr (.inl a)) :: r => (match zdim a with
    | some d => 0 ≤ i ∧ i < d.1 ∧ n (pc + 1) ls (.inr (.inr (.inr (a, i))) :: r) J K
    | none => (match zsh a with
      | some c => bif Nat.beq c.1 5 then (0 ≤ i ∧ i < c.2.1 ∧ ∃ q, m_rf c.2.2 i.toNat = some q ∧ n (pc + 1) ls (.inr (.inr (.inl q)) :: r) J K) else False
      | none => False))
  | _ => False
def ziast (n : zN) (pc : Nat) (ls : zLs) (st : List zV) (J : zJ) (K : zK) : Prop := match st with
  | .inl x :: .inl i :: .inr (.inr (.inl a)) :: r => (match zsh a with
    | some c => bif Nat.beq c.1 0 then (0 ≤ i ∧ i < c.2.1 ∧ n (pc + 1) ls r (zup J a 0 i x) K) else False
    | none => False)
  | .inl x :: .inl i :: .inr (.inr (.inr q)) :: r => (match zdim q.1 with
    | some d => 0 ≤ q.2 ∧ q.2 < d.1 ∧ 0 ≤ i ∧ i < d.2 ∧ n (pc + 1) ls r (zup J q.1 q.2 i x) K
    | none => False)
  | _ => False
def zbast (n : zN) (pc : Nat) (ls : zLs) (st : List zV) (J : zJ) (K : zK) : Prop := match st with
  | .inl x :: .inl i :: .inr (.inr (.inl a)) :: r => (match zsh a with
    | some c => bif Nat.beq c.1 1 then (0 ≤ i ∧ i < c.2.1 ∧ n (pc + 1) ls r (zup J a 0 i (zbyte x)) K) else (bif Nat.beq c.1 2 then (0 ≤ i ∧ i < c.2.1 ∧ n (pc + 1) ls r (zup J a 0 i (zbol x)) K) else False)
    | none => False)
  | _ => False
def zlast (n : zN) (pc : Nat) (ls : zLs) (st : List zV) (J : zJ) (K : zK) : Prop := match st with
  | .inr (.inl x) :: .inl i :: .inr (.inr (.inl a)) :: r => (match zsh a with
    | some c => bif Nat.beq c.1 3 then (0 ≤ i ∧ i < c.2.1 ∧ n (pc + 1) ls r J (zku K a i x)) else False
    | none => False)
  | _ => False
def zlen (L : Nat) (n : zN) (pc : Nat) (ls : zLs) (st : List zV) (J : zJ) (K : zK) : Prop := match st with
  | .inr (.inr (.inl a)) :: r => bif Nat.beq a 1000000 then n (pc + 1) ls (.inl (L : Int) :: r) J K else (match zsh a with
    | some c => bif Nat.blt c.1 6 then n (pc + 1) ls (.inl (c.2.1 : Int) :: r) J K else False
    | none => False)
  | .inr (.inr (.inr q)) :: r => (match zdim q.1 with
    | some d => 0 ≤ q.2 ∧ q.2 < d.1 ∧ n (pc + 1) ls (.inl (d.2 : Int) :: r) J K
    | none => False)
  | _ => False
def zb2 (n : zN) (pc : Nat) (ls : zLs) (st : List zV) (J : zJ) (K : zK) (f : Int → Int → Int) : Prop := match st with
  | .inl y :: .inl x :: r => n (pc + 1) ls (.inl (f x y) :: r) J K
  | _ => False
def zb2c (n : zN) (pc : Nat) (ls : zLs) (st : List zV) (J : zJ) (K : zK) (p : Int → Int → Prop → Prop) (f : Int → Int → Int) : Prop := match st with
  | .inl y :: .inl x :: r => p x y (n (pc + 1) ls (.inl (f x y) :: r) J K)
  | _ => False
def zl2 (n : zN) (pc : Nat) (ls : zLs) (st : List zV) (J : zJ) (K : zK) (f : Int → Int → Int) : Prop := match st with
  | .inr (.inl y) :: .inr (.inl x) :: r => n (pc + 1) ls (.inr (.inl (f x y)) :: r) J K
  | _ => False
def zstep (L : Nat) (xs : Nat → Int32) (o : Nat) (n : zN) (i : Instr) (pc : Nat) (ls : zLs) (st : List zV) (J : zJ) (K : zK) : Prop := match i with
  | .iload k => zldi n (pc + 2) ls st J K k
  | .iload_n k => zldi n (pc + 1) ls st J K k.val
  | .lload k => zldl n (pc + 2) ls st J K k
  | .lload_n k => zldl n (pc + 1) ls st J K k.val
  | .aload k => zldr n (pc + 2) ls st J K k
  | .aload_n k => zldr n (pc + 1) ls st J K k.val
  | .istore k => zsti n (pc + 2) ls st J K k
  | .istore_n k => zsti n (pc + 1) ls st J K k.val
  | .lstore k => zstl n (pc + 2) ls st J K k
  | .lstore_n k => zstl n (pc + 1) ls st J K k.val
  | .astore k => zstr n (pc + 2) ls st J K k
  | .astore_n k => zstr n (pc + 1) ls st J K k.val
  | .iinc k c => zinc n (pc + 3) ls st J K k c
  | .iconst c => n (pc + 1) ls (.inl c :: st) J K
  | .bipush c => bif (decide (-128 ≤ c) && decide (c < 128)) then n (pc + 2) ls (.inl c :: st) J K else False
  | .sipush c => bif (decide (-32768 ≤ c) && decide (c < 32768)) then n (pc + 3) ls (.inl c :: st) J K else False
  | .lconst c => n (pc + 1) ls (.inr (.inl (c.val : Int)) :: st) J K
  | .ldc k => (match mcp o k with
    | some (9, v, _) => n (pc + 2) ls (.inl (v : Int) :: st) J K
    | some (11, t, _) => n (pc + 2) ls (.inr (.inr (.inl (1000001 + t))) :: st) J K
    | _ => False)
  | .ldc_w k => (match mcp o k with
    | some (9, v, _) => n (pc + 3) ls (.inl (v : Int) :: st) J K
    | _ => False)
  | .ldc2_w k => (match mcp o k with
    | some (10, v, _) => n (pc + 3) ls (.inr (.inl (v : Int)) :: st) J K
    | _ => False)
  | .iadd => zb2 n pc ls st J K fun x y => x + y
  | .isub => zb2 n pc ls st J K fun x y => x - y
  | .imul => zb2 n pc ls st J K fun x y => x * y
  | .idiv => zb2c n pc ls st J K (fun x y p => 0 ≤ x ∧ x < 2147483648 ∧ 0 < y ∧ y < 2147483648 ∧ p) fun x y => x / y
  | .irem => zb2c n pc ls st J K (fun x y p => 0 ≤ x ∧ x < 2147483648 ∧ 0 < y ∧ y < 2147483648 ∧ p) fun x y => x % y
  | .iand => zb2 n pc ls st J K zand
  | .ior => zb2 n pc ls st J K zor
  | .ixor => zb2 n pc ls st J K zxor
  | .ishl => zb2c n pc ls st J K (fun _ y p => 0 ≤ y ∧ y < 32 ∧ p) fun x y => x * 2 ^ y.toNat
  | .ishr => zb2c n pc ls st J K (fun x y p => zin x ∧ 0 ≤ y ∧ y < 32 ∧ p) fun x y => x / 2 ^ y.toNat
  | .iushr => zb2c n pc ls st J K (fun _ y p => 0 ≤ y ∧ y < 32 ∧ p) fun x y => x % 4294967296 / 2 ^ y.toNat
  | .ineg => (match st with
    | .inl x :: r => n (pc + 1) ls (.inl (-x) :: r) J K
    | _ => False)
  | .i2l => (match st with
    | .inl x :: r => zin x ∧ n (pc + 1) ls (.inr (.inl x) :: r) J K
    | _ => False)
  | .i2b => (match st with
    | .inl x :: r => n (pc + 1) ls (.inl (zi2b x) :: r) J K
    | _ => False)
  | .ladd => zl2 n pc ls st J K fun x y => x + y
  | .lsub => zl2 n pc ls st J K fun x y => x - y
  | .lmul => zl2 n pc ls st J K fun x y => x * y
  | .land => zl2 n pc ls st J K zandL
  | .ldiv => (match st with
    | .inr (.inl y) :: .inr (.inl x) :: r => 0 ≤ x ∧ x < 9223372036854775808 ∧ 0 < y ∧ y < 9223372036854775808 ∧ n (pc + 1) ls (.inr (.inl (x / y)) :: r) J K
    | _ => False)
  | .lcmp => (match st with
    | .inr (.inl y) :: .inr (.inl x) :: r => n (pc + 1) ls (.inl (zcmp x y) :: r) J K
    | _ => False)
  | .lshl => (match st with
    | .inl y :: .inr (.inl x) :: r => 0 ≤ y ∧ y < 64 ∧ n (pc + 1) ls (.inr (.inl (x * 2 ^ y.toNat)) :: r) J K
    | _ => False)
  | .l2i => (match st with
    | .inr (.inl x) :: r => n (pc + 1) ls (.inl x :: r) J K
    | _ => False)
  | .dup => (match st with
    | v :: r => bif Nat.beq (zcat v) 1 then n (pc + 1) ls (v :: v :: r) J K else False
    | [] => False)
  | .dup2 => (match st with
    | v :: w :: r => bif (Nat.beq (zcat v) 1 && Nat.beq (zcat w) 1) then n (pc + 1) ls (v :: w :: v :: w :: r) J K else False
    | _ => False)
  | .pop => (match st with
    | v :: r => bif Nat.beq (zcat v) 1 then n (pc + 1) ls r J K else False
    | [] => False)
  | .goto off => (match m_jmp pc off with
    | some t => n t ls st J K
    | none => False)
  | .ifCond c off => zif n pc off c ls st J K
  | .if_icmp c off => zicmp n pc off c ls st J K
  | .tableswitch df lo hi offs => zsw n pc df lo hi offs ls st J K
  | .getfield k => zget o n pc ls st J K k
  | .putfield k => zput o n pc ls st J K k
  | .iaload => ziald L xs n pc ls st J K
  | .baload => zbald n pc ls st J K
  | .laload => zlald n pc ls st J K
  | .aaload => zaald n pc ls st J K
  | .iastore => ziast n pc ls st J K
  | .bastore => zbast n pc ls st J K
  | .lastore => zlast n pc ls st J K
  | .arraylength => zlen L n pc ls st J K
  | _ => False
