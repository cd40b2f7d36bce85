/-! the instruction tables: each row of 32 bytes by the decoder itself (printed by wip/whole/tools/gen_dec.py) -/
/-- how many bytes an instruction takes -/
def m_ilen (i : Instr) : Nat := match i with
  | .iload _ => 2
  | .lload _ => 2
  | .aload _ => 2
  | .istore _ => 2
  | .lstore _ => 2
  | .astore _ => 2
  | .bipush _ => 2
  | .ldc _ => 2
  | .newarray _ => 2
  | .sipush _ => 3
  | .ldc_w _ => 3
  | .ldc2_w _ => 3
  | .iinc _ _ => 3
  | .goto _ => 3
  | .ifCond _ _ => 3
  | .if_icmp _ _ => 3
  | .getfield _ => 3
  | .putfield _ => 3
  | .getstatic _ => 3
  | .invokevirtual _ => 3
  | .invokespecial _ => 3
  | .invokestatic _ => 3
  | .new _ => 3
  | .anewarray _ => 3
  | .multianewarray _ _ => 4
  | _ => 1
def m_isSw (i : Instr) : Bool := match i with
  | .tableswitch _ _ _ _ => true
  | _ => false
def mDc0 (b : ByteArray) (pc : Nat) (q : Instr × Nat) : Bool := (match decode b pc with
    | .ok r => decide (r = q)
    | .error _ => false) && (m_isSw q.1 || Nat.beq q.2 (m_ilen q.1))
def mDc1 (b : ByteArray) : Nat → List (Option (Instr × Nat)) → Bool
  | _, [] => true
  | pc, x :: xs => (match x with
    | none => true
    | some q => mDc0 b pc q) && mDc1 b (pc + 1) xs
theorem mDc1_ok {b : ByteArray} : ∀ (l : List (Option (Instr × Nat))) (pc : Nat), mDc1 b pc l = true → ∀ (j : Nat) (q : Instr × Nat), l[j]? = some (some q) → mDc0 b (pc + j) q = true
  | [], _, _, j, q, he => by simp at he
  | x :: xs, pc, hc, 0, q, he => by
    cases he
    simp only [mDc1, Bool.and_eq_true] at hc
    exact hc.1
  | x :: xs, pc, hc, j + 1, q, he => by
    simp only [mDc1, Bool.and_eq_true] at hc
    have h := mDc1_ok xs (pc + 1) hc.2 j q (by simpa using he)
    rw [show pc + (j + 1) = pc + 1 + j by omega]
    exact h
/-- a table of rows is that of the bytes -/
def mDcP (b : ByteArray) (t : List (List (Option (Instr × Nat)))) : Prop := ∀ (j : Nat) (c : List (Option (Instr × Nat))), t[j]? = some c → mDc1 b (32 * j) c = true
theorem mDcP_ok {b : ByteArray} {t : List (List (Option (Instr × Nat)))} (h : mDcP b t) {pc : Nat} {q : Instr × Nat} (hq : mins t pc = some q) : decode b pc = .ok q ∧ (m_isSw q.1 = true ∨ q.2 = m_ilen q.1) := by
  unfold mins at hq
  split at hq
  · next c hc =>
    split at hq
    · next x hx =>
      have h1 := mDc1_ok c _ (h _ c hc) _ q (by rw [hx, hq])
      rw [show 32 * (pc / 32) + pc % 32 = pc by omega] at h1
      unfold mDc0 at h1
      simp only [Bool.and_eq_true, Bool.or_eq_true] at h1
      refine ⟨?_, h1.2.imp id (fun z => Nat.eq_of_beq_eq_true z)⟩
      have h2 := h1.1
      split at h2
      · next r hr =>
        rw [hr, of_decide_eq_true h2]
      · cases h2
    · cases hq
  · cases hq
theorem mDr0_0 : mDc1 prog_2_method_1_code 0 [some (.aload_n 0, 1), some (.invokespecial 3, 3), none, none, some (.aload_n 0, 1), some (.bipush 7, 2), none, some (.newarray .int, 2), none, some (.putfield 9, 3), none, none, some (.aload_n 0, 1), some (.bipush 7, 2), none, some (.newarray .int, 2), none, some (.putfield 15, 3), none, none, some (.aload_n 0, 1), some (.bipush 7, 2), none, some (.newarray .int, 2), none, some (.putfield 18, 3), none, none, some (.aload_n 0, 1), some (.bipush 7, 2), none, some (.newarray .int, 2)] = true := by decide +kernel
theorem mDr0_1 : mDc1 prog_2_method_1_code 32 [none, some (.putfield 21, 3), none, none, some (.aload_n 0, 1), some (.bipush 7, 2), none, some (.newarray .int, 2), none, some (.putfield 24, 3), none, none, some (.return_, 1)] = true := by decide +kernel
theorem mDt0 : mDcP prog_2_method_1_code mct0 := by
  intro j c h
  unfold mct0 at h
  match j, h with
  | 0, h => cases h; exact mDr0_0
  | 1, h => cases h; exact mDr0_1
  | n + 2, h => simp at h
theorem mDr1_0 : mDc1 prog_2_method_3_code 0 [some (.aload_n 0, 1), some (.getfield 9, 3), none, none, some (.iload_n 1, 1), some (.iload_n 2, 1), some (.iastore, 1), some (.aload_n 0, 1), some (.getfield 15, 3), none, none, some (.iload_n 1, 1), some (.iload_n 3, 1), some (.iastore, 1), some (.aload_n 0, 1), some (.getfield 18, 3), none, none, some (.iload_n 1, 1), some (.iconst 1, 1), some (.iload_n 1, 1), some (.ishl, 1), some (.iastore, 1), some (.aload_n 0, 1), some (.getfield 21, 3), none, none, some (.iload_n 1, 1), some (.iload_n 1, 1), some (.iastore, 1), some (.aload_n 0, 1), some (.getfield 24, 3)] = true := by decide +kernel
theorem mDr1_1 : mDc1 prog_2_method_3_code 32 [none, none, some (.iload_n 1, 1), some (.iconst (-1), 1), some (.iastore, 1), some (.return_, 1)] = true := by decide +kernel
theorem mDt1 : mDcP prog_2_method_3_code mct1 := by
  intro j c h
  unfold mct1 at h
  match j, h with
  | 0, h => cases h; exact mDr1_0
  | 1, h => cases h; exact mDr1_1
  | n + 2, h => simp at h
theorem mDr2_0 : mDc1 prog_2_method_2_code 0 [some (.aload_n 1, 1), some (.getfield 9, 3), none, none, some (.iconst 0, 1), some (.aload_n 0, 1), some (.getfield 9, 3), none, none, some (.iconst 0, 1), some (.bipush 7, 2), none, some (.invokestatic 27, 3), none, none, some (.aload_n 1, 1), some (.getfield 15, 3), none, none, some (.iconst 0, 1), some (.aload_n 0, 1), some (.getfield 15, 3), none, none, some (.iconst 0, 1), some (.bipush 7, 2), none, some (.invokestatic 27, 3), none, none, some (.aload_n 1, 1), some (.getfield 18, 3)] = true := by decide +kernel
theorem mDr2_1 : mDc1 prog_2_method_2_code 32 [none, none, some (.iconst 0, 1), some (.aload_n 0, 1), some (.getfield 18, 3), none, none, some (.iconst 0, 1), some (.bipush 7, 2), none, some (.invokestatic 27, 3), none, none, some (.aload_n 1, 1), some (.getfield 21, 3), none, none, some (.iconst 0, 1), some (.aload_n 0, 1), some (.getfield 21, 3), none, none, some (.iconst 0, 1), some (.bipush 7, 2), none, some (.invokestatic 27, 3), none, none, some (.aload_n 1, 1), some (.getfield 24, 3)] = true := by decide +kernel
theorem mDr2_2 : mDc1 prog_2_method_2_code 64 [some (.iconst 0, 1), some (.aload_n 0, 1), some (.getfield 24, 3), none, none, some (.iconst 0, 1), some (.bipush 7, 2), none, some (.invokestatic 27, 3), none, none, some (.return_, 1)] = true := by decide +kernel
theorem mDt2 : mDcP prog_2_method_2_code mct2 := by
  intro j c h
  unfold mct2 at h
  match j, h with
  | 0, h => cases h; exact mDr2_0
  | 1, h => cases h; exact mDr2_1
  | 2, h => cases h; exact mDr2_2
  | n + 3, h => simp at h
theorem mDr3_0 : mDc1 prog_2_method_5_code 0 [some (.aload_n 0, 1), some (.getfield 15, 3), none, none, some (.iload_n 1, 1), some (.iaload, 1), some (.aload_n 0, 1), some (.getfield 15, 3), none, none, some (.iload_n 2, 1), some (.iaload, 1), some (.if_icmp .eq 24, 3), none, none, some (.aload_n 0, 1), some (.getfield 15, 3), none, none, some (.iload_n 1, 1), some (.iaload, 1), some (.aload_n 0, 1), some (.getfield 15, 3), none, none, some (.iload_n 2, 1), some (.iaload, 1), some (.if_icmp .ge 7, 3), none, none, some (.iconst 1, 1), some (.goto 4, 3)] = true := by decide +kernel
theorem mDr3_1 : mDc1 prog_2_method_5_code 32 [none, none, some (.iconst 0, 1), some (.ireturn, 1), some (.aload_n 0, 1), some (.getfield 18, 3), none, none, some (.iload_n 1, 1), some (.iaload, 1), some (.aload_n 0, 1), some (.getfield 18, 3), none, none, some (.iload_n 1, 1), some (.iaload, 1), some (.ineg, 1), some (.iand, 1), some (.aload_n 0, 1), some (.getfield 18, 3), none, none, some (.iload_n 2, 1), some (.iaload, 1), some (.aload_n 0, 1), some (.getfield 18, 3), none, none, some (.iload_n 2, 1), some (.iaload, 1), some (.ineg, 1), some (.iand, 1)] = true := by decide +kernel
theorem mDr3_2 : mDc1 prog_2_method_5_code 64 [some (.if_icmp .ge 7, 3), none, none, some (.iconst 1, 1), some (.goto 4, 3), none, none, some (.iconst 0, 1), some (.ireturn, 1)] = true := by decide +kernel
theorem mDt3 : mDcP prog_2_method_5_code mct3 := by
  intro j c h
  unfold mct3 at h
  match j, h with
  | 0, h => cases h; exact mDr3_0
  | 1, h => cases h; exact mDr3_1
  | 2, h => cases h; exact mDr3_2
  | n + 3, h => simp at h
theorem mDr4_0 : mDc1 prog_2_method_4_code 0 [some (.aload_n 0, 1), some (.getfield 24, 3), none, none, some (.aload_n 0, 1), some (.getfield 21, 3), none, none, some (.iload_n 1, 1), some (.iaload, 1), some (.iload_n 2, 1), some (.iastore, 1), some (.aload_n 0, 1), some (.getfield 21, 3), none, none, some (.iload_n 1, 1), some (.aload_n 0, 1), some (.getfield 21, 3), none, none, some (.iload_n 2, 1), some (.iaload, 1), some (.iastore, 1), some (.aload_n 0, 1), some (.getfield 18, 3), none, none, some (.iload_n 1, 1), some (.dup2, 1), some (.iaload, 1), some (.aload_n 0, 1)] = true := by decide +kernel
theorem mDr4_1 : mDc1 prog_2_method_4_code 32 [some (.getfield 18, 3), none, none, some (.iload_n 2, 1), some (.iaload, 1), some (.ior, 1), some (.iastore, 1), some (.aload_n 0, 1), some (.getfield 9, 3), none, none, some (.iload_n 2, 1), some (.iconst (-1), 1), some (.iastore, 1), some (.return_, 1)] = true := by decide +kernel
theorem mDt4 : mDcP prog_2_method_4_code mct4 := by
  intro j c h
  unfold mct4 at h
  match j, h with
  | 0, h => cases h; exact mDr4_0
  | 1, h => cases h; exact mDr4_1
  | n + 2, h => simp at h
theorem mDr5_0 : mDc1 prog_3_method_1_code 0 [some (.aload_n 0, 1), some (.invokespecial 3, 3), none, none, some (.aload_n 0, 1), some (.bipush 12, 2), none, some (.newarray .int, 2), none, some (.putfield 9, 3), none, none, some (.aload_n 0, 1), some (.bipush 12, 2), none, some (.newarray .int, 2), none, some (.putfield 15, 3), none, none, some (.aload_n 0, 1), some (.bipush 7, 2), none, some (.newarray .int, 2), none, some (.putfield 18, 3), none, none, some (.aload_n 0, 1), some (.new 21, 3)] = true := by decide +kernel
theorem mDr5_1 : mDc1 prog_3_method_1_code 32 [some (.dup, 1), some (.invokespecial 23, 3), none, none, some (.putfield 24, 3), none, none, some (.aload_n 0, 1), some (.new 21, 3), none, none, some (.dup, 1), some (.invokespecial 23, 3), none, none, some (.putfield 28, 3), none, none, some (.aload_n 0, 1), some (.bipush 7, 2), none, some (.newarray .int, 2), none, some (.putfield 31, 3), none, none, some (.aload_n 0, 1), some (.bipush 13, 2), none, some (.newarray .long, 2), none, some (.putfield 34, 3)] = true := by decide +kernel
theorem mDr5_2 : mDc1 prog_3_method_1_code 64 [none, none, some (.aload_n 0, 1), some (.bipush 7, 2), none, some (.newarray .int, 2), none, some (.putfield 38, 3), none, none, some (.aload_n 0, 1), some (.aload_n 1, 1), some (.putfield 41, 3), none, none, some (.aload_n 0, 1), some (.aload_n 2, 1), some (.putfield 45, 3), none, none, some (.aload_n 0, 1), some (.aload_n 3, 1), some (.putfield 49, 3), none, none, some (.return_, 1)] = true := by decide +kernel
theorem mDt5 : mDcP prog_3_method_1_code mct5 := by
  intro j c h
  unfold mct5 at h
  match j, h with
  | 0, h => cases h; exact mDr5_0
  | 1, h => cases h; exact mDr5_1
  | 2, h => cases h; exact mDr5_2
  | n + 3, h => simp at h
theorem mDr6_0 : mDc1 prog_3_method_19_code 0 [some (.aload_n 0, 1), some (.getfield 28, 3), none, none, some (.aload_n 0, 1), some (.getfield 24, 3), none, none, some (.invokevirtual 193, 3), none, none, some (.aload_n 0, 1), some (.iload_n 1, 1), some (.invokevirtual 197, 3), none, none, some (.istore 4, 2), none, some (.lconst 0, 1), some (.lstore 5, 2), none, some (.iconst 0, 1), some (.istore 7, 2), none, some (.iload 7, 2), none, some (.bipush 13, 2), none, some (.if_icmp .ge 67, 3), none, none, some (.iload 4, 2)] = true := by decide +kernel
theorem mDr6_1 : mDc1 prog_3_method_19_code 32 [none, some (.iload 7, 2), none, some (.ishr, 1), some (.iconst 1, 1), some (.iand, 1), some (.ifCond .eq 39, 3), none, none, some (.aload_n 0, 1), some (.getfield 24, 3), none, none, some (.aload_n 0, 1), some (.getfield 28, 3), none, none, some (.invokevirtual 193, 3), none, none, some (.aload_n 0, 1), some (.getfield 9, 3), none, none, some (.iload_n 1, 1), some (.iload 7, 2), none, some (.iconst 5, 1), some (.imul, 1), some (.iastore, 1), some (.aload_n 0, 1), some (.iload_n 1, 1)] = true := by decide +kernel
theorem mDr6_2 : mDc1 prog_3_method_19_code 64 [some (.iconst 1, 1), some (.invokevirtual 134, 3), none, none, some (.lload_n 2, 1), some (.aload_n 0, 1), some (.invokevirtual 180, 3), none, none, some (.i2l, 1), some (.lmul, 1), some (.lstore 5, 2), none, some (.aload_n 0, 1), some (.getfield 34, 3), none, none, some (.iload 7, 2), none, some (.dup2, 1), some (.laload, 1), some (.lload 5, 2), none, some (.ladd, 1), some (.lastore, 1), some (.iinc 7 1, 3), none, none, some (.goto (-68), 3), none, none, some (.return_, 1)] = true := by decide +kernel
theorem mDt6 : mDcP prog_3_method_19_code mct6 := by
  intro j c h
  unfold mct6 at h
  match j, h with
  | 0, h => cases h; exact mDr6_0
  | 1, h => cases h; exact mDr6_1
  | 2, h => cases h; exact mDr6_2
  | n + 3, h => simp at h
theorem mDr7_0 : mDc1 prog_3_method_18_code 0 [some (.aload_n 0, 1), some (.invokevirtual 125, 3), none, none, some (.aload_n 0, 1), some (.iload_n 1, 1), some (.invokevirtual 74, 3), none, none, some (.ifCond .ne 5, 3), none, none, some (.iconst 0, 1), some (.ireturn, 1), some (.aload_n 0, 1), some (.invokevirtual 172, 3), none, none, some (.istore_n 2, 1), some (.aload_n 0, 1), some (.getfield 34, 3), none, none, some (.lconst 0, 1), some (.invokestatic 183, 3), none, none, some (.iconst 0, 1), some (.istore_n 3, 1), some (.iload_n 3, 1), some (.iload_n 2, 1), some (.if_icmp .gt 53, 3)] = true := by decide +kernel
theorem mDr7_1 : mDc1 prog_3_method_18_code 32 [none, none, some (.iload_n 3, 1), some (.iload_n 2, 1), some (.iconst (-1), 1), some (.ixor, 1), some (.iand, 1), some (.ifCond .ne 39, 3), none, none, some (.aload_n 0, 1), some (.iload_n 3, 1), some (.invokevirtual 128, 3), none, none, some (.aload_n 0, 1), some (.invokevirtual 131, 3), none, none, some (.aload_n 0, 1), some (.aload_n 0, 1), some (.getfield 41, 3), none, none, some (.getfield 66, 3), none, none, some (.iconst 1, 1), some (.isub, 1), some (.iload_n 1, 1), some (.iconst 1, 1), some (.iadd, 1)] = true := by decide +kernel
theorem mDr7_2 : mDc1 prog_3_method_18_code 64 [some (.invokevirtual 134, 3), none, none, some (.aload_n 0, 1), some (.iload_n 1, 1), some (.aload_n 0, 1), some (.iload_n 3, 1), some (.iload_n 2, 1), some (.invokevirtual 176, 3), none, none, some (.invokevirtual 189, 3), none, none, some (.iinc 3 1, 3), none, none, some (.goto (-52), 3), none, none, some (.iconst 0, 1), some (.istore_n 3, 1), some (.iconst 1, 1), some (.istore 4, 2), none, some (.iload 4, 2), none, some (.bipush 13, 2), none, some (.if_icmp .ge 29, 3)] = true := by decide +kernel
theorem mDr7_3 : mDc1 prog_3_method_18_code 96 [some (.aload_n 0, 1), some (.getfield 34, 3), none, none, some (.iload 4, 2), none, some (.laload, 1), some (.aload_n 0, 1), some (.getfield 34, 3), none, none, some (.iload_n 3, 1), some (.laload, 1), some (.lcmp, 1), some (.ifCond .ge 6, 3), none, none, some (.iload 4, 2), none, some (.istore_n 3, 1), some (.iinc 4 1, 3), none, none, some (.goto (-30), 3), none, none, some (.iload_n 3, 1), some (.iconst 5, 1), some (.imul, 1), some (.ireturn, 1)] = true := by decide +kernel
theorem mDt7 : mDcP prog_3_method_18_code mct7 := by
  intro j c h
  unfold mct7 at h
  match j, h with
  | 0, h => cases h; exact mDr7_0
  | 1, h => cases h; exact mDr7_1
  | 2, h => cases h; exact mDr7_2
  | 3, h => cases h; exact mDr7_3
  | n + 4, h => simp at h
theorem mDr8_0 : mDc1 prog_3_method_22_code 0 [some (.aload_n 0, 1), some (.getfield 49, 3), none, none, some (.getfield 207, 3), none, none, some (.iload_n 1, 1), some (.iaload, 1), some (.istore_n 2, 1), some (.iload_n 1, 1), some (.bipush 7, 2), none, some (.imul, 1), some (.istore_n 3, 1), some (.aload_n 0, 1), some (.getfield 49, 3), none, none, some (.getfield 210, 3), none, none, some (.iload_n 3, 1), some (.iload_n 2, 1), some (.iadd, 1), some (.iconst 1, 1), some (.isub, 1), some (.iaload, 1), some (.istore 4, 2), none, some (.aload_n 0, 1), some (.getfield 24, 3)] = true := by decide +kernel
theorem mDr8_1 : mDc1 prog_3_method_22_code 32 [none, none, some (.getfield 141, 3), none, none, some (.iload 4, 2), none, some (.iaload, 1), some (.ifCond .eq 5, 3), none, none, some (.iconst 0, 1), some (.ireturn, 1), some (.iload_n 2, 1), some (.iconst 1, 1), some (.isub, 1), some (.istore 5, 2), none, some (.iload 5, 2), none, some (.ifCond .lt 40, 3), none, none, some (.iload 4, 2), none, some (.aload_n 0, 1), some (.getfield 49, 3), none, none, some (.getfield 210, 3)] = true := by decide +kernel
theorem mDr8_2 : mDc1 prog_3_method_22_code 64 [some (.iload_n 3, 1), some (.iload 5, 2), none, some (.iadd, 1), some (.iaload, 1), some (.if_icmp .eq 5, 3), none, none, some (.iconst 0, 1), some (.ireturn, 1), some (.aload_n 0, 1), some (.getfield 24, 3), none, none, some (.getfield 213, 3), none, none, some (.iload 4, 2), none, some (.iaload, 1), some (.istore 4, 2), none, some (.iinc 5 (-1), 3), none, none, some (.goto (-39), 3), none, none, some (.iload 4, 2), none, some (.iconst (-1), 1), some (.if_icmp .ne 7, 3)] = true := by decide +kernel
theorem mDr8_3 : mDc1 prog_3_method_22_code 96 [none, none, some (.iconst 1, 1), some (.goto 4, 3), none, none, some (.iconst 0, 1), some (.ireturn, 1)] = true := by decide +kernel
theorem mDt8 : mDcP prog_3_method_22_code mct8 := by
  intro j c h
  unfold mct8 at h
  match j, h with
  | 0, h => cases h; exact mDr8_0
  | 1, h => cases h; exact mDr8_1
  | 2, h => cases h; exact mDr8_2
  | 3, h => cases h; exact mDr8_3
  | n + 4, h => simp at h
theorem mDr9_0 : mDc1 prog_3_method_15_code 0 [some (.iconst 0, 1), some (.istore_n 1, 1), some (.iconst 0, 1), some (.istore_n 2, 1), some (.iload_n 2, 1), some (.aload_n 0, 1), some (.getfield 41, 3), none, none, some (.getfield 92, 3), none, none, some (.if_icmp .ge 27, 3), none, none, some (.aload_n 0, 1), some (.getfield 41, 3), none, none, some (.getfield 169, 3), none, none, some (.iload_n 2, 1), some (.iaload, 1), some (.ifCond .le 9, 3), none, none, some (.iload_n 1, 1), some (.iconst 1, 1), some (.iload_n 2, 1), some (.ishl, 1), some (.ior, 1)] = true := by decide +kernel
theorem mDr9_1 : mDc1 prog_3_method_15_code 32 [some (.istore_n 1, 1), some (.iinc 2 1, 3), none, none, some (.goto (-32), 3), none, none, some (.iload_n 1, 1), some (.ireturn, 1)] = true := by decide +kernel
theorem mDt9 : mDcP prog_3_method_15_code mct9 := by
  intro j c h
  unfold mct9 at h
  match j, h with
  | 0, h => cases h; exact mDr9_0
  | 1, h => cases h; exact mDr9_1
  | n + 2, h => simp at h
theorem mDr10_0 : mDc1 prog_3_method_24_code 0 [some (.iconst 0, 1), some (.istore_n 1, 1), some (.iconst 0, 1), some (.istore_n 2, 1), some (.iload_n 2, 1), some (.aload_n 0, 1), some (.getfield 41, 3), none, none, some (.getfield 92, 3), none, none, some (.if_icmp .ge 68, 3), none, none, some (.aload_n 0, 1), some (.getfield 41, 3), none, none, some (.getfield 169, 3), none, none, some (.iload_n 2, 1), some (.iaload, 1), some (.ifCond .le 50, 3), none, none, some (.aload_n 0, 1), some (.aload_n 0, 1), some (.getfield 216, 3)] = true := by decide +kernel
theorem mDr10_1 : mDc1 prog_3_method_24_code 32 [some (.ldc 222, 2), none, some (.imul, 1), some (.sipush 12345, 3), none, none, some (.iadd, 1), some (.putfield 216, 3), none, none, some (.aload_n 0, 1), some (.getfield 216, 3), none, none, some (.bipush 16, 2), none, some (.iushr, 1), some (.sipush 32767, 3), none, none, some (.iand, 1), some (.bipush 20, 2), none, some (.irem, 1), some (.aload_n 0, 1), some (.getfield 41, 3), none, none, some (.getfield 169, 3), none, none, some (.iload_n 2, 1)] = true := by decide +kernel
theorem mDr10_2 : mDc1 prog_3_method_24_code 64 [some (.iaload, 1), some (.if_icmp .ge 9, 3), none, none, some (.iload_n 1, 1), some (.iconst 1, 1), some (.iload_n 2, 1), some (.ishl, 1), some (.ior, 1), some (.istore_n 1, 1), some (.iinc 2 1, 3), none, none, some (.goto (-73), 3), none, none, some (.iload_n 1, 1), some (.ireturn, 1)] = true := by decide +kernel
theorem mDt10 : mDcP prog_3_method_24_code mct10 := by
  intro j c h
  unfold mct10 at h
  match j, h with
  | 0, h => cases h; exact mDr10_0
  | 1, h => cases h; exact mDr10_1
  | 2, h => cases h; exact mDr10_2
  | n + 3, h => simp at h
theorem mDr11_0 : mDc1 prog_3_method_8_code 0 [some (.aload_n 0, 1), some (.iconst 0, 1), some (.putfield 138, 3), none, none, some (.iconst 0, 1), some (.istore_n 2, 1), some (.iload_n 2, 1), some (.aload_n 0, 1), some (.getfield 41, 3), none, none, some (.getfield 92, 3), none, none, some (.if_icmp .ge 87, 3), none, none, some (.aload_n 0, 1), some (.getfield 24, 3), none, none, some (.getfield 141, 3), none, none, some (.iload_n 2, 1), some (.iaload, 1), some (.iload_n 1, 1), some (.if_icmp .ne 68, 3), none, none, some (.aload_n 0, 1)] = true := by decide +kernel
theorem mDr11_1 : mDc1 prog_3_method_8_code 32 [some (.getfield 138, 3), none, none, some (.istore_n 3, 1), some (.iload_n 3, 1), some (.ifCond .le 42, 3), none, none, some (.aload_n 0, 1), some (.getfield 24, 3), none, none, some (.iload_n 2, 1), some (.aload_n 0, 1), some (.getfield 31, 3), none, none, some (.iload_n 3, 1), some (.iconst 1, 1), some (.isub, 1), some (.iaload, 1), some (.invokevirtual 144, 3), none, none, some (.ifCond .eq 23, 3), none, none, some (.aload_n 0, 1), some (.getfield 31, 3), none, none, some (.iload_n 3, 1)] = true := by decide +kernel
theorem mDr11_2 : mDc1 prog_3_method_8_code 64 [some (.aload_n 0, 1), some (.getfield 31, 3), none, none, some (.iload_n 3, 1), some (.iconst 1, 1), some (.isub, 1), some (.iaload, 1), some (.iastore, 1), some (.iinc 3 (-1), 3), none, none, some (.goto (-40), 3), none, none, some (.aload_n 0, 1), some (.getfield 31, 3), none, none, some (.iload_n 3, 1), some (.iload_n 2, 1), some (.iastore, 1), some (.aload_n 0, 1), some (.dup, 1), some (.getfield 138, 3), none, none, some (.iconst 1, 1), some (.iadd, 1), some (.putfield 138, 3)] = true := by decide +kernel
theorem mDr11_3 : mDc1 prog_3_method_8_code 96 [some (.iinc 2 1, 3), none, none, some (.goto (-92), 3), none, none, some (.return_, 1)] = true := by decide +kernel
theorem mDt11 : mDcP prog_3_method_8_code mct11 := by
  intro j c h
  unfold mct11 at h
  match j, h with
  | 0, h => cases h; exact mDr11_0
  | 1, h => cases h; exact mDr11_1
  | 2, h => cases h; exact mDr11_2
  | 3, h => cases h; exact mDr11_3
  | n + 4, h => simp at h
theorem mDr12_0 : mDc1 prog_3_method_14_code 0 [some (.aload_n 0, 1), some (.getfield 89, 3), none, none, some (.ineg, 1), some (.istore_n 1, 1), some (.iconst 0, 1), some (.istore_n 2, 1), some (.iconst 0, 1), some (.istore_n 3, 1), some (.iload_n 3, 1), some (.aload_n 0, 1), some (.getfield 41, 3), none, none, some (.getfield 92, 3), none, none, some (.if_icmp .ge 54, 3), none, none, some (.aload_n 0, 1), some (.getfield 24, 3), none, none, some (.getfield 141, 3), none, none, some (.iload_n 3, 1), some (.iaload, 1), some (.ifCond .ne 36, 3)] = true := by decide +kernel
theorem mDr12_1 : mDc1 prog_3_method_14_code 32 [none, some (.iload_n 1, 1), some (.aload_n 0, 1), some (.getfield 45, 3), none, none, some (.getfield 154, 3), none, none, some (.aload_n 0, 1), some (.getfield 24, 3), none, none, some (.getfield 157, 3), none, none, some (.iload_n 3, 1), some (.iaload, 1), some (.iaload, 1), some (.aload_n 0, 1), some (.getfield 24, 3), none, none, some (.getfield 151, 3), none, none, some (.iload_n 3, 1), some (.iaload, 1), some (.imul, 1), some (.iadd, 1), some (.istore_n 1, 1), some (.iinc 2 1, 3)] = true := by decide +kernel
theorem mDr12_2 : mDc1 prog_3_method_14_code 64 [none, none, some (.iinc 3 1, 3), none, none, some (.goto (-59), 3), none, none, some (.iload_n 2, 1), some (.iconst 1, 1), some (.if_icmp .le 14, 3), none, none, some (.iload_n 1, 1), some (.bipush 60, 2), none, some (.iload_n 2, 1), some (.iconst 1, 1), some (.isub, 1), some (.imul, 1), some (.iadd, 1), some (.goto 4, 3), none, none, some (.iload_n 1, 1), some (.ireturn, 1)] = true := by decide +kernel
theorem mDt12 : mDcP prog_3_method_14_code mct12 := by
  intro j c h
  unfold mct12 at h
  match j, h with
  | 0, h => cases h; exact mDr12_0
  | 1, h => cases h; exact mDr12_1
  | 2, h => cases h; exact mDr12_2
  | n + 3, h => simp at h
theorem mDr13_0 : mDc1 prog_3_method_23_code 0 [some (.aload_n 0, 1), some (.invokevirtual 125, 3), none, none, some (.aload_n 0, 1), some (.iload_n 1, 1), some (.putfield 216, 3), none, none, some (.iconst 0, 1), some (.istore_n 3, 1), some (.iconst 0, 1), some (.istore 4, 2), none, some (.iload 4, 2), none, some (.iload_n 2, 1), some (.if_icmp .ge 42, 3), none, none, some (.aload_n 0, 1), some (.aload_n 0, 1), some (.invokevirtual 219, 3), none, none, some (.invokevirtual 128, 3), none, none, some (.aload_n 0, 1), some (.invokevirtual 131, 3)] = true := by decide +kernel
theorem mDr13_1 : mDc1 prog_3_method_23_code 32 [some (.aload_n 0, 1), some (.aload_n 0, 1), some (.getfield 41, 3), none, none, some (.getfield 66, 3), none, none, some (.iconst 1, 1), some (.isub, 1), some (.iconst 1, 1), some (.invokevirtual 134, 3), none, none, some (.iload_n 3, 1), some (.aload_n 0, 1), some (.invokevirtual 180, 3), none, none, some (.iadd, 1), some (.istore_n 3, 1), some (.iinc 4 1, 3), none, none, some (.goto (-42), 3), none, none, some (.iload_n 3, 1), some (.ireturn, 1)] = true := by decide +kernel
theorem mDt13 : mDcP prog_3_method_23_code mct13 := by
  intro j c h
  unfold mct13 at h
  match j, h with
  | 0, h => cases h; exact mDr13_0
  | 1, h => cases h; exact mDr13_1
  | n + 2, h => simp at h
theorem mDr14_0 : mDc1 prog_3_method_3_code 0 [some (.aload_n 0, 1), some (.getfield 62, 3), none, none, some (.iload_n 1, 1), some (.ishr, 1), some (.iconst 1, 1), some (.iand, 1), some (.ifCond .eq 7, 3), none, none, some (.iconst 1, 1), some (.goto 4, 3), none, none, some (.iconst 0, 1), some (.ireturn, 1)] = true := by decide +kernel
theorem mDt14 : mDcP prog_3_method_3_code mct14 := by
  intro j c h
  unfold mct14 at h
  match j, h with
  | 0, h => cases h; exact mDr14_0
  | n + 1, h => simp at h
theorem mDr15_0 : mDc1 prog_3_method_10_code 0 [some (.aload_n 0, 1), some (.getfield 31, 3), none, none, some (.iload_n 1, 1), some (.iaload, 1), some (.istore_n 3, 1), some (.aload_n 0, 1), some (.getfield 24, 3), none, none, some (.getfield 151, 3), none, none, some (.iload_n 3, 1), some (.iaload, 1), some (.aload_n 0, 1), some (.getfield 9, 3), none, none, some (.iload_n 2, 1), some (.iaload, 1), some (.iadd, 1), some (.istore 4, 2), none, some (.aload_n 0, 1), some (.getfield 24, 3), none, none, some (.getfield 151, 3)] = true := by decide +kernel
theorem mDr15_1 : mDc1 prog_3_method_10_code 32 [some (.iload_n 3, 1), some (.iaload, 1), some (.istore 5, 2), none, some (.iconst 0, 1), some (.istore 6, 2), none, some (.iload_n 1, 1), some (.iconst 1, 1), some (.iadd, 1), some (.istore 7, 2), none, some (.iload 7, 2), none, some (.aload_n 0, 1), some (.getfield 138, 3), none, none, some (.if_icmp .ge 129, 3), none, none, some (.aload_n 0, 1), some (.getfield 24, 3), none, none, some (.getfield 151, 3), none, none, some (.aload_n 0, 1), some (.getfield 31, 3)] = true := by decide +kernel
theorem mDr15_2 : mDc1 prog_3_method_10_code 64 [some (.iload 7, 2), none, some (.iaload, 1), some (.iaload, 1), some (.iload 4, 2), none, some (.if_icmp .gt 109, 3), none, none, some (.aload_n 0, 1), some (.getfield 31, 3), none, none, some (.iload 7, 2), none, some (.iaload, 1), some (.istore 8, 2), none, some (.aload_n 0, 1), some (.getfield 24, 3), none, none, some (.getfield 141, 3), none, none, some (.iload 8, 2), none, some (.iaload, 1), some (.iload_n 2, 1), some (.if_icmp .ne 7, 3)] = true := by decide +kernel
theorem mDr15_3 : mDc1 prog_3_method_10_code 96 [some (.iconst 1, 1), some (.goto 4, 3), none, none, some (.iconst 0, 1), some (.istore 9, 2), none, some (.iload 9, 2), none, some (.ifCond .eq 68, 3), none, none, some (.aload_n 0, 1), some (.getfield 45, 3), none, none, some (.getfield 154, 3), none, none, some (.aload_n 0, 1), some (.getfield 24, 3), none, none, some (.getfield 157, 3), none, none, some (.iload_n 3, 1), some (.iaload, 1), some (.aload_n 0, 1), some (.getfield 24, 3)] = true := by decide +kernel
theorem mDr15_4 : mDc1 prog_3_method_10_code 128 [some (.getfield 157, 3), none, none, some (.iload 8, 2), none, some (.iaload, 1), some (.ior, 1), some (.iaload, 1), some (.aload_n 0, 1), some (.getfield 41, 3), none, none, some (.getfield 160, 3), none, none, some (.iload_n 2, 1), some (.iaload, 1), some (.if_icmp .gt 28, 3), none, none, some (.aload_n 0, 1), some (.getfield 24, 3), none, none, some (.iload_n 3, 1), some (.iload 8, 2), none, some (.invokevirtual 163, 3), none, none, some (.aload_n 0, 1), some (.getfield 24, 3)] = true := by decide +kernel
theorem mDr15_5 : mDc1 prog_3_method_10_code 160 [none, none, some (.getfield 151, 3), none, none, some (.iload 8, 2), none, some (.iaload, 1), some (.istore 5, 2), none, some (.iinc 6 1, 3), none, none, some (.iinc 7 1, 3), none, none, some (.goto (-132), 3), none, none, some (.aload_n 0, 1), some (.getfield 24, 3), none, none, some (.getfield 151, 3), none, none, some (.iload_n 3, 1), some (.iload 5, 2), none, some (.iload 6, 2), none, some (.aload_n 0, 1)] = true := by decide +kernel
theorem mDr15_6 : mDc1 prog_3_method_10_code 192 [some (.getfield 41, 3), none, none, some (.getfield 166, 3), none, none, some (.iload_n 2, 1), some (.iaload, 1), some (.imul, 1), some (.iadd, 1), some (.iastore, 1), some (.return_, 1)] = true := by decide +kernel
theorem mDt15 : mDcP prog_3_method_10_code mct15 := by
  intro j c h
  unfold mct15 at h
  match j, h with
  | 0, h => cases h; exact mDr15_0
  | 1, h => cases h; exact mDr15_1
  | 2, h => cases h; exact mDr15_2
  | 3, h => cases h; exact mDr15_3
  | 4, h => cases h; exact mDr15_4
  | 5, h => cases h; exact mDr15_5
  | 6, h => cases h; exact mDr15_6
  | n + 7, h => simp at h
theorem mDr16_0 : mDc1 prog_3_method_9_code 0 [some (.iconst 0, 1), some (.istore_n 2, 1), some (.iload_n 2, 1), some (.aload_n 0, 1), some (.getfield 138, 3), none, none, some (.iconst 1, 1), some (.isub, 1), some (.if_icmp .ge 33, 3), none, none, some (.aload_n 0, 1), some (.getfield 24, 3), none, none, some (.getfield 141, 3), none, none, some (.aload_n 0, 1), some (.getfield 31, 3), none, none, some (.iload_n 2, 1), some (.iaload, 1), some (.iaload, 1), some (.iload_n 1, 1), some (.if_icmp .ne 9, 3), none, none, some (.aload_n 0, 1), some (.iload_n 2, 1)] = true := by decide +kernel
theorem mDr16_1 : mDc1 prog_3_method_9_code 32 [some (.iload_n 1, 1), some (.invokevirtual 148, 3), none, none, some (.iinc 2 1, 3), none, none, some (.goto (-37), 3), none, none, some (.return_, 1)] = true := by decide +kernel
theorem mDt16 : mDcP prog_3_method_9_code mct16 := by
  intro j c h
  unfold mct16 at h
  match j, h with
  | 0, h => cases h; exact mDr16_0
  | 1, h => cases h; exact mDr16_1
  | n + 2, h => simp at h
theorem mDr17_0 : mDc1 prog_3_method_11_code 0 [some (.aload_n 0, 1), some (.getfield 15, 3), none, none, some (.iload_n 1, 1), some (.iaload, 1), some (.istore_n 2, 1), some (.aload_n 0, 1), some (.getfield 45, 3), none, none, some (.iload_n 1, 1), some (.iload_n 2, 1), some (.invokevirtual 104, 3), none, none, some (.istore_n 3, 1), some (.iconst 0, 1), some (.istore 4, 2), none, some (.iload 4, 2), none, some (.aload_n 0, 1), some (.getfield 138, 3), none, none, some (.if_icmp .ge 57, 3), none, none, some (.aload_n 0, 1), some (.getfield 31, 3)] = true := by decide +kernel
theorem mDr17_1 : mDc1 prog_3_method_11_code 32 [none, some (.iload 4, 2), none, some (.iaload, 1), some (.istore 5, 2), none, some (.aload_n 0, 1), some (.getfield 24, 3), none, none, some (.getfield 141, 3), none, none, some (.iload 5, 2), none, some (.iaload, 1), some (.iload_n 1, 1), some (.if_icmp .ne 28, 3), none, none, some (.aload_n 0, 1), some (.getfield 24, 3), none, none, some (.getfield 141, 3), none, none, some (.iload 5, 2), none, some (.iload_n 2, 1), some (.iastore, 1), some (.aload_n 0, 1)] = true := by decide +kernel
theorem mDr17_2 : mDc1 prog_3_method_11_code 64 [some (.getfield 24, 3), none, none, some (.getfield 151, 3), none, none, some (.iload 5, 2), none, some (.dup2, 1), some (.iaload, 1), some (.iload_n 3, 1), some (.iadd, 1), some (.iastore, 1), some (.iinc 4 1, 3), none, none, some (.goto (-60), 3), none, none, some (.return_, 1)] = true := by decide +kernel
theorem mDt17 : mDcP prog_3_method_11_code mct17 := by
  intro j c h
  unfold mct17 at h
  match j, h with
  | 0, h => cases h; exact mDr17_0
  | 1, h => cases h; exact mDr17_1
  | 2, h => cases h; exact mDr17_2
  | n + 3, h => simp at h
theorem mDr18_0 : mDc1 prog_3_method_17_code 0 [some (.aload_n 0, 1), some (.invokevirtual 125, 3), none, none, some (.aload_n 0, 1), some (.invokevirtual 172, 3), none, none, some (.istore_n 1, 1), some (.lconst 0, 1), some (.lstore_n 2, 1), some (.iconst 0, 1), some (.istore 4, 2), none, some (.iload 4, 2), none, some (.iload_n 1, 1), some (.if_icmp .gt 58, 3), none, none, some (.iload 4, 2), none, some (.iload_n 1, 1), some (.iconst (-1), 1), some (.ixor, 1), some (.iand, 1), some (.ifCond .ne 43, 3), none, none, some (.aload_n 0, 1), some (.iload 4, 2)] = true := by decide +kernel
theorem mDr18_1 : mDc1 prog_3_method_17_code 32 [some (.invokevirtual 128, 3), none, none, some (.aload_n 0, 1), some (.invokevirtual 131, 3), none, none, some (.aload_n 0, 1), some (.aload_n 0, 1), some (.getfield 41, 3), none, none, some (.getfield 66, 3), none, none, some (.iconst 1, 1), some (.isub, 1), some (.iconst 1, 1), some (.invokevirtual 134, 3), none, none, some (.lload_n 2, 1), some (.aload_n 0, 1), some (.iload 4, 2), none, some (.iload_n 1, 1), some (.invokevirtual 176, 3), none, none, some (.aload_n 0, 1), some (.invokevirtual 180, 3)] = true := by decide +kernel
theorem mDr18_2 : mDc1 prog_3_method_17_code 64 [none, some (.i2l, 1), some (.lmul, 1), some (.ladd, 1), some (.lstore_n 2, 1), some (.iinc 4 1, 3), none, none, some (.goto (-58), 3), none, none, some (.lload_n 2, 1), some (.lreturn, 1)] = true := by decide +kernel
theorem mDt18 : mDcP prog_3_method_17_code mct18 := by
  intro j c h
  unfold mct18 at h
  match j, h with
  | 0, h => cases h; exact mDr18_0
  | 1, h => cases h; exact mDr18_1
  | 2, h => cases h; exact mDr18_2
  | n + 3, h => simp at h
theorem mDr19_0 : mDc1 prog_3_method_7_code 0 [some (.aload_n 0, 1), some (.invokevirtual 125, 3), none, none, some (.aload_n 0, 1), some (.iload_n 1, 1), some (.invokevirtual 128, 3), none, none, some (.aload_n 0, 1), some (.invokevirtual 131, 3), none, none, some (.aload_n 0, 1), some (.aload_n 0, 1), some (.getfield 41, 3), none, none, some (.getfield 66, 3), none, none, some (.iconst 1, 1), some (.isub, 1), some (.iconst 1, 1), some (.invokevirtual 134, 3), none, none, some (.return_, 1)] = true := by decide +kernel
theorem mDt19 : mDcP prog_3_method_7_code mct19 := by
  intro j c h
  unfold mct19 at h
  match j, h with
  | 0, h => cases h; exact mDr19_0
  | n + 1, h => simp at h
theorem mDr20_0 : mDc1 prog_3_method_2_code 0 [some (.aload_n 0, 1), some (.getfield 49, 3), none, none, some (.getfield 53, 3), none, none, some (.iconst 0, 1), some (.aload_n 0, 1), some (.getfield 9, 3), none, none, some (.iconst 0, 1), some (.bipush 12, 2), none, some (.invokestatic 56, 3), none, none, some (.aload_n 0, 1), some (.iconst 0, 1), some (.putfield 62, 3), none, none, some (.iconst 1, 1), some (.istore_n 1, 1), some (.iload_n 1, 1), some (.aload_n 0, 1), some (.getfield 41, 3), none, none, some (.getfield 66, 3)] = true := by decide +kernel
theorem mDr20_1 : mDc1 prog_3_method_2_code 32 [none, some (.if_icmp .ge 99, 3), none, none, some (.aload_n 0, 1), some (.getfield 41, 3), none, none, some (.getfield 71, 3), none, none, some (.iload_n 1, 1), some (.iaload, 1), some (.istore_n 2, 1), some (.aload_n 0, 1), some (.getfield 15, 3), none, none, some (.iload_n 1, 1), some (.iload_n 2, 1), some (.ifCond .eq 11, 3), none, none, some (.aload_n 0, 1), some (.iload_n 2, 1), some (.invokevirtual 74, 3), none, none, some (.ifCond .eq 7, 3), none, none, some (.iload_n 2, 1)] = true := by decide +kernel
theorem mDr20_2 : mDc1 prog_3_method_2_code 64 [some (.goto 9, 3), none, none, some (.aload_n 0, 1), some (.getfield 15, 3), none, none, some (.iload_n 2, 1), some (.iaload, 1), some (.iastore, 1), some (.aload_n 0, 1), some (.getfield 45, 3), none, none, some (.getfield 78, 3), none, none, some (.iload_n 1, 1), some (.iaload, 1), some (.istore_n 3, 1), some (.aload_n 0, 1), some (.getfield 41, 3), none, none, some (.iload_n 1, 1), some (.invokevirtual 83, 3), none, none, some (.ifCond .eq 34, 3), none, none, some (.aload_n 0, 1)] = true := by decide +kernel
theorem mDr20_3 : mDc1 prog_3_method_2_code 96 [some (.getfield 49, 3), none, none, some (.iload_n 1, 1), some (.invokevirtual 86, 3), none, none, some (.ifCond .ne 23, 3), none, none, some (.iload_n 3, 1), some (.iload_n 3, 1), some (.iconst 1, 1), some (.isub, 1), some (.iand, 1), some (.ifCond .eq 15, 3), none, none, some (.aload_n 0, 1), some (.dup, 1), some (.getfield 62, 3), none, none, some (.iconst 1, 1), some (.iload_n 1, 1), some (.ishl, 1), some (.ior, 1), some (.putfield 62, 3), none, none, some (.iinc 1 1, 3)] = true := by decide +kernel
theorem mDr20_4 : mDc1 prog_3_method_2_code 128 [none, some (.goto (-104), 3), none, none, some (.aload_n 0, 1), some (.iconst 0, 1), some (.putfield 89, 3), none, none, some (.iconst 0, 1), some (.istore_n 1, 1), some (.iload_n 1, 1), some (.aload_n 0, 1), some (.getfield 41, 3), none, none, some (.getfield 92, 3), none, none, some (.if_icmp .ge 55, 3), none, none, some (.aload_n 0, 1), some (.dup, 1), some (.getfield 89, 3), none, none, some (.aload_n 0, 1), some (.getfield 41, 3), none, none, some (.getfield 95, 3)] = true := by decide +kernel
theorem mDr20_5 : mDc1 prog_3_method_2_code 160 [none, none, some (.iload_n 1, 1), some (.iaload, 1), some (.aload_n 0, 1), some (.getfield 49, 3), none, none, some (.getfield 98, 3), none, none, some (.iload_n 1, 1), some (.iaload, 1), some (.aload_n 0, 1), some (.getfield 45, 3), none, none, some (.aload_n 0, 1), some (.getfield 41, 3), none, none, some (.getfield 101, 3), none, none, some (.iload_n 1, 1), some (.iaload, 1), some (.iconst 0, 1), some (.invokevirtual 104, 3), none, none, some (.iadd, 1), some (.imul, 1)] = true := by decide +kernel
theorem mDr20_6 : mDc1 prog_3_method_2_code 192 [some (.iadd, 1), some (.putfield 89, 3), none, none, some (.iinc 1 1, 3), none, none, some (.goto (-60), 3), none, none, some (.return_, 1)] = true := by decide +kernel
theorem mDt20 : mDcP prog_3_method_2_code mct20 := by
  intro j c h
  unfold mct20 at h
  match j, h with
  | 0, h => cases h; exact mDr20_0
  | 1, h => cases h; exact mDr20_1
  | 2, h => cases h; exact mDr20_2
  | 3, h => cases h; exact mDr20_3
  | 4, h => cases h; exact mDr20_4
  | 5, h => cases h; exact mDr20_5
  | 6, h => cases h; exact mDr20_6
  | n + 7, h => simp at h
theorem mDr21_0 : mDc1 prog_3_method_12_code 0 [some (.iconst 0, 1), some (.istore_n 2, 1), some (.iload_n 2, 1), some (.aload_n 0, 1), some (.getfield 41, 3), none, none, some (.getfield 92, 3), none, none, some (.if_icmp .ge 47, 3), none, none, some (.aload_n 0, 1), some (.getfield 24, 3), none, none, some (.getfield 141, 3), none, none, some (.iload_n 2, 1), some (.iaload, 1), some (.ifCond .ne 29, 3), none, none, some (.aload_n 0, 1), some (.getfield 24, 3), none, none, some (.getfield 157, 3)] = true := by decide +kernel
theorem mDr21_1 : mDc1 prog_3_method_12_code 32 [some (.iload_n 2, 1), some (.iaload, 1), some (.iload_n 1, 1), some (.ishr, 1), some (.iconst 1, 1), some (.iand, 1), some (.ifCond .eq 13, 3), none, none, some (.aload_n 0, 1), some (.getfield 24, 3), none, none, some (.getfield 151, 3), none, none, some (.iload_n 2, 1), some (.iaload, 1), some (.ireturn, 1), some (.iinc 2 1, 3), none, none, some (.goto (-52), 3), none, none, some (.iconst (-1), 1), some (.ireturn, 1)] = true := by decide +kernel
theorem mDt21 : mDcP prog_3_method_12_code mct21 := by
  intro j c h
  unfold mct21 at h
  match j, h with
  | 0, h => cases h; exact mDr21_0
  | 1, h => cases h; exact mDr21_1
  | n + 2, h => simp at h
theorem mDr22_0 : mDc1 prog_3_method_13_code 0 [some (.iconst 0, 1), some (.istore_n 1, 1), some (.iconst 0, 1), some (.istore_n 2, 1), some (.iload_n 2, 1), some (.aload_n 0, 1), some (.getfield 41, 3), none, none, some (.getfield 92, 3), none, none, some (.if_icmp .ge 24, 3), none, none, some (.aload_n 0, 1), some (.getfield 24, 3), none, none, some (.getfield 141, 3), none, none, some (.iload_n 2, 1), some (.iaload, 1), some (.ifCond .ne 6, 3), none, none, some (.iinc 1 1, 3), none, none, some (.iinc 2 1, 3)] = true := by decide +kernel
theorem mDr22_1 : mDc1 prog_3_method_13_code 32 [none, some (.goto (-29), 3), none, none, some (.iload_n 1, 1), some (.ireturn, 1)] = true := by decide +kernel
theorem mDt22 : mDcP prog_3_method_13_code mct22 := by
  intro j c h
  unfold mct22 at h
  match j, h with
  | 0, h => cases h; exact mDr22_0
  | 1, h => cases h; exact mDr22_1
  | n + 2, h => simp at h
theorem mDr23_0 : mDc1 prog_3_method_4_code 0 [some (.iconst 0, 1), some (.istore_n 2, 1), some (.iload_n 2, 1), some (.aload_n 0, 1), some (.getfield 41, 3), none, none, some (.getfield 92, 3), none, none, some (.if_icmp .ge 36, 3), none, none, some (.aload_n 0, 1), some (.getfield 18, 3), none, none, some (.iload_n 2, 1), some (.iload_n 1, 1), some (.iload_n 2, 1), some (.ishr, 1), some (.iconst 1, 1), some (.iand, 1), some (.ifCond .eq 15, 3), none, none, some (.aload_n 0, 1), some (.getfield 41, 3), none, none, some (.getfield 108, 3)] = true := by decide +kernel
theorem mDr23_1 : mDc1 prog_3_method_4_code 32 [none, some (.iload_n 2, 1), some (.iaload, 1), some (.goto 4, 3), none, none, some (.iconst 0, 1), some (.iastore, 1), some (.iinc 2 1, 3), none, none, some (.goto (-41), 3), none, none, some (.return_, 1)] = true := by decide +kernel
theorem mDt23 : mDcP prog_3_method_4_code mct23 := by
  intro j c h
  unfold mct23 at h
  match j, h with
  | 0, h => cases h; exact mDr23_0
  | 1, h => cases h; exact mDr23_1
  | n + 2, h => simp at h
theorem mDr24_0 : mDc1 prog_3_method_5_code 0 [some (.iconst 0, 1), some (.istore_n 1, 1), some (.iload_n 1, 1), some (.aload_n 0, 1), some (.getfield 41, 3), none, none, some (.getfield 92, 3), none, none, some (.if_icmp .ge 73, 3), none, none, some (.aload_n 0, 1), some (.getfield 41, 3), none, none, some (.getfield 101, 3), none, none, some (.iload_n 1, 1), some (.iaload, 1), some (.istore_n 2, 1), some (.aload_n 0, 1), some (.iload_n 2, 1), some (.invokevirtual 74, 3), none, none, some (.ifCond .eq 7, 3), none, none, some (.iload_n 2, 1)] = true := by decide +kernel
theorem mDr24_1 : mDc1 prog_3_method_5_code 32 [some (.goto 9, 3), none, none, some (.aload_n 0, 1), some (.getfield 15, 3), none, none, some (.iload_n 2, 1), some (.iaload, 1), some (.istore_n 3, 1), some (.aload_n 0, 1), some (.getfield 24, 3), none, none, some (.iload_n 1, 1), some (.iload_n 3, 1), some (.aload_n 0, 1), some (.getfield 49, 3), none, none, some (.getfield 98, 3), none, none, some (.iload_n 1, 1), some (.iaload, 1), some (.aload_n 0, 1), some (.getfield 18, 3), none, none, some (.iload_n 1, 1), some (.iaload, 1), some (.iadd, 1)] = true := by decide +kernel
theorem mDr24_2 : mDc1 prog_3_method_5_code 64 [some (.aload_n 0, 1), some (.getfield 45, 3), none, none, some (.iload_n 2, 1), some (.iload_n 3, 1), some (.invokevirtual 104, 3), none, none, some (.iadd, 1), some (.invokevirtual 111, 3), none, none, some (.iinc 1 1, 3), none, none, some (.goto (-78), 3), none, none, some (.return_, 1)] = true := by decide +kernel
theorem mDt24 : mDcP prog_3_method_5_code mct24 := by
  intro j c h
  unfold mct24 at h
  match j, h with
  | 0, h => cases h; exact mDr24_0
  | 1, h => cases h; exact mDr24_1
  | 2, h => cases h; exact mDr24_2
  | n + 3, h => simp at h
theorem mDr25_0 : mDc1 prog_3_method_21_code 0 [some (.aload_n 0, 1), some (.iconst 0, 1), some (.invokevirtual 201, 3), none, none, some (.iconst 0, 1), some (.istore 4, 2), none, some (.iload 4, 2), none, some (.aload_n 0, 1), some (.getfield 41, 3), none, none, some (.getfield 92, 3), none, none, some (.if_icmp .ge 22, 3), none, none, some (.aload_n 0, 1), some (.getfield 38, 3), none, none, some (.iload 4, 2), none, some (.aload_n 0, 1), some (.iload 4, 2), none, some (.invokevirtual 204, 3)] = true := by decide +kernel
theorem mDr25_1 : mDc1 prog_3_method_21_code 32 [some (.iastore, 1), some (.iinc 4 1, 3), none, none, some (.goto (-28), 3), none, none, some (.aload_n 0, 1), some (.getfield 18, 3), none, none, some (.iload_n 1, 1), some (.iload_n 2, 1), some (.iastore, 1), some (.aload_n 0, 1), some (.invokevirtual 131, 3), none, none, some (.aload_n 0, 1), some (.aload_n 0, 1), some (.getfield 41, 3), none, none, some (.getfield 66, 3), none, none, some (.iconst 1, 1), some (.isub, 1), some (.iconst 1, 1), some (.invokevirtual 134, 3)] = true := by decide +kernel
theorem mDr25_2 : mDc1 prog_3_method_21_code 64 [some (.iconst 0, 1), some (.istore 4, 2), none, some (.iconst 0, 1), some (.istore 5, 2), none, some (.iload 5, 2), none, some (.aload_n 0, 1), some (.getfield 41, 3), none, none, some (.getfield 92, 3), none, none, some (.if_icmp .ge 51, 3), none, none, some (.aload_n 0, 1), some (.iload 5, 2), none, some (.invokevirtual 204, 3), none, none, some (.aload_n 0, 1), some (.getfield 38, 3), none, none, some (.iload 5, 2), none, some (.iaload, 1), some (.isub, 1)] = true := by decide +kernel
theorem mDr25_3 : mDc1 prog_3_method_21_code 96 [some (.istore 6, 2), none, some (.iload 5, 2), none, some (.iload_n 1, 1), some (.if_icmp .eq 23, 3), none, none, some (.iload 6, 2), none, some (.ifCond .le 18, 3), none, none, some (.iload 4, 2), none, some (.iload_n 3, 1), some (.ifCond .eq 8, 3), none, none, some (.iload 6, 2), none, some (.goto 4, 3), none, none, some (.iconst 1, 1), some (.iadd, 1), some (.istore 4, 2), none, some (.iinc 5 1, 3), none, none, some (.goto (-57), 3)] = true := by decide +kernel
theorem mDr25_4 : mDc1 prog_3_method_21_code 128 [none, none, some (.iload 4, 2), none, some (.ireturn, 1)] = true := by decide +kernel
theorem mDt25 : mDcP prog_3_method_21_code mct25 := by
  intro j c h
  unfold mct25 at h
  match j, h with
  | 0, h => cases h; exact mDr25_0
  | 1, h => cases h; exact mDr25_1
  | 2, h => cases h; exact mDr25_2
  | 3, h => cases h; exact mDr25_3
  | 4, h => cases h; exact mDr25_4
  | n + 5, h => simp at h
theorem mDr26_0 : mDc1 prog_3_method_20_code 0 [some (.aload_n 0, 1), some (.iload_n 1, 1), some (.invokevirtual 115, 3), none, none, some (.iconst 1, 1), some (.istore_n 2, 1), some (.iconst 0, 1), some (.istore_n 3, 1), some (.iload_n 3, 1), some (.aload_n 0, 1), some (.getfield 138, 3), none, none, some (.if_icmp .ge 81, 3), none, none, some (.iload_n 3, 1), some (.iconst 1, 1), some (.iadd, 1), some (.istore 4, 2), none, some (.iload 4, 2), none, some (.aload_n 0, 1), some (.getfield 138, 3), none, none, some (.if_icmp .ge 61, 3), none, none, some (.aload_n 0, 1)] = true := by decide +kernel
theorem mDr26_1 : mDc1 prog_3_method_20_code 32 [some (.getfield 24, 3), none, none, some (.getfield 151, 3), none, none, some (.aload_n 0, 1), some (.getfield 31, 3), none, none, some (.iload 4, 2), none, some (.iaload, 1), some (.iaload, 1), some (.aload_n 0, 1), some (.getfield 24, 3), none, none, some (.getfield 151, 3), none, none, some (.aload_n 0, 1), some (.getfield 31, 3), none, none, some (.iload_n 3, 1), some (.iaload, 1), some (.iaload, 1), some (.isub, 1), some (.istore 5, 2), none, some (.iload 5, 2)] = true := by decide +kernel
theorem mDr26_2 : mDc1 prog_3_method_20_code 64 [none, some (.bipush 60, 2), none, some (.if_icmp .gt 16, 3), none, none, some (.iload_n 2, 1), some (.iconst 1, 1), some (.iload 5, 2), none, some (.iconst 5, 1), some (.iadd, 1), some (.iconst 1, 1), some (.isub, 1), some (.iconst 5, 1), some (.idiv, 1), some (.ishl, 1), some (.ior, 1), some (.istore_n 2, 1), some (.iinc 4 1, 3), none, none, some (.goto (-64), 3), none, none, some (.iinc 3 1, 3), none, none, some (.goto (-83), 3), none, none, some (.iload_n 2, 1)] = true := by decide +kernel
theorem mDr26_3 : mDc1 prog_3_method_20_code 96 [some (.ireturn, 1)] = true := by decide +kernel
theorem mDt26 : mDcP prog_3_method_20_code mct26 := by
  intro j c h
  unfold mct26 at h
  match j, h with
  | 0, h => cases h; exact mDr26_0
  | 1, h => cases h; exact mDr26_1
  | 2, h => cases h; exact mDr26_2
  | 3, h => cases h; exact mDr26_3
  | n + 4, h => simp at h
theorem mDr27_0 : mDc1 prog_3_method_6_code 0 [some (.iload_n 1, 1), some (.istore_n 3, 1), some (.iload_n 3, 1), some (.iload_n 2, 1), some (.if_icmp .lt 32, 3), none, none, some (.aload_n 0, 1), some (.iload_n 3, 1), some (.invokevirtual 74, 3), none, none, some (.ifCond .eq 18, 3), none, none, some (.aload_n 0, 1), some (.iload_n 3, 1), some (.invokevirtual 115, 3), none, none, some (.aload_n 0, 1), some (.iload_n 3, 1), some (.invokevirtual 119, 3), none, none, some (.aload_n 0, 1), some (.iload_n 3, 1), some (.invokevirtual 122, 3), none, none, some (.iinc 3 (-1), 3)] = true := by decide +kernel
theorem mDr27_1 : mDc1 prog_3_method_6_code 32 [none, some (.goto (-31), 3), none, none, some (.return_, 1)] = true := by decide +kernel
theorem mDt27 : mDcP prog_3_method_6_code mct27 := by
  intro j c h
  unfold mct27 at h
  match j, h with
  | 0, h => cases h; exact mDr27_0
  | 1, h => cases h; exact mDr27_1
  | n + 2, h => simp at h
theorem mDr28_0 : mDc1 prog_3_method_16_code 0 [some (.lconst 1, 1), some (.lstore_n 3, 1), some (.iconst 0, 1), some (.istore 5, 2), none, some (.iload 5, 2), none, some (.aload_n 0, 1), some (.getfield 41, 3), none, none, some (.getfield 92, 3), none, none, some (.if_icmp .ge 58, 3), none, none, some (.iload_n 2, 1), some (.iload 5, 2), none, some (.ishr, 1), some (.iconst 1, 1), some (.iand, 1), some (.ifCond .eq 43, 3), none, none, some (.lload_n 3, 1), some (.iload_n 1, 1), some (.iload 5, 2), none, some (.ishr, 1), some (.iconst 1, 1)] = true := by decide +kernel
theorem mDr28_1 : mDc1 prog_3_method_16_code 32 [some (.iand, 1), some (.ifCond .eq 17, 3), none, none, some (.aload_n 0, 1), some (.getfield 41, 3), none, none, some (.getfield 169, 3), none, none, some (.iload 5, 2), none, some (.iaload, 1), some (.i2l, 1), some (.goto 17, 3), none, none, some (.bipush 20, 2), none, some (.aload_n 0, 1), some (.getfield 41, 3), none, none, some (.getfield 169, 3), none, none, some (.iload 5, 2), none, some (.iaload, 1), some (.isub, 1), some (.i2l, 1)] = true := by decide +kernel
theorem mDr28_2 : mDc1 prog_3_method_16_code 64 [some (.lmul, 1), some (.lstore_n 3, 1), some (.iinc 5 1, 3), none, none, some (.goto (-64), 3), none, none, some (.lload_n 3, 1), some (.lreturn, 1)] = true := by decide +kernel
theorem mDt28 : mDcP prog_3_method_16_code mct28 := by
  intro j c h
  unfold mct28 at h
  match j, h with
  | 0, h => cases h; exact mDr28_0
  | 1, h => cases h; exact mDr28_1
  | 2, h => cases h; exact mDr28_2
  | n + 3, h => simp at h
theorem mDr29_0 : mDc1 prog_4_method_1_code 0 [some (.aload_n 0, 1), some (.invokespecial 3, 3), none, none, some (.aload_n 0, 1), some (.sipush 128, 3), none, none, some (.newarray .int, 2), none, some (.putfield 9, 3), none, none, some (.aload_n 0, 1), some (.sipush 128, 3), none, none, some (.newarray .int, 2), none, some (.putfield 15, 3), none, none, some (.aload_n 0, 1), some (.sipush 128, 3), none, none, some (.newarray .int, 2), none, some (.putfield 18, 3), none, none, some (.aload_n 0, 1)] = true := by decide +kernel
theorem mDr29_1 : mDc1 prog_4_method_1_code 32 [some (.sipush 128, 3), none, none, some (.newarray .int, 2), none, some (.putfield 21, 3), none, none, some (.aload_n 0, 1), some (.sipush 896, 3), none, none, some (.newarray .int, 2), none, some (.putfield 24, 3), none, none, some (.aload_n 0, 1), some (.sipush 896, 3), none, none, some (.newarray .int, 2), none, some (.putfield 27, 3), none, none, some (.aload_n 0, 1), some (.sipush 128, 3), none, none, some (.newarray .long, 2)] = true := by decide +kernel
theorem mDr29_2 : mDc1 prog_4_method_1_code 64 [some (.putfield 30, 3), none, none, some (.aload_n 0, 1), some (.bipush 7, 2), none, some (.newarray .int, 2), none, some (.putfield 34, 3), none, none, some (.aload_n 0, 1), some (.iconst 4, 1), some (.newarray .int, 2), none, some (.putfield 37, 3), none, none, some (.aload_n 0, 1), some (.bipush 7, 2), none, some (.newarray .int, 2), none, some (.putfield 40, 3), none, none, some (.aload_n 0, 1), some (.bipush 48, 2), none, some (.newarray .int, 2), none, some (.putfield 43, 3)] = true := by decide +kernel
theorem mDr29_3 : mDc1 prog_4_method_1_code 96 [none, none, some (.aload_n 0, 1), some (.aload_n 1, 1), some (.putfield 46, 3), none, none, some (.aload_n 0, 1), some (.aload_n 2, 1), some (.putfield 50, 3), none, none, some (.aload_n 0, 1), some (.aload_n 3, 1), some (.putfield 54, 3), none, none, some (.aload_n 0, 1), some (.aload 4, 2), none, some (.putfield 58, 3), none, none, some (.aload_n 0, 1), some (.aload 5, 2), none, some (.putfield 62, 3), none, none, some (.return_, 1)] = true := by decide +kernel
theorem mDt29 : mDcP prog_4_method_1_code mct29 := by
  intro j c h
  unfold mct29 at h
  match j, h with
  | 0, h => cases h; exact mDr29_0
  | 1, h => cases h; exact mDr29_1
  | 2, h => cases h; exact mDr29_2
  | 3, h => cases h; exact mDr29_3
  | n + 4, h => simp at h
theorem mDr30_0 : mDc1 prog_4_method_9_code 0 [some (.aload_n 0, 1), some (.iconst (-1), 1), some (.putfield 92, 3), none, none, some (.aload_n 0, 1), some (.aload_n 0, 1), some (.getfield 46, 3), none, none, some (.invokevirtual 166, 3), none, none, some (.aload_n 0, 1), some (.getfield 54, 3), none, none, some (.getfield 169, 3), none, none, some (.iconst (-1), 1), some (.ixor, 1), some (.iand, 1), some (.putfield 174, 3), none, none, some (.aload_n 0, 1), some (.lconst 0, 1), some (.putfield 177, 3), none, none, some (.iconst 0, 1)] = true := by decide +kernel
theorem mDr30_1 : mDc1 prog_4_method_9_code 32 [some (.istore_n 1, 1), some (.iload_n 1, 1), some (.aload_n 0, 1), some (.getfield 46, 3), none, none, some (.getfield 181, 3), none, none, some (.if_icmp .ge 31, 3), none, none, some (.aload_n 0, 1), some (.dup, 1), some (.getfield 177, 3), none, none, some (.lconst 1, 1), some (.iconst 5, 1), some (.aload_n 0, 1), some (.getfield 46, 3), none, none, some (.getfield 184, 3), none, none, some (.iload_n 1, 1), some (.iaload, 1), some (.imul, 1), some (.lshl, 1), some (.ladd, 1), some (.putfield 177, 3)] = true := by decide +kernel
theorem mDr30_2 : mDc1 prog_4_method_9_code 64 [none, none, some (.iinc 1 1, 3), none, none, some (.goto (-36), 3), none, none, some (.aload_n 0, 1), some (.getfield 37, 3), none, none, some (.iconst 0, 1), some (.invokestatic 187, 3), none, none, some (.iconst 0, 1), some (.istore_n 1, 1), some (.iload_n 1, 1), some (.aload_n 0, 1), some (.getfield 54, 3), none, none, some (.getfield 193, 3), none, none, some (.if_icmp .ge 56, 3), none, none, some (.iconst 0, 1), some (.istore_n 2, 1), some (.iload_n 2, 1)] = true := by decide +kernel
theorem mDr30_3 : mDc1 prog_4_method_9_code 96 [some (.aload_n 0, 1), some (.getfield 46, 3), none, none, some (.getfield 151, 3), none, none, some (.if_icmp .ge 37, 3), none, none, some (.aload_n 0, 1), some (.getfield 43, 3), none, none, some (.iload_n 1, 1), some (.bipush 12, 2), none, some (.imul, 1), some (.iload_n 2, 1), some (.iadd, 1), some (.aload_n 0, 1), some (.getfield 46, 3), none, none, some (.iload_n 2, 1), some (.aload_n 0, 1), some (.getfield 54, 3), none, none, some (.getfield 196, 3)] = true := by decide +kernel
theorem mDr30_4 : mDc1 prog_4_method_9_code 128 [some (.iload_n 1, 1), some (.iaload, 1), some (.invokevirtual 199, 3), none, none, some (.iastore, 1), some (.iinc 2 1, 3), none, none, some (.goto (-42), 3), none, none, some (.iinc 1 1, 3), none, none, some (.goto (-61), 3), none, none, some (.return_, 1)] = true := by decide +kernel
theorem mDt30 : mDcP prog_4_method_9_code mct30 := by
  intro j c h
  unfold mct30 at h
  match j, h with
  | 0, h => cases h; exact mDr30_0
  | 1, h => cases h; exact mDr30_1
  | 2, h => cases h; exact mDr30_2
  | 3, h => cases h; exact mDr30_3
  | 4, h => cases h; exact mDr30_4
  | n + 5, h => simp at h
theorem mDr31_0 : mDc1 prog_4_method_11_code 0 [some (.aload_n 0, 1), some (.getfield 177, 3), none, none, some (.ldc2_w 214, 3), none, none, some (.ladd, 1), some (.ldc2_w 214, 3), none, none, some (.land, 1), some (.ldc2_w 214, 3), none, none, some (.lcmp, 1), some (.ifCond .ne 7, 3), none, none, some (.iconst 1, 1), some (.goto 4, 3), none, none, some (.iconst 0, 1), some (.ireturn, 1)] = true := by decide +kernel
theorem mDt31 : mDcP prog_4_method_11_code mct31 := by
  intro j c h
  unfold mct31 at h
  match j, h with
  | 0, h => cases h; exact mDr31_0
  | n + 1, h => simp at h
theorem mDr32_0 : mDc1 prog_4_method_13_code 0 [some (.iconst 0, 1), some (.istore_n 1, 1), some (.iconst 0, 1), some (.istore_n 2, 1), some (.iload_n 2, 1), some (.aload_n 0, 1), some (.getfield 54, 3), none, none, some (.getfield 193, 3), none, none, some (.if_icmp .ge 84, 3), none, none, some (.aload_n 0, 1), some (.getfield 37, 3), none, none, some (.iload_n 2, 1), some (.iaload, 1), some (.istore_n 3, 1), some (.iconst 0, 1), some (.istore 4, 2), none, some (.iload 4, 2), none, some (.aload_n 0, 1), some (.getfield 21, 3), none, none, some (.iload_n 3, 1)] = true := by decide +kernel
theorem mDr32_1 : mDc1 prog_4_method_13_code 32 [some (.iaload, 1), some (.if_icmp .ge 57, 3), none, none, some (.iload_n 3, 1), some (.bipush 7, 2), none, some (.imul, 1), some (.iload 4, 2), none, some (.iadd, 1), some (.istore 5, 2), none, some (.aload_n 0, 1), some (.getfield 46, 3), none, none, some (.aload_n 0, 1), some (.getfield 24, 3), none, none, some (.iload 5, 2), none, some (.iaload, 1), some (.aload_n 0, 1), some (.getfield 27, 3), none, none, some (.iload 5, 2), none, some (.iaload, 1), some (.iload_n 1, 1)] = true := by decide +kernel
theorem mDr32_2 : mDc1 prog_4_method_13_code 64 [some (.invokevirtual 225, 3), none, none, some (.istore 6, 2), none, some (.iload 6, 2), none, some (.iconst (-1), 1), some (.if_icmp .ne 5, 3), none, none, some (.iconst 0, 1), some (.ireturn, 1), some (.iload_n 1, 1), some (.iconst 1, 1), some (.iload 6, 2), none, some (.ishl, 1), some (.ior, 1), some (.istore_n 1, 1), some (.iinc 4 1, 3), none, none, some (.goto (-62), 3), none, none, some (.iinc 2 1, 3), none, none, some (.goto (-89), 3)] = true := by decide +kernel
theorem mDr32_3 : mDc1 prog_4_method_13_code 96 [some (.iconst 1, 1), some (.ireturn, 1)] = true := by decide +kernel
theorem mDt32 : mDcP prog_4_method_13_code mct32 := by
  intro j c h
  unfold mct32 at h
  match j, h with
  | 0, h => cases h; exact mDr32_0
  | 1, h => cases h; exact mDr32_1
  | 2, h => cases h; exact mDr32_2
  | 3, h => cases h; exact mDr32_3
  | n + 4, h => simp at h
theorem mDr33_0 : mDc1 prog_4_method_4_code 0 [some (.aload_n 0, 1), some (.getfield 66, 3), none, none, some (.ifCond .ne 32, 3), none, none, some (.iconst 0, 1), some (.istore_n 1, 1), some (.iload_n 1, 1), some (.aload_n 0, 1), some (.getfield 46, 3), none, none, some (.invokevirtual 76, 3), none, none, some (.if_icmp .gt 14, 3), none, none, some (.aload_n 0, 1), some (.iload_n 1, 1), some (.invokevirtual 82, 3), none, none, some (.iinc 1 1, 3), none, none, some (.goto (-19), 3), none, none, some (.aload_n 0, 1)] = true := by decide +kernel
theorem mDr33_1 : mDc1 prog_4_method_4_code 32 [some (.iconst 1, 1), some (.putfield 66, 3), none, none, some (.aload_n 0, 1), some (.getfield 66, 3), none, none, some (.iconst 1, 1), some (.if_icmp .ne 17, 3), none, none, some (.aload_n 0, 1), some (.invokevirtual 86, 3), none, none, some (.aload_n 0, 1), some (.iconst 0, 1), some (.invokevirtual 89, 3), none, none, some (.aload_n 0, 1), some (.iconst 2, 1), some (.putfield 66, 3), none, none, some (.aload_n 0, 1), some (.getfield 92, 3), none, none, some (.iconst (-1), 1), some (.if_icmp .eq 7, 3)] = true := by decide +kernel
theorem mDr33_2 : mDc1 prog_4_method_4_code 64 [none, none, some (.iconst 1, 1), some (.goto 4, 3), none, none, some (.iconst 0, 1), some (.ireturn, 1)] = true := by decide +kernel
theorem mDt33 : mDcP prog_4_method_4_code mct33 := by
  intro j c h
  unfold mct33 at h
  match j, h with
  | 0, h => cases h; exact mDr33_0
  | 1, h => cases h; exact mDr33_1
  | 2, h => cases h; exact mDr33_2
  | n + 3, h => simp at h
theorem mDr34_0 : mDc1 prog_4_method_2_code 0 [some (.aload_n 0, 1), some (.iconst 0, 1), some (.putfield 66, 3), none, none, some (.return_, 1)] = true := by decide +kernel
theorem mDt34 : mDcP prog_4_method_2_code mct34 := by
  intro j c h
  unfold mct34 at h
  match j, h with
  | 0, h => cases h; exact mDr34_0
  | n + 1, h => simp at h
theorem mDr35_0 : mDc1 prog_4_method_3_code 0 [some (.aload_n 0, 1), some (.aload_n 0, 1), some (.getfield 66, 3), none, none, some (.iconst 1, 1), some (.invokestatic 70, 3), none, none, some (.putfield 66, 3), none, none, some (.return_, 1)] = true := by decide +kernel
theorem mDt35 : mDcP prog_4_method_3_code mct35 := by
  intro j c h
  unfold mct35 at h
  match j, h with
  | 0, h => cases h; exact mDr35_0
  | n + 1, h => simp at h
theorem mDr36_0 : mDc1 prog_4_method_14_code 0 [some (.iconst 0, 1), some (.istore_n 2, 1), some (.iconst 0, 1), some (.istore_n 3, 1), some (.iload_n 3, 1), some (.aload_n 0, 1), some (.getfield 46, 3), none, none, some (.getfield 151, 3), none, none, some (.if_icmp .ge 114, 3), none, none, some (.iconst 0, 1), some (.istore 4, 2), none, some (.iconst 0, 1), some (.istore 5, 2), none, some (.iload 5, 2), none, some (.aload_n 0, 1), some (.getfield 54, 3), none, none, some (.getfield 193, 3), none, none, some (.if_icmp .ge 85, 3)] = true := by decide +kernel
theorem mDr36_1 : mDc1 prog_4_method_14_code 32 [none, some (.aload_n 0, 1), some (.getfield 37, 3), none, none, some (.iload 5, 2), none, some (.iaload, 1), some (.iload_n 1, 1), some (.ior, 1), some (.istore 6, 2), none, some (.aload_n 0, 1), some (.getfield 43, 3), none, none, some (.iload 5, 2), none, some (.bipush 12, 2), none, some (.imul, 1), some (.iload_n 3, 1), some (.iadd, 1), some (.iaload, 1), some (.istore 7, 2), none, some (.aload_n 0, 1), some (.getfield 15, 3), none, none, some (.iload 6, 2)] = true := by decide +kernel
theorem mDr36_2 : mDc1 prog_4_method_14_code 64 [some (.iaload, 1), some (.iload_n 3, 1), some (.ishr, 1), some (.iconst 1, 1), some (.iand, 1), some (.ifCond .eq 15, 3), none, none, some (.iload 4, 2), none, some (.iload 7, 2), none, some (.invokestatic 229, 3), none, none, some (.istore 4, 2), none, some (.goto 28, 3), none, none, some (.aload_n 0, 1), some (.getfield 18, 3), none, none, some (.iload 6, 2), none, some (.iaload, 1), some (.iload_n 3, 1), some (.ishr, 1), some (.iconst 1, 1), some (.iand, 1), some (.ifCond .eq 14, 3)] = true := by decide +kernel
theorem mDr36_3 : mDc1 prog_4_method_14_code 96 [none, none, some (.iload 4, 2), none, some (.iload 7, 2), none, some (.iconst 2, 1), some (.idiv, 1), some (.invokestatic 229, 3), none, none, some (.istore 4, 2), none, some (.iinc 5 1, 3), none, none, some (.goto (-91), 3), none, none, some (.iload_n 2, 1), some (.iload 4, 2), none, some (.iadd, 1), some (.istore_n 2, 1), some (.iinc 3 1, 3), none, none, some (.goto (-119), 3), none, none, some (.iload_n 2, 1), some (.ireturn, 1)] = true := by decide +kernel
theorem mDt36 : mDcP prog_4_method_14_code mct36 := by
  intro j c h
  unfold mct36 at h
  match j, h with
  | 0, h => cases h; exact mDr36_0
  | 1, h => cases h; exact mDr36_1
  | 2, h => cases h; exact mDr36_2
  | 3, h => cases h; exact mDr36_3
  | n + 4, h => simp at h
theorem mDr37_0 : mDc1 prog_4_method_12_code 0 [some (.aload_n 0, 1), some (.invokevirtual 216, 3), none, none, some (.ifCond .ne 4, 3), none, none, some (.return_, 1), some (.aload_n 0, 1), some (.iconst 0, 1), some (.invokevirtual 211, 3), none, none, some (.istore_n 1, 1), some (.iload_n 1, 1), some (.aload_n 0, 1), some (.getfield 92, 3), none, none, some (.if_icmp .le 23, 3), none, none, some (.aload_n 0, 1), some (.iload_n 1, 1), some (.putfield 92, 3), none, none, some (.aload_n 0, 1), some (.getfield 40, 3), none, none, some (.iconst 0, 1)] = true := by decide +kernel
theorem mDr37_1 : mDc1 prog_4_method_12_code 32 [some (.aload_n 0, 1), some (.getfield 34, 3), none, none, some (.iconst 0, 1), some (.bipush 7, 2), none, some (.invokestatic 219, 3), none, none, some (.return_, 1)] = true := by decide +kernel
theorem mDt37 : mDcP prog_4_method_12_code mct37 := by
  intro j c h
  unfold mct37 at h
  match j, h with
  | 0, h => cases h; exact mDr37_0
  | 1, h => cases h; exact mDr37_1
  | n + 2, h => simp at h
theorem mDr38_0 : mDc1 prog_4_method_7_code 0 [some (.aload_n 0, 1), some (.getfield 21, 3), none, none, some (.iload_n 1, 1), some (.iaload, 1), some (.bipush 7, 2), none, some (.if_icmp .ge 65, 3), none, none, some (.iload_n 1, 1), some (.bipush 7, 2), none, some (.imul, 1), some (.aload_n 0, 1), some (.getfield 21, 3), none, none, some (.iload_n 1, 1), some (.iaload, 1), some (.iadd, 1), some (.istore_n 3, 1), some (.aload_n 0, 1), some (.getfield 24, 3), none, none, some (.iload_n 3, 1), some (.aload_n 0, 1), some (.getfield 62, 3)] = true := by decide +kernel
theorem mDr38_1 : mDc1 prog_4_method_7_code 32 [some (.getfield 120, 3), none, none, some (.iastore, 1), some (.aload_n 0, 1), some (.getfield 27, 3), none, none, some (.iload_n 3, 1), some (.iload_n 2, 1), some (.iastore, 1), some (.aload_n 0, 1), some (.getfield 21, 3), none, none, some (.iload_n 1, 1), some (.dup2, 1), some (.iaload, 1), some (.iconst 1, 1), some (.iadd, 1), some (.iastore, 1), some (.aload_n 0, 1), some (.getfield 30, 3), none, none, some (.iload_n 1, 1), some (.dup2, 1), some (.laload, 1), some (.lconst 1, 1), some (.iconst 5, 1), some (.aload_n 0, 1), some (.getfield 62, 3)] = true := by decide +kernel
theorem mDr38_2 : mDc1 prog_4_method_7_code 64 [none, none, some (.getfield 120, 3), none, none, some (.imul, 1), some (.lshl, 1), some (.ladd, 1), some (.lastore, 1), some (.return_, 1)] = true := by decide +kernel
theorem mDt38 : mDcP prog_4_method_7_code mct38 := by
  intro j c h
  unfold mct38 at h
  match j, h with
  | 0, h => cases h; exact mDr38_0
  | 1, h => cases h; exact mDr38_1
  | 2, h => cases h; exact mDr38_2
  | n + 3, h => simp at h
theorem mDr39_0 : mDc1 prog_4_method_6_code 0 [some (.aload_n 0, 1), some (.getfield 62, 3), none, none, some (.invokevirtual 133, 3), none, none, some (.aload_n 0, 1), some (.getfield 46, 3), none, none, some (.getfield 136, 3), none, none, some (.aload_n 0, 1), some (.getfield 62, 3), none, none, some (.getfield 120, 3), none, none, some (.iaload, 1), some (.if_icmp .le 15, 3), none, none, some (.aload_n 0, 1), some (.getfield 9, 3), none, none, some (.iload_n 1, 1), some (.dup2, 1), some (.iaload, 1)] = true := by decide +kernel
theorem mDr39_1 : mDc1 prog_4_method_6_code 32 [some (.sipush 4096, 3), none, none, some (.ior, 1), some (.iastore, 1), some (.aload_n 0, 1), some (.getfield 62, 3), none, none, some (.invokevirtual 139, 3), none, none, some (.ifCond .le 21, 3), none, none, some (.aload_n 0, 1), some (.getfield 9, 3), none, none, some (.iload_n 1, 1), some (.dup2, 1), some (.iaload, 1), some (.iconst 1, 1), some (.aload_n 0, 1), some (.getfield 62, 3), none, none, some (.getfield 120, 3), none, none, some (.ishl, 1), some (.ior, 1)] = true := by decide +kernel
theorem mDr39_2 : mDc1 prog_4_method_6_code 64 [some (.iastore, 1), some (.aload_n 0, 1), some (.getfield 62, 3), none, none, some (.getfield 120, 3), none, none, some (.ifCond .ne 15, 3), none, none, some (.aload_n 0, 1), some (.iload_n 1, 1), some (.aload_n 0, 1), some (.getfield 62, 3), none, none, some (.invokevirtual 133, 3), none, none, some (.invokevirtual 142, 3), none, none, some (.iconst 1, 1), some (.istore_n 2, 1), some (.iload_n 2, 1), some (.aload_n 0, 1), some (.getfield 62, 3), none, none, some (.getfield 145, 3)] = true := by decide +kernel
theorem mDr39_3 : mDc1 prog_4_method_6_code 96 [none, some (.if_icmp .ge 22, 3), none, none, some (.aload_n 0, 1), some (.iload_n 1, 1), some (.aload_n 0, 1), some (.getfield 62, 3), none, none, some (.iload_n 2, 1), some (.invokevirtual 148, 3), none, none, some (.invokevirtual 142, 3), none, none, some (.iinc 2 1, 3), none, none, some (.goto (-27), 3), none, none, some (.return_, 1)] = true := by decide +kernel
theorem mDt39 : mDcP prog_4_method_6_code mct39 := by
  intro j c h
  unfold mct39 at h
  match j, h with
  | 0, h => cases h; exact mDr39_0
  | 1, h => cases h; exact mDr39_1
  | 2, h => cases h; exact mDr39_2
  | 3, h => cases h; exact mDr39_3
  | n + 4, h => simp at h
theorem mDr40_0 : mDc1 prog_4_method_5_code 0 [some (.aload_n 0, 1), some (.getfield 9, 3), none, none, some (.iload_n 1, 1), some (.iconst 0, 1), some (.iastore, 1), some (.aload_n 0, 1), some (.getfield 21, 3), none, none, some (.iload_n 1, 1), some (.iconst 0, 1), some (.iastore, 1), some (.aload_n 0, 1), some (.getfield 30, 3), none, none, some (.iload_n 1, 1), some (.lconst 0, 1), some (.lastore, 1), some (.aload_n 0, 1), some (.getfield 58, 3), none, none, some (.iload_n 1, 1), some (.aload_n 0, 1), some (.getfield 40, 3), none, none, some (.iconst 0, 1), some (.invokevirtual 95, 3)] = true := by decide +kernel
theorem mDr40_1 : mDc1 prog_4_method_5_code 32 [none, none, some (.aload_n 0, 1), some (.getfield 62, 3), none, none, some (.aload_n 0, 1), some (.getfield 40, 3), none, none, some (.iconst 0, 1), some (.iload_n 1, 1), some (.invokestatic 101, 3), none, none, some (.iconst 0, 1), some (.invokevirtual 107, 3), none, none, some (.iconst 0, 1), some (.istore_n 2, 1), some (.iconst 0, 1), some (.istore_n 3, 1), some (.iload_n 3, 1), some (.bipush 84, 2), none, some (.if_icmp .ge 53, 3), none, none, some (.aload_n 0, 1), some (.getfield 62, 3)] = true := by decide +kernel
theorem mDr40_2 : mDc1 prog_4_method_5_code 64 [none, some (.invokevirtual 113, 3), none, none, some (.ifCond .eq 43, 3), none, none, some (.aload_n 0, 1), some (.getfield 62, 3), none, none, some (.invokevirtual 117, 3), none, none, some (.ifCond .eq 33, 3), none, none, some (.iload_n 2, 1), some (.iconst 1, 1), some (.aload_n 0, 1), some (.getfield 62, 3), none, none, some (.getfield 120, 3), none, none, some (.ishl, 1), some (.ior, 1), some (.istore_n 2, 1), some (.aload_n 0, 1), some (.iload_n 1, 1), some (.invokevirtual 123, 3)] = true := by decide +kernel
theorem mDr40_3 : mDc1 prog_4_method_5_code 96 [none, none, some (.aload_n 0, 1), some (.getfield 62, 3), none, none, some (.invokevirtual 126, 3), none, none, some (.iinc 3 1, 3), none, none, some (.goto (-53), 3), none, none, some (.aload_n 0, 1), some (.iload_n 1, 1), some (.iload_n 2, 1), some (.invokevirtual 129, 3), none, none, some (.return_, 1)] = true := by decide +kernel
theorem mDt40 : mDcP prog_4_method_5_code mct40 := by
  intro j c h
  unfold mct40 at h
  match j, h with
  | 0, h => cases h; exact mDr40_0
  | 1, h => cases h; exact mDr40_1
  | 2, h => cases h; exact mDr40_2
  | 3, h => cases h; exact mDr40_3
  | n + 4, h => simp at h
theorem mDr41_0 : mDc1 prog_4_method_8_code 0 [some (.aload_n 0, 1), some (.getfield 15, 3), none, none, some (.iload_n 1, 1), some (.iconst 0, 1), some (.iastore, 1), some (.aload_n 0, 1), some (.getfield 18, 3), none, none, some (.iload_n 1, 1), some (.iconst 0, 1), some (.iastore, 1), some (.iconst 0, 1), some (.istore_n 3, 1), some (.iload_n 3, 1), some (.aload_n 0, 1), some (.getfield 46, 3), none, none, some (.getfield 151, 3), none, none, some (.if_icmp .ge 76, 3), none, none, some (.aload_n 0, 1), some (.getfield 50, 3), none, none, some (.aload_n 0, 1)] = true := by decide +kernel
theorem mDr41_1 : mDc1 prog_4_method_8_code 32 [some (.getfield 46, 3), none, none, some (.getfield 154, 3), none, none, some (.iload_n 3, 1), some (.iaload, 1), some (.iload_n 2, 1), some (.invokevirtual 157, 3), none, none, some (.ifCond .eq 18, 3), none, none, some (.aload_n 0, 1), some (.getfield 15, 3), none, none, some (.iload_n 1, 1), some (.dup2, 1), some (.iaload, 1), some (.iconst 1, 1), some (.iload_n 3, 1), some (.ishl, 1), some (.ior, 1), some (.iastore, 1), some (.goto 35, 3), none, none, some (.aload_n 0, 1), some (.getfield 50, 3)] = true := by decide +kernel
theorem mDr41_2 : mDc1 prog_4_method_8_code 64 [none, none, some (.aload_n 0, 1), some (.getfield 46, 3), none, none, some (.getfield 154, 3), none, none, some (.iload_n 3, 1), some (.iaload, 1), some (.iload_n 2, 1), some (.invokevirtual 163, 3), none, none, some (.ifCond .eq 15, 3), none, none, some (.aload_n 0, 1), some (.getfield 18, 3), none, none, some (.iload_n 1, 1), some (.dup2, 1), some (.iaload, 1), some (.iconst 1, 1), some (.iload_n 3, 1), some (.ishl, 1), some (.ior, 1), some (.iastore, 1), some (.iinc 3 1, 3)] = true := by decide +kernel
theorem mDr41_3 : mDc1 prog_4_method_8_code 96 [none, some (.goto (-81), 3), none, none, some (.return_, 1)] = true := by decide +kernel
theorem mDt41 : mDcP prog_4_method_8_code mct41 := by
  intro j c h
  unfold mct41 at h
  match j, h with
  | 0, h => cases h; exact mDr41_0
  | 1, h => cases h; exact mDr41_1
  | 2, h => cases h; exact mDr41_2
  | 3, h => cases h; exact mDr41_3
  | n + 4, h => simp at h
theorem mDr42_0 : mDc1 prog_4_method_10_code 0 [some (.iload_n 1, 1), some (.aload_n 0, 1), some (.getfield 46, 3), none, none, some (.getfield 202, 3), none, none, some (.if_icmp .lt 8, 3), none, none, some (.aload_n 0, 1), some (.invokevirtual 205, 3), none, none, some (.return_, 1), some (.aload_n 0, 1), some (.getfield 46, 3), none, none, some (.invokevirtual 76, 3), none, none, some (.iconst 2, 1), some (.iload_n 1, 1), some (.ishl, 1), some (.iconst 1, 1), some (.isub, 1), some (.iconst (-1), 1), some (.ixor, 1), some (.iand, 1), some (.istore_n 2, 1)] = true := by decide +kernel
theorem mDr42_1 : mDc1 prog_4_method_10_code 32 [some (.aload_n 0, 1), some (.getfield 177, 3), none, none, some (.lstore_n 3, 1), some (.iconst 0, 1), some (.istore 5, 2), none, some (.iload 5, 2), none, some (.aload_n 0, 1), some (.getfield 54, 3), none, none, some (.getfield 193, 3), none, none, some (.if_icmp .ge 129, 3), none, none, some (.aload_n 0, 1), some (.getfield 37, 3), none, none, some (.iload 5, 2), none, some (.iaload, 1), some (.istore 6, 2), none, some (.iload 6, 2), none, some (.iconst 1, 1)] = true := by decide +kernel
theorem mDr42_2 : mDc1 prog_4_method_10_code 64 [some (.iload_n 1, 1), some (.ishl, 1), some (.ior, 1), some (.istore 7, 2), none, some (.aload_n 0, 1), some (.getfield 9, 3), none, none, some (.iload 7, 2), none, some (.iaload, 1), some (.aload_n 0, 1), some (.getfield 174, 3), none, none, some (.iconst (-1), 1), some (.ixor, 1), some (.iand, 1), some (.ifCond .ne 89, 3), none, none, some (.aload_n 0, 1), some (.getfield 37, 3), none, none, some (.iload 5, 2), none, some (.iload 7, 2), none, some (.iastore, 1), some (.aload_n 0, 1)] = true := by decide +kernel
theorem mDr42_3 : mDc1 prog_4_method_10_code 96 [some (.getfield 40, 3), none, none, some (.iload_n 1, 1), some (.iload 5, 2), none, some (.iastore, 1), some (.aload_n 0, 1), some (.lload_n 3, 1), some (.aload_n 0, 1), some (.getfield 30, 3), none, none, some (.iload 7, 2), none, some (.laload, 1), some (.lsub, 1), some (.aload_n 0, 1), some (.getfield 30, 3), none, none, some (.iload 6, 2), none, some (.laload, 1), some (.ladd, 1), some (.putfield 177, 3), none, none, some (.aload_n 0, 1), some (.invokevirtual 208, 3)] = true := by decide +kernel
theorem mDr42_4 : mDc1 prog_4_method_10_code 128 [some (.ifCond .eq 30, 3), none, none, some (.aload_n 0, 1), some (.getfield 92, 3), none, none, some (.iconst (-1), 1), some (.if_icmp .eq 15, 3), none, none, some (.aload_n 0, 1), some (.iload_n 2, 1), some (.invokevirtual 211, 3), none, none, some (.aload_n 0, 1), some (.getfield 92, 3), none, none, some (.if_icmp .le 10, 3), none, none, some (.aload_n 0, 1), some (.iload_n 1, 1), some (.iconst 1, 1), some (.iadd, 1), some (.invokevirtual 89, 3), none, none, some (.aload_n 0, 1), some (.lload_n 3, 1)] = true := by decide +kernel
theorem mDr42_5 : mDc1 prog_4_method_10_code 160 [some (.putfield 177, 3), none, none, some (.aload_n 0, 1), some (.getfield 37, 3), none, none, some (.iload 5, 2), none, some (.iload 6, 2), none, some (.iastore, 1), some (.iinc 5 1, 3), none, none, some (.goto (-135), 3), none, none, some (.return_, 1)] = true := by decide +kernel
theorem mDt42 : mDcP prog_4_method_10_code mct42 := by
  intro j c h
  unfold mct42 at h
  match j, h with
  | 0, h => cases h; exact mDr42_0
  | 1, h => cases h; exact mDr42_1
  | 2, h => cases h; exact mDr42_2
  | 3, h => cases h; exact mDr42_3
  | 4, h => cases h; exact mDr42_4
  | 5, h => cases h; exact mDr42_5
  | n + 6, h => simp at h
theorem mDr43_0 : mDc1 prog_5_method_1_code 0 [some (.aload_n 0, 1), some (.invokespecial 3, 3), none, none, some (.aload_n 0, 1), some (.iconst 4, 1), some (.newarray .int, 2), none, some (.putfield 9, 3), none, none, some (.aload_n 0, 1), some (.bipush 7, 2), none, some (.newarray .int, 2), none, some (.putfield 15, 3), none, none, some (.aload_n 0, 1), some (.bipush 7, 2), none, some (.newarray .int, 2), none, some (.putfield 18, 3), none, none, some (.aload_n 0, 1), some (.aload_n 1, 1), some (.putfield 21, 3)] = true := by decide +kernel
theorem mDr43_1 : mDc1 prog_5_method_1_code 32 [some (.aload_n 0, 1), some (.aload_n 2, 1), some (.putfield 25, 3), none, none, some (.aload_n 0, 1), some (.aload_n 3, 1), some (.putfield 29, 3), none, none, some (.aload_n 0, 1), some (.aload 4, 2), none, some (.putfield 33, 3), none, none, some (.return_, 1)] = true := by decide +kernel
theorem mDt43 : mDcP prog_5_method_1_code mct43 := by
  intro j c h
  unfold mct43 at h
  match j, h with
  | 0, h => cases h; exact mDr43_0
  | 1, h => cases h; exact mDr43_1
  | n + 2, h => simp at h
theorem mDr44_0 : mDc1 prog_5_method_5_code 0 [some (.aload_n 0, 1), some (.getfield 33, 3), none, none, some (.invokevirtual 104, 3), none, none, some (.aload_n 0, 1), some (.getfield 21, 3), none, none, some (.getfield 107, 3), none, none, some (.aload_n 0, 1), some (.getfield 33, 3), none, none, some (.getfield 83, 3), none, none, some (.iaload, 1), some (.if_icmp .le 7, 3), none, none, some (.sipush 300, 3), none, none, some (.ireturn, 1), some (.aload_n 0, 1), some (.getfield 33, 3)] = true := by decide +kernel
theorem mDr44_1 : mDc1 prog_5_method_5_code 32 [none, some (.invokevirtual 112, 3), none, none, some (.ifCond .ne 7, 3), none, none, some (.sipush 200, 3), none, none, some (.ireturn, 1), some (.aload_n 0, 1), some (.getfield 21, 3), none, none, some (.aload_n 0, 1), some (.getfield 33, 3), none, none, some (.getfield 83, 3), none, none, some (.invokevirtual 115, 3), none, none, some (.ifCond .eq 24, 3), none, none, some (.aload_n 0, 1), some (.getfield 29, 3)] = true := by decide +kernel
theorem mDr44_2 : mDc1 prog_5_method_5_code 64 [some (.aload_n 0, 1), some (.getfield 33, 3), none, none, some (.getfield 83, 3), none, none, some (.invokevirtual 119, 3), none, none, some (.ifCond .ne 7, 3), none, none, some (.iconst 1, 1), some (.goto 4, 3), none, none, some (.iconst 0, 1), some (.istore_n 1, 1), some (.aload_n 0, 1), some (.getfield 33, 3), none, none, some (.invokevirtual 122, 3), none, none, some (.ifCond .le 11, 3), none, none, some (.iload_n 1, 1), some (.ifCond .ne 7, 3)] = true := by decide +kernel
theorem mDr44_3 : mDc1 prog_5_method_5_code 96 [none, some (.sipush 400, 3), none, none, some (.ireturn, 1), some (.aload_n 0, 1), some (.invokevirtual 125, 3), none, none, some (.ifCond .eq 7, 3), none, none, some (.iconst 0, 1), some (.goto 5, 3), none, none, some (.bipush 100, 2), none, some (.ireturn, 1)] = true := by decide +kernel
theorem mDt44 : mDcP prog_5_method_5_code mct44 := by
  intro j c h
  unfold mct44 at h
  match j, h with
  | 0, h => cases h; exact mDr44_0
  | 1, h => cases h; exact mDr44_1
  | 2, h => cases h; exact mDr44_2
  | 3, h => cases h; exact mDr44_3
  | n + 4, h => simp at h
theorem mDr45_0 : mDc1 prog_5_method_4_code 0 [some (.iconst 0, 1), some (.istore_n 2, 1), some (.iload_n 2, 1), some (.aload_n 0, 1), some (.getfield 29, 3), none, none, some (.getfield 63, 3), none, none, some (.iload_n 1, 1), some (.iaload, 1), some (.if_icmp .ge 38, 3), none, none, some (.aload_n 0, 1), some (.getfield 29, 3), none, none, some (.getfield 60, 3), none, none, some (.iload_n 1, 1), some (.bipush 7, 2), none, some (.imul, 1), some (.iload_n 2, 1), some (.iadd, 1), some (.iaload, 1), some (.istore_n 3, 1), some (.aload_n 0, 1), some (.getfield 18, 3)] = true := by decide +kernel
theorem mDr45_1 : mDc1 prog_5_method_4_code 32 [none, none, some (.iload_n 3, 1), some (.iconst (-1), 1), some (.iastore, 1), some (.aload_n 0, 1), some (.getfield 15, 3), none, none, some (.iload_n 3, 1), some (.iconst (-1), 1), some (.iastore, 1), some (.iinc 2 1, 3), none, none, some (.goto (-45), 3), none, none, some (.return_, 1)] = true := by decide +kernel
theorem mDt45 : mDcP prog_5_method_4_code mct45 := by
  intro j c h
  unfold mct45 at h
  match j, h with
  | 0, h => cases h; exact mDr45_0
  | 1, h => cases h; exact mDr45_1
  | n + 2, h => simp at h
theorem mDr46_0 : mDc1 prog_5_method_2_code 0 [some (.aload_n 0, 1), some (.iconst 0, 1), some (.putfield 37, 3), none, none, some (.aload_n 0, 1), some (.getfield 15, 3), none, none, some (.iconst (-1), 1), some (.invokestatic 41, 3), none, none, some (.aload_n 0, 1), some (.getfield 18, 3), none, none, some (.iconst (-1), 1), some (.invokestatic 41, 3), none, none, some (.iconst 0, 1), some (.istore_n 1, 1), some (.iload_n 1, 1), some (.aload_n 0, 1), some (.getfield 29, 3), none, none, some (.getfield 47, 3), none, none, some (.if_icmp .ge 34, 3)] = true := by decide +kernel
theorem mDr46_1 : mDc1 prog_5_method_2_code 32 [none, none, some (.aload_n 0, 1), some (.getfield 9, 3), none, none, some (.iload_n 1, 1), some (.aload_n 0, 1), some (.iload_n 1, 1), some (.invokevirtual 52, 3), none, none, some (.iastore, 1), some (.aload_n 0, 1), some (.getfield 9, 3), none, none, some (.iload_n 1, 1), some (.iaload, 1), some (.ifCond .eq 8, 3), none, none, some (.aload_n 0, 1), some (.iload_n 1, 1), some (.invokevirtual 56, 3), none, none, some (.iinc 1 1, 3), none, none, some (.goto (-39), 3)] = true := by decide +kernel
theorem mDr46_2 : mDc1 prog_5_method_2_code 64 [none, some (.return_, 1)] = true := by decide +kernel
theorem mDt46 : mDcP prog_5_method_2_code mct46 := by
  intro j c h
  unfold mct46 at h
  match j, h with
  | 0, h => cases h; exact mDr46_0
  | 1, h => cases h; exact mDr46_1
  | 2, h => cases h; exact mDr46_2
  | n + 3, h => simp at h
theorem mDr47_0 : mDc1 prog_5_method_3_code 0 [some (.aload_n 0, 1), some (.getfield 33, 3), none, none, some (.aload_n 0, 1), some (.getfield 29, 3), none, none, some (.getfield 60, 3), none, none, some (.iload_n 1, 1), some (.bipush 7, 2), none, some (.imul, 1), some (.aload_n 0, 1), some (.getfield 29, 3), none, none, some (.getfield 63, 3), none, none, some (.iload_n 1, 1), some (.iaload, 1), some (.aload_n 0, 1), some (.getfield 29, 3), none, none, some (.getfield 66, 3), none, none, some (.iload_n 1, 1)] = true := by decide +kernel
theorem mDr47_1 : mDc1 prog_5_method_3_code 32 [some (.iaload, 1), some (.invokevirtual 69, 3), none, none, some (.iconst 0, 1), some (.istore_n 2, 1), some (.iload_n 2, 1), some (.bipush 84, 2), none, some (.if_icmp .ge 124, 3), none, none, some (.aload_n 0, 1), some (.getfield 33, 3), none, none, some (.invokevirtual 75, 3), none, none, some (.ifCond .eq 114, 3), none, none, some (.aload_n 0, 1), some (.invokevirtual 79, 3), none, none, some (.istore_n 3, 1), some (.iload_n 3, 1), some (.ifCond .eq 13, 3), none, none, some (.iload_n 3, 1)] = true := by decide +kernel
theorem mDr47_2 : mDc1 prog_5_method_3_code 64 [some (.aload_n 0, 1), some (.getfield 33, 3), none, none, some (.getfield 83, 3), none, none, some (.iadd, 1), some (.ireturn, 1), some (.aload_n 0, 1), some (.getfield 33, 3), none, none, some (.getfield 86, 3), none, none, some (.aload_n 0, 1), some (.getfield 33, 3), none, none, some (.getfield 89, 3), none, none, some (.iaload, 1), some (.istore 4, 2), none, some (.iload 4, 2), none, some (.aload_n 0, 1), some (.getfield 33, 3)] = true := by decide +kernel
theorem mDr47_3 : mDc1 prog_5_method_3_code 96 [some (.getfield 92, 3), none, none, some (.if_icmp .ge 53, 3), none, none, some (.aload_n 0, 1), some (.getfield 18, 3), none, none, some (.aload_n 0, 1), some (.getfield 33, 3), none, none, some (.getfield 95, 3), none, none, some (.iload 4, 2), none, some (.iaload, 1), some (.aload_n 0, 1), some (.getfield 33, 3), none, none, some (.getfield 96, 3), none, none, some (.iastore, 1), some (.aload_n 0, 1), some (.getfield 15, 3)] = true := by decide +kernel
theorem mDr47_4 : mDc1 prog_5_method_3_code 128 [some (.aload_n 0, 1), some (.getfield 33, 3), none, none, some (.getfield 95, 3), none, none, some (.iload 4, 2), none, some (.iaload, 1), some (.aload_n 0, 1), some (.getfield 33, 3), none, none, some (.getfield 98, 3), none, none, some (.iastore, 1), some (.iinc 4 1, 3), none, none, some (.goto (-59), 3), none, none, some (.aload_n 0, 1), some (.getfield 33, 3), none, none, some (.invokevirtual 101, 3), none, none, some (.iinc 2 1, 3)] = true := by decide +kernel
theorem mDr47_5 : mDc1 prog_5_method_3_code 160 [none, none, some (.goto (-124), 3), none, none, some (.iconst 0, 1), some (.ireturn, 1)] = true := by decide +kernel
theorem mDt47 : mDcP prog_5_method_3_code mct47 := by
  intro j c h
  unfold mct47 at h
  match j, h with
  | 0, h => cases h; exact mDr47_0
  | 1, h => cases h; exact mDr47_1
  | 2, h => cases h; exact mDr47_2
  | 3, h => cases h; exact mDr47_3
  | 4, h => cases h; exact mDr47_4
  | 5, h => cases h; exact mDr47_5
  | n + 6, h => simp at h
theorem mDr48_0 : mDc1 prog_5_method_11_code 0 [some (.aload_n 0, 1), some (.getfield 9, 3), none, none, some (.iload_n 1, 1), some (.iaload, 1), some (.ifCond .eq 5, 3), none, none, some (.iconst 0, 1), some (.ireturn, 1), some (.iconst 0, 1), some (.istore_n 2, 1), some (.iconst 0, 1), some (.istore_n 3, 1), some (.iload_n 3, 1), some (.aload_n 0, 1), some (.getfield 29, 3), none, none, some (.getfield 63, 3), none, none, some (.iload_n 1, 1), some (.iaload, 1), some (.if_icmp .ge 42, 3), none, none, some (.iload_n 2, 1), some (.aload_n 0, 1), some (.getfield 25, 3)] = true := by decide +kernel
theorem mDr48_1 : mDc1 prog_5_method_11_code 32 [none, some (.getfield 174, 3), none, none, some (.aload_n 0, 1), some (.getfield 21, 3), none, none, some (.getfield 177, 3), none, none, some (.aload_n 0, 1), some (.getfield 29, 3), none, none, some (.getfield 60, 3), none, none, some (.iload_n 1, 1), some (.bipush 7, 2), none, some (.imul, 1), some (.iload_n 3, 1), some (.iadd, 1), some (.iaload, 1), some (.iaload, 1), some (.iaload, 1), some (.ior, 1), some (.istore_n 2, 1), some (.iinc 3 1, 3)] = true := by decide +kernel
theorem mDr48_2 : mDc1 prog_5_method_11_code 64 [some (.goto (-49), 3), none, none, some (.iload_n 2, 1), some (.ireturn, 1)] = true := by decide +kernel
theorem mDt48 : mDcP prog_5_method_11_code mct48 := by
  intro j c h
  unfold mct48 at h
  match j, h with
  | 0, h => cases h; exact mDr48_0
  | 1, h => cases h; exact mDr48_1
  | 2, h => cases h; exact mDr48_2
  | n + 3, h => simp at h
theorem mDr49_0 : mDc1 prog_5_method_7_code 0 [some (.aload_n 0, 1), some (.getfield 21, 3), none, none, some (.iload_n 1, 1), some (.iload_n 2, 1), some (.aload_n 0, 1), some (.getfield 37, 3), none, none, some (.invokevirtual 138, 3), none, none, some (.istore_n 3, 1), some (.iload_n 3, 1), some (.iconst (-1), 1), some (.if_icmp .eq 15, 3), none, none, some (.aload_n 0, 1), some (.dup, 1), some (.getfield 37, 3), none, none, some (.iconst 1, 1), some (.iload_n 3, 1), some (.ishl, 1), some (.ior, 1), some (.putfield 37, 3), none, none, some (.iload_n 3, 1)] = true := by decide +kernel
theorem mDr49_1 : mDc1 prog_5_method_7_code 32 [some (.ireturn, 1)] = true := by decide +kernel
theorem mDt49 : mDcP prog_5_method_7_code mct49 := by
  intro j c h
  unfold mct49 at h
  match j, h with
  | 0, h => cases h; exact mDr49_0
  | 1, h => cases h; exact mDr49_1
  | n + 2, h => simp at h
theorem mDr50_0 : mDc1 prog_5_method_6_code 0 [some (.aload_n 0, 1), some (.getfield 33, 3), none, none, some (.getfield 83, 3), none, none, some (.ifCond .ne 35, 3), none, none, some (.aload_n 0, 1), some (.getfield 33, 3), none, none, some (.aload_n 0, 1), some (.iconst 0, 1), some (.aload_n 0, 1), some (.getfield 33, 3), none, none, some (.invokevirtual 104, 3), none, none, some (.invokevirtual 128, 3), none, none, some (.putfield 98, 3), none, none, some (.aload_n 0, 1), some (.getfield 33, 3)] = true := by decide +kernel
theorem mDr50_1 : mDc1 prog_5_method_6_code 32 [none, some (.getfield 98, 3), none, none, some (.iconst (-1), 1), some (.if_icmp .ne 5, 3), none, none, some (.iconst 0, 1), some (.ireturn, 1), some (.aload_n 0, 1), some (.getfield 33, 3), none, none, some (.getfield 132, 3), none, none, some (.iconst 0, 1), some (.aload_n 0, 1), some (.getfield 33, 3), none, none, some (.getfield 98, 3), none, none, some (.iastore, 1), some (.iconst 1, 1), some (.istore_n 1, 1), some (.iload_n 1, 1), some (.aload_n 0, 1), some (.getfield 33, 3)] = true := by decide +kernel
theorem mDr50_2 : mDc1 prog_5_method_6_code 64 [none, some (.getfield 89, 3), none, none, some (.if_icmp .ge 46, 3), none, none, some (.aload_n 0, 1), some (.aload_n 0, 1), some (.getfield 33, 3), none, none, some (.getfield 83, 3), none, none, some (.aload_n 0, 1), some (.getfield 33, 3), none, none, some (.iload_n 1, 1), some (.invokevirtual 135, 3), none, none, some (.invokevirtual 128, 3), none, none, some (.istore_n 2, 1), some (.iload_n 2, 1), some (.iconst (-1), 1), some (.if_icmp .ne 5, 3)] = true := by decide +kernel
theorem mDr50_3 : mDc1 prog_5_method_6_code 96 [some (.iconst 0, 1), some (.ireturn, 1), some (.aload_n 0, 1), some (.getfield 33, 3), none, none, some (.getfield 132, 3), none, none, some (.iload_n 1, 1), some (.iload_n 2, 1), some (.iastore, 1), some (.iinc 1 1, 3), none, none, some (.goto (-51), 3), none, none, some (.iconst 1, 1), some (.ireturn, 1)] = true := by decide +kernel
theorem mDt50 : mDcP prog_5_method_6_code mct50 := by
  intro j c h
  unfold mct50 at h
  match j, h with
  | 0, h => cases h; exact mDr50_0
  | 1, h => cases h; exact mDr50_1
  | 2, h => cases h; exact mDr50_2
  | 3, h => cases h; exact mDr50_3
  | n + 4, h => simp at h
theorem mDr51_0 : mDc1 prog_5_method_10_code 0 [some (.aload_n 0, 1), some (.iload_n 2, 1), some (.invokevirtual 156, 3), none, none, some (.istore_n 3, 1), some (.aload_n 0, 1), some (.getfield 21, 3), none, none, some (.iload_n 1, 1), some (.aload_n 0, 1), some (.getfield 29, 3), none, none, some (.getfield 66, 3), none, none, some (.iload_n 2, 1), some (.iaload, 1), some (.invokevirtual 159, 3), none, none, some (.istore 4, 2), none, some (.aload_n 0, 1), some (.getfield 25, 3), none, none, some (.aload_n 0, 1), some (.getfield 21, 3)] = true := by decide +kernel
theorem mDr51_1 : mDc1 prog_5_method_10_code 32 [none, some (.getfield 162, 3), none, none, some (.iload_n 1, 1), some (.iaload, 1), some (.iload_n 3, 1), some (.invokevirtual 165, 3), none, none, some (.ifCond .eq 6, 3), none, none, some (.iload 4, 2), none, some (.ireturn, 1), some (.aload_n 0, 1), some (.getfield 25, 3), none, none, some (.aload_n 0, 1), some (.getfield 21, 3), none, none, some (.getfield 162, 3), none, none, some (.iload_n 1, 1), some (.iaload, 1), some (.iload_n 3, 1), some (.invokevirtual 171, 3)] = true := by decide +kernel
theorem mDr51_2 : mDc1 prog_5_method_10_code 64 [none, some (.ifCond .eq 10, 3), none, none, some (.iload 4, 2), none, some (.iconst 2, 1), some (.idiv, 1), some (.goto 4, 3), none, none, some (.iconst 0, 1), some (.ireturn, 1)] = true := by decide +kernel
theorem mDt51 : mDcP prog_5_method_10_code mct51 := by
  intro j c h
  unfold mct51 at h
  match j, h with
  | 0, h => cases h; exact mDr51_0
  | 1, h => cases h; exact mDr51_1
  | 2, h => cases h; exact mDr51_2
  | n + 3, h => simp at h
theorem mDr52_0 : mDc1 prog_5_method_9_code 0 [some (.iconst 0, 1), some (.istore_n 2, 1), some (.iconst 0, 1), some (.istore_n 3, 1), some (.iload_n 3, 1), some (.aload_n 0, 1), some (.getfield 29, 3), none, none, some (.getfield 47, 3), none, none, some (.if_icmp .ge 20, 3), none, none, some (.iload_n 2, 1), some (.aload_n 0, 1), some (.iload_n 1, 1), some (.iload_n 3, 1), some (.invokevirtual 148, 3), none, none, some (.invokestatic 151, 3), none, none, some (.istore_n 2, 1), some (.iinc 3 1, 3), none, none, some (.goto (-25), 3)] = true := by decide +kernel
theorem mDr52_1 : mDc1 prog_5_method_9_code 32 [some (.iload_n 2, 1), some (.ireturn, 1)] = true := by decide +kernel
theorem mDt52 : mDcP prog_5_method_9_code mct52 := by
  intro j c h
  unfold mct52 at h
  match j, h with
  | 0, h => cases h; exact mDr52_0
  | 1, h => cases h; exact mDr52_1
  | n + 2, h => simp at h
theorem mDr53_0 : mDc1 prog_5_method_8_code 0 [some (.iconst 0, 1), some (.istore_n 1, 1), some (.iconst 0, 1), some (.istore_n 2, 1), some (.iload_n 2, 1), some (.aload_n 0, 1), some (.getfield 21, 3), none, none, some (.getfield 142, 3), none, none, some (.if_icmp .ge 17, 3), none, none, some (.iload_n 1, 1), some (.aload_n 0, 1), some (.iload_n 2, 1), some (.invokevirtual 145, 3), none, none, some (.iadd, 1), some (.istore_n 1, 1), some (.iinc 2 1, 3), none, none, some (.goto (-22), 3), none, none, some (.iload_n 1, 1), some (.ireturn, 1)] = true := by decide +kernel
theorem mDt53 : mDcP prog_5_method_8_code mct53 := by
  intro j c h
  unfold mct53 at h
  match j, h with
  | 0, h => cases h; exact mDr53_0
  | n + 1, h => simp at h
theorem mDr54_0 : mDc1 prog_6_method_1_code 0 [some (.aload_n 0, 1), some (.invokespecial 3, 3), none, none, some (.aload_n 0, 1), some (.bipush 12, 2), none, some (.newarray .int, 2), none, some (.putfield 9, 3), none, none, some (.aload_n 0, 1), some (.bipush 12, 2), none, some (.newarray .int, 2), none, some (.putfield 15, 3), none, none, some (.aload_n 0, 1), some (.bipush 12, 2), none, some (.newarray .int, 2), none, some (.putfield 18, 3), none, none, some (.aload_n 0, 1), some (.bipush 12, 2), none, some (.newarray .int, 2)] = true := by decide +kernel
theorem mDr54_1 : mDc1 prog_6_method_1_code 32 [none, some (.putfield 21, 3), none, none, some (.aload_n 0, 1), some (.bipush 12, 2), none, some (.newarray .int, 2), none, some (.putfield 24, 3), none, none, some (.aload_n 0, 1), some (.bipush 7, 2), none, some (.newarray .int, 2), none, some (.putfield 27, 3), none, none, some (.aload_n 0, 1), some (.bipush 7, 2), none, some (.newarray .int, 2), none, some (.putfield 30, 3), none, none, some (.aload_n 0, 1), some (.bipush 7, 2), none, some (.newarray .int, 2)] = true := by decide +kernel
theorem mDr54_2 : mDc1 prog_6_method_1_code 64 [none, some (.putfield 33, 3), none, none, some (.aload_n 0, 1), some (.bipush 7, 2), none, some (.newarray .int, 2), none, some (.putfield 36, 3), none, none, some (.aload_n 0, 1), some (.bipush 8, 2), none, some (.newarray .int, 2), none, some (.putfield 39, 3), none, none, some (.aload_n 0, 1), some (.bipush 8, 2), none, some (.newarray .int, 2), none, some (.putfield 42, 3), none, none, some (.aload_n 0, 1), some (.bipush 12, 2), none, some (.newarray .int, 2)] = true := by decide +kernel
theorem mDr54_3 : mDc1 prog_6_method_1_code 96 [none, some (.putfield 45, 3), none, none, some (.aload_n 0, 1), some (.bipush 12, 2), none, some (.newarray .int, 2), none, some (.putfield 48, 3), none, none, some (.aload_n 0, 1), some (.bipush 12, 2), none, some (.newarray .int, 2), none, some (.putfield 51, 3), none, none, some (.return_, 1)] = true := by decide +kernel
theorem mDt54 : mDcP prog_6_method_1_code mct54 := by
  intro j c h
  unfold mct54 at h
  match j, h with
  | 0, h => cases h; exact mDr54_0
  | 1, h => cases h; exact mDr54_1
  | 2, h => cases h; exact mDr54_2
  | 3, h => cases h; exact mDr54_3
  | n + 4, h => simp at h
theorem mDr55_0 : mDc1 prog_6_method_7_code 0 [some (.iconst 1, 1), some (.aload_n 0, 1), some (.getfield 58, 3), none, none, some (.ishl, 1), some (.iconst 1, 1), some (.isub, 1), some (.ireturn, 1)] = true := by decide +kernel
theorem mDt55 : mDcP prog_6_method_7_code mct55 := by
  intro j c h
  unfold mct55 at h
  match j, h with
  | 0, h => cases h; exact mDr55_0
  | n + 1, h => simp at h
theorem mDr56_0 : mDc1 prog_6_method_3_code 0 [some (.aload_n 0, 1), some (.aload_n 1, 1), some (.getfield 54, 3), none, none, some (.putfield 54, 3), none, none, some (.aload_n 0, 1), some (.aload_n 1, 1), some (.getfield 58, 3), none, none, some (.putfield 58, 3), none, none, some (.aload_n 0, 1), some (.aload_n 1, 1), some (.getfield 61, 3), none, none, some (.putfield 61, 3), none, none, some (.aload_n 0, 1), some (.aload_n 1, 1), some (.getfield 64, 3), none, none, some (.putfield 64, 3)] = true := by decide +kernel
theorem mDr56_1 : mDc1 prog_6_method_3_code 32 [some (.aload_n 1, 1), some (.getfield 9, 3), none, none, some (.iconst 0, 1), some (.aload_n 0, 1), some (.getfield 9, 3), none, none, some (.iconst 0, 1), some (.bipush 12, 2), none, some (.invokestatic 73, 3), none, none, some (.aload_n 1, 1), some (.getfield 15, 3), none, none, some (.iconst 0, 1), some (.aload_n 0, 1), some (.getfield 15, 3), none, none, some (.iconst 0, 1), some (.bipush 12, 2), none, some (.invokestatic 73, 3), none, none, some (.aload_n 1, 1), some (.getfield 18, 3)] = true := by decide +kernel
theorem mDr56_2 : mDc1 prog_6_method_3_code 64 [none, none, some (.iconst 0, 1), some (.aload_n 0, 1), some (.getfield 18, 3), none, none, some (.iconst 0, 1), some (.bipush 12, 2), none, some (.invokestatic 73, 3), none, none, some (.aload_n 1, 1), some (.getfield 21, 3), none, none, some (.iconst 0, 1), some (.aload_n 0, 1), some (.getfield 21, 3), none, none, some (.iconst 0, 1), some (.bipush 12, 2), none, some (.invokestatic 73, 3), none, none, some (.aload_n 1, 1), some (.getfield 24, 3)] = true := by decide +kernel
theorem mDr56_3 : mDc1 prog_6_method_3_code 96 [some (.iconst 0, 1), some (.aload_n 0, 1), some (.getfield 24, 3), none, none, some (.iconst 0, 1), some (.bipush 12, 2), none, some (.invokestatic 73, 3), none, none, some (.aload_n 1, 1), some (.getfield 27, 3), none, none, some (.iconst 0, 1), some (.aload_n 0, 1), some (.getfield 27, 3), none, none, some (.iconst 0, 1), some (.bipush 7, 2), none, some (.invokestatic 73, 3), none, none, some (.aload_n 1, 1), some (.getfield 30, 3), none, none, some (.iconst 0, 1), some (.aload_n 0, 1)] = true := by decide +kernel
theorem mDr56_4 : mDc1 prog_6_method_3_code 128 [some (.getfield 30, 3), none, none, some (.iconst 0, 1), some (.bipush 7, 2), none, some (.invokestatic 73, 3), none, none, some (.aload_n 1, 1), some (.getfield 33, 3), none, none, some (.iconst 0, 1), some (.aload_n 0, 1), some (.getfield 33, 3), none, none, some (.iconst 0, 1), some (.bipush 7, 2), none, some (.invokestatic 73, 3), none, none, some (.aload_n 1, 1), some (.getfield 36, 3), none, none, some (.iconst 0, 1), some (.aload_n 0, 1), some (.getfield 36, 3)] = true := by decide +kernel
theorem mDr56_5 : mDc1 prog_6_method_3_code 160 [none, some (.iconst 0, 1), some (.bipush 7, 2), none, some (.invokestatic 73, 3), none, none, some (.aload_n 1, 1), some (.getfield 39, 3), none, none, some (.iconst 0, 1), some (.aload_n 0, 1), some (.getfield 39, 3), none, none, some (.iconst 0, 1), some (.bipush 8, 2), none, some (.invokestatic 73, 3), none, none, some (.aload_n 1, 1), some (.getfield 42, 3), none, none, some (.iconst 0, 1), some (.aload_n 0, 1), some (.getfield 42, 3), none, none, some (.iconst 0, 1)] = true := by decide +kernel
theorem mDr56_6 : mDc1 prog_6_method_3_code 192 [some (.bipush 8, 2), none, some (.invokestatic 73, 3), none, none, some (.aload_n 1, 1), some (.getfield 45, 3), none, none, some (.iconst 0, 1), some (.aload_n 0, 1), some (.getfield 45, 3), none, none, some (.iconst 0, 1), some (.bipush 12, 2), none, some (.invokestatic 73, 3), none, none, some (.aload_n 1, 1), some (.getfield 48, 3), none, none, some (.iconst 0, 1), some (.aload_n 0, 1), some (.getfield 48, 3), none, none, some (.iconst 0, 1), some (.bipush 12, 2)] = true := by decide +kernel
theorem mDr56_7 : mDc1 prog_6_method_3_code 224 [some (.invokestatic 73, 3), none, none, some (.aload_n 1, 1), some (.getfield 51, 3), none, none, some (.iconst 0, 1), some (.aload_n 0, 1), some (.getfield 51, 3), none, none, some (.iconst 0, 1), some (.bipush 12, 2), none, some (.invokestatic 73, 3), none, none, some (.return_, 1)] = true := by decide +kernel
theorem mDt56 : mDcP prog_6_method_3_code mct56 := by
  intro j c h
  unfold mct56 at h
  match j, h with
  | 0, h => cases h; exact mDr56_0
  | 1, h => cases h; exact mDr56_1
  | 2, h => cases h; exact mDr56_2
  | 3, h => cases h; exact mDr56_3
  | 4, h => cases h; exact mDr56_4
  | 5, h => cases h; exact mDr56_5
  | 6, h => cases h; exact mDr56_6
  | 7, h => cases h; exact mDr56_7
  | n + 8, h => simp at h
theorem mDr57_0 : mDc1 prog_6_method_2_code 0 [some (.aload_n 0, 1), some (.iconst 0, 1), some (.putfield 54, 3), none, none, some (.aload_n 0, 1), some (.iconst 0, 1), some (.putfield 58, 3), none, none, some (.aload_n 0, 1), some (.iconst 0, 1), some (.putfield 61, 3), none, none, some (.aload_n 0, 1), some (.iconst 0, 1), some (.putfield 64, 3), none, none, some (.aload_n 0, 1), some (.getfield 21, 3), none, none, some (.iconst 0, 1), some (.invokestatic 67, 3), none, none, some (.aload_n 0, 1), some (.getfield 24, 3)] = true := by decide +kernel
theorem mDr57_1 : mDc1 prog_6_method_2_code 32 [some (.iconst 0, 1), some (.invokestatic 67, 3), none, none, some (.aload_n 0, 1), some (.getfield 33, 3), none, none, some (.iconst 0, 1), some (.invokestatic 67, 3), none, none, some (.aload_n 0, 1), some (.getfield 36, 3), none, none, some (.iconst 0, 1), some (.invokestatic 67, 3), none, none, some (.return_, 1)] = true := by decide +kernel
theorem mDt57 : mDcP prog_6_method_2_code mct57 := by
  intro j c h
  unfold mct57 at h
  match j, h with
  | 0, h => cases h; exact mDr57_0
  | 1, h => cases h; exact mDr57_1
  | n + 2, h => simp at h
theorem mDr58_0 : mDc1 prog_6_method_6_code 0 [some (.iconst 0, 1), some (.istore_n 1, 1), some (.iconst 0, 1), some (.istore_n 2, 1), some (.iload_n 2, 1), some (.aload_n 0, 1), some (.getfield 54, 3), none, none, some (.if_icmp .ge 23, 3), none, none, some (.aload_n 0, 1), some (.iload_n 2, 1), some (.invokevirtual 79, 3), none, none, some (.ifCond .eq 9, 3), none, none, some (.iload_n 1, 1), some (.iconst 1, 1), some (.iload_n 2, 1), some (.ishl, 1), some (.ior, 1), some (.istore_n 1, 1), some (.iinc 2 1, 3), none, none, some (.goto (-25), 3)] = true := by decide +kernel
theorem mDr58_1 : mDc1 prog_6_method_6_code 32 [some (.iload_n 1, 1), some (.ireturn, 1)] = true := by decide +kernel
theorem mDt58 : mDcP prog_6_method_6_code mct58 := by
  intro j c h
  unfold mct58 at h
  match j, h with
  | 0, h => cases h; exact mDr58_0
  | 1, h => cases h; exact mDr58_1
  | n + 2, h => simp at h
theorem mDr59_0 : mDc1 prog_6_method_9_code 0 [some (.iconst 0, 1), some (.istore 4, 2), none, some (.iload 4, 2), none, some (.aload_n 0, 1), some (.getfield 61, 3), none, none, some (.if_icmp .ge 43, 3), none, none, some (.aload_n 0, 1), some (.getfield 39, 3), none, none, some (.iload 4, 2), none, some (.iaload, 1), some (.iload_n 1, 1), some (.if_icmp .ne 26, 3), none, none, some (.iload_n 3, 1), some (.iload 4, 2), none, some (.ishr, 1), some (.iconst 1, 1), some (.iand, 1), some (.ifCond .ne 17, 3)] = true := by decide +kernel
theorem mDr59_1 : mDc1 prog_6_method_9_code 32 [some (.aload_n 0, 1), some (.getfield 42, 3), none, none, some (.iload 4, 2), none, some (.iaload, 1), some (.iload_n 2, 1), some (.if_icmp .lt 6, 3), none, none, some (.iload 4, 2), none, some (.ireturn, 1), some (.iinc 4 1, 3), none, none, some (.goto (-46), 3), none, none, some (.iconst (-1), 1), some (.ireturn, 1)] = true := by decide +kernel
theorem mDt59 : mDcP prog_6_method_9_code mct59 := by
  intro j c h
  unfold mct59 at h
  match j, h with
  | 0, h => cases h; exact mDr59_0
  | 1, h => cases h; exact mDr59_1
  | n + 2, h => simp at h
theorem mDr60_0 : mDc1 prog_6_method_8_code 0 [some (.bipush 90, 2), none, some (.iload_n 2, 1), some (.aload_n 0, 1), some (.getfield 51, 3), none, none, some (.iload_n 1, 1), some (.iaload, 1), some (.isub, 1), some (.invokestatic 83, 3), none, none, some (.bipush 10, 2), none, some (.idiv, 1), some (.invokestatic 89, 3), none, none, some (.istore_n 3, 1), some (.aload_n 0, 1), some (.getfield 48, 3), none, none, some (.iload_n 1, 1), some (.iaload, 1), some (.bipush 100, 2), none, some (.iload_n 3, 1), some (.isub, 1), some (.imul, 1), some (.ireturn, 1)] = true := by decide +kernel
theorem mDt60 : mDcP prog_6_method_8_code mct60 := by
  intro j c h
  unfold mct60 at h
  match j, h with
  | 0, h => cases h; exact mDr60_0
  | n + 1, h => simp at h
theorem mDr61_0 : mDc1 prog_6_method_4_code 0 [some (.iload_n 1, 1), some (.ifCond .lt 15, 3), none, none, some (.iload_n 1, 1), some (.aload_n 0, 1), some (.getfield 54, 3), none, none, some (.if_icmp .ge 7, 3), none, none, some (.iconst 1, 1), some (.goto 4, 3), none, none, some (.iconst 0, 1), some (.ireturn, 1)] = true := by decide +kernel
theorem mDt61 : mDcP prog_6_method_4_code mct61 := by
  intro j c h
  unfold mct61 at h
  match j, h with
  | 0, h => cases h; exact mDr61_0
  | n + 1, h => simp at h
theorem mDr62_0 : mDc1 prog_6_method_5_code 0 [some (.aload_n 0, 1), some (.getfield 21, 3), none, none, some (.iload_n 1, 1), some (.iaload, 1), some (.ifCond .le 7, 3), none, none, some (.iconst 1, 1), some (.goto 4, 3), none, none, some (.iconst 0, 1), some (.ireturn, 1)] = true := by decide +kernel
theorem mDt62 : mDcP prog_6_method_5_code mct62 := by
  intro j c h
  unfold mct62 at h
  match j, h with
  | 0, h => cases h; exact mDr62_0
  | n + 1, h => simp at h
theorem mDr63_0 : mDc1 prog_6_method_10_code 0 [some (.iconst 0, 1), some (.istore_n 2, 1), some (.iconst 0, 1), some (.istore_n 3, 1), some (.iload_n 3, 1), some (.aload_n 0, 1), some (.getfield 64, 3), none, none, some (.if_icmp .ge 31, 3), none, none, some (.iload_n 1, 1), some (.aload_n 0, 1), some (.getfield 45, 3), none, none, some (.iload_n 3, 1), some (.iaload, 1), some (.ishr, 1), some (.iconst 1, 1), some (.iand, 1), some (.ifCond .eq 12, 3), none, none, some (.iload_n 2, 1), some (.aload_n 0, 1), some (.getfield 48, 3), none, none, some (.iload_n 3, 1), some (.iaload, 1)] = true := by decide +kernel
theorem mDr63_1 : mDc1 prog_6_method_10_code 32 [some (.iadd, 1), some (.istore_n 2, 1), some (.iinc 3 1, 3), none, none, some (.goto (-33), 3), none, none, some (.iload_n 2, 1), some (.ireturn, 1)] = true := by decide +kernel
theorem mDt63 : mDcP prog_6_method_10_code mct63 := by
  intro j c h
  unfold mct63 at h
  match j, h with
  | 0, h => cases h; exact mDr63_0
  | 1, h => cases h; exact mDr63_1
  | n + 2, h => simp at h
theorem mDr64_0 : mDc1 prog_7_method_1_code 0 [some (.aload_n 0, 1), some (.invokespecial 3, 3), none, none, some (.aload_n 0, 1), some (.bipush 12, 2), none, some (.newarray .int, 2), none, some (.putfield 9, 3), none, none, some (.aload_n 0, 1), some (.bipush 12, 2), none, some (.newarray .int, 2), none, some (.putfield 15, 3), none, none, some (.aload_n 0, 1), some (.aload_n 1, 1), some (.putfield 18, 3), none, none, some (.aload_n 0, 1), some (.aload_n 2, 1), some (.putfield 22, 3), none, none, some (.return_, 1)] = true := by decide +kernel
theorem mDt64 : mDcP prog_7_method_1_code mct64 := by
  intro j c h
  unfold mct64 at h
  match j, h with
  | 0, h => cases h; exact mDr64_0
  | n + 1, h => simp at h
theorem mDr65_0 : mDc1 prog_7_method_4_code 0 [some (.iconst 1, 1), some (.istore_n 2, 1), some (.iconst 2, 1), some (.istore_n 3, 1), some (.iload_n 3, 1), some (.iload_n 1, 1), some (.if_icmp .gt 13, 3), none, none, some (.iload_n 2, 1), some (.iload_n 3, 1), some (.imul, 1), some (.istore_n 2, 1), some (.iinc 3 1, 3), none, none, some (.goto (-12), 3), none, none, some (.iload_n 2, 1), some (.ireturn, 1)] = true := by decide +kernel
theorem mDt65 : mDcP prog_7_method_4_code mct65 := by
  intro j c h
  unfold mct65 at h
  match j, h with
  | 0, h => cases h; exact mDr65_0
  | n + 1, h => simp at h
theorem mDr66_0 : mDc1 prog_7_method_6_code 0 [some (.iconst 0, 1), some (.istore_n 2, 1), some (.iload_n 2, 1), some (.aload_n 0, 1), some (.getfield 18, 3), none, none, some (.getfield 26, 3), none, none, some (.if_icmp .ge 17, 3), none, none, some (.aload_n 0, 1), some (.getfield 9, 3), none, none, some (.iload_n 2, 1), some (.bipush 7, 2), none, some (.iastore, 1), some (.iinc 2 1, 3), none, none, some (.goto (-22), 3), none, none, some (.aload_n 0, 1), some (.getfield 18, 3), none, none, some (.getfield 26, 3)] = true := by decide +kernel
theorem mDr66_1 : mDc1 prog_7_method_6_code 32 [none, none, some (.iconst 1, 1), some (.isub, 1), some (.istore_n 2, 1), some (.iload_n 2, 1), some (.ifCond .lt 82, 3), none, none, some (.aload_n 0, 1), some (.getfield 9, 3), none, none, some (.iload_n 2, 1), some (.iaload, 1), some (.bipush 7, 2), none, some (.if_icmp .ne 24, 3), none, none, some (.aload_n 0, 1), some (.getfield 9, 3), none, none, some (.iload_n 2, 1), some (.aload_n 0, 1), some (.iload_n 1, 1), some (.aload_n 0, 1), some (.getfield 22, 3), none, none, some (.getfield 32, 3)] = true := by decide +kernel
theorem mDr66_2 : mDc1 prog_7_method_6_code 64 [none, none, some (.iload_n 2, 1), some (.iaload, 1), some (.iand, 1), some (.invokevirtual 67, 3), none, none, some (.iastore, 1), some (.aload_n 0, 1), some (.getfield 18, 3), none, none, some (.getfield 50, 3), none, none, some (.iload_n 2, 1), some (.iaload, 1), some (.istore_n 3, 1), some (.iload_n 2, 1), some (.ifCond .le 30, 3), none, none, some (.aload_n 0, 1), some (.getfield 9, 3), none, none, some (.iload_n 2, 1), some (.iaload, 1), some (.aload_n 0, 1), some (.getfield 9, 3)] = true := by decide +kernel
theorem mDr66_3 : mDc1 prog_7_method_6_code 96 [none, some (.iload_n 3, 1), some (.iaload, 1), some (.if_icmp .ge 15, 3), none, none, some (.aload_n 0, 1), some (.getfield 9, 3), none, none, some (.iload_n 3, 1), some (.aload_n 0, 1), some (.getfield 9, 3), none, none, some (.iload_n 2, 1), some (.iaload, 1), some (.iastore, 1), some (.iinc 2 (-1), 3), none, none, some (.goto (-80), 3), none, none, some (.return_, 1)] = true := by decide +kernel
theorem mDt66 : mDcP prog_7_method_6_code mct66 := by
  intro j c h
  unfold mct66 at h
  match j, h with
  | 0, h => cases h; exact mDr66_0
  | 1, h => cases h; exact mDr66_1
  | 2, h => cases h; exact mDr66_2
  | 3, h => cases h; exact mDr66_3
  | n + 4, h => simp at h
theorem mDr67_0 : mDc1 prog_7_method_5_code 0 [some (.aload_n 0, 1), some (.iload_n 1, 1), some (.invokevirtual 56, 3), none, none, some (.aload_n 0, 1), some (.getfield 15, 3), none, none, some (.iconst 0, 1), some (.iload_n 3, 1), some (.iastore, 1), some (.iconst 0, 1), some (.istore 4, 2), none, some (.iload 4, 2), none, some (.aload_n 0, 1), some (.getfield 18, 3), none, none, some (.getfield 26, 3), none, none, some (.if_icmp .ge 52, 3), none, none, some (.iload_n 1, 1), some (.aload_n 0, 1), some (.getfield 22, 3)] = true := by decide +kernel
theorem mDr67_1 : mDc1 prog_7_method_5_code 32 [some (.getfield 53, 3), none, none, some (.iload 4, 2), none, some (.iaload, 1), some (.iand, 1), some (.ifCond .eq 31, 3), none, none, some (.aload_n 0, 1), some (.iload_n 1, 1), some (.iload 4, 2), none, some (.invokevirtual 60, 3), none, none, some (.istore 5, 2), none, some (.aload_n 0, 1), some (.iload_n 1, 1), some (.aload_n 0, 1), some (.getfield 22, 3), none, none, some (.getfield 32, 3), none, none, some (.iload 4, 2), none, some (.iaload, 1), some (.iand, 1)] = true := by decide +kernel
theorem mDr67_2 : mDc1 prog_7_method_5_code 64 [some (.aload_n 2, 1), some (.iload 5, 2), none, some (.invokevirtual 63, 3), none, none, some (.iinc 4 1, 3), none, none, some (.goto (-58), 3), none, none, some (.return_, 1)] = true := by decide +kernel
theorem mDt67 : mDcP prog_7_method_5_code mct67 := by
  intro j c h
  unfold mct67 at h
  match j, h with
  | 0, h => cases h; exact mDr67_0
  | 1, h => cases h; exact mDr67_1
  | 2, h => cases h; exact mDr67_2
  | n + 3, h => simp at h
theorem mDr68_0 : mDc1 prog_7_method_9_code 0 [some (.iload_n 1, 1), some (.istore_n 3, 1), some (.bipush 7, 2), none, some (.istore 4, 2), none, some (.iload_n 1, 1), some (.iconst 1, 1), some (.iadd, 1), some (.istore 5, 2), none, some (.iload 5, 2), none, some (.aload_n 0, 1), some (.getfield 18, 3), none, none, some (.getfield 26, 3), none, none, some (.if_icmp .ge 58, 3), none, none, some (.aload_n 0, 1), some (.getfield 18, 3), none, none, some (.getfield 50, 3), none, none, some (.iload 5, 2)] = true := by decide +kernel
theorem mDr68_1 : mDc1 prog_7_method_9_code 32 [some (.iaload, 1), some (.iload_n 1, 1), some (.if_icmp .ne 38, 3), none, none, some (.aload_n 0, 1), some (.getfield 9, 3), none, none, some (.iload 5, 2), none, some (.iaload, 1), some (.iload_n 2, 1), some (.if_icmp .le 27, 3), none, none, some (.aload_n 0, 1), some (.getfield 9, 3), none, none, some (.iload 5, 2), none, some (.iaload, 1), some (.iload 4, 2), none, some (.if_icmp .ge 15, 3), none, none, some (.aload_n 0, 1), some (.getfield 9, 3)] = true := by decide +kernel
theorem mDr68_2 : mDc1 prog_7_method_9_code 64 [some (.iload 5, 2), none, some (.iaload, 1), some (.istore 4, 2), none, some (.iload 5, 2), none, some (.istore_n 3, 1), some (.iinc 5 1, 3), none, none, some (.goto (-64), 3), none, none, some (.iload_n 3, 1), some (.ireturn, 1)] = true := by decide +kernel
theorem mDt68 : mDcP prog_7_method_9_code mct68 := by
  intro j c h
  unfold mct68 at h
  match j, h with
  | 0, h => cases h; exact mDr68_0
  | 1, h => cases h; exact mDr68_1
  | 2, h => cases h; exact mDr68_2
  | n + 3, h => simp at h
theorem mDr69_0 : mDc1 prog_7_method_3_code 0 [some (.iconst 0, 1), some (.istore_n 3, 1), some (.iload_n 1, 1), some (.iconst 1, 1), some (.iadd, 1), some (.istore 4, 2), none, some (.iload 4, 2), none, some (.aload_n 0, 1), some (.getfield 18, 3), none, none, some (.getfield 26, 3), none, none, some (.if_icmp .ge 41, 3), none, none, some (.aload_n 0, 1), some (.getfield 18, 3), none, none, some (.getfield 50, 3), none, none, some (.iload 4, 2), none, some (.iaload, 1), some (.iload_n 1, 1), some (.if_icmp .ne 21, 3)] = true := by decide +kernel
theorem mDr69_1 : mDc1 prog_7_method_3_code 32 [none, some (.iload_n 2, 1), some (.aload_n 0, 1), some (.getfield 22, 3), none, none, some (.getfield 53, 3), none, none, some (.iload 4, 2), none, some (.iaload, 1), some (.iand, 1), some (.ifCond .eq 6, 3), none, none, some (.iinc 3 1, 3), none, none, some (.iinc 4 1, 3), none, none, some (.goto (-47), 3), none, none, some (.iload_n 3, 1), some (.ireturn, 1)] = true := by decide +kernel
theorem mDt69 : mDcP prog_7_method_3_code mct69 := by
  intro j c h
  unfold mct69 at h
  match j, h with
  | 0, h => cases h; exact mDr69_0
  | 1, h => cases h; exact mDr69_1
  | n + 2, h => simp at h
theorem mDr70_0 : mDc1 prog_7_method_2_code 0 [some (.iconst 1, 1), some (.istore_n 2, 1), some (.iconst 0, 1), some (.istore_n 3, 1), some (.iload_n 3, 1), some (.aload_n 0, 1), some (.getfield 18, 3), none, none, some (.getfield 26, 3), none, none, some (.if_icmp .ge 43, 3), none, none, some (.iload_n 2, 1), some (.aload_n 0, 1), some (.iload_n 1, 1), some (.aload_n 0, 1), some (.getfield 22, 3), none, none, some (.getfield 32, 3), none, none, some (.iload_n 3, 1), some (.iaload, 1), some (.iand, 1), some (.invokestatic 37, 3), none, none, some (.invokevirtual 43, 3)] = true := by decide +kernel
theorem mDr70_1 : mDc1 prog_7_method_2_code 32 [none, none, some (.imul, 1), some (.istore_n 2, 1), some (.iload_n 2, 1), some (.aload_n 0, 1), some (.aload_n 0, 1), some (.iload_n 3, 1), some (.iload_n 1, 1), some (.invokevirtual 46, 3), none, none, some (.invokevirtual 43, 3), none, none, some (.imul, 1), some (.istore_n 2, 1), some (.iinc 3 1, 3), none, none, some (.goto (-48), 3), none, none, some (.iload_n 2, 1), some (.ireturn, 1)] = true := by decide +kernel
theorem mDt70 : mDcP prog_7_method_2_code mct70 := by
  intro j c h
  unfold mct70 at h
  match j, h with
  | 0, h => cases h; exact mDr70_0
  | 1, h => cases h; exact mDr70_1
  | n + 2, h => simp at h
theorem mDr71_0 : mDc1 prog_7_method_7_code 0 [some (.iconst 0, 1), some (.istore_n 2, 1), some (.iload_n 2, 1), some (.bipush 7, 2), none, some (.if_icmp .ge 19, 3), none, none, some (.iload_n 1, 1), some (.iload_n 2, 1), some (.ishr, 1), some (.iconst 1, 1), some (.iand, 1), some (.ifCond .eq 5, 3), none, none, some (.iload_n 2, 1), some (.ireturn, 1), some (.iinc 2 1, 3), none, none, some (.goto (-19), 3), none, none, some (.bipush 7, 2), none, some (.ireturn, 1)] = true := by decide +kernel
theorem mDt71 : mDcP prog_7_method_7_code mct71 := by
  intro j c h
  unfold mct71 at h
  match j, h with
  | 0, h => cases h; exact mDr71_0
  | n + 1, h => simp at h
theorem mDr72_0 : mDc1 prog_7_method_8_code 0 [some (.aload_n 0, 1), some (.getfield 15, 3), none, none, some (.iload_n 2, 1), some (.iaload, 1), some (.istore_n 3, 1), some (.aload_n 0, 1), some (.iload_n 2, 1), some (.iload_n 1, 1), some (.invokevirtual 46, 3), none, none, some (.istore 4, 2), none, some (.iconst (-1), 1), some (.istore 5, 2), none, some (.iconst 0, 1), some (.istore 6, 2), none, some (.iload 6, 2), none, some (.iload 4, 2), none, some (.if_icmp .ge 53, 3), none, none, some (.aload_n 0, 1), some (.iload_n 2, 1), some (.iload 5, 2)] = true := by decide +kernel
theorem mDr72_1 : mDc1 prog_7_method_8_code 32 [some (.invokevirtual 70, 3), none, none, some (.istore 7, 2), none, some (.aload_n 0, 1), some (.getfield 9, 3), none, none, some (.iload 7, 2), none, some (.iaload, 1), some (.istore 5, 2), none, some (.aload_n 0, 1), some (.getfield 15, 3), none, none, some (.iload 7, 2), none, some (.iload_n 3, 1), some (.iastore, 1), some (.iload_n 3, 1), some (.iload_n 1, 1), some (.aload_n 0, 1), some (.getfield 22, 3), none, none, some (.getfield 53, 3), none, none, some (.iload 7, 2)] = true := by decide +kernel
theorem mDr72_2 : mDc1 prog_7_method_8_code 64 [none, some (.iaload, 1), some (.iand, 1), some (.invokestatic 37, 3), none, none, some (.iadd, 1), some (.istore_n 3, 1), some (.iinc 6 1, 3), none, none, some (.goto (-54), 3), none, none, some (.iload_n 3, 1), some (.ireturn, 1)] = true := by decide +kernel
theorem mDt72 : mDcP prog_7_method_8_code mct72 := by
  intro j c h
  unfold mct72 at h
  match j, h with
  | 0, h => cases h; exact mDr72_0
  | 1, h => cases h; exact mDr72_1
  | 2, h => cases h; exact mDr72_2
  | n + 3, h => simp at h
theorem mDr73_0 : mDc1 prog_7_method_10_code 0 [some (.iload_n 3, 1), some (.istore 4, 2), none, some (.iconst 0, 1), some (.istore 5, 2), none, some (.iload 5, 2), none, some (.aload_n 0, 1), some (.getfield 18, 3), none, none, some (.getfield 73, 3), none, none, some (.if_icmp .ge 27, 3), none, none, some (.iload_n 1, 1), some (.iload 5, 2), none, some (.ishr, 1), some (.iconst 1, 1), some (.iand, 1), some (.ifCond .eq 12, 3), none, none, some (.aload_n 2, 1), some (.iload 4, 2), none, some (.iload 5, 2)] = true := by decide +kernel
theorem mDr73_1 : mDc1 prog_7_method_10_code 32 [some (.iastore, 1), some (.iinc 4 1, 3), none, none, some (.iinc 5 1, 3), none, none, some (.goto (-33), 3), none, none, some (.return_, 1)] = true := by decide +kernel
theorem mDt73 : mDcP prog_7_method_10_code mct73 := by
  intro j c h
  unfold mct73 at h
  match j, h with
  | 0, h => cases h; exact mDr73_0
  | 1, h => cases h; exact mDr73_1
  | n + 2, h => simp at h
theorem mDr74_0 : mDc1 prog_8_method_1_code 0 [some (.aload_n 0, 1), some (.invokespecial 3, 3), none, none, some (.aload_n 0, 1), some (.iconst 4, 1), some (.newarray .int, 2), none, some (.putfield 9, 3), none, none, some (.aload_n 0, 1), some (.iconst 4, 1), some (.newarray .int, 2), none, some (.putfield 15, 3), none, none, some (.aload_n 0, 1), some (.bipush 28, 2), none, some (.newarray .int, 2), none, some (.putfield 18, 3), none, none, some (.aload_n 0, 1), some (.bipush 7, 2), none, some (.newarray .int, 2), none, some (.putfield 21, 3)] = true := by decide +kernel
theorem mDr74_1 : mDc1 prog_8_method_1_code 32 [none, none, some (.aload_n 0, 1), some (.bipush 14, 2), none, some (.newarray .int, 2), none, some (.putfield 24, 3), none, none, some (.aload_n 0, 1), some (.bipush 14, 2), none, some (.newarray .int, 2), none, some (.putfield 27, 3), none, none, some (.aload_n 0, 1), some (.bipush 14, 2), none, some (.newarray .int, 2), none, some (.putfield 30, 3), none, none, some (.aload_n 0, 1), some (.bipush 14, 2), none, some (.newarray .int, 2), none, some (.putfield 33, 3)] = true := by decide +kernel
theorem mDr74_2 : mDc1 prog_8_method_1_code 64 [none, none, some (.aload_n 0, 1), some (.bipush 12, 2), none, some (.newarray .int, 2), none, some (.putfield 36, 3), none, none, some (.aload_n 0, 1), some (.bipush 7, 2), none, some (.newarray .int, 2), none, some (.putfield 39, 3), none, none, some (.aload_n 0, 1), some (.bipush 7, 2), none, some (.newarray .int, 2), none, some (.putfield 42, 3), none, none, some (.aload_n 0, 1), some (.invokevirtual 45, 3), none, none, some (.return_, 1)] = true := by decide +kernel
theorem mDt74 : mDcP prog_8_method_1_code mct74 := by
  intro j c h
  unfold mct74 at h
  match j, h with
  | 0, h => cases h; exact mDr74_0
  | 1, h => cases h; exact mDr74_1
  | 2, h => cases h; exact mDr74_2
  | n + 3, h => simp at h
theorem mDr75_0 : mDc1 prog_8_method_10_code 0 [some (.aload_n 0, 1), some (.getfield 24, 3), none, none, some (.aload_n 0, 1), some (.getfield 52, 3), none, none, some (.iload_n 1, 1), some (.iastore, 1), some (.aload_n 0, 1), some (.getfield 27, 3), none, none, some (.aload_n 0, 1), some (.getfield 52, 3), none, none, some (.iload_n 2, 1), some (.iastore, 1), some (.aload_n 0, 1), some (.getfield 30, 3), none, none, some (.aload_n 0, 1), some (.getfield 52, 3), none, none, some (.iload_n 3, 1), some (.iastore, 1), some (.aload_n 0, 1), some (.getfield 33, 3)] = true := by decide +kernel
theorem mDr75_1 : mDc1 prog_8_method_10_code 32 [none, none, some (.aload_n 0, 1), some (.getfield 52, 3), none, none, some (.iload 4, 2), none, some (.iastore, 1), some (.aload_n 0, 1), some (.dup, 1), some (.getfield 52, 3), none, none, some (.iconst 1, 1), some (.iadd, 1), some (.putfield 52, 3), none, none, some (.aload_n 0, 1), some (.getfield 52, 3), none, none, some (.iconst 1, 1), some (.isub, 1), some (.ireturn, 1)] = true := by decide +kernel
theorem mDt75 : mDcP prog_8_method_10_code mct75 := by
  intro j c h
  unfold mct75 at h
  match j, h with
  | 0, h => cases h; exact mDr75_0
  | 1, h => cases h; exact mDr75_1
  | n + 2, h => simp at h
theorem mDr76_0 : mDc1 prog_8_method_4_code 0 [some (.aload_n 0, 1), some (.getfield 9, 3), none, none, some (.aload_n 0, 1), some (.getfield 48, 3), none, none, some (.iload_n 1, 1), some (.iastore, 1), some (.aload_n 0, 1), some (.getfield 15, 3), none, none, some (.aload_n 0, 1), some (.getfield 48, 3), none, none, some (.iconst 0, 1), some (.iastore, 1), some (.aload_n 0, 1), some (.dup, 1), some (.getfield 48, 3), none, none, some (.iconst 1, 1), some (.iadd, 1), some (.putfield 48, 3), none, none, some (.aload_n 0, 1), some (.getfield 48, 3)] = true := by decide +kernel
theorem mDr76_1 : mDc1 prog_8_method_4_code 32 [none, none, some (.iconst 1, 1), some (.isub, 1), some (.ireturn, 1)] = true := by decide +kernel
theorem mDt76 : mDcP prog_8_method_4_code mct76 := by
  intro j c h
  unfold mct76 at h
  match j, h with
  | 0, h => cases h; exact mDr76_0
  | 1, h => cases h; exact mDr76_1
  | n + 2, h => simp at h
theorem mDr77_0 : mDc1 prog_8_method_5_code 0 [some (.aload_n 0, 1), some (.getfield 18, 3), none, none, some (.iload_n 1, 1), some (.bipush 7, 2), none, some (.imul, 1), some (.aload_n 0, 1), some (.getfield 15, 3), none, none, some (.iload_n 1, 1), some (.iaload, 1), some (.iadd, 1), some (.iload_n 2, 1), some (.iastore, 1), some (.aload_n 0, 1), some (.getfield 15, 3), none, none, some (.iload_n 1, 1), some (.dup2, 1), some (.iaload, 1), some (.iconst 1, 1), some (.iadd, 1), some (.iastore, 1), some (.aload_n 0, 1), some (.getfield 21, 3), none, none, some (.iload_n 2, 1)] = true := by decide +kernel
theorem mDr77_1 : mDc1 prog_8_method_5_code 32 [some (.iload_n 1, 1), some (.iastore, 1), some (.return_, 1)] = true := by decide +kernel
theorem mDt77 : mDcP prog_8_method_5_code mct77 := by
  intro j c h
  unfold mct77 at h
  match j, h with
  | 0, h => cases h; exact mDr77_0
  | 1, h => cases h; exact mDr77_1
  | n + 2, h => simp at h
theorem mDr78_0 : mDc1 prog_8_method_2_code 0 [some (.aload_n 0, 1), some (.iconst 0, 1), some (.putfield 48, 3), none, none, some (.aload_n 0, 1), some (.iconst 0, 1), some (.putfield 52, 3), none, none, some (.aload_n 0, 1), some (.iconst 0, 1), some (.putfield 55, 3), none, none, some (.aload_n 0, 1), some (.getfield 15, 3), none, none, some (.iconst 0, 1), some (.invokestatic 58, 3), none, none, some (.aload_n 0, 1), some (.getfield 21, 3), none, none, some (.iconst (-1), 1), some (.invokestatic 58, 3), none, none, some (.aload_n 0, 1)] = true := by decide +kernel
theorem mDr78_1 : mDc1 prog_8_method_2_code 32 [some (.getfield 36, 3), none, none, some (.iconst 0, 1), some (.invokestatic 58, 3), none, none, some (.aload_n 0, 1), some (.getfield 39, 3), none, none, some (.bipush 127, 2), none, some (.invokestatic 58, 3), none, none, some (.aload_n 0, 1), some (.getfield 42, 3), none, none, some (.sipush 1080, 3), none, none, some (.invokestatic 58, 3), none, none, some (.return_, 1)] = true := by decide +kernel
theorem mDt78 : mDcP prog_8_method_2_code mct78 := by
  intro j c h
  unfold mct78 at h
  match j, h with
  | 0, h => cases h; exact mDr78_0
  | 1, h => cases h; exact mDr78_1
  | n + 2, h => simp at h
theorem mDr79_0 : mDc1 prog_8_method_3_code 0 [some (.aload_n 0, 1), some (.aload_n 1, 1), some (.getfield 48, 3), none, none, some (.putfield 48, 3), none, none, some (.aload_n 0, 1), some (.aload_n 1, 1), some (.getfield 52, 3), none, none, some (.putfield 52, 3), none, none, some (.aload_n 0, 1), some (.aload_n 1, 1), some (.getfield 55, 3), none, none, some (.putfield 55, 3), none, none, some (.aload_n 1, 1), some (.getfield 9, 3), none, none, some (.iconst 0, 1), some (.aload_n 0, 1), some (.getfield 9, 3)] = true := by decide +kernel
theorem mDr79_1 : mDc1 prog_8_method_3_code 32 [none, some (.iconst 0, 1), some (.iconst 4, 1), some (.invokestatic 64, 3), none, none, some (.aload_n 1, 1), some (.getfield 15, 3), none, none, some (.iconst 0, 1), some (.aload_n 0, 1), some (.getfield 15, 3), none, none, some (.iconst 0, 1), some (.iconst 4, 1), some (.invokestatic 64, 3), none, none, some (.aload_n 1, 1), some (.getfield 18, 3), none, none, some (.iconst 0, 1), some (.aload_n 0, 1), some (.getfield 18, 3), none, none, some (.iconst 0, 1), some (.bipush 28, 2)] = true := by decide +kernel
theorem mDr79_2 : mDc1 prog_8_method_3_code 64 [some (.invokestatic 64, 3), none, none, some (.aload_n 1, 1), some (.getfield 21, 3), none, none, some (.iconst 0, 1), some (.aload_n 0, 1), some (.getfield 21, 3), none, none, some (.iconst 0, 1), some (.bipush 7, 2), none, some (.invokestatic 64, 3), none, none, some (.aload_n 1, 1), some (.getfield 24, 3), none, none, some (.iconst 0, 1), some (.aload_n 0, 1), some (.getfield 24, 3), none, none, some (.iconst 0, 1), some (.bipush 14, 2), none, some (.invokestatic 64, 3)] = true := by decide +kernel
theorem mDr79_3 : mDc1 prog_8_method_3_code 96 [none, some (.aload_n 1, 1), some (.getfield 27, 3), none, none, some (.iconst 0, 1), some (.aload_n 0, 1), some (.getfield 27, 3), none, none, some (.iconst 0, 1), some (.bipush 14, 2), none, some (.invokestatic 64, 3), none, none, some (.aload_n 1, 1), some (.getfield 30, 3), none, none, some (.iconst 0, 1), some (.aload_n 0, 1), some (.getfield 30, 3), none, none, some (.iconst 0, 1), some (.bipush 14, 2), none, some (.invokestatic 64, 3), none, none, some (.aload_n 1, 1)] = true := by decide +kernel
theorem mDr79_4 : mDc1 prog_8_method_3_code 128 [some (.getfield 33, 3), none, none, some (.iconst 0, 1), some (.aload_n 0, 1), some (.getfield 33, 3), none, none, some (.iconst 0, 1), some (.bipush 14, 2), none, some (.invokestatic 64, 3), none, none, some (.aload_n 1, 1), some (.getfield 36, 3), none, none, some (.iconst 0, 1), some (.aload_n 0, 1), some (.getfield 36, 3), none, none, some (.iconst 0, 1), some (.bipush 12, 2), none, some (.invokestatic 64, 3), none, none, some (.aload_n 1, 1), some (.getfield 39, 3)] = true := by decide +kernel
theorem mDr79_5 : mDc1 prog_8_method_3_code 160 [none, some (.iconst 0, 1), some (.aload_n 0, 1), some (.getfield 39, 3), none, none, some (.iconst 0, 1), some (.bipush 7, 2), none, some (.invokestatic 64, 3), none, none, some (.aload_n 1, 1), some (.getfield 42, 3), none, none, some (.iconst 0, 1), some (.aload_n 0, 1), some (.getfield 42, 3), none, none, some (.iconst 0, 1), some (.bipush 7, 2), none, some (.invokestatic 64, 3), none, none, some (.return_, 1)] = true := by decide +kernel
theorem mDt79 : mDcP prog_8_method_3_code mct79 := by
  intro j c h
  unfold mct79 at h
  match j, h with
  | 0, h => cases h; exact mDr79_0
  | 1, h => cases h; exact mDr79_1
  | 2, h => cases h; exact mDr79_2
  | 3, h => cases h; exact mDr79_3
  | 4, h => cases h; exact mDr79_4
  | 5, h => cases h; exact mDr79_5
  | n + 6, h => simp at h
theorem mDr80_0 : mDc1 prog_8_method_6_code 0 [some (.aload_n 0, 1), some (.getfield 15, 3), none, none, some (.iload_n 1, 1), some (.iaload, 1), some (.istore_n 2, 1), some (.iconst 0, 1), some (.istore_n 3, 1), some (.iload_n 3, 1), some (.iload_n 2, 1), some (.if_icmp .ge 26, 3), none, none, some (.aload_n 0, 1), some (.getfield 21, 3), none, none, some (.aload_n 0, 1), some (.getfield 18, 3), none, none, some (.iload_n 1, 1), some (.bipush 7, 2), none, some (.imul, 1), some (.iload_n 3, 1), some (.iadd, 1), some (.iaload, 1), some (.iconst (-1), 1), some (.iastore, 1), some (.iinc 3 1, 3)] = true := by decide +kernel
theorem mDr80_1 : mDc1 prog_8_method_6_code 32 [none, none, some (.goto (-25), 3), none, none, some (.aload_n 0, 1), some (.getfield 15, 3), none, none, some (.iload_n 1, 1), some (.iconst 0, 1), some (.iastore, 1), some (.iload_n 2, 1), some (.ireturn, 1)] = true := by decide +kernel
theorem mDt80 : mDcP prog_8_method_6_code mct80 := by
  intro j c h
  unfold mct80 at h
  match j, h with
  | 0, h => cases h; exact mDr80_0
  | 1, h => cases h; exact mDr80_1
  | n + 2, h => simp at h
theorem mDr81_0 : mDc1 prog_8_method_11_code 0 [some (.aload_n 0, 1), some (.getfield 55, 3), none, none, some (.iload_n 1, 1), some (.ishr, 1), some (.iconst 1, 1), some (.iand, 1), some (.ifCond .eq 7, 3), none, none, some (.iconst 1, 1), some (.goto 4, 3), none, none, some (.iconst 0, 1), some (.ireturn, 1)] = true := by decide +kernel
theorem mDt81 : mDcP prog_8_method_11_code mct81 := by
  intro j c h
  unfold mct81 at h
  match j, h with
  | 0, h => cases h; exact mDr81_0
  | n + 1, h => simp at h
theorem mDr82_0 : mDc1 prog_8_method_7_code 0 [some (.iconst 0, 1), some (.istore_n 2, 1), some (.iconst 0, 1), some (.istore_n 3, 1), some (.iload_n 3, 1), some (.aload_n 0, 1), some (.getfield 15, 3), none, none, some (.iload_n 1, 1), some (.iaload, 1), some (.if_icmp .ge 25, 3), none, none, some (.iload_n 2, 1), some (.iconst 1, 1), some (.aload_n 0, 1), some (.getfield 18, 3), none, none, some (.iload_n 1, 1), some (.bipush 7, 2), none, some (.imul, 1), some (.iload_n 3, 1), some (.iadd, 1), some (.iaload, 1), some (.ishl, 1), some (.ior, 1), some (.istore_n 2, 1), some (.iinc 3 1, 3)] = true := by decide +kernel
theorem mDr82_1 : mDc1 prog_8_method_7_code 32 [none, some (.goto (-29), 3), none, none, some (.iload_n 2, 1), some (.ireturn, 1)] = true := by decide +kernel
theorem mDt82 : mDcP prog_8_method_7_code mct82 := by
  intro j c h
  unfold mct82 at h
  match j, h with
  | 0, h => cases h; exact mDr82_0
  | 1, h => cases h; exact mDr82_1
  | n + 2, h => simp at h
theorem mDr83_0 : mDc1 prog_8_method_8_code 0 [some (.iconst 0, 1), some (.istore_n 1, 1), some (.iconst 0, 1), some (.istore_n 2, 1), some (.iload_n 2, 1), some (.aload_n 0, 1), some (.getfield 48, 3), none, none, some (.if_icmp .ge 18, 3), none, none, some (.iload_n 1, 1), some (.aload_n 0, 1), some (.getfield 15, 3), none, none, some (.iload_n 2, 1), some (.iaload, 1), some (.iadd, 1), some (.istore_n 1, 1), some (.iinc 2 1, 3), none, none, some (.goto (-20), 3), none, none, some (.iload_n 1, 1), some (.ireturn, 1)] = true := by decide +kernel
theorem mDt83 : mDcP prog_8_method_8_code mct83 := by
  intro j c h
  unfold mct83 at h
  match j, h with
  | 0, h => cases h; exact mDr83_0
  | n + 1, h => simp at h
theorem mDr84_0 : mDc1 prog_8_method_9_code 0 [some (.iconst 0, 1), some (.istore 4, 2), none, some (.iconst 0, 1), some (.istore 5, 2), none, some (.iload 5, 2), none, some (.aload_n 0, 1), some (.getfield 15, 3), none, none, some (.iload_n 1, 1), some (.iaload, 1), some (.if_icmp .ge 46, 3), none, none, some (.aload_n 0, 1), some (.getfield 18, 3), none, none, some (.iload_n 1, 1), some (.bipush 7, 2), none, some (.imul, 1), some (.iload 5, 2), none, some (.iadd, 1), some (.iaload, 1), some (.istore 6, 2), none, some (.aload_n 0, 1)] = true := by decide +kernel
theorem mDr84_1 : mDc1 prog_8_method_9_code 32 [some (.getfield 39, 3), none, none, some (.iload 6, 2), none, some (.iaload, 1), some (.iload_n 2, 1), some (.ishr, 1), some (.iconst 1, 1), some (.iand, 1), some (.ifCond .eq 12, 3), none, none, some (.aload_n 3, 1), some (.iload 4, 2), none, some (.iload 6, 2), none, some (.iastore, 1), some (.iinc 4 1, 3), none, none, some (.iinc 5 1, 3), none, none, some (.goto (-51), 3), none, none, some (.iload 4, 2), none, some (.ireturn, 1)] = true := by decide +kernel
theorem mDt84 : mDcP prog_8_method_9_code mct84 := by
  intro j c h
  unfold mct84 at h
  match j, h with
  | 0, h => cases h; exact mDr84_0
  | 1, h => cases h; exact mDr84_1
  | n + 2, h => simp at h
theorem mDr85_0 : mDc1 prog_9_method_1_code 0 [some (.aload_n 0, 1), some (.invokespecial 3, 3), none, none, some (.aload_n 0, 1), some (.new 9, 3), none, none, some (.dup, 1), some (.invokespecial 11, 3), none, none, some (.putfield 12, 3), none, none, some (.aload_n 0, 1), some (.aload_n 1, 1), some (.putfield 18, 3), none, none, some (.aload_n 0, 1), some (.iconst (-1), 1), some (.putfield 22, 3), none, none, some (.return_, 1)] = true := by decide +kernel
theorem mDt85 : mDcP prog_9_method_1_code mct85 := by
  intro j c h
  unfold mct85 at h
  match j, h with
  | 0, h => cases h; exact mDr85_0
  | n + 1, h => simp at h
theorem mDr86_0 : mDc1 prog_9_method_3_code 0 [some (.aload_n 0, 1), some (.getfield 32, 3), none, none, some (.ifCond .ne 13, 3), none, none, some (.aload_n 0, 1), some (.iload_n 1, 1), some (.putfield 32, 3), none, none, some (.aload_n 0, 1), some (.iload_n 2, 1), some (.putfield 22, 3), none, none, some (.return_, 1)] = true := by decide +kernel
theorem mDt86 : mDcP prog_9_method_3_code mct86 := by
  intro j c h
  unfold mct86 at h
  match j, h with
  | 0, h => cases h; exact mDr86_0
  | n + 1, h => simp at h
theorem mDr87_0 : mDc1 prog_9_method_8_code 0 [some (.aload_n 0, 1), some (.getfield 32, 3), none, none, some (.ifCond .eq 5, 3), none, none, some (.iconst 0, 1), some (.ireturn, 1), some (.aload_n 0, 1), some (.invokevirtual 41, 3), none, none, some (.aload_n 0, 1), some (.getfield 29, 3), none, none, some (.aload_n 0, 1), some (.getfield 26, 3), none, none, some (.if_icmp .ge 17, 3), none, none, some (.aload_n 0, 1), some (.getfield 18, 3), none, none, some (.aload_n 0, 1), some (.getfield 29, 3)] = true := by decide +kernel
theorem mDr87_1 : mDc1 prog_9_method_8_code 32 [some (.baload, 1), some (.bipush 59, 2), none, some (.if_icmp .eq 14, 3), none, none, some (.aload_n 0, 1), some (.iconst 1, 1), some (.aload_n 0, 1), some (.getfield 29, 3), none, none, some (.invokevirtual 67, 3), none, none, some (.iconst 0, 1), some (.ireturn, 1), some (.aload_n 0, 1), some (.dup, 1), some (.getfield 29, 3), none, none, some (.iconst 1, 1), some (.iadd, 1), some (.putfield 29, 3), none, none, some (.iconst 1, 1), some (.ireturn, 1)] = true := by decide +kernel
theorem mDt87 : mDcP prog_9_method_8_code mct87 := by
  intro j c h
  unfold mct87 at h
  match j, h with
  | 0, h => cases h; exact mDr87_0
  | 1, h => cases h; exact mDr87_1
  | n + 2, h => simp at h
theorem mDr88_0 : mDc1 prog_9_method_6_code 0 [some (.aload_n 0, 1), some (.getfield 29, 3), none, none, some (.aload_n 0, 1), some (.getfield 48, 3), none, none, some (.isub, 1), some (.aload_n 1, 1), some (.invokevirtual 51, 3), none, none, some (.if_icmp .eq 5, 3), none, none, some (.iconst 0, 1), some (.ireturn, 1), some (.iconst 0, 1), some (.istore_n 2, 1), some (.iload_n 2, 1), some (.aload_n 1, 1), some (.invokevirtual 51, 3), none, none, some (.if_icmp .ge 30, 3), none, none, some (.aload_n 0, 1), some (.getfield 18, 3)] = true := by decide +kernel
theorem mDr88_1 : mDc1 prog_9_method_6_code 32 [some (.aload_n 0, 1), some (.getfield 48, 3), none, none, some (.iload_n 2, 1), some (.iadd, 1), some (.baload, 1), some (.aload_n 1, 1), some (.iload_n 2, 1), some (.invokevirtual 56, 3), none, none, some (.if_icmp .eq 5, 3), none, none, some (.iconst 0, 1), some (.ireturn, 1), some (.iinc 2 1, 3), none, none, some (.goto (-32), 3), none, none, some (.iconst 1, 1), some (.ireturn, 1)] = true := by decide +kernel
theorem mDt88 : mDcP prog_9_method_6_code mct88 := by
  intro j c h
  unfold mct88 at h
  match j, h with
  | 0, h => cases h; exact mDr88_0
  | 1, h => cases h; exact mDr88_1
  | n + 2, h => simp at h
theorem mDr89_0 : mDc1 prog_9_method_2_code 0 [some (.aload_n 0, 1), some (.iload_n 1, 1), some (.putfield 26, 3), none, none, some (.aload_n 0, 1), some (.iconst 0, 1), some (.putfield 29, 3), none, none, some (.aload_n 0, 1), some (.iconst 0, 1), some (.putfield 32, 3), none, none, some (.aload_n 0, 1), some (.iconst (-1), 1), some (.putfield 22, 3), none, none, some (.aload_n 0, 1), some (.getfield 12, 3), none, none, some (.invokevirtual 35, 3), none, none, some (.aload_n 0, 1), some (.invokevirtual 38, 3), none, none, some (.aload_n 0, 1)] = true := by decide +kernel
theorem mDr89_1 : mDc1 prog_9_method_2_code 32 [some (.invokevirtual 41, 3), none, none, some (.iconst 1, 1), some (.istore_n 2, 1), some (.aload_n 0, 1), some (.getfield 32, 3), none, none, some (.ifCond .ne 45, 3), none, none, some (.aload_n 0, 1), some (.getfield 29, 3), none, none, some (.aload_n 0, 1), some (.getfield 26, 3), none, none, some (.if_icmp .ge 34, 3), none, none, some (.iload_n 2, 1), some (.bipush 40, 2), none, some (.if_icmp .gt 28, 3), none, none, some (.aload_n 0, 1), some (.iload_n 2, 1), some (.bipush 40, 2)] = true := by decide +kernel
theorem mDr89_2 : mDc1 prog_9_method_2_code 64 [none, some (.if_icmp .ne 7, 3), none, none, some (.iconst 1, 1), some (.goto 4, 3), none, none, some (.iconst 0, 1), some (.invokevirtual 44, 3), none, none, some (.aload_n 0, 1), some (.invokevirtual 41, 3), none, none, some (.iinc 2 1, 3), none, none, some (.goto (-46), 3), none, none, some (.aload_n 0, 1), some (.getfield 32, 3), none, none, some (.ireturn, 1)] = true := by decide +kernel
theorem mDt89 : mDcP prog_9_method_2_code mct89 := by
  intro j c h
  unfold mct89 at h
  match j, h with
  | 0, h => cases h; exact mDr89_0
  | 1, h => cases h; exact mDr89_1
  | 2, h => cases h; exact mDr89_2
  | n + 3, h => simp at h
theorem mDr90_0 : mDc1 prog_9_method_10_code 0 [some (.aload_n 0, 1), some (.invokevirtual 71, 3), none, none, some (.aload_n 0, 1), some (.ldc 100, 2), none, some (.invokevirtual 76, 3), none, none, some (.ifCond .eq 31, 3), none, none, some (.aload_n 0, 1), some (.iload_n 1, 1), some (.ifCond .ne 15, 3), none, none, some (.aload_n 0, 1), some (.getfield 12, 3), none, none, some (.getfield 97, 3), none, none, some (.bipush 12, 2), none, some (.if_icmp .lt 7, 3), none, none, some (.iconst 1, 1), some (.goto 4, 3)] = true := by decide +kernel
theorem mDr90_1 : mDc1 prog_9_method_10_code 32 [none, none, some (.iconst 0, 1), some (.invokevirtual 102, 3), none, none, some (.goto 157, 3), none, none, some (.aload_n 0, 1), some (.ldc 105, 2), none, some (.invokevirtual 76, 3), none, none, some (.ifCond .eq 11, 3), none, none, some (.aload_n 0, 1), some (.iload_n 1, 1), some (.invokevirtual 107, 3), none, none, some (.goto 140, 3), none, none, some (.aload_n 0, 1), some (.ldc 110, 2), none, some (.invokevirtual 76, 3)] = true := by decide +kernel
theorem mDr90_2 : mDc1 prog_9_method_10_code 64 [some (.ifCond .eq 31, 3), none, none, some (.aload_n 0, 1), some (.iload_n 1, 1), some (.ifCond .ne 15, 3), none, none, some (.aload_n 0, 1), some (.getfield 12, 3), none, none, some (.getfield 112, 3), none, none, some (.bipush 7, 2), none, some (.if_icmp .lt 7, 3), none, none, some (.iconst 1, 1), some (.goto 4, 3), none, none, some (.iconst 0, 1), some (.invokevirtual 115, 3), none, none, some (.goto 103, 3), none, none, some (.aload_n 0, 1)] = true := by decide +kernel
theorem mDr90_3 : mDc1 prog_9_method_10_code 96 [some (.ldc 118, 2), none, some (.invokevirtual 76, 3), none, none, some (.ifCond .eq 11, 3), none, none, some (.aload_n 0, 1), some (.iload_n 1, 1), some (.invokevirtual 120, 3), none, none, some (.goto 86, 3), none, none, some (.aload_n 0, 1), some (.ldc 123, 2), none, some (.invokevirtual 76, 3), none, none, some (.ifCond .eq 31, 3), none, none, some (.aload_n 0, 1), some (.iload_n 1, 1), some (.ifCond .ne 15, 3), none, none, some (.aload_n 0, 1), some (.getfield 12, 3)] = true := by decide +kernel
theorem mDr90_4 : mDc1 prog_9_method_10_code 128 [none, none, some (.getfield 125, 3), none, none, some (.bipush 8, 2), none, some (.if_icmp .lt 7, 3), none, none, some (.iconst 1, 1), some (.goto 4, 3), none, none, some (.iconst 0, 1), some (.invokevirtual 128, 3), none, none, some (.goto 49, 3), none, none, some (.aload_n 0, 1), some (.ldc 131, 2), none, some (.invokevirtual 76, 3), none, none, some (.ifCond .eq 31, 3), none, none, some (.aload_n 0, 1), some (.iload_n 1, 1)] = true := by decide +kernel
theorem mDr90_5 : mDc1 prog_9_method_10_code 160 [some (.ifCond .ne 15, 3), none, none, some (.aload_n 0, 1), some (.getfield 12, 3), none, none, some (.getfield 133, 3), none, none, some (.bipush 12, 2), none, some (.if_icmp .lt 7, 3), none, none, some (.iconst 1, 1), some (.goto 4, 3), none, none, some (.iconst 0, 1), some (.invokevirtual 136, 3), none, none, some (.goto 12, 3), none, none, some (.aload_n 0, 1), some (.iconst 1, 1), some (.aload_n 0, 1), some (.getfield 48, 3)] = true := by decide +kernel
theorem mDr90_6 : mDc1 prog_9_method_10_code 192 [some (.invokevirtual 67, 3), none, none, some (.return_, 1)] = true := by decide +kernel
theorem mDt90 : mDcP prog_9_method_10_code mct90 := by
  intro j c h
  unfold mct90 at h
  match j, h with
  | 0, h => cases h; exact mDr90_0
  | 1, h => cases h; exact mDr90_1
  | 2, h => cases h; exact mDr90_2
  | 3, h => cases h; exact mDr90_3
  | 4, h => cases h; exact mDr90_4
  | 5, h => cases h; exact mDr90_5
  | 6, h => cases h; exact mDr90_6
  | n + 7, h => simp at h
theorem mDr91_0 : mDc1 prog_9_method_16_code 0 [some (.aload_n 0, 1), some (.iload_n 1, 1), some (.invokevirtual 139, 3), none, none, some (.aload_n 0, 1), some (.iconst 0, 1), some (.aload_n 0, 1), some (.getfield 12, 3), none, none, some (.getfield 97, 3), none, none, some (.iconst 1, 1), some (.isub, 1), some (.invokevirtual 80, 3), none, none, some (.istore_n 2, 1), some (.aload_n 0, 1), some (.iconst 1, 1), some (.bipush 60, 2), none, some (.invokevirtual 80, 3), none, none, some (.istore_n 3, 1), some (.aload_n 0, 1), some (.invokevirtual 83, 3)] = true := by decide +kernel
theorem mDr91_1 : mDc1 prog_9_method_16_code 32 [some (.ifCond .eq 48, 3), none, none, some (.aload_n 0, 1), some (.getfield 12, 3), none, none, some (.getfield 160, 3), none, none, some (.aload_n 0, 1), some (.getfield 12, 3), none, none, some (.getfield 125, 3), none, none, some (.iload_n 2, 1), some (.iastore, 1), some (.aload_n 0, 1), some (.getfield 12, 3), none, none, some (.getfield 163, 3), none, none, some (.aload_n 0, 1), some (.getfield 12, 3), none, none, some (.getfield 125, 3)] = true := by decide +kernel
theorem mDr91_2 : mDc1 prog_9_method_16_code 64 [none, some (.iload_n 3, 1), some (.iastore, 1), some (.aload_n 0, 1), some (.getfield 12, 3), none, none, some (.dup, 1), some (.getfield 125, 3), none, none, some (.iconst 1, 1), some (.iadd, 1), some (.putfield 125, 3), none, none, some (.return_, 1)] = true := by decide +kernel
theorem mDt91 : mDcP prog_9_method_16_code mct91 := by
  intro j c h
  unfold mct91 at h
  match j, h with
  | 0, h => cases h; exact mDr91_0
  | 1, h => cases h; exact mDr91_1
  | 2, h => cases h; exact mDr91_2
  | n + 3, h => simp at h
theorem mDr92_0 : mDc1 prog_9_method_13_code 0 [some (.aload_n 0, 1), some (.iload_n 1, 1), some (.invokevirtual 139, 3), none, none, some (.aload_n 0, 1), some (.iconst 0, 1), some (.aload_n 0, 1), some (.getfield 12, 3), none, none, some (.getfield 97, 3), none, none, some (.iconst 1, 1), some (.isub, 1), some (.invokevirtual 80, 3), none, none, some (.istore_n 2, 1), some (.aload_n 0, 1), some (.iconst 1, 1), some (.bipush 60, 2), none, some (.invokevirtual 80, 3), none, none, some (.istore_n 3, 1), some (.aload_n 0, 1), some (.iconst 1, 1), some (.bipush 60, 2)] = true := by decide +kernel
theorem mDr92_1 : mDc1 prog_9_method_13_code 32 [some (.invokevirtual 80, 3), none, none, some (.istore 4, 2), none, some (.aload_n 0, 1), some (.invokevirtual 83, 3), none, none, some (.ifCond .eq 24, 3), none, none, some (.aload_n 0, 1), some (.getfield 12, 3), none, none, some (.getfield 142, 3), none, none, some (.iload_n 2, 1), some (.iload_n 3, 1), some (.iastore, 1), some (.aload_n 0, 1), some (.getfield 12, 3), none, none, some (.getfield 145, 3), none, none, some (.iload_n 2, 1), some (.iload 4, 2)] = true := by decide +kernel
theorem mDr92_2 : mDc1 prog_9_method_13_code 64 [some (.iastore, 1), some (.return_, 1)] = true := by decide +kernel
theorem mDt92 : mDcP prog_9_method_13_code mct92 := by
  intro j c h
  unfold mct92 at h
  match j, h with
  | 0, h => cases h; exact mDr92_0
  | 1, h => cases h; exact mDr92_1
  | 2, h => cases h; exact mDr92_2
  | n + 3, h => simp at h
theorem mDr93_0 : mDc1 prog_9_method_15_code 0 [some (.aload_n 0, 1), some (.iload_n 1, 1), some (.invokevirtual 139, 3), none, none, some (.aload_n 0, 1), some (.iconst 0, 1), some (.aload_n 0, 1), some (.getfield 12, 3), none, none, some (.getfield 112, 3), none, none, some (.iconst 1, 1), some (.isub, 1), some (.invokevirtual 80, 3), none, none, some (.istore_n 2, 1), some (.aload_n 0, 1), some (.iconst 0, 1), some (.bipush 19, 2), none, some (.invokevirtual 80, 3), none, none, some (.istore_n 3, 1), some (.aload_n 0, 1), some (.iconst 1, 1), some (.bipush 120, 2)] = true := by decide +kernel
theorem mDr93_1 : mDc1 prog_9_method_15_code 32 [some (.invokevirtual 80, 3), none, none, some (.istore 4, 2), none, some (.aload_n 0, 1), some (.invokevirtual 83, 3), none, none, some (.ifCond .eq 24, 3), none, none, some (.aload_n 0, 1), some (.getfield 12, 3), none, none, some (.getfield 154, 3), none, none, some (.iload_n 2, 1), some (.iload_n 3, 1), some (.iastore, 1), some (.aload_n 0, 1), some (.getfield 12, 3), none, none, some (.getfield 157, 3), none, none, some (.iload_n 2, 1), some (.iload 4, 2)] = true := by decide +kernel
theorem mDr93_2 : mDc1 prog_9_method_15_code 64 [some (.iastore, 1), some (.return_, 1)] = true := by decide +kernel
theorem mDt93 : mDcP prog_9_method_15_code mct93 := by
  intro j c h
  unfold mct93 at h
  match j, h with
  | 0, h => cases h; exact mDr93_0
  | 1, h => cases h; exact mDr93_1
  | 2, h => cases h; exact mDr93_2
  | n + 3, h => simp at h
theorem mDr94_0 : mDc1 prog_9_method_7_code 0 [some (.aload_n 0, 1), some (.getfield 32, 3), none, none, some (.ifCond .eq 5, 3), none, none, some (.iload_n 1, 1), some (.ireturn, 1), some (.aload_n 0, 1), some (.invokevirtual 41, 3), none, none, some (.aload_n 0, 1), some (.getfield 29, 3), none, none, some (.istore_n 3, 1), some (.iconst 0, 1), some (.istore 4, 2), none, some (.aload_n 0, 1), some (.getfield 29, 3), none, none, some (.aload_n 0, 1), some (.getfield 26, 3), none, none, some (.if_icmp .ge 69, 3)] = true := by decide +kernel
theorem mDr94_1 : mDc1 prog_9_method_7_code 32 [some (.aload_n 0, 1), some (.getfield 18, 3), none, none, some (.aload_n 0, 1), some (.getfield 29, 3), none, none, some (.baload, 1), some (.bipush 48, 2), none, some (.if_icmp .lt 55, 3), none, none, some (.aload_n 0, 1), some (.getfield 18, 3), none, none, some (.aload_n 0, 1), some (.getfield 29, 3), none, none, some (.baload, 1), some (.bipush 57, 2), none, some (.if_icmp .gt 41, 3), none, none, some (.iload 4, 2), none, some (.bipush 10, 2)] = true := by decide +kernel
theorem mDr94_2 : mDc1 prog_9_method_7_code 64 [some (.imul, 1), some (.aload_n 0, 1), some (.getfield 18, 3), none, none, some (.aload_n 0, 1), some (.getfield 29, 3), none, none, some (.baload, 1), some (.iadd, 1), some (.bipush 48, 2), none, some (.isub, 1), some (.ldc 60, 2), none, some (.invokestatic 61, 3), none, none, some (.istore 4, 2), none, some (.aload_n 0, 1), some (.dup, 1), some (.getfield 29, 3), none, none, some (.iconst 1, 1), some (.iadd, 1), some (.putfield 29, 3), none, none, some (.goto (-74), 3)] = true := by decide +kernel
theorem mDr94_3 : mDc1 prog_9_method_7_code 96 [none, none, some (.aload_n 0, 1), some (.getfield 29, 3), none, none, some (.iload_n 3, 1), some (.if_icmp .ne 11, 3), none, none, some (.aload_n 0, 1), some (.iconst 1, 1), some (.iload_n 3, 1), some (.invokevirtual 67, 3), none, none, some (.iload_n 1, 1), some (.ireturn, 1), some (.iload 4, 2), none, some (.iload_n 1, 1), some (.if_icmp .lt 9, 3), none, none, some (.iload 4, 2), none, some (.iload_n 2, 1), some (.if_icmp .le 11, 3), none, none, some (.aload_n 0, 1), some (.iconst 2, 1)] = true := by decide +kernel
theorem mDr94_4 : mDc1 prog_9_method_7_code 128 [some (.iload_n 3, 1), some (.invokevirtual 67, 3), none, none, some (.iload_n 1, 1), some (.ireturn, 1), some (.iload 4, 2), none, some (.ireturn, 1)] = true := by decide +kernel
theorem mDt94 : mDcP prog_9_method_7_code mct94 := by
  intro j c h
  unfold mct94 at h
  match j, h with
  | 0, h => cases h; exact mDr94_0
  | 1, h => cases h; exact mDr94_1
  | 2, h => cases h; exact mDr94_2
  | 3, h => cases h; exact mDr94_3
  | 4, h => cases h; exact mDr94_4
  | n + 5, h => simp at h
theorem mDr95_0 : mDc1 prog_9_method_12_code 0 [some (.aload_n 0, 1), some (.iload_n 1, 1), some (.invokevirtual 139, 3), none, none, some (.aload_n 0, 1), some (.iconst 0, 1), some (.aload_n 0, 1), some (.getfield 12, 3), none, none, some (.getfield 97, 3), none, none, some (.iconst 1, 1), some (.isub, 1), some (.invokevirtual 80, 3), none, none, some (.istore_n 2, 1), some (.aload_n 0, 1), some (.iconst 1, 1), some (.sipush 240, 3), none, none, some (.invokevirtual 80, 3), none, none, some (.istore_n 3, 1), some (.aload_n 0, 1), some (.iconst 1, 1), some (.bipush 60, 2)] = true := by decide +kernel
theorem mDr95_1 : mDc1 prog_9_method_12_code 32 [none, some (.invokevirtual 80, 3), none, none, some (.istore 4, 2), none, some (.aload_n 0, 1), some (.invokevirtual 83, 3), none, none, some (.ifCond .eq 57, 3), none, none, some (.aload_n 0, 1), some (.getfield 12, 3), none, none, some (.getfield 97, 3), none, none, some (.istore 5, 2), none, some (.aload_n 0, 1), some (.getfield 12, 3), none, none, some (.getfield 91, 3), none, none, some (.iload 5, 2), none, some (.iload_n 2, 1)] = true := by decide +kernel
theorem mDr95_2 : mDc1 prog_9_method_12_code 64 [some (.iastore, 1), some (.aload_n 0, 1), some (.getfield 12, 3), none, none, some (.getfield 94, 3), none, none, some (.iload 5, 2), none, some (.iload_n 3, 1), some (.iastore, 1), some (.aload_n 0, 1), some (.getfield 12, 3), none, none, some (.getfield 87, 3), none, none, some (.iload 5, 2), none, some (.iload 4, 2), none, some (.iastore, 1), some (.aload_n 0, 1), some (.getfield 12, 3), none, none, some (.iload 5, 2), none, some (.iconst 1, 1), some (.iadd, 1)] = true := by decide +kernel
theorem mDr95_3 : mDc1 prog_9_method_12_code 96 [some (.putfield 97, 3), none, none, some (.return_, 1)] = true := by decide +kernel
theorem mDt95 : mDcP prog_9_method_12_code mct95 := by
  intro j c h
  unfold mct95 at h
  match j, h with
  | 0, h => cases h; exact mDr95_0
  | 1, h => cases h; exact mDr95_1
  | 2, h => cases h; exact mDr95_2
  | 3, h => cases h; exact mDr95_3
  | n + 4, h => simp at h
theorem mDr96_0 : mDc1 prog_9_method_14_code 0 [some (.aload_n 0, 1), some (.iload_n 1, 1), some (.invokevirtual 139, 3), none, none, some (.aload_n 0, 1), some (.iconst 1, 1), some (.aload_n 0, 1), some (.getfield 12, 3), none, none, some (.getfield 97, 3), none, none, some (.iconst 1, 1), some (.isub, 1), some (.invokevirtual 80, 3), none, none, some (.istore_n 2, 1), some (.aload_n 0, 1), some (.iconst 1, 1), some (.bipush 15, 2), none, some (.invokevirtual 80, 3), none, none, some (.istore_n 3, 1), some (.aload_n 0, 1), some (.invokevirtual 83, 3)] = true := by decide +kernel
theorem mDr96_1 : mDc1 prog_9_method_14_code 32 [some (.ifCond .eq 48, 3), none, none, some (.aload_n 0, 1), some (.getfield 12, 3), none, none, some (.getfield 148, 3), none, none, some (.aload_n 0, 1), some (.getfield 12, 3), none, none, some (.getfield 112, 3), none, none, some (.iload_n 2, 1), some (.iastore, 1), some (.aload_n 0, 1), some (.getfield 12, 3), none, none, some (.getfield 151, 3), none, none, some (.aload_n 0, 1), some (.getfield 12, 3), none, none, some (.getfield 112, 3)] = true := by decide +kernel
theorem mDr96_2 : mDc1 prog_9_method_14_code 64 [none, some (.iload_n 3, 1), some (.iastore, 1), some (.aload_n 0, 1), some (.getfield 12, 3), none, none, some (.dup, 1), some (.getfield 112, 3), none, none, some (.iconst 1, 1), some (.iadd, 1), some (.putfield 112, 3), none, none, some (.return_, 1)] = true := by decide +kernel
theorem mDt96 : mDcP prog_9_method_14_code mct96 := by
  intro j c h
  unfold mct96 at h
  match j, h with
  | 0, h => cases h; exact mDr96_0
  | 1, h => cases h; exact mDr96_1
  | 2, h => cases h; exact mDr96_2
  | n + 3, h => simp at h
theorem mDr97_0 : mDc1 prog_9_method_9_code 0 [some (.aload_n 0, 1), some (.invokevirtual 71, 3), none, none, some (.aload_n 0, 1), some (.ldc 74, 2), none, some (.invokevirtual 76, 3), none, none, some (.ifCond .ne 13, 3), none, none, some (.aload_n 0, 1), some (.iconst 1, 1), some (.aload_n 0, 1), some (.getfield 48, 3), none, none, some (.invokevirtual 67, 3), none, none, some (.return_, 1), some (.aload_n 0, 1), some (.iconst 1, 1), some (.bipush 60, 2), none, some (.invokevirtual 80, 3), none, none, some (.istore_n 1, 1), some (.aload_n 0, 1)] = true := by decide +kernel
theorem mDr97_1 : mDc1 prog_9_method_9_code 32 [some (.invokevirtual 83, 3), none, none, some (.ifCond .eq 41, 3), none, none, some (.aload_n 0, 1), some (.getfield 12, 3), none, none, some (.getfield 87, 3), none, none, some (.iconst 0, 1), some (.iload_n 1, 1), some (.iastore, 1), some (.aload_n 0, 1), some (.getfield 12, 3), none, none, some (.getfield 91, 3), none, none, some (.iconst 0, 1), some (.iconst 0, 1), some (.iastore, 1), some (.aload_n 0, 1), some (.getfield 12, 3), none, none, some (.getfield 94, 3)] = true := by decide +kernel
theorem mDr97_2 : mDc1 prog_9_method_9_code 64 [none, some (.iconst 0, 1), some (.iconst 0, 1), some (.iastore, 1), some (.aload_n 0, 1), some (.getfield 12, 3), none, none, some (.iconst 1, 1), some (.putfield 97, 3), none, none, some (.return_, 1)] = true := by decide +kernel
theorem mDt97 : mDcP prog_9_method_9_code mct97 := by
  intro j c h
  unfold mct97 at h
  match j, h with
  | 0, h => cases h; exact mDr97_0
  | 1, h => cases h; exact mDr97_1
  | 2, h => cases h; exact mDr97_2
  | n + 3, h => simp at h
theorem mDr98_0 : mDc1 prog_9_method_17_code 0 [some (.aload_n 0, 1), some (.iload_n 1, 1), some (.invokevirtual 139, 3), none, none, some (.aload_n 0, 1), some (.iconst 1, 1), some (.aload_n 0, 1), some (.getfield 12, 3), none, none, some (.getfield 97, 3), none, none, some (.iconst 1, 1), some (.isub, 1), some (.invokevirtual 80, 3), none, none, some (.istore_n 2, 1), some (.aload_n 0, 1), some (.iconst 1, 1), some (.sipush 999, 3), none, none, some (.invokevirtual 80, 3), none, none, some (.istore_n 3, 1), some (.aload_n 0, 1), some (.iconst 0, 1), some (.sipush 1439, 3)] = true := by decide +kernel
theorem mDr98_1 : mDc1 prog_9_method_17_code 32 [none, none, some (.invokevirtual 80, 3), none, none, some (.istore 4, 2), none, some (.aload_n 0, 1), some (.invokevirtual 83, 3), none, none, some (.ifCond .eq 65, 3), none, none, some (.aload_n 0, 1), some (.getfield 12, 3), none, none, some (.getfield 166, 3), none, none, some (.aload_n 0, 1), some (.getfield 12, 3), none, none, some (.getfield 133, 3), none, none, some (.iload_n 2, 1), some (.iastore, 1), some (.aload_n 0, 1), some (.getfield 12, 3)] = true := by decide +kernel
theorem mDr98_2 : mDc1 prog_9_method_17_code 64 [none, none, some (.getfield 169, 3), none, none, some (.aload_n 0, 1), some (.getfield 12, 3), none, none, some (.getfield 133, 3), none, none, some (.iload_n 3, 1), some (.iastore, 1), some (.aload_n 0, 1), some (.getfield 12, 3), none, none, some (.getfield 172, 3), none, none, some (.aload_n 0, 1), some (.getfield 12, 3), none, none, some (.getfield 133, 3), none, none, some (.iload 4, 2), none, some (.iastore, 1), some (.aload_n 0, 1)] = true := by decide +kernel
theorem mDr98_3 : mDc1 prog_9_method_17_code 96 [some (.getfield 12, 3), none, none, some (.dup, 1), some (.getfield 133, 3), none, none, some (.iconst 1, 1), some (.iadd, 1), some (.putfield 133, 3), none, none, some (.return_, 1)] = true := by decide +kernel
theorem mDt98 : mDcP prog_9_method_17_code mct98 := by
  intro j c h
  unfold mct98 at h
  match j, h with
  | 0, h => cases h; exact mDr98_0
  | 1, h => cases h; exact mDr98_1
  | 2, h => cases h; exact mDr98_2
  | 3, h => cases h; exact mDr98_3
  | n + 4, h => simp at h
theorem mDr99_0 : mDc1 prog_9_method_5_code 0 [some (.aload_n 0, 1), some (.invokevirtual 41, 3), none, none, some (.aload_n 0, 1), some (.aload_n 0, 1), some (.getfield 29, 3), none, none, some (.putfield 48, 3), none, none, some (.aload_n 0, 1), some (.getfield 29, 3), none, none, some (.aload_n 0, 1), some (.getfield 26, 3), none, none, some (.if_icmp .ge 44, 3), none, none, some (.aload_n 0, 1), some (.getfield 18, 3), none, none, some (.aload_n 0, 1), some (.getfield 29, 3), none, none, some (.baload, 1)] = true := by decide +kernel
theorem mDr99_1 : mDc1 prog_9_method_5_code 32 [some (.bipush 97, 2), none, some (.if_icmp .lt 30, 3), none, none, some (.aload_n 0, 1), some (.getfield 18, 3), none, none, some (.aload_n 0, 1), some (.getfield 29, 3), none, none, some (.baload, 1), some (.bipush 122, 2), none, some (.if_icmp .gt 16, 3), none, none, some (.aload_n 0, 1), some (.dup, 1), some (.getfield 29, 3), none, none, some (.iconst 1, 1), some (.iadd, 1), some (.putfield 29, 3), none, none, some (.goto (-49), 3)] = true := by decide +kernel
theorem mDr99_2 : mDc1 prog_9_method_5_code 64 [some (.return_, 1)] = true := by decide +kernel
theorem mDt99 : mDcP prog_9_method_5_code mct99 := by
  intro j c h
  unfold mct99 at h
  match j, h with
  | 0, h => cases h; exact mDr99_0
  | 1, h => cases h; exact mDr99_1
  | 2, h => cases h; exact mDr99_2
  | n + 3, h => simp at h
theorem mDr100_0 : mDc1 prog_9_method_11_code 0 [some (.iload_n 1, 1), some (.ifCond .eq 12, 3), none, none, some (.aload_n 0, 1), some (.iconst 3, 1), some (.aload_n 0, 1), some (.getfield 48, 3), none, none, some (.invokevirtual 67, 3), none, none, some (.return_, 1)] = true := by decide +kernel
theorem mDt100 : mDcP prog_9_method_11_code mct100 := by
  intro j c h
  unfold mct100 at h
  match j, h with
  | 0, h => cases h; exact mDr100_0
  | n + 1, h => simp at h
theorem mDr101_0 : mDc1 prog_9_method_4_code 0 [some (.aload_n 0, 1), some (.getfield 29, 3), none, none, some (.aload_n 0, 1), some (.getfield 26, 3), none, none, some (.if_icmp .ge 30, 3), none, none, some (.aload_n 0, 1), some (.getfield 18, 3), none, none, some (.aload_n 0, 1), some (.getfield 29, 3), none, none, some (.baload, 1), some (.bipush 32, 2), none, some (.if_icmp .ne 16, 3), none, none, some (.aload_n 0, 1), some (.dup, 1), some (.getfield 29, 3), none, none, some (.iconst 1, 1), some (.iadd, 1)] = true := by decide +kernel
theorem mDr101_1 : mDc1 prog_9_method_4_code 32 [some (.putfield 29, 3), none, none, some (.goto (-35), 3), none, none, some (.return_, 1)] = true := by decide +kernel
theorem mDt101 : mDcP prog_9_method_4_code mct101 := by
  intro j c h
  unfold mct101 at h
  match j, h with
  | 0, h => cases h; exact mDr101_0
  | 1, h => cases h; exact mDr101_1
  | n + 2, h => simp at h
theorem mDr102_0 : mDc1 prog_10_method_1_code 0 [some (.aload_n 0, 1), some (.invokespecial 3, 3), none, none, some (.aload_n 0, 1), some (.bipush 14, 2), none, some (.newarray .int, 2), none, some (.putfield 9, 3), none, none, some (.aload_n 0, 1), some (.bipush 14, 2), none, some (.newarray .int, 2), none, some (.putfield 15, 3), none, none, some (.aload_n 0, 1), some (.bipush 14, 2), none, some (.newarray .int, 2), none, some (.putfield 18, 3), none, none, some (.aload_n 0, 1), some (.iconst 3, 1), some (.newarray .int, 2)] = true := by decide +kernel
theorem mDr102_1 : mDc1 prog_10_method_1_code 32 [some (.putfield 21, 3), none, none, some (.aload_n 0, 1), some (.aload_n 1, 1), some (.putfield 24, 3), none, none, some (.aload_n 0, 1), some (.aload_n 2, 1), some (.putfield 28, 3), none, none, some (.aload_n 0, 1), some (.aload_n 3, 1), some (.putfield 32, 3), none, none, some (.return_, 1)] = true := by decide +kernel
theorem mDt102 : mDcP prog_10_method_1_code mct102 := by
  intro j c h
  unfold mct102 at h
  match j, h with
  | 0, h => cases h; exact mDr102_0
  | 1, h => cases h; exact mDr102_1
  | n + 2, h => simp at h
theorem mDr103_0 : mDc1 prog_10_method_4_code 0 [some (.iconst 1, 1), some (.aload_n 0, 1), some (.getfield 32, 3), none, none, some (.getfield 62, 3), none, none, some (.ishl, 1), some (.iconst 1, 1), some (.isub, 1), some (.ireturn, 1)] = true := by decide +kernel
theorem mDt103 : mDcP prog_10_method_4_code mct103 := by
  intro j c h
  unfold mct103 at h
  match j, h with
  | 0, h => cases h; exact mDr103_0
  | n + 1, h => simp at h
theorem mDr104_0 : mDc1 prog_10_method_2_code 0 [some (.iload_n 1, 1), some (.iload_n 2, 1), some (.if_icmp .ne 5, 3), none, none, some (.iconst 0, 1), some (.ireturn, 1), some (.aload_n 0, 1), some (.getfield 32, 3), none, none, some (.getfield 36, 3), none, none, some (.iload_n 2, 1), some (.iaload, 1), some (.aload_n 0, 1), some (.getfield 28, 3), none, none, some (.aload_n 0, 1), some (.getfield 32, 3), none, none, some (.getfield 41, 3), none, none, some (.iload_n 2, 1), some (.iaload, 1), some (.aload_n 0, 1), some (.getfield 32, 3)] = true := by decide +kernel
theorem mDr104_1 : mDc1 prog_10_method_2_code 32 [none, some (.getfield 44, 3), none, none, some (.iload_n 1, 1), some (.iaload, 1), some (.invokevirtual 47, 3), none, none, some (.iadd, 1), some (.istore_n 3, 1), some (.iload_n 3, 1), some (.aload_n 0, 1), some (.getfield 32, 3), none, none, some (.getfield 53, 3), none, none, some (.iload_n 1, 1), some (.iaload, 1), some (.if_icmp .gt 7, 3), none, none, some (.iconst 1, 1), some (.goto 4, 3), none, none, some (.iconst 0, 1), some (.ireturn, 1)] = true := by decide +kernel
theorem mDt104 : mDcP prog_10_method_2_code mct104 := by
  intro j c h
  unfold mct104 at h
  match j, h with
  | 0, h => cases h; exact mDr104_0
  | 1, h => cases h; exact mDr104_1
  | n + 2, h => simp at h
theorem mDr105_0 : mDc1 prog_10_method_6_code 0 [some (.aload_n 0, 1), some (.getfield 18, 3), none, none, some (.iconst (-1), 1), some (.invokestatic 56, 3), none, none, some (.iconst 0, 1), some (.istore_n 2, 1), some (.iconst 0, 1), some (.istore_n 3, 1), some (.iload_n 3, 1), some (.aload_n 0, 1), some (.getfield 32, 3), none, none, some (.getfield 62, 3), none, none, some (.if_icmp .ge 35, 3), none, none, some (.iload_n 1, 1), some (.iload_n 3, 1), some (.ishr, 1), some (.iconst 1, 1), some (.iand, 1), some (.ifCond .eq 21, 3), none, none, some (.aload_n 0, 1)] = true := by decide +kernel
theorem mDr105_1 : mDc1 prog_10_method_6_code 32 [some (.iconst 0, 1), some (.putfield 81, 3), none, none, some (.aload_n 0, 1), some (.iload_n 3, 1), some (.iload_n 1, 1), some (.iconst 0, 1), some (.invokevirtual 84, 3), none, none, some (.ifCond .eq 6, 3), none, none, some (.iinc 2 1, 3), none, none, some (.iinc 3 1, 3), none, none, some (.goto (-40), 3), none, none, some (.iload_n 1, 1), some (.invokestatic 88, 3), none, none, some (.iload_n 2, 1), some (.isub, 1), some (.ireturn, 1)] = true := by decide +kernel
theorem mDt105 : mDcP prog_10_method_6_code mct105 := by
  intro j c h
  unfold mct105 at h
  match j, h with
  | 0, h => cases h; exact mDr105_0
  | 1, h => cases h; exact mDr105_1
  | n + 2, h => simp at h
theorem mDr106_0 : mDc1 prog_10_method_5_code 0 [some (.aload_n 0, 1), some (.invokevirtual 70, 3), none, none, some (.aload_n 0, 1), some (.aload_n 0, 1), some (.invokevirtual 73, 3), none, none, some (.invokevirtual 77, 3), none, none, some (.ireturn, 1)] = true := by decide +kernel
theorem mDt106 : mDcP prog_10_method_5_code mct106 := by
  intro j c h
  unfold mct106 at h
  match j, h with
  | 0, h => cases h; exact mDr106_0
  | n + 1, h => simp at h
theorem mDr107_0 : mDc1 prog_10_method_9_code 0 [some (.iconst 0, 1), some (.istore_n 2, 1), some (.iload_n 2, 1), some (.iload_n 1, 1), some (.if_icmp .ge 16, 3), none, none, some (.aload_n 0, 1), some (.getfield 21, 3), none, none, some (.iload_n 2, 1), some (.iload_n 2, 1), some (.iastore, 1), some (.iinc 2 1, 3), none, none, some (.goto (-15), 3), none, none, some (.aload_n 0, 1), some (.aload_n 0, 1), some (.iload_n 1, 1), some (.invokevirtual 96, 3), none, none, some (.putfield 99, 3), none, none, some (.aload_n 0, 1), some (.aload_n 0, 1), some (.iload_n 1, 1)] = true := by decide +kernel
theorem mDr107_1 : mDc1 prog_10_method_9_code 32 [some (.invokevirtual 102, 3), none, none, some (.putfield 105, 3), none, none, some (.iconst 0, 1), some (.istore_n 2, 1), some (.iload_n 2, 1), some (.sipush 220, 3), none, none, some (.if_icmp .ge 45, 3), none, none, some (.aload_n 0, 1), some (.iload_n 1, 1), some (.invokevirtual 108, 3), none, none, some (.ifCond .eq 37, 3), none, none, some (.aload_n 0, 1), some (.iload_n 1, 1), some (.invokevirtual 96, 3), none, none, some (.istore_n 3, 1), some (.iload_n 3, 1), some (.aload_n 0, 1), some (.getfield 99, 3)] = true := by decide +kernel
theorem mDr107_2 : mDc1 prog_10_method_9_code 64 [none, none, some (.if_icmp .ge 17, 3), none, none, some (.aload_n 0, 1), some (.iload_n 3, 1), some (.putfield 99, 3), none, none, some (.aload_n 0, 1), some (.aload_n 0, 1), some (.iload_n 1, 1), some (.invokevirtual 102, 3), none, none, some (.putfield 105, 3), none, none, some (.iinc 2 1, 3), none, none, some (.goto (-46), 3), none, none, some (.return_, 1)] = true := by decide +kernel
theorem mDt107 : mDcP prog_10_method_9_code mct107 := by
  intro j c h
  unfold mct107 at h
  match j, h with
  | 0, h => cases h; exact mDr107_0
  | 1, h => cases h; exact mDr107_1
  | 2, h => cases h; exact mDr107_2
  | n + 3, h => simp at h
theorem mDr108_0 : mDc1 prog_10_method_7_code 0 [some (.iload_n 3, 1), some (.bipush 14, 2), none, some (.if_icmp .le 5, 3), none, none, some (.iconst 0, 1), some (.ireturn, 1), some (.iconst 0, 1), some (.istore 4, 2), none, some (.iload 4, 2), none, some (.aload_n 0, 1), some (.getfield 32, 3), none, none, some (.getfield 62, 3), none, none, some (.if_icmp .ge 84, 3), none, none, some (.aload_n 0, 1), some (.getfield 9, 3), none, none, some (.iload_n 1, 1), some (.iaload, 1), some (.iload_n 2, 1), some (.iand, 1), some (.aload_n 0, 1)] = true := by decide +kernel
theorem mDr108_1 : mDc1 prog_10_method_7_code 32 [some (.getfield 81, 3), none, none, some (.iconst (-1), 1), some (.ixor, 1), some (.iand, 1), some (.iconst 1, 1), some (.iload 4, 2), none, some (.ishl, 1), some (.iand, 1), some (.ifCond .eq 55, 3), none, none, some (.aload_n 0, 1), some (.dup, 1), some (.getfield 81, 3), none, none, some (.iconst 1, 1), some (.iload 4, 2), none, some (.ishl, 1), some (.ior, 1), some (.putfield 81, 3), none, none, some (.aload_n 0, 1), some (.getfield 18, 3), none, none, some (.iload 4, 2)] = true := by decide +kernel
theorem mDr108_2 : mDc1 prog_10_method_7_code 64 [none, some (.iaload, 1), some (.iconst (-1), 1), some (.if_icmp .eq 21, 3), none, none, some (.aload_n 0, 1), some (.aload_n 0, 1), some (.getfield 18, 3), none, none, some (.iload 4, 2), none, some (.iaload, 1), some (.iload_n 2, 1), some (.iload_n 3, 1), some (.iconst 1, 1), some (.iadd, 1), some (.invokevirtual 84, 3), none, none, some (.ifCond .eq 13, 3), none, none, some (.aload_n 0, 1), some (.getfield 18, 3), none, none, some (.iload 4, 2), none, some (.iload_n 1, 1), some (.iastore, 1)] = true := by decide +kernel
theorem mDr108_3 : mDc1 prog_10_method_7_code 96 [some (.iconst 1, 1), some (.ireturn, 1), some (.iinc 4 1, 3), none, none, some (.goto (-90), 3), none, none, some (.iconst 0, 1), some (.ireturn, 1)] = true := by decide +kernel
theorem mDt108 : mDcP prog_10_method_7_code mct108 := by
  intro j c h
  unfold mct108 at h
  match j, h with
  | 0, h => cases h; exact mDr108_0
  | 1, h => cases h; exact mDr108_1
  | 2, h => cases h; exact mDr108_2
  | 3, h => cases h; exact mDr108_3
  | n + 4, h => simp at h
theorem mDr109_0 : mDc1 prog_10_method_3_code 0 [some (.aload_n 0, 1), some (.getfield 9, 3), none, none, some (.iconst 0, 1), some (.invokestatic 56, 3), none, none, some (.aload_n 0, 1), some (.getfield 15, 3), none, none, some (.iconst 0, 1), some (.invokestatic 56, 3), none, none, some (.iconst 0, 1), some (.istore_n 1, 1), some (.iload_n 1, 1), some (.aload_n 0, 1), some (.getfield 32, 3), none, none, some (.getfield 62, 3), none, none, some (.if_icmp .ge 61, 3), none, none, some (.iconst 0, 1), some (.istore_n 2, 1), some (.iload_n 2, 1)] = true := by decide +kernel
theorem mDr109_1 : mDc1 prog_10_method_3_code 32 [some (.aload_n 0, 1), some (.getfield 32, 3), none, none, some (.getfield 62, 3), none, none, some (.if_icmp .ge 42, 3), none, none, some (.aload_n 0, 1), some (.iload_n 1, 1), some (.iload_n 2, 1), some (.invokevirtual 66, 3), none, none, some (.ifCond .eq 27, 3), none, none, some (.aload_n 0, 1), some (.getfield 9, 3), none, none, some (.iload_n 2, 1), some (.dup2, 1), some (.iaload, 1), some (.iconst 1, 1), some (.iload_n 1, 1), some (.ishl, 1), some (.ior, 1), some (.iastore, 1), some (.aload_n 0, 1)] = true := by decide +kernel
theorem mDr109_2 : mDc1 prog_10_method_3_code 64 [some (.getfield 15, 3), none, none, some (.iload_n 1, 1), some (.dup2, 1), some (.iaload, 1), some (.iconst 1, 1), some (.iload_n 2, 1), some (.ishl, 1), some (.ior, 1), some (.iastore, 1), some (.iinc 2 1, 3), none, none, some (.goto (-47), 3), none, none, some (.iinc 1 1, 3), none, none, some (.goto (-66), 3), none, none, some (.return_, 1)] = true := by decide +kernel
theorem mDt109 : mDcP prog_10_method_3_code mct109 := by
  intro j c h
  unfold mct109 at h
  match j, h with
  | 0, h => cases h; exact mDr109_0
  | 1, h => cases h; exact mDr109_1
  | 2, h => cases h; exact mDr109_2
  | n + 3, h => simp at h
