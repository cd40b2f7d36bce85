/-! the instruction tables: each row of 32 bytes by the decoder itself (printed by wip/whole/tools/gen_dec.py) -/
theorem mDr200_0 : mDc1 prog_14_method_94_code 0 [some (.aload_n 0, 1), some (.getfield 46, 3), none, none, some (.iload_n 1, 1), some (.iaload, 1), some (.istore_n 2, 1), some (.iconst 0, 1), some (.istore_n 3, 1), some (.lconst 0, 1), some (.lstore 4, 2), none, some (.iconst 0, 1), some (.istore 6, 2), none, some (.iload 6, 2), none, some (.bipush 60, 2), none, some (.if_icmp .gt 46, 3), none, none, some (.aload_n 0, 1), some (.getfield 46, 3), none, none, some (.iload_n 1, 1), some (.iload 6, 2), none, some (.iastore, 1), some (.aload_n 0, 1), some (.invokevirtual 387, 3)] = true := by decide +kernel
theorem mDr200_1 : mDc1 prog_14_method_94_code 32 [none, none, some (.lstore 7, 2), none, some (.iload 6, 2), none, some (.ifCond .le 14, 3), none, none, some (.lload 7, 2), none, some (.lload 4, 2), none, some (.lcmp, 1), some (.ifCond .lt 6, 3), none, none, some (.goto 10, 3), none, none, some (.iload 6, 2), none, some (.istore_n 3, 1), some (.lload 7, 2), none, some (.lstore 4, 2), none, some (.iinc 6 5, 3), none, none, some (.goto (-47), 3)] = true := by decide +kernel
theorem mDr200_2 : mDc1 prog_14_method_94_code 64 [none, some (.aload_n 0, 1), some (.getfield 46, 3), none, none, some (.iload_n 1, 1), some (.iload_n 2, 1), some (.iastore, 1), some (.iload_n 3, 1), some (.ireturn, 1)] = true := by decide +kernel
theorem mDt200 : mDcP prog_14_method_94_code mct200 := by
  intro j c h
  unfold mct200 at h
  match j, h with
  | 0, h => cases h; exact mDr200_0
  | 1, h => cases h; exact mDr200_1
  | 2, h => cases h; exact mDr200_2
  | n + 3, h => simp at h
theorem mDr201_0 : mDc1 prog_14_method_46_code 0 [some (.iconst 0, 1), some (.istore_n 2, 1), some (.iconst 0, 1), some (.istore_n 3, 1), some (.iload_n 3, 1), some (.aload_n 0, 1), some (.getfield 37, 3), none, none, some (.iload_n 1, 1), some (.iaload, 1), some (.if_icmp .ge 22, 3), none, none, some (.iload_n 2, 1), some (.iconst 1, 1), some (.aload_n 0, 1), some (.getfield 34, 3), none, none, some (.iload_n 1, 1), some (.aaload, 1), some (.iload_n 3, 1), some (.iaload, 1), some (.ishl, 1), some (.ior, 1), some (.istore_n 2, 1), some (.iinc 3 1, 3), none, none, some (.goto (-26), 3)] = true := by decide +kernel
theorem mDr201_1 : mDc1 prog_14_method_46_code 32 [none, some (.iload_n 2, 1), some (.ireturn, 1)] = true := by decide +kernel
theorem mDt201 : mDcP prog_14_method_46_code mct201 := by
  intro j c h
  unfold mct201 at h
  match j, h with
  | 0, h => cases h; exact mDr201_0
  | 1, h => cases h; exact mDr201_1
  | n + 2, h => simp at h
theorem mDr202_0 : mDc1 prog_14_method_10_code 0 [some (.aload_n 0, 1), some (.aload_n 0, 1), some (.getfield 137, 3), none, none, some (.invokevirtual 140, 3), none, none, some (.bipush 32, 2), none, some (.if_icmp .ne 16, 3), none, none, some (.aload_n 0, 1), some (.dup, 1), some (.getfield 137, 3), none, none, some (.iconst 1, 1), some (.iadd, 1), some (.putfield 137, 3), none, none, some (.goto (-23), 3), none, none, some (.return_, 1)] = true := by decide +kernel
theorem mDt202 : mDcP prog_14_method_10_code mct202 := by
  intro j c h
  unfold mct202 at h
  match j, h with
  | 0, h => cases h; exact mDr202_0
  | n + 1, h => simp at h
theorem mDr203_0 : mDc1 prog_14_method_74_code 0 [some (.aload_n 0, 1), some (.iconst 0, 1), some (.putfield 128, 3), none, none, some (.iconst 0, 1), some (.istore_n 1, 1), some (.iconst 0, 1), some (.istore_n 2, 1), some (.iload_n 2, 1), some (.aload_n 0, 1), some (.getfield 17, 3), none, none, some (.iconst 3, 1), some (.iaload, 1), some (.if_icmp .ge 50, 3), none, none, some (.iconst 0, 1), some (.istore_n 3, 1), some (.iconst 0, 1), some (.istore 4, 2), none, some (.iload 4, 2), none, some (.aload_n 0, 1), some (.getfield 219, 3), none, none, some (.if_icmp .ge 26, 3)] = true := by decide +kernel
theorem mDr203_1 : mDc1 prog_14_method_74_code 32 [none, some (.iload_n 3, 1), some (.aload_n 0, 1), some (.iload_n 2, 1), some (.aload_n 0, 1), some (.getfield 40, 3), none, none, some (.iload 4, 2), none, some (.iaload, 1), some (.invokevirtual 323, 3), none, none, some (.invokestatic 329, 3), none, none, some (.istore_n 3, 1), some (.iinc 4 1, 3), none, none, some (.goto (-29), 3), none, none, some (.iload_n 1, 1), some (.iload_n 3, 1), some (.iadd, 1), some (.istore_n 1, 1), some (.iinc 2 1, 3), none, none, some (.goto (-54), 3)] = true := by decide +kernel
theorem mDr203_2 : mDc1 prog_14_method_74_code 64 [none, none, some (.iload_n 1, 1), some (.ireturn, 1)] = true := by decide +kernel
theorem mDt203 : mDcP prog_14_method_74_code mct203 := by
  intro j c h
  unfold mct203 at h
  match j, h with
  | 0, h => cases h; exact mDr203_0
  | 1, h => cases h; exact mDr203_1
  | 2, h => cases h; exact mDr203_2
  | n + 3, h => simp at h
theorem mDr204_0 : mDc1 prog_14_method_9_code 0 [some (.iload_n 1, 1), some (.aload_n 0, 1), some (.getfield 134, 3), none, none, some (.if_icmp .lt 7, 3), none, none, some (.iconst (-1), 1), some (.goto 9, 3), none, none, some (.aload_n 0, 1), some (.getfield 13, 3), none, none, some (.iload_n 1, 1), some (.iaload, 1), some (.ireturn, 1)] = true := by decide +kernel
theorem mDt204 : mDcP prog_14_method_9_code mct204 := by
  intro j c h
  unfold mct204 at h
  match j, h with
  | 0, h => cases h; exact mDr204_0
  | n + 1, h => simp at h
theorem mDr205_0 : mDc1 prog_14_method_26_code 0 [some (.iconst 0, 1), some (.istore_n 2, 1), some (.iconst 0, 1), some (.istore_n 3, 1), some (.iload_n 3, 1), some (.aload_n 0, 1), some (.getfield 17, 3), none, none, some (.iconst 1, 1), some (.iaload, 1), some (.if_icmp .ge 33, 3), none, none, some (.iload_n 2, 1), some (.iload_n 1, 1), some (.iload_n 3, 1), some (.ishr, 1), some (.iconst 1, 1), some (.iand, 1), some (.iconst 1, 1), some (.if_icmp .ne 14, 3), none, none, some (.aload_n 0, 1), some (.getfield 25, 3), none, none, some (.iload_n 3, 1), some (.aaload, 1), some (.iconst 1, 1), some (.iaload, 1)] = true := by decide +kernel
theorem mDr205_1 : mDc1 prog_14_method_26_code 32 [some (.goto 4, 3), none, none, some (.iconst 0, 1), some (.iadd, 1), some (.istore_n 2, 1), some (.iinc 3 1, 3), none, none, some (.goto (-37), 3), none, none, some (.iload_n 2, 1), some (.ireturn, 1)] = true := by decide +kernel
theorem mDt205 : mDcP prog_14_method_26_code mct205 := by
  intro j c h
  unfold mct205 at h
  match j, h with
  | 0, h => cases h; exact mDr205_0
  | 1, h => cases h; exact mDr205_1
  | n + 2, h => simp at h
theorem mDr206_0 : mDc1 prog_14_method_21_code 0 [some (.aload_n 0, 1), some (.invokevirtual 198, 3), none, none, some (.istore_n 1, 1), some (.iload_n 1, 1), some (.iconst (-1), 1), some (.if_icmp .ne 15, 3), none, none, some (.aload_n 0, 1), some (.iconst 1, 1), some (.aload_n 0, 1), some (.getfield 137, 3), none, none, some (.invokevirtual 157, 3), none, none, some (.goto 86, 3), none, none, some (.aload_n 0, 1), some (.getfield 195, 3), none, none, some (.bipush 40, 2), none, some (.if_icmp .eq 68, 3), none, none, some (.iload_n 1, 1)] = true := by decide +kernel
theorem mDr206_1 : mDc1 prog_14_method_21_code 32 [some (.ifCond .ne 14, 3), none, none, some (.aload_n 0, 1), some (.getfield 17, 3), none, none, some (.iconst 4, 1), some (.iaload, 1), some (.bipush 12, 2), none, some (.if_icmp .eq 53, 3), none, none, some (.iload_n 1, 1), some (.iconst 2, 1), some (.if_icmp .ne 14, 3), none, none, some (.aload_n 0, 1), some (.getfield 17, 3), none, none, some (.iconst 5, 1), some (.iaload, 1), some (.bipush 7, 2), none, some (.if_icmp .eq 37, 3), none, none, some (.iload_n 1, 1), some (.iconst 4, 1)] = true := by decide +kernel
theorem mDr206_2 : mDc1 prog_14_method_21_code 64 [some (.if_icmp .ne 15, 3), none, none, some (.aload_n 0, 1), some (.getfield 17, 3), none, none, some (.bipush 6, 2), none, some (.iaload, 1), some (.bipush 8, 2), none, some (.if_icmp .eq 20, 3), none, none, some (.iload_n 1, 1), some (.iconst 5, 1), some (.if_icmp .ne 24, 3), none, none, some (.aload_n 0, 1), some (.getfield 17, 3), none, none, some (.bipush 7, 2), none, some (.iaload, 1), some (.bipush 12, 2), none, some (.if_icmp .ne 12, 3)] = true := by decide +kernel
theorem mDr206_3 : mDc1 prog_14_method_21_code 96 [some (.aload_n 0, 1), some (.iconst 3, 1), some (.aload_n 0, 1), some (.getfield 137, 3), none, none, some (.invokevirtual 157, 3), none, none, some (.aload_n 0, 1), some (.getfield 144, 3), none, none, some (.ifCond .eq 4, 3), none, none, some (.return_, 1), some (.aload_n 0, 1), some (.invokevirtual 184, 3), none, none, some (.aload_n 0, 1), some (.dup, 1), some (.getfield 195, 3), none, none, some (.iconst 1, 1), some (.iadd, 1), some (.putfield 195, 3), none, none, some (.iload_n 1, 1)] = true := by decide +kernel
theorem mDr206_4 : mDc1 prog_14_method_21_code 128 [some (.iconst 3, 1), some (.if_icmp .ne 69, 3), none, none, some (.aload_n 0, 1), some (.iconst 0, 1), some (.aload_n 0, 1), some (.getfield 17, 3), none, none, some (.iconst 5, 1), some (.iaload, 1), some (.iconst 1, 1), some (.isub, 1), some (.invokevirtual 187, 3), none, none, some (.istore_n 2, 1), some (.aload_n 0, 1), some (.iconst 0, 1), some (.bipush 19, 2), none, some (.invokevirtual 187, 3), none, none, some (.istore_n 3, 1), some (.aload_n 0, 1), some (.iconst 1, 1), some (.bipush 120, 2), none, some (.invokevirtual 187, 3)] = true := by decide +kernel
theorem mDr206_5 : mDc1 prog_14_method_21_code 160 [none, some (.istore 4, 2), none, some (.aload_n 0, 1), some (.getfield 144, 3), none, none, some (.ifCond .ne 28, 3), none, none, some (.aload_n 0, 1), some (.getfield 25, 3), none, none, some (.bipush 8, 2), none, some (.iload_n 2, 1), some (.iadd, 1), some (.aaload, 1), some (.iconst 2, 1), some (.iload_n 3, 1), some (.iastore, 1), some (.aload_n 0, 1), some (.getfield 25, 3), none, none, some (.bipush 8, 2), none, some (.iload_n 2, 1), some (.iadd, 1), some (.aaload, 1), some (.iconst 3, 1)] = true := by decide +kernel
theorem mDr206_6 : mDc1 prog_14_method_21_code 192 [some (.iload 4, 2), none, some (.iastore, 1), some (.goto 37, 3), none, none, some (.aload_n 0, 1), some (.iload_n 1, 1), some (.iconst 2, 1), some (.if_icmp .eq 8, 3), none, none, some (.iload_n 1, 1), some (.iconst 5, 1), some (.if_icmp .ne 7, 3), none, none, some (.iconst 1, 1), some (.goto 4, 3), none, none, some (.iconst 0, 1), some (.aload_n 0, 1), some (.getfield 17, 3), none, none, some (.iconst 4, 1), some (.iaload, 1), some (.iconst 1, 1), some (.isub, 1), some (.invokevirtual 187, 3)] = true := by decide +kernel
theorem mDr206_7 : mDc1 prog_14_method_21_code 224 [none, some (.istore_n 2, 1), some (.aload_n 0, 1), some (.iload_n 1, 1), some (.iload_n 2, 1), some (.invokevirtual 202, 3), none, none, some (.aload_n 0, 1), some (.bipush 59, 2), none, some (.invokevirtual 191, 3), none, none, some (.return_, 1)] = true := by decide +kernel
theorem mDt206 : mDcP prog_14_method_21_code mct206 := by
  intro j c h
  unfold mct206 at h
  match j, h with
  | 0, h => cases h; exact mDr206_0
  | 1, h => cases h; exact mDr206_1
  | 2, h => cases h; exact mDr206_2
  | 3, h => cases h; exact mDr206_3
  | 4, h => cases h; exact mDr206_4
  | 5, h => cases h; exact mDr206_5
  | 6, h => cases h; exact mDr206_6
  | 7, h => cases h; exact mDr206_7
  | n + 8, h => simp at h
theorem mDr207_0 : mDc1 prog_14_method_50_code 0 [some (.aload_n 0, 1), some (.iconst 0, 1), some (.putfield 128, 3), none, none, some (.aload_n 0, 1), some (.aload_n 0, 1), some (.iload_n 1, 1), some (.invokevirtual 274, 3), none, none, some (.ifCond .ne 7, 3), none, none, some (.iconst 1, 1), some (.goto 4, 3), none, none, some (.iconst 0, 1), some (.iconst 1, 1), some (.invokevirtual 205, 3), none, none, some (.ifCond .eq 5, 3), none, none, some (.iconst 0, 1), some (.ireturn, 1), some (.aload_n 0, 1), some (.getfield 37, 3)] = true := by decide +kernel
theorem mDr207_1 : mDc1 prog_14_method_50_code 32 [some (.iload_n 1, 1), some (.iaload, 1), some (.istore_n 2, 1), some (.aload_n 0, 1), some (.getfield 37, 3), none, none, some (.iload_n 1, 1), some (.iconst 0, 1), some (.iastore, 1), some (.iload_n 2, 1), some (.ireturn, 1)] = true := by decide +kernel
theorem mDt207 : mDcP prog_14_method_50_code mct207 := by
  intro j c h
  unfold mct207 at h
  match j, h with
  | 0, h => cases h; exact mDr207_0
  | 1, h => cases h; exact mDr207_1
  | n + 2, h => simp at h
theorem mDr208_0 : mDc1 prog_14_method_125_code 0 [some (.aload_n 0, 1), some (.iconst 0, 1), some (.putfield 128, 3), none, none, some (.iconst 0, 1), some (.istore_n 2, 1), some (.iload_n 1, 1), some (.tableswitch 112 0 5 #[40, 45, 72, 77, 102, 107], 40)] = true := by decide +kernel
theorem mDr208_1 : mDc1 prog_14_method_125_code 32 [none, none, none, none, none, none, none, none, none, none, none, none, none, none, none, none, some (.aload_n 0, 1), some (.getfield 219, 3), none, none, some (.ireturn, 1), some (.iconst 0, 1), some (.istore_n 3, 1), some (.iload_n 3, 1), some (.aload_n 0, 1), some (.getfield 219, 3), none, none, some (.if_icmp .ge 18, 3), none, none, some (.iload_n 2, 1)] = true := by decide +kernel
theorem mDr208_2 : mDc1 prog_14_method_125_code 64 [some (.aload_n 0, 1), some (.getfield 37, 3), none, none, some (.iload_n 3, 1), some (.iaload, 1), some (.iadd, 1), some (.istore_n 2, 1), some (.iinc 3 1, 3), none, none, some (.goto (-20), 3), none, none, some (.iload_n 2, 1), some (.ireturn, 1), some (.aload_n 0, 1), some (.getfield 222, 3), none, none, some (.ireturn, 1), some (.iconst 0, 1), some (.istore_n 3, 1), some (.iload_n 3, 1), some (.bipush 12, 2), none, some (.if_icmp .ge 18, 3), none, none, some (.iload_n 2, 1), some (.aload_n 0, 1), some (.getfield 43, 3)] = true := by decide +kernel
theorem mDr208_3 : mDc1 prog_14_method_125_code 96 [none, none, some (.iload_n 3, 1), some (.iaload, 1), some (.iadd, 1), some (.istore_n 2, 1), some (.iinc 3 1, 3), none, none, some (.goto (-18), 3), none, none, some (.iload_n 2, 1), some (.ireturn, 1), some (.aload_n 0, 1), some (.getfield 225, 3), none, none, some (.ireturn, 1), some (.aload_n 0, 1), some (.getfield 131, 3), none, none, some (.ireturn, 1), some (.iconst (-1), 1), some (.ireturn, 1)] = true := by decide +kernel
theorem mDt208 : mDcP prog_14_method_125_code mct208 := by
  intro j c h
  unfold mct208 at h
  match j, h with
  | 0, h => cases h; exact mDr208_0
  | 1, h => cases h; exact mDr208_1
  | 2, h => cases h; exact mDr208_2
  | 3, h => cases h; exact mDr208_3
  | n + 4, h => simp at h
theorem mDr209_0 : mDc1 prog_14_method_115_code 0 [some (.aload_n 0, 1), some (.iconst 0, 1), some (.putfield 128, 3), none, none, some (.aload_n 0, 1), some (.aload_n 0, 1), some (.iload_n 1, 1), some (.invokevirtual 274, 3), none, none, some (.ifCond .ne 7, 3), none, none, some (.iconst 1, 1), some (.goto 4, 3), none, none, some (.iconst 0, 1), some (.iconst 1, 1), some (.invokevirtual 205, 3), none, none, some (.ifCond .ne 26, 3), none, none, some (.aload_n 0, 1), some (.iload_n 2, 1), some (.iconst 0, 1), some (.bipush 6, 2), none, some (.invokestatic 162, 3)] = true := by decide +kernel
theorem mDr209_1 : mDc1 prog_14_method_115_code 32 [none, none, some (.ifCond .ne 7, 3), none, none, some (.iconst 1, 1), some (.goto 4, 3), none, none, some (.iconst 0, 1), some (.iconst 2, 1), some (.invokevirtual 205, 3), none, none, some (.ifCond .eq 5, 3), none, none, some (.iconst 0, 1), some (.ireturn, 1), some (.aload_n 0, 1), some (.iconst 0, 1), some (.putfield 268, 3), none, none, some (.iconst 0, 1), some (.istore_n 3, 1), some (.iload_n 3, 1), some (.aload_n 0, 1), some (.getfield 37, 3), none, none, some (.iload_n 1, 1)] = true := by decide +kernel
theorem mDr209_2 : mDc1 prog_14_method_115_code 64 [some (.iaload, 1), some (.if_icmp .ge 59, 3), none, none, some (.aload_n 0, 1), some (.getfield 52, 3), none, none, some (.aload_n 0, 1), some (.getfield 34, 3), none, none, some (.iload_n 1, 1), some (.aaload, 1), some (.iload_n 3, 1), some (.iaload, 1), some (.iaload, 1), some (.iload_n 2, 1), some (.ishr, 1), some (.iconst 1, 1), some (.iand, 1), some (.ifCond .ne 6, 3), none, none, some (.goto 30, 3), none, none, some (.aload_n 0, 1), some (.getfield 89, 3), none, none, some (.aload_n 0, 1)] = true := by decide +kernel
theorem mDr209_3 : mDc1 prog_14_method_115_code 96 [some (.getfield 268, 3), none, none, some (.aload_n 0, 1), some (.getfield 34, 3), none, none, some (.iload_n 1, 1), some (.aaload, 1), some (.iload_n 3, 1), some (.iaload, 1), some (.iastore, 1), some (.aload_n 0, 1), some (.dup, 1), some (.getfield 268, 3), none, none, some (.iconst 1, 1), some (.iadd, 1), some (.putfield 268, 3), none, none, some (.iinc 3 1, 3), none, none, some (.goto (-63), 3), none, none, some (.aload_n 0, 1), some (.getfield 268, 3)] = true := by decide +kernel
theorem mDr209_4 : mDc1 prog_14_method_115_code 128 [some (.ifCond .ne 7, 3), none, none, some (.iconst 0, 1), some (.goto 17, 3), none, none, some (.aload_n 0, 1), some (.aload_n 0, 1), some (.getfield 89, 3), none, none, some (.iconst 0, 1), some (.aload_n 0, 1), some (.getfield 268, 3), none, none, some (.iconst 0, 1), some (.invokevirtual 419, 3), none, none, some (.ireturn, 1)] = true := by decide +kernel
theorem mDt209 : mDcP prog_14_method_115_code mct209 := by
  intro j c h
  unfold mct209 at h
  match j, h with
  | 0, h => cases h; exact mDr209_0
  | 1, h => cases h; exact mDr209_1
  | 2, h => cases h; exact mDr209_2
  | 3, h => cases h; exact mDr209_3
  | 4, h => cases h; exact mDr209_4
  | n + 5, h => simp at h
theorem mDr210_0 : mDc1 prog_14_method_55_code 0 [some (.iconst 0, 1), some (.istore 5, 2), none, some (.iload_n 2, 1), some (.istore 6, 2), none, some (.iload 6, 2), none, some (.iload_n 3, 1), some (.if_icmp .ge 21, 3), none, none, some (.iinc 5 1, 3), none, none, some (.aload_n 0, 1), some (.aload_n 1, 1), some (.iload 6, 2), none, some (.iload_n 3, 1), some (.iload 4, 2), none, some (.invokevirtual 292, 3), none, none, some (.istore 6, 2), none, some (.goto (-21), 3), none, none, some (.iload 5, 2)] = true := by decide +kernel
theorem mDr210_1 : mDc1 prog_14_method_55_code 32 [some (.iconst 1, 1), some (.isub, 1), some (.ireturn, 1)] = true := by decide +kernel
theorem mDt210 : mDcP prog_14_method_55_code mct210 := by
  intro j c h
  unfold mct210 at h
  match j, h with
  | 0, h => cases h; exact mDr210_0
  | 1, h => cases h; exact mDr210_1
  | n + 2, h => simp at h
theorem mDr211_0 : mDc1 prog_14_method_114_code 0 [some (.aload_n 0, 1), some (.aload_n 1, 1), some (.iload_n 2, 1), some (.iload_n 3, 1), some (.iload 4, 2), none, some (.invokevirtual 300, 3), none, none, some (.ifCond .eq 5, 3), none, none, some (.iconst (-1), 1), some (.ireturn, 1), some (.aload_n 0, 1), some (.aload_n 1, 1), some (.iload_n 2, 1), some (.iload_n 3, 1), some (.iload 4, 2), none, some (.invokevirtual 304, 3), none, none, some (.istore 5, 2), none, some (.iload_n 2, 1), some (.istore 6, 2), none, some (.iload 6, 2), none, some (.iload_n 3, 1), some (.if_icmp .ge 80, 3)] = true := by decide +kernel
theorem mDr211_1 : mDc1 prog_14_method_114_code 32 [none, none, some (.aload_n 0, 1), some (.aload_n 1, 1), some (.iload 6, 2), none, some (.iaload, 1), some (.iload 4, 2), none, some (.invokevirtual 289, 3), none, none, some (.iload 4, 2), none, some (.if_icmp .ne 6, 3), none, none, some (.goto 47, 3), none, none, some (.aload_n 0, 1), some (.aload_n 1, 1), some (.iload 6, 2), none, some (.aload_n 0, 1), some (.aload_n 1, 1), some (.iload 6, 2), none, some (.iload_n 3, 1), some (.iload 4, 2), none, some (.invokevirtual 292, 3)] = true := by decide +kernel
theorem mDr211_2 : mDc1 prog_14_method_114_code 64 [none, none, some (.aload_n 0, 1), some (.aload_n 1, 1), some (.iload 6, 2), none, some (.iaload, 1), some (.iload 4, 2), none, some (.invokevirtual 289, 3), none, none, some (.invokevirtual 419, 3), none, none, some (.istore 7, 2), none, some (.iload 7, 2), none, some (.iconst (-1), 1), some (.if_icmp .ne 5, 3), none, none, some (.iconst (-1), 1), some (.ireturn, 1), some (.iload 5, 2), none, some (.iload 7, 2), none, some (.iadd, 1), some (.istore 5, 2)] = true := by decide +kernel
theorem mDr211_3 : mDc1 prog_14_method_114_code 96 [some (.aload_n 0, 1), some (.aload_n 1, 1), some (.iload 6, 2), none, some (.iload_n 3, 1), some (.iload 4, 2), none, some (.invokevirtual 292, 3), none, none, some (.istore 6, 2), none, some (.goto (-80), 3), none, none, some (.iload 5, 2), none, some (.ireturn, 1)] = true := by decide +kernel
theorem mDt211 : mDcP prog_14_method_114_code mct211 := by
  intro j c h
  unfold mct211 at h
  match j, h with
  | 0, h => cases h; exact mDr211_0
  | 1, h => cases h; exact mDr211_1
  | 2, h => cases h; exact mDr211_2
  | 3, h => cases h; exact mDr211_3
  | n + 4, h => simp at h
theorem mDr212_0 : mDc1 prog_14_method_118_code 0 [some (.aload_n 0, 1), some (.iconst 0, 1), some (.putfield 128, 3), none, none, some (.aload_n 0, 1), some (.iload_n 1, 1), some (.putfield 422, 3), none, none, some (.aload_n 0, 1), some (.invokevirtual 426, 3), none, none, some (.ireturn, 1)] = true := by decide +kernel
theorem mDt212 : mDcP prog_14_method_118_code mct212 := by
  intro j c h
  unfold mct212 at h
  match j, h with
  | 0, h => cases h; exact mDr212_0
  | n + 1, h => simp at h
theorem mDr213_0 : mDc1 prog_14_method_117_code 0 [some (.iconst 0, 1), some (.istore_n 1, 1), some (.iconst 0, 1), some (.istore_n 2, 1), some (.iload_n 2, 1), some (.aload_n 0, 1), some (.getfield 17, 3), none, none, some (.iconst 1, 1), some (.iaload, 1), some (.if_icmp .ge 74, 3), none, none, some (.aload_n 0, 1), some (.getfield 25, 3), none, none, some (.iload_n 2, 1), some (.aaload, 1), some (.iconst 2, 1), some (.iaload, 1), some (.ifCond .ne 6, 3), none, none, some (.goto 54, 3), none, none, some (.aload_n 0, 1), some (.aload_n 0, 1), some (.getfield 422, 3)] = true := by decide +kernel
theorem mDr213_1 : mDc1 prog_14_method_117_code 32 [none, some (.ldc_w 425, 3), none, none, some (.imul, 1), some (.sipush 12345, 3), none, none, some (.iadd, 1), some (.putfield 422, 3), none, none, some (.iload_n 1, 1), some (.aload_n 0, 1), some (.getfield 422, 3), none, none, some (.bipush 16, 2), none, some (.ishr, 1), some (.sipush 32767, 3), none, none, some (.iand, 1), some (.bipush 20, 2), none, some (.irem, 1), some (.aload_n 0, 1), some (.getfield 25, 3), none, none, some (.iload_n 2, 1)] = true := by decide +kernel
theorem mDr213_2 : mDc1 prog_14_method_117_code 64 [some (.aaload, 1), some (.iconst 2, 1), some (.iaload, 1), some (.if_icmp .ge 9, 3), none, none, some (.iconst 1, 1), some (.iload_n 2, 1), some (.ishl, 1), some (.goto 4, 3), none, none, some (.iconst 0, 1), some (.ior, 1), some (.istore_n 1, 1), some (.iinc 2 1, 3), none, none, some (.goto (-78), 3), none, none, some (.aload_n 0, 1), some (.iload_n 1, 1), some (.invokevirtual 384, 3), none, none, some (.ireturn, 1)] = true := by decide +kernel
theorem mDt213 : mDcP prog_14_method_117_code mct213 := by
  intro j c h
  unfold mct213 at h
  match j, h with
  | 0, h => cases h; exact mDr213_0
  | 1, h => cases h; exact mDr213_1
  | 2, h => cases h; exact mDr213_2
  | n + 3, h => simp at h
theorem mDr214_0 : mDc1 prog_14_method_113_code 0 [some (.aload_n 0, 1), some (.iconst 0, 1), some (.putfield 128, 3), none, none, some (.aload_n 0, 1), some (.aload_n 0, 1), some (.iload_n 1, 1), some (.invokevirtual 277, 3), none, none, some (.ifCond .eq 13, 3), none, none, some (.iload_n 2, 1), some (.iconst 0, 1), some (.bipush 127, 2), none, some (.invokestatic 162, 3), none, none, some (.ifCond .ne 7, 3), none, none, some (.iconst 1, 1), some (.goto 4, 3), none, none, some (.iconst 0, 1), some (.iconst 1, 1), some (.invokevirtual 205, 3)] = true := by decide +kernel
theorem mDr214_1 : mDc1 prog_14_method_113_code 32 [none, some (.ifCond .eq 5, 3), none, none, some (.iconst 0, 1), some (.ireturn, 1), some (.aload_n 0, 1), some (.getfield 52, 3), none, none, some (.iload_n 1, 1), some (.iaload, 1), some (.istore_n 3, 1), some (.aload_n 0, 1), some (.getfield 52, 3), none, none, some (.iload_n 1, 1), some (.iload_n 2, 1), some (.iastore, 1), some (.iload_n 3, 1), some (.ireturn, 1)] = true := by decide +kernel
theorem mDt214 : mDcP prog_14_method_113_code mct214 := by
  intro j c h
  unfold mct214 at h
  match j, h with
  | 0, h => cases h; exact mDr214_0
  | 1, h => cases h; exact mDr214_1
  | n + 2, h => simp at h
theorem mDr215_0 : mDc1 prog_14_method_30_code 0 [some (.iconst 0, 1), some (.istore_n 2, 1), some (.iload_n 1, 1), some (.istore_n 3, 1), some (.iload_n 3, 1), some (.ifCond .le 26, 3), none, none, some (.iload_n 2, 1), some (.aload_n 0, 1), some (.getfield 22, 3), none, none, some (.iload_n 3, 1), some (.aaload, 1), some (.iconst 1, 1), some (.iaload, 1), some (.iadd, 1), some (.istore_n 2, 1), some (.aload_n 0, 1), some (.getfield 22, 3), none, none, some (.iload_n 3, 1), some (.aaload, 1), some (.iconst 0, 1), some (.iaload, 1), some (.istore_n 3, 1), some (.goto (-24), 3), none, none, some (.iload_n 2, 1)] = true := by decide +kernel
theorem mDr215_1 : mDc1 prog_14_method_30_code 32 [some (.ireturn, 1)] = true := by decide +kernel
theorem mDt215 : mDcP prog_14_method_30_code mct215 := by
  intro j c h
  unfold mct215 at h
  match j, h with
  | 0, h => cases h; exact mDr215_0
  | 1, h => cases h; exact mDr215_1
  | n + 2, h => simp at h
theorem mDr216_0 : mDc1 prog_14_method_54_code 0 [some (.iload_n 2, 1), some (.iconst 1, 1), some (.iadd, 1), some (.istore 5, 2), none, some (.iload 5, 2), none, some (.iload_n 3, 1), some (.if_icmp .ge 31, 3), none, none, some (.aload_n 0, 1), some (.aload_n 1, 1), some (.iload 5, 2), none, some (.iaload, 1), some (.iload 4, 2), none, some (.invokevirtual 289, 3), none, none, some (.aload_n 0, 1), some (.aload_n 1, 1), some (.iload_n 2, 1), some (.iaload, 1), some (.iload 4, 2), none, some (.invokevirtual 289, 3), none, none, some (.if_icmp .ne 9, 3)] = true := by decide +kernel
theorem mDr216_1 : mDc1 prog_14_method_54_code 32 [none, some (.iinc 5 1, 3), none, none, some (.goto (-31), 3), none, none, some (.iload 5, 2), none, some (.ireturn, 1)] = true := by decide +kernel
theorem mDt216 : mDcP prog_14_method_54_code mct216 := by
  intro j c h
  unfold mct216 at h
  match j, h with
  | 0, h => cases h; exact mDr216_0
  | 1, h => cases h; exact mDr216_1
  | n + 2, h => simp at h
theorem mDr217_0 : mDc1 prog_14_method_61_code 0 [some (.aload_n 0, 1), some (.iconst 0, 1), some (.putfield 128, 3), none, none, some (.aload_n 0, 1), some (.aload_n 0, 1), some (.iload_n 1, 1), some (.invokevirtual 277, 3), none, none, some (.ifCond .ne 7, 3), none, none, some (.iconst 1, 1), some (.goto 4, 3), none, none, some (.iconst 0, 1), some (.iconst 1, 1), some (.invokevirtual 205, 3), none, none, some (.ifCond .eq 5, 3), none, none, some (.iconst 0, 1), some (.ireturn, 1), some (.aload_n 0, 1), some (.invokevirtual 314, 3)] = true := by decide +kernel
theorem mDr217_1 : mDc1 prog_14_method_61_code 32 [some (.aload_n 0, 1), some (.getfield 64, 3), none, none, some (.iload_n 1, 1), some (.iaload, 1), some (.ireturn, 1)] = true := by decide +kernel
theorem mDt217 : mDcP prog_14_method_61_code mct217 := by
  intro j c h
  unfold mct217 at h
  match j, h with
  | 0, h => cases h; exact mDr217_0
  | 1, h => cases h; exact mDr217_1
  | n + 2, h => simp at h
theorem mDr218_0 : mDc1 prog_14_method_60_code 0 [some (.aload_n 0, 1), some (.iconst 0, 1), some (.putfield 128, 3), none, none, some (.aload_n 0, 1), some (.aload_n 0, 1), some (.iload_n 1, 1), some (.invokevirtual 274, 3), none, none, some (.ifCond .ne 7, 3), none, none, some (.iconst 1, 1), some (.goto 4, 3), none, none, some (.iconst 0, 1), some (.iconst 1, 1), some (.invokevirtual 205, 3), none, none, some (.ifCond .eq 5, 3), none, none, some (.iconst 0, 1), some (.ireturn, 1), some (.aload_n 0, 1), some (.invokevirtual 314, 3)] = true := by decide +kernel
theorem mDr218_1 : mDc1 prog_14_method_60_code 32 [some (.aload_n 0, 1), some (.getfield 58, 3), none, none, some (.iload_n 1, 1), some (.iaload, 1), some (.ireturn, 1)] = true := by decide +kernel
theorem mDt218 : mDcP prog_14_method_60_code mct218 := by
  intro j c h
  unfold mct218 at h
  match j, h with
  | 0, h => cases h; exact mDr218_0
  | 1, h => cases h; exact mDr218_1
  | n + 2, h => simp at h
theorem mDr219_0 : mDc1 prog_14_method_78_code 0 [some (.aload_n 0, 1), some (.iconst 0, 1), some (.putfield 128, 3), none, none, some (.aload_n 0, 1), some (.aload_n 0, 1), some (.iload_n 1, 1), some (.invokevirtual 277, 3), none, none, some (.ifCond .eq 14, 3), none, none, some (.iload_n 2, 1), some (.iconst 0, 1), some (.sipush 1439, 3), none, none, some (.invokestatic 162, 3), none, none, some (.ifCond .ne 7, 3), none, none, some (.iconst 1, 1), some (.goto 4, 3), none, none, some (.iconst 0, 1), some (.iconst 1, 1), some (.invokevirtual 205, 3)] = true := by decide +kernel
theorem mDr219_1 : mDc1 prog_14_method_78_code 32 [none, none, some (.ifCond .eq 5, 3), none, none, some (.iconst 0, 1), some (.ireturn, 1), some (.aload_n 0, 1), some (.getfield 49, 3), none, none, some (.iload_n 1, 1), some (.iaload, 1), some (.istore_n 3, 1), some (.aload_n 0, 1), some (.getfield 49, 3), none, none, some (.iload_n 1, 1), some (.iload_n 2, 1), some (.iastore, 1), some (.iload_n 3, 1), some (.ireturn, 1)] = true := by decide +kernel
theorem mDt219 : mDcP prog_14_method_78_code mct219 := by
  intro j c h
  unfold mct219 at h
  match j, h with
  | 0, h => cases h; exact mDr219_0
  | 1, h => cases h; exact mDr219_1
  | n + 2, h => simp at h
theorem mDr220_0 : mDc1 prog_14_method_24_code 0 [some (.aload_n 0, 1), some (.iconst 0, 1), some (.putfield 128, 3), none, none, some (.aload_n 0, 1), some (.getfield 9, 3), none, none, some (.ireturn, 1)] = true := by decide +kernel
theorem mDt220 : mDcP prog_14_method_24_code mct220 := by
  intro j c h
  unfold mct220 at h
  match j, h with
  | 0, h => cases h; exact mDr220_0
  | n + 1, h => simp at h
theorem mDr221_0 : mDc1 prog_14_method_8_code 0 [some (.aload_n 0, 1), some (.iconst 0, 1), some (.putfield 128, 3), none, none, some (.aload_n 0, 1), some (.getfield 131, 3), none, none, some (.bipush 20, 2), none, some (.iadd, 1), some (.sipush 500, 3), none, none, some (.if_icmp .le 5, 3), none, none, some (.iconst (-1), 1), some (.ireturn, 1), some (.iconst 0, 1), some (.istore 6, 2), none, some (.iload 6, 2), none, some (.bipush 20, 2), none, some (.if_icmp .ge 93, 3), none, none, some (.iload 6, 2)] = true := by decide +kernel
theorem mDr221_1 : mDc1 prog_14_method_8_code 32 [some (.iconst 4, 1), some (.if_icmp .ge 7, 3), none, none, some (.iload_n 1, 1), some (.goto 39, 3), none, none, some (.iload 6, 2), none, some (.bipush 8, 2), none, some (.if_icmp .ge 7, 3), none, none, some (.iload_n 2, 1), some (.goto 28, 3), none, none, some (.iload 6, 2), none, some (.bipush 12, 2), none, some (.if_icmp .ge 7, 3), none, none, some (.iload_n 3, 1), some (.goto 17, 3), none, none, some (.iload 6, 2)] = true := by decide +kernel
theorem mDr221_2 : mDc1 prog_14_method_8_code 64 [some (.bipush 16, 2), none, some (.if_icmp .ge 8, 3), none, none, some (.iload 4, 2), none, some (.goto 5, 3), none, none, some (.iload 5, 2), none, some (.istore 7, 2), none, some (.aload_n 0, 1), some (.getfield 13, 3), none, none, some (.aload_n 0, 1), some (.getfield 131, 3), none, none, some (.iload 7, 2), none, some (.bipush 24, 2), none, some (.bipush 8, 2), none, some (.iload 6, 2), none, some (.iconst 4, 1), some (.irem, 1)] = true := by decide +kernel
theorem mDr221_3 : mDc1 prog_14_method_8_code 96 [some (.imul, 1), some (.isub, 1), some (.ishr, 1), some (.sipush 255, 3), none, none, some (.iand, 1), some (.iastore, 1), some (.aload_n 0, 1), some (.dup, 1), some (.getfield 131, 3), none, none, some (.iconst 1, 1), some (.iadd, 1), some (.putfield 131, 3), none, none, some (.iinc 6 1, 3), none, none, some (.goto (-94), 3), none, none, some (.aload_n 0, 1), some (.getfield 131, 3), none, none, some (.ireturn, 1)] = true := by decide +kernel
theorem mDt221 : mDcP prog_14_method_8_code mct221 := by
  intro j c h
  unfold mct221 at h
  match j, h with
  | 0, h => cases h; exact mDr221_0
  | 1, h => cases h; exact mDr221_1
  | 2, h => cases h; exact mDr221_2
  | 3, h => cases h; exact mDr221_3
  | n + 4, h => simp at h
theorem mDr222_0 : mDc1 prog_14_method_108_code 0 [some (.aload_n 0, 1), some (.iconst 0, 1), some (.putfield 128, 3), none, none, some (.aload_n 0, 1), some (.invokevirtual 410, 3), none, none, some (.invokestatic 404, 3), none, none, some (.ireturn, 1)] = true := by decide +kernel
theorem mDt222 : mDcP prog_14_method_108_code mct222 := by
  intro j c h
  unfold mct222 at h
  match j, h with
  | 0, h => cases h; exact mDr222_0
  | n + 1, h => simp at h
theorem mDr223_0 : mDc1 prog_14_method_69_code 0 [some (.bipush (-2), 2), none, some (.istore_n 1, 1), some (.iconst 1, 1), some (.istore_n 2, 1), some (.iconst 0, 1), some (.istore_n 3, 1), some (.iload_n 3, 1), some (.aload_n 0, 1), some (.getfield 17, 3), none, none, some (.iconst 1, 1), some (.iaload, 1), some (.if_icmp .ge 16, 3), none, none, some (.iload_n 2, 1), some (.aload_n 0, 1), some (.getfield 219, 3), none, none, some (.imul, 1), some (.istore_n 2, 1), some (.iinc 3 1, 3), none, none, some (.goto (-20), 3), none, none, some (.iconst 0, 1), some (.istore_n 3, 1)] = true := by decide +kernel
theorem mDr223_1 : mDc1 prog_14_method_69_code 32 [some (.iload_n 3, 1), some (.aload_n 0, 1), some (.getfield 219, 3), none, none, some (.if_icmp .ge 59, 3), none, none, some (.aload_n 0, 1), some (.getfield 95, 3), none, none, some (.iload_n 3, 1), some (.aload_n 0, 1), some (.getfield 37, 3), none, none, some (.iload_n 3, 1), some (.iaload, 1), some (.iastore, 1), some (.iconst 0, 1), some (.istore 4, 2), none, some (.iload 4, 2), none, some (.aload_n 0, 1), some (.getfield 37, 3), none, none, some (.iload_n 3, 1), some (.iaload, 1), some (.if_icmp .ge 27, 3)] = true := by decide +kernel
theorem mDr223_2 : mDc1 prog_14_method_69_code 64 [none, none, some (.aload_n 0, 1), some (.getfield 98, 3), none, none, some (.iload_n 3, 1), some (.aaload, 1), some (.iload 4, 2), none, some (.aload_n 0, 1), some (.getfield 34, 3), none, none, some (.iload_n 3, 1), some (.aaload, 1), some (.iload 4, 2), none, some (.iaload, 1), some (.iastore, 1), some (.iinc 4 1, 3), none, none, some (.goto (-32), 3), none, none, some (.iinc 3 1, 3), none, none, some (.goto (-61), 3)] = true := by decide +kernel
theorem mDr223_3 : mDc1 prog_14_method_69_code 96 [some (.aload_n 0, 1), some (.invokevirtual 338, 3), none, none, some (.iconst 0, 1), some (.istore_n 3, 1), some (.iload_n 3, 1), some (.iload_n 2, 1), some (.if_icmp .ge 108, 3), none, none, some (.iload_n 3, 1), some (.istore 4, 2), none, some (.aload_n 0, 1), some (.getfield 17, 3), none, none, some (.iconst 1, 1), some (.iaload, 1), some (.iconst 1, 1), some (.isub, 1), some (.istore 5, 2), none, some (.iload 5, 2), none, some (.ifCond .lt 32, 3), none, none, some (.aload_n 0, 1), some (.getfield 71, 3)] = true := by decide +kernel
theorem mDr223_4 : mDc1 prog_14_method_69_code 128 [none, some (.iload 5, 2), none, some (.iload 4, 2), none, some (.aload_n 0, 1), some (.getfield 219, 3), none, none, some (.irem, 1), some (.iastore, 1), some (.iload 4, 2), none, some (.aload_n 0, 1), some (.getfield 219, 3), none, none, some (.idiv, 1), some (.istore 4, 2), none, some (.iinc 5 (-1), 3), none, none, some (.goto (-31), 3), none, none, some (.aload_n 0, 1), some (.invokevirtual 341, 3), none, none, some (.istore 5, 2)] = true := by decide +kernel
theorem mDr223_5 : mDc1 prog_14_method_69_code 160 [some (.iload 5, 2), none, some (.iload_n 1, 1), some (.if_icmp .gt 6, 3), none, none, some (.goto 40, 3), none, none, some (.iload 5, 2), none, some (.istore_n 1, 1), some (.iconst 0, 1), some (.istore 6, 2), none, some (.iload 6, 2), none, some (.aload_n 0, 1), some (.getfield 17, 3), none, none, some (.iconst 1, 1), some (.iaload, 1), some (.if_icmp .ge 23, 3), none, none, some (.aload_n 0, 1), some (.getfield 92, 3), none, none, some (.iload 6, 2)] = true := by decide +kernel
theorem mDr223_6 : mDc1 prog_14_method_69_code 192 [some (.aload_n 0, 1), some (.getfield 71, 3), none, none, some (.iload 6, 2), none, some (.iaload, 1), some (.iastore, 1), some (.iinc 6 1, 3), none, none, some (.goto (-28), 3), none, none, some (.iinc 3 1, 3), none, none, some (.goto (-107), 3), none, none, some (.iconst 0, 1), some (.istore_n 3, 1), some (.iload_n 3, 1), some (.aload_n 0, 1), some (.getfield 219, 3), none, none, some (.if_icmp .ge 59, 3), none, none, some (.aload_n 0, 1), some (.getfield 37, 3)] = true := by decide +kernel
theorem mDr223_7 : mDc1 prog_14_method_69_code 224 [none, none, some (.iload_n 3, 1), some (.aload_n 0, 1), some (.getfield 95, 3), none, none, some (.iload_n 3, 1), some (.iaload, 1), some (.iastore, 1), some (.iconst 0, 1), some (.istore 4, 2), none, some (.iload 4, 2), none, some (.aload_n 0, 1), some (.getfield 37, 3), none, none, some (.iload_n 3, 1), some (.iaload, 1), some (.if_icmp .ge 27, 3), none, none, some (.aload_n 0, 1), some (.getfield 34, 3), none, none, some (.iload_n 3, 1), some (.aaload, 1), some (.iload 4, 2)] = true := by decide +kernel
theorem mDr223_8 : mDc1 prog_14_method_69_code 256 [some (.aload_n 0, 1), some (.getfield 98, 3), none, none, some (.iload_n 3, 1), some (.aaload, 1), some (.iload 4, 2), none, some (.iaload, 1), some (.iastore, 1), some (.iinc 4 1, 3), none, none, some (.goto (-32), 3), none, none, some (.iinc 3 1, 3), none, none, some (.goto (-61), 3), none, none, some (.iload_n 1, 1), some (.ireturn, 1)] = true := by decide +kernel
theorem mDt223 : mDcP prog_14_method_69_code mct223 := by
  intro j c h
  unfold mct223 at h
  match j, h with
  | 0, h => cases h; exact mDr223_0
  | 1, h => cases h; exact mDr223_1
  | 2, h => cases h; exact mDr223_2
  | 3, h => cases h; exact mDr223_3
  | 4, h => cases h; exact mDr223_4
  | 5, h => cases h; exact mDr223_5
  | 6, h => cases h; exact mDr223_6
  | 7, h => cases h; exact mDr223_7
  | 8, h => cases h; exact mDr223_8
  | n + 9, h => simp at h
theorem mDr224_0 : mDc1 prog_14_method_83_code 0 [some (.aload_n 0, 1), some (.iconst 0, 1), some (.putfield 357, 3), none, none, some (.iconst 0, 1), some (.istore_n 2, 1), some (.iload_n 2, 1), some (.aload_n 0, 1), some (.getfield 360, 3), none, none, some (.if_icmp .ge 84, 3), none, none, some (.aload_n 0, 1), some (.getfield 110, 3), none, none, some (.iload_n 2, 1), some (.iaload, 1), some (.iload_n 1, 1), some (.if_icmp .eq 6, 3), none, none, some (.goto 65, 3), none, none, some (.aload_n 0, 1), some (.getfield 357, 3)] = true := by decide +kernel
theorem mDr224_1 : mDc1 prog_14_method_83_code 32 [some (.istore_n 3, 1), some (.iload_n 3, 1), some (.ifCond .le 39, 3), none, none, some (.aload_n 0, 1), some (.iload_n 2, 1), some (.aload_n 0, 1), some (.getfield 119, 3), none, none, some (.iload_n 3, 1), some (.iconst 1, 1), some (.isub, 1), some (.iaload, 1), some (.invokevirtual 363, 3), none, none, some (.ifCond .eq 23, 3), none, none, some (.aload_n 0, 1), some (.getfield 119, 3), none, none, some (.iload_n 3, 1), some (.aload_n 0, 1), some (.getfield 119, 3), none, none, some (.iload_n 3, 1), some (.iconst 1, 1)] = true := by decide +kernel
theorem mDr224_2 : mDc1 prog_14_method_83_code 64 [some (.isub, 1), some (.iaload, 1), some (.iastore, 1), some (.iinc 3 (-1), 3), none, none, some (.goto (-37), 3), none, none, some (.aload_n 0, 1), some (.getfield 119, 3), none, none, some (.iload_n 3, 1), some (.iload_n 2, 1), some (.iastore, 1), some (.aload_n 0, 1), some (.dup, 1), some (.getfield 357, 3), none, none, some (.iconst 1, 1), some (.iadd, 1), some (.putfield 357, 3), none, none, some (.iinc 2 1, 3), none, none, some (.goto (-86), 3)] = true := by decide +kernel
theorem mDr224_3 : mDc1 prog_14_method_83_code 96 [some (.return_, 1)] = true := by decide +kernel
theorem mDt224 : mDcP prog_14_method_83_code mct224 := by
  intro j c h
  unfold mct224 at h
  match j, h with
  | 0, h => cases h; exact mDr224_0
  | 1, h => cases h; exact mDr224_1
  | 2, h => cases h; exact mDr224_2
  | 3, h => cases h; exact mDr224_3
  | n + 4, h => simp at h
theorem mDr225_0 : mDc1 prog_14_method_70_code 0 [some (.iconst 0, 1), some (.istore_n 1, 1), some (.iload_n 1, 1), some (.iconst 1, 1), some (.aload_n 0, 1), some (.getfield 17, 3), none, none, some (.iconst 1, 1), some (.iaload, 1), some (.ishl, 1), some (.if_icmp .ge 116, 3), none, none, some (.aload_n 0, 1), some (.iload_n 1, 1), some (.invokevirtual 271, 3), none, none, some (.aload_n 0, 1), some (.getfield 83, 3), none, none, some (.iload_n 1, 1), some (.aload_n 0, 1), some (.getfield 268, 3), none, none, some (.iastore, 1), some (.aload_n 0, 1), some (.getfield 86, 3)] = true := by decide +kernel
theorem mDr225_1 : mDc1 prog_14_method_70_code 32 [none, some (.iload_n 1, 1), some (.iconst 0, 1), some (.iastore, 1), some (.iconst 0, 1), some (.istore_n 2, 1), some (.iload_n 2, 1), some (.aload_n 0, 1), some (.getfield 268, 3), none, none, some (.if_icmp .ge 78, 3), none, none, some (.aload_n 0, 1), some (.getfield 80, 3), none, none, some (.iload_n 1, 1), some (.aaload, 1), some (.iload_n 2, 1), some (.aload_n 0, 1), some (.getfield 89, 3), none, none, some (.iload_n 2, 1), some (.iaload, 1), some (.iastore, 1), some (.iconst 0, 1), some (.istore_n 3, 1), some (.iload_n 3, 1), some (.aload_n 0, 1)] = true := by decide +kernel
theorem mDr225_2 : mDc1 prog_14_method_70_code 64 [some (.getfield 17, 3), none, none, some (.iconst 0, 1), some (.iaload, 1), some (.if_icmp .ge 46, 3), none, none, some (.aload_n 0, 1), some (.getfield 86, 3), none, none, some (.iload_n 1, 1), some (.dup2, 1), some (.iaload, 1), some (.aload_n 0, 1), some (.iload_n 3, 1), some (.aload_n 0, 1), some (.getfield 25, 3), none, none, some (.aload_n 0, 1), some (.getfield 89, 3), none, none, some (.iload_n 2, 1), some (.iaload, 1), some (.aaload, 1), some (.iconst 0, 1), some (.iaload, 1), some (.invokevirtual 243, 3)] = true := by decide +kernel
theorem mDr225_3 : mDc1 prog_14_method_70_code 96 [none, some (.ifCond .eq 9, 3), none, none, some (.iconst 1, 1), some (.iload_n 3, 1), some (.ishl, 1), some (.goto 4, 3), none, none, some (.iconst 0, 1), some (.ior, 1), some (.iastore, 1), some (.iinc 3 1, 3), none, none, some (.goto (-50), 3), none, none, some (.iinc 2 1, 3), none, none, some (.goto (-80), 3), none, none, some (.iinc 1 1, 3), none, none, some (.goto (-122), 3), none, none, some (.return_, 1)] = true := by decide +kernel
theorem mDt225 : mDcP prog_14_method_70_code mct225 := by
  intro j c h
  unfold mct225 at h
  match j, h with
  | 0, h => cases h; exact mDr225_0
  | 1, h => cases h; exact mDr225_1
  | 2, h => cases h; exact mDr225_2
  | 3, h => cases h; exact mDr225_3
  | n + 4, h => simp at h
theorem mDr226_0 : mDc1 prog_14_method_42_code 0 [some (.aload_n 0, 1), some (.iconst 0, 1), some (.putfield 128, 3), none, none, some (.aload_n 0, 1), some (.aload_n 0, 1), some (.iload_n 1, 1), some (.invokevirtual 253, 3), none, none, some (.ifCond .ne 7, 3), none, none, some (.iconst 1, 1), some (.goto 4, 3), none, none, some (.iconst 0, 1), some (.iconst 1, 1), some (.invokevirtual 205, 3), none, none, some (.ifCond .eq 5, 3), none, none, some (.iconst 0, 1), some (.ireturn, 1), some (.aload_n 0, 1), some (.iload_n 1, 1), some (.invokevirtual 271, 3)] = true := by decide +kernel
theorem mDr226_1 : mDc1 prog_14_method_42_code 32 [none, some (.iload_n 2, 1), some (.iconst 0, 1), some (.aload_n 0, 1), some (.getfield 268, 3), none, none, some (.iconst 1, 1), some (.isub, 1), some (.invokestatic 162, 3), none, none, some (.ifCond .eq 12, 3), none, none, some (.aload_n 0, 1), some (.getfield 89, 3), none, none, some (.iload_n 2, 1), some (.iaload, 1), some (.goto 4, 3), none, none, some (.iconst (-1), 1), some (.ireturn, 1)] = true := by decide +kernel
theorem mDt226 : mDcP prog_14_method_42_code mct226 := by
  intro j c h
  unfold mct226 at h
  match j, h with
  | 0, h => cases h; exact mDr226_0
  | 1, h => cases h; exact mDr226_1
  | n + 2, h => simp at h
theorem mDr227_0 : mDc1 prog_14_method_48_code 0 [some (.iconst 0, 1), some (.istore_n 2, 1), some (.iload_n 2, 1), some (.aload_n 0, 1), some (.getfield 268, 3), none, none, some (.if_icmp .ge 23, 3), none, none, some (.aload_n 0, 1), some (.getfield 34, 3), none, none, some (.iload_n 1, 1), some (.aaload, 1), some (.iload_n 2, 1), some (.aload_n 0, 1), some (.getfield 89, 3), none, none, some (.iload_n 2, 1), some (.iaload, 1), some (.iastore, 1), some (.iinc 2 1, 3), none, none, some (.goto (-25), 3), none, none, some (.aload_n 0, 1), some (.getfield 37, 3)] = true := by decide +kernel
theorem mDr227_1 : mDc1 prog_14_method_48_code 32 [none, none, some (.iload_n 1, 1), some (.aload_n 0, 1), some (.getfield 268, 3), none, none, some (.iastore, 1), some (.return_, 1)] = true := by decide +kernel
theorem mDt227 : mDcP prog_14_method_48_code mct227 := by
  intro j c h
  unfold mct227 at h
  match j, h with
  | 0, h => cases h; exact mDr227_0
  | 1, h => cases h; exact mDr227_1
  | n + 2, h => simp at h
theorem mDr228_0 : mDc1 prog_14_method_85_code 0 [some (.aload_n 0, 1), some (.aload_n 0, 1), some (.getfield 17, 3), none, none, some (.iconst 1, 1), some (.iaload, 1), some (.putfield 360, 3), none, none, some (.iconst 0, 1), some (.istore_n 1, 1), some (.iload_n 1, 1), some (.aload_n 0, 1), some (.getfield 360, 3), none, none, some (.if_icmp .ge 51, 3), none, none, some (.aload_n 0, 1), some (.getfield 101, 3), none, none, some (.iload_n 1, 1), some (.aaload, 1), some (.iconst 0, 1), some (.iload_n 1, 1), some (.iastore, 1), some (.aload_n 0, 1), some (.getfield 104, 3)] = true := by decide +kernel
theorem mDr228_1 : mDc1 prog_14_method_85_code 32 [none, some (.iload_n 1, 1), some (.iconst 1, 1), some (.iastore, 1), some (.aload_n 0, 1), some (.getfield 107, 3), none, none, some (.iload_n 1, 1), some (.aload_n 0, 1), some (.getfield 113, 3), none, none, some (.iload_n 1, 1), some (.iaload, 1), some (.iastore, 1), some (.aload_n 0, 1), some (.getfield 110, 3), none, none, some (.iload_n 1, 1), some (.aload_n 0, 1), some (.getfield 25, 3), none, none, some (.iload_n 1, 1), some (.aaload, 1), some (.iconst 0, 1), some (.iaload, 1), some (.iastore, 1), some (.iinc 1 1, 3)] = true := by decide +kernel
theorem mDr228_2 : mDc1 prog_14_method_85_code 64 [none, some (.goto (-53), 3), none, none, some (.aload_n 0, 1), some (.getfield 17, 3), none, none, some (.iconst 0, 1), some (.iaload, 1), some (.iconst 1, 1), some (.isub, 1), some (.istore_n 1, 1), some (.iload_n 1, 1), some (.ifCond .le 14, 3), none, none, some (.aload_n 0, 1), some (.iload_n 1, 1), some (.invokevirtual 372, 3), none, none, some (.iinc 1 (-1), 3), none, none, some (.goto (-12), 3), none, none, some (.iconst 0, 1), some (.istore_n 1, 1), some (.iload_n 1, 1), some (.aload_n 0, 1)] = true := by decide +kernel
theorem mDr228_3 : mDc1 prog_14_method_85_code 96 [some (.getfield 360, 3), none, none, some (.if_icmp .ge 55, 3), none, none, some (.iconst 0, 1), some (.istore_n 2, 1), some (.iload_n 2, 1), some (.aload_n 0, 1), some (.getfield 104, 3), none, none, some (.iload_n 1, 1), some (.iaload, 1), some (.if_icmp .ge 37, 3), none, none, some (.aload_n 0, 1), some (.getfield 110, 3), none, none, some (.iload_n 1, 1), some (.iaload, 1), some (.ifCond .ne 28, 3), none, none, some (.aload_n 0, 1), some (.getfield 116, 3), none, none, some (.aload_n 0, 1)] = true := by decide +kernel
theorem mDr228_4 : mDc1 prog_14_method_85_code 128 [some (.getfield 101, 3), none, none, some (.iload_n 1, 1), some (.aaload, 1), some (.iload_n 2, 1), some (.iaload, 1), some (.aload_n 0, 1), some (.getfield 107, 3), none, none, some (.iload_n 1, 1), some (.iaload, 1), some (.iastore, 1), some (.iinc 2 1, 3), none, none, some (.goto (-41), 3), none, none, some (.iinc 1 1, 3), none, none, some (.goto (-57), 3), none, none, some (.return_, 1)] = true := by decide +kernel
theorem mDt228 : mDcP prog_14_method_85_code mct228 := by
  intro j c h
  unfold mct228 at h
  match j, h with
  | 0, h => cases h; exact mDr228_0
  | 1, h => cases h; exact mDr228_1
  | 2, h => cases h; exact mDr228_2
  | 3, h => cases h; exact mDr228_3
  | 4, h => cases h; exact mDr228_4
  | n + 5, h => simp at h
theorem mDr229_0 : mDc1 prog_14_method_86_code 0 [some (.iconst 0, 1), some (.istore_n 2, 1), some (.iload_n 2, 1), some (.aload_n 0, 1), some (.getfield 17, 3), none, none, some (.iconst 1, 1), some (.iaload, 1), some (.if_icmp .ge 43, 3), none, none, some (.aload_n 0, 1), some (.getfield 113, 3), none, none, some (.iload_n 2, 1), some (.aload_n 0, 1), some (.getfield 49, 3), none, none, some (.iload_n 2, 1), some (.iaload, 1), some (.iload_n 1, 1), some (.iload_n 2, 1), some (.ishr, 1), some (.iconst 1, 1), some (.iand, 1), some (.iconst 1, 1), some (.if_icmp .ne 14, 3)] = true := by decide +kernel
theorem mDr229_1 : mDc1 prog_14_method_86_code 32 [some (.aload_n 0, 1), some (.getfield 25, 3), none, none, some (.iload_n 2, 1), some (.aaload, 1), some (.iconst 3, 1), some (.iaload, 1), some (.goto 4, 3), none, none, some (.iconst 0, 1), some (.iadd, 1), some (.iastore, 1), some (.iinc 2 1, 3), none, none, some (.goto (-47), 3), none, none, some (.aload_n 0, 1), some (.invokevirtual 375, 3), none, none, some (.return_, 1)] = true := by decide +kernel
theorem mDt229 : mDcP prog_14_method_86_code mct229 := by
  intro j c h
  unfold mct229 at h
  match j, h with
  | 0, h => cases h; exact mDr229_0
  | 1, h => cases h; exact mDr229_1
  | n + 2, h => simp at h
theorem mDr230_0 : mDc1 prog_14_method_84_code 0 [some (.aload_n 0, 1), some (.iload_n 1, 1), some (.invokevirtual 366, 3), none, none, some (.aload_n 0, 1), some (.iload_n 1, 1), some (.invokevirtual 228, 3), none, none, some (.ifCond .eq 16, 3), none, none, some (.aload_n 0, 1), some (.getfield 43, 3), none, none, some (.iload_n 1, 1), some (.iaload, 1), some (.ifCond .ne 7, 3), none, none, some (.iconst 1, 1), some (.goto 4, 3), none, none, some (.iconst 0, 1), some (.istore_n 2, 1), some (.iconst 0, 1), some (.istore_n 3, 1), some (.iload_n 3, 1), some (.aload_n 0, 1)] = true := by decide +kernel
theorem mDr230_1 : mDc1 prog_14_method_84_code 32 [some (.getfield 357, 3), none, none, some (.if_icmp .ge 260, 3), none, none, some (.aload_n 0, 1), some (.getfield 119, 3), none, none, some (.iload_n 3, 1), some (.iaload, 1), some (.istore 4, 2), none, some (.aload_n 0, 1), some (.getfield 107, 3), none, none, some (.iload 4, 2), none, some (.iaload, 1), some (.istore 5, 2), none, some (.iconst 0, 1), some (.istore 6, 2), none, some (.aload_n 0, 1), some (.getfield 110, 3), none, none, some (.iload 4, 2)] = true := by decide +kernel
theorem mDr230_2 : mDc1 prog_14_method_84_code 64 [some (.iaload, 1), some (.iload_n 1, 1), some (.if_icmp .eq 6, 3), none, none, some (.goto 220, 3), none, none, some (.iload_n 3, 1), some (.iconst 1, 1), some (.iadd, 1), some (.istore 7, 2), none, some (.iload 7, 2), none, some (.aload_n 0, 1), some (.getfield 357, 3), none, none, some (.if_icmp .ge 161, 3), none, none, some (.iload_n 2, 1), some (.ifCond .eq 157, 3), none, none, some (.aload_n 0, 1), some (.getfield 119, 3), none, none, some (.iload 7, 2)] = true := by decide +kernel
theorem mDr230_3 : mDc1 prog_14_method_84_code 96 [some (.iaload, 1), some (.istore 8, 2), none, some (.aload_n 0, 1), some (.getfield 110, 3), none, none, some (.iload 8, 2), none, some (.iaload, 1), some (.iload_n 1, 1), some (.if_icmp .ne 131, 3), none, none, some (.aload_n 0, 1), some (.getfield 107, 3), none, none, some (.iload 8, 2), none, some (.iaload, 1), some (.aload_n 0, 1), some (.getfield 107, 3), none, none, some (.iload 4, 2), none, some (.iaload, 1), some (.aload_n 0, 1), some (.getfield 46, 3)] = true := by decide +kernel
theorem mDr230_4 : mDc1 prog_14_method_84_code 128 [some (.iload_n 1, 1), some (.iaload, 1), some (.iadd, 1), some (.if_icmp .gt 107, 3), none, none, some (.aload_n 0, 1), some (.iload 4, 2), none, some (.invokevirtual 369, 3), none, none, some (.aload_n 0, 1), some (.iload 8, 2), none, some (.invokevirtual 369, 3), none, none, some (.iadd, 1), some (.aload_n 0, 1), some (.getfield 22, 3), none, none, some (.iload_n 1, 1), some (.aaload, 1), some (.iconst 2, 1), some (.iaload, 1), some (.if_icmp .le 6, 3), none, none, some (.goto 80, 3)] = true := by decide +kernel
theorem mDr230_5 : mDc1 prog_14_method_84_code 160 [none, some (.iconst 0, 1), some (.istore 9, 2), none, some (.iload 9, 2), none, some (.aload_n 0, 1), some (.getfield 104, 3), none, none, some (.iload 8, 2), none, some (.iaload, 1), some (.if_icmp .ge 45, 3), none, none, some (.aload_n 0, 1), some (.getfield 101, 3), none, none, some (.iload 4, 2), none, some (.aaload, 1), some (.aload_n 0, 1), some (.getfield 104, 3), none, none, some (.iload 4, 2), none, some (.iaload, 1), some (.aload_n 0, 1), some (.getfield 101, 3)] = true := by decide +kernel
theorem mDr230_6 : mDc1 prog_14_method_84_code 192 [none, none, some (.iload 8, 2), none, some (.aaload, 1), some (.iload 9, 2), none, some (.iaload, 1), some (.iastore, 1), some (.aload_n 0, 1), some (.getfield 104, 3), none, none, some (.iload 4, 2), none, some (.dup2, 1), some (.iaload, 1), some (.iconst 1, 1), some (.iadd, 1), some (.iastore, 1), some (.iinc 9 1, 3), none, none, some (.goto (-51), 3), none, none, some (.aload_n 0, 1), some (.getfield 110, 3), none, none, some (.iload 8, 2)] = true := by decide +kernel
theorem mDr230_7 : mDc1 prog_14_method_84_code 224 [some (.iconst (-1), 1), some (.iastore, 1), some (.aload_n 0, 1), some (.getfield 107, 3), none, none, some (.iload 8, 2), none, some (.iaload, 1), some (.istore 5, 2), none, some (.iinc 6 1, 3), none, none, some (.iinc 7 1, 3), none, none, some (.goto (-164), 3), none, none, some (.aload_n 0, 1), some (.getfield 107, 3), none, none, some (.iload 4, 2), none, some (.iload 5, 2), none, some (.aload_n 0, 1), some (.getfield 22, 3)] = true := by decide +kernel
theorem mDr230_8 : mDc1 prog_14_method_84_code 256 [some (.iload_n 1, 1), some (.aaload, 1), some (.iconst 4, 1), some (.iaload, 1), some (.iload 6, 2), none, some (.imul, 1), some (.iadd, 1), some (.aload_n 0, 1), some (.getfield 22, 3), none, none, some (.iload_n 1, 1), some (.aaload, 1), some (.iconst 1, 1), some (.iaload, 1), some (.iadd, 1), some (.iastore, 1), some (.aload_n 0, 1), some (.getfield 110, 3), none, none, some (.iload 4, 2), none, some (.aload_n 0, 1), some (.getfield 22, 3), none, none, some (.iload_n 1, 1), some (.aaload, 1), some (.iconst 0, 1), some (.iaload, 1)] = true := by decide +kernel
theorem mDr230_9 : mDc1 prog_14_method_84_code 288 [some (.iastore, 1), some (.iinc 3 1, 3), none, none, some (.goto (-262), 3), none, none, some (.return_, 1)] = true := by decide +kernel
theorem mDt230 : mDcP prog_14_method_84_code mct230 := by
  intro j c h
  unfold mct230 at h
  match j, h with
  | 0, h => cases h; exact mDr230_0
  | 1, h => cases h; exact mDr230_1
  | 2, h => cases h; exact mDr230_2
  | 3, h => cases h; exact mDr230_3
  | 4, h => cases h; exact mDr230_4
  | 5, h => cases h; exact mDr230_5
  | 6, h => cases h; exact mDr230_6
  | 7, h => cases h; exact mDr230_7
  | 8, h => cases h; exact mDr230_8
  | 9, h => cases h; exact mDr230_9
  | n + 10, h => simp at h
theorem mDr231_0 : mDc1 prog_14_method_75_code 0 [some (.aload_n 0, 1), some (.iconst 0, 1), some (.putfield 128, 3), none, none, some (.aload_n 0, 1), some (.invokevirtual 348, 3), none, none, some (.bipush (-2), 2), none, some (.if_icmp .ne 6, 3), none, none, some (.bipush (-2), 2), none, some (.ireturn, 1), some (.iconst 0, 1), some (.istore_n 1, 1), some (.iconst 0, 1), some (.istore_n 2, 1), some (.iload_n 2, 1), some (.aload_n 0, 1), some (.getfield 17, 3), none, none, some (.iconst 1, 1), some (.iaload, 1), some (.if_icmp .ge 43, 3), none, none, some (.iload_n 1, 1)] = true := by decide +kernel
theorem mDr231_1 : mDc1 prog_14_method_75_code 32 [some (.aload_n 0, 1), some (.iload_n 2, 1), some (.invokevirtual 280, 3), none, none, some (.aload_n 0, 1), some (.getfield 92, 3), none, none, some (.iload_n 2, 1), some (.iaload, 1), some (.if_icmp .eq 7, 3), none, none, some (.iconst 1, 1), some (.goto 4, 3), none, none, some (.iconst 0, 1), some (.iadd, 1), some (.istore_n 1, 1), some (.aload_n 0, 1), some (.getfield 71, 3), none, none, some (.iload_n 2, 1), some (.aload_n 0, 1), some (.getfield 92, 3), none, none, some (.iload_n 2, 1), some (.iaload, 1)] = true := by decide +kernel
theorem mDr231_2 : mDc1 prog_14_method_75_code 64 [some (.iastore, 1), some (.iinc 2 1, 3), none, none, some (.goto (-47), 3), none, none, some (.aload_n 0, 1), some (.invokevirtual 341, 3), none, none, some (.pop, 1), some (.iload_n 1, 1), some (.ireturn, 1)] = true := by decide +kernel
theorem mDt231 : mDcP prog_14_method_75_code mct231 := by
  intro j c h
  unfold mct231 at h
  match j, h with
  | 0, h => cases h; exact mDr231_0
  | 1, h => cases h; exact mDr231_1
  | 2, h => cases h; exact mDr231_2
  | n + 3, h => simp at h
theorem mDr232_0 : mDc1 prog_14_method_35_code 0 [some (.iconst 0, 1), some (.istore_n 3, 1), some (.iconst 0, 1), some (.istore 4, 2), none, some (.iload 4, 2), none, some (.aload_n 0, 1), some (.getfield 17, 3), none, none, some (.iconst 1, 1), some (.iaload, 1), some (.if_icmp .ge 47, 3), none, none, some (.iload_n 3, 1), some (.iload_n 1, 1), some (.iload 4, 2), none, some (.ishr, 1), some (.iconst 1, 1), some (.iand, 1), some (.iconst 1, 1), some (.if_icmp .ne 27, 3), none, none, some (.aload_n 0, 1), some (.iload_n 2, 1), some (.aload_n 0, 1), some (.getfield 25, 3)] = true := by decide +kernel
theorem mDr232_1 : mDc1 prog_14_method_35_code 32 [none, some (.iload 4, 2), none, some (.aaload, 1), some (.iconst 0, 1), some (.iaload, 1), some (.invokevirtual 243, 3), none, none, some (.ifCond .eq 10, 3), none, none, some (.iconst 1, 1), some (.iload 4, 2), none, some (.ishl, 1), some (.goto 4, 3), none, none, some (.iconst 0, 1), some (.ior, 1), some (.istore_n 3, 1), some (.iinc 4 1, 3), none, none, some (.goto (-52), 3), none, none, some (.iload_n 3, 1), some (.ireturn, 1)] = true := by decide +kernel
theorem mDt232 : mDcP prog_14_method_35_code mct232 := by
  intro j c h
  unfold mct232 at h
  match j, h with
  | 0, h => cases h; exact mDr232_0
  | 1, h => cases h; exact mDr232_1
  | n + 2, h => simp at h
theorem mDr233_0 : mDc1 prog_14_method_81_code 0 [some (.aload_n 0, 1), some (.aload_n 0, 1), some (.getfield 101, 3), none, none, some (.iload_n 1, 1), some (.aaload, 1), some (.iconst 0, 1), some (.aload_n 0, 1), some (.getfield 104, 3), none, none, some (.iload_n 1, 1), some (.iaload, 1), some (.invokevirtual 296, 3), none, none, some (.ireturn, 1)] = true := by decide +kernel
theorem mDt233 : mDcP prog_14_method_81_code mct233 := by
  intro j c h
  unfold mct233 at h
  match j, h with
  | 0, h => cases h; exact mDr233_0
  | n + 1, h => simp at h
theorem mDr234_0 : mDc1 prog_14_method_72_code 0 [some (.iconst 0, 1), some (.istore_n 1, 1), some (.iload_n 1, 1), some (.aload_n 0, 1), some (.getfield 219, 3), none, none, some (.if_icmp .ge 107, 3), none, none, some (.iconst 0, 1), some (.istore_n 2, 1), some (.iconst 0, 1), some (.istore_n 3, 1), some (.iload_n 3, 1), some (.aload_n 0, 1), some (.getfield 17, 3), none, none, some (.iconst 1, 1), some (.iaload, 1), some (.if_icmp .ge 29, 3), none, none, some (.iload_n 2, 1), some (.aload_n 0, 1), some (.getfield 71, 3), none, none, some (.iload_n 3, 1), some (.iaload, 1), some (.iload_n 1, 1)] = true := by decide +kernel
theorem mDr234_1 : mDc1 prog_14_method_72_code 32 [some (.if_icmp .ne 9, 3), none, none, some (.iconst 1, 1), some (.iload_n 3, 1), some (.ishl, 1), some (.goto 4, 3), none, none, some (.iconst 0, 1), some (.ior, 1), some (.istore_n 2, 1), some (.iinc 3 1, 3), none, none, some (.goto (-33), 3), none, none, some (.iconst 0, 1), some (.istore_n 3, 1), some (.iload_n 3, 1), some (.aload_n 0, 1), some (.getfield 83, 3), none, none, some (.iload_n 2, 1), some (.iaload, 1), some (.if_icmp .ge 25, 3), none, none, some (.aload_n 0, 1), some (.getfield 34, 3)] = true := by decide +kernel
theorem mDr234_2 : mDc1 prog_14_method_72_code 64 [none, none, some (.iload_n 1, 1), some (.aaload, 1), some (.iload_n 3, 1), some (.aload_n 0, 1), some (.getfield 80, 3), none, none, some (.iload_n 2, 1), some (.aaload, 1), some (.iload_n 3, 1), some (.iaload, 1), some (.iastore, 1), some (.iinc 3 1, 3), none, none, some (.goto (-29), 3), none, none, some (.aload_n 0, 1), some (.getfield 37, 3), none, none, some (.iload_n 1, 1), some (.aload_n 0, 1), some (.getfield 83, 3), none, none, some (.iload_n 2, 1), some (.iaload, 1), some (.iastore, 1)] = true := by decide +kernel
theorem mDr234_3 : mDc1 prog_14_method_72_code 96 [some (.aload_n 0, 1), some (.getfield 74, 3), none, none, some (.iload_n 1, 1), some (.aload_n 0, 1), some (.getfield 86, 3), none, none, some (.iload_n 2, 1), some (.iaload, 1), some (.iastore, 1), some (.iinc 1 1, 3), none, none, some (.goto (-109), 3), none, none, some (.aload_n 0, 1), some (.invokevirtual 314, 3), none, none, some (.iconst 0, 1), some (.istore_n 1, 1), some (.iload_n 1, 1), some (.aload_n 0, 1), some (.getfield 219, 3), none, none, some (.if_icmp .ge 21, 3)] = true := by decide +kernel
theorem mDr234_4 : mDc1 prog_14_method_72_code 128 [some (.aload_n 0, 1), some (.getfield 58, 3), none, none, some (.iload_n 1, 1), some (.iaload, 1), some (.ifCond .eq 6, 3), none, none, some (.bipush (-2), 2), none, some (.ireturn, 1), some (.iinc 1 1, 3), none, none, some (.goto (-23), 3), none, none, some (.iconst 0, 1), some (.istore_n 1, 1), some (.iconst 0, 1), some (.istore_n 2, 1), some (.iload_n 2, 1), some (.aload_n 0, 1), some (.getfield 17, 3), none, none, some (.iconst 3, 1), some (.iaload, 1), some (.if_icmp .ge 52, 3)] = true := by decide +kernel
theorem mDr234_5 : mDc1 prog_14_method_72_code 160 [some (.iconst 0, 1), some (.istore_n 3, 1), some (.iconst 0, 1), some (.istore 4, 2), none, some (.iload 4, 2), none, some (.aload_n 0, 1), some (.getfield 219, 3), none, none, some (.if_icmp .ge 28, 3), none, none, some (.iload_n 3, 1), some (.aload_n 0, 1), some (.iload_n 2, 1), some (.iload 4, 2), none, some (.aload_n 0, 1), some (.getfield 74, 3), none, none, some (.iload 4, 2), none, some (.iaload, 1), some (.invokevirtual 344, 3), none, none, some (.invokestatic 329, 3)] = true := by decide +kernel
theorem mDr234_6 : mDc1 prog_14_method_72_code 192 [some (.istore_n 3, 1), some (.iinc 4 1, 3), none, none, some (.goto (-31), 3), none, none, some (.iload_n 1, 1), some (.iload_n 3, 1), some (.iadd, 1), some (.istore_n 1, 1), some (.iinc 2 1, 3), none, none, some (.goto (-56), 3), none, none, some (.iload_n 1, 1), some (.ireturn, 1)] = true := by decide +kernel
theorem mDt234 : mDcP prog_14_method_72_code mct234 := by
  intro j c h
  unfold mct234 at h
  match j, h with
  | 0, h => cases h; exact mDr234_0
  | 1, h => cases h; exact mDr234_1
  | 2, h => cases h; exact mDr234_2
  | 3, h => cases h; exact mDr234_3
  | 4, h => cases h; exact mDr234_4
  | 5, h => cases h; exact mDr234_5
  | 6, h => cases h; exact mDr234_6
  | n + 7, h => simp at h
theorem mDr235_0 : mDc1 prog_14_method_91_code 0 [some (.aload_n 0, 1), some (.iconst 0, 1), some (.putfield 128, 3), none, none, some (.aload_n 0, 1), some (.aload_n 0, 1), some (.iload_n 1, 1), some (.invokevirtual 253, 3), none, none, some (.ifCond .ne 7, 3), none, none, some (.iconst 1, 1), some (.goto 4, 3), none, none, some (.iconst 0, 1), some (.iconst 1, 1), some (.invokevirtual 205, 3), none, none, some (.ifCond .eq 5, 3), none, none, some (.iconst 0, 1), some (.ireturn, 1), some (.aload_n 0, 1), some (.iload_n 1, 1), some (.invokevirtual 384, 3)] = true := by decide +kernel
theorem mDr235_1 : mDc1 prog_14_method_91_code 32 [none, some (.ireturn, 1)] = true := by decide +kernel
theorem mDt235 : mDcP prog_14_method_91_code mct235 := by
  intro j c h
  unfold mct235 at h
  match j, h with
  | 0, h => cases h; exact mDr235_0
  | 1, h => cases h; exact mDr235_1
  | n + 2, h => simp at h
theorem mDr236_0 : mDc1 prog_14_method_90_code 0 [some (.aload_n 0, 1), some (.iload_n 1, 1), some (.invokevirtual 378, 3), none, none, some (.bipush 60, 2), none, some (.iconst 0, 1), some (.aload_n 0, 1), some (.invokevirtual 381, 3), none, none, some (.iconst 1, 1), some (.isub, 1), some (.invokestatic 329, 3), none, none, some (.imul, 1), some (.istore_n 2, 1), some (.iconst 0, 1), some (.istore_n 3, 1), some (.iload_n 3, 1), some (.aload_n 0, 1), some (.getfield 17, 3), none, none, some (.iconst 1, 1), some (.iaload, 1), some (.if_icmp .ge 47, 3), none, none, some (.iload_n 2, 1)] = true := by decide +kernel
theorem mDr236_1 : mDc1 prog_14_method_90_code 32 [some (.aload_n 0, 1), some (.getfield 25, 3), none, none, some (.iload_n 3, 1), some (.aaload, 1), some (.iconst 1, 1), some (.iaload, 1), some (.aload_n 0, 1), some (.getfield 116, 3), none, none, some (.iload_n 3, 1), some (.iaload, 1), some (.aload_n 0, 1), some (.getfield 49, 3), none, none, some (.iload_n 3, 1), some (.iaload, 1), some (.isub, 1), some (.aload_n 0, 1), some (.aload_n 0, 1), some (.getfield 25, 3), none, none, some (.iload_n 3, 1), some (.aaload, 1), some (.iconst 0, 1), some (.iaload, 1), some (.invokevirtual 234, 3)] = true := by decide +kernel
theorem mDr236_2 : mDc1 prog_14_method_90_code 64 [none, some (.isub, 1), some (.imul, 1), some (.iadd, 1), some (.istore_n 2, 1), some (.iinc 3 1, 3), none, none, some (.goto (-51), 3), none, none, some (.iload_n 2, 1), some (.ireturn, 1)] = true := by decide +kernel
theorem mDt236 : mDcP prog_14_method_90_code mct236 := by
  intro j c h
  unfold mct236 at h
  match j, h with
  | 0, h => cases h; exact mDr236_0
  | 1, h => cases h; exact mDr236_1
  | 2, h => cases h; exact mDr236_2
  | n + 3, h => simp at h
theorem mDr237_0 : mDc1 prog_14_method_39_code 0 [some (.iconst (-1), 1), some (.istore_n 3, 1), some (.iload_n 2, 1), some (.iconst 1, 1), some (.iadd, 1), some (.istore 4, 2), none, some (.iload 4, 2), none, some (.aload_n 0, 1), some (.getfield 17, 3), none, none, some (.iconst 0, 1), some (.iaload, 1), some (.if_icmp .ge 70, 3), none, none, some (.aload_n 0, 1), some (.getfield 22, 3), none, none, some (.iload 4, 2), none, some (.aaload, 1), some (.iconst 0, 1), some (.iaload, 1), some (.iload_n 2, 1), some (.if_icmp .ne 13, 3), none, none, some (.aload_n 0, 1)] = true := by decide +kernel
theorem mDr237_1 : mDc1 prog_14_method_39_code 32 [some (.iload_n 1, 1), some (.iload 4, 2), none, some (.invokevirtual 247, 3), none, none, some (.goto 4, 3), none, none, some (.iconst 0, 1), some (.istore 5, 2), none, some (.iload 5, 2), none, some (.ifCond .ne 6, 3), none, none, some (.goto 30, 3), none, none, some (.aload_n 0, 1), some (.iload 5, 2), none, some (.iload 4, 2), none, some (.invokevirtual 256, 3), none, none, some (.istore 6, 2), none, some (.iload_n 3, 1), some (.iconst (-1), 1)] = true := by decide +kernel
theorem mDr237_2 : mDc1 prog_14_method_39_code 64 [some (.if_icmp .ne 8, 3), none, none, some (.iload 6, 2), none, some (.goto 9, 3), none, none, some (.iload_n 3, 1), some (.iload 6, 2), none, some (.invokestatic 259, 3), none, none, some (.istore_n 3, 1), some (.iinc 4 1, 3), none, none, some (.goto (-75), 3), none, none, some (.iconst 0, 1), some (.istore 4, 2), none, some (.iload 4, 2), none, some (.aload_n 0, 1), some (.getfield 17, 3), none, none, some (.iconst 1, 1), some (.iaload, 1)] = true := by decide +kernel
theorem mDr237_3 : mDc1 prog_14_method_39_code 96 [some (.if_icmp .ge 27, 3), none, none, some (.iload_n 3, 1), some (.iconst (-1), 1), some (.if_icmp .ne 22, 3), none, none, some (.iload_n 1, 1), some (.iload 4, 2), none, some (.ishr, 1), some (.iconst 1, 1), some (.iand, 1), some (.iconst 1, 1), some (.if_icmp .ne 6, 3), none, none, some (.iload 4, 2), none, some (.istore_n 3, 1), some (.iinc 4 1, 3), none, none, some (.goto (-32), 3), none, none, some (.iload_n 3, 1), some (.ireturn, 1)] = true := by decide +kernel
theorem mDt237 : mDcP prog_14_method_39_code mct237 := by
  intro j c h
  unfold mct237 at h
  match j, h with
  | 0, h => cases h; exact mDr237_0
  | 1, h => cases h; exact mDr237_1
  | 2, h => cases h; exact mDr237_2
  | 3, h => cases h; exact mDr237_3
  | n + 4, h => simp at h
theorem mDr238_0 : mDc1 prog_14_method_79_code 0 [some (.aload_n 0, 1), some (.iconst 0, 1), some (.putfield 128, 3), none, none, some (.aload_n 0, 1), some (.iload_n 1, 1), some (.invokevirtual 351, 3), none, none, some (.ifCond .ne 26, 3), none, none, some (.aload_n 0, 1), some (.iload_n 2, 1), some (.iconst 0, 1), some (.bipush 60, 2), none, some (.invokestatic 162, 3), none, none, some (.ifCond .ne 7, 3), none, none, some (.iconst 1, 1), some (.goto 4, 3), none, none, some (.iconst 0, 1), some (.iconst 2, 1), some (.invokevirtual 205, 3)] = true := by decide +kernel
theorem mDr238_1 : mDc1 prog_14_method_79_code 32 [none, some (.ifCond .eq 5, 3), none, none, some (.iconst 0, 1), some (.ireturn, 1), some (.aload_n 0, 1), some (.getfield 46, 3), none, none, some (.iload_n 1, 1), some (.iaload, 1), some (.istore_n 3, 1), some (.aload_n 0, 1), some (.getfield 46, 3), none, none, some (.iload_n 1, 1), some (.iload_n 2, 1), some (.iastore, 1), some (.iload_n 3, 1), some (.ireturn, 1)] = true := by decide +kernel
theorem mDt238 : mDcP prog_14_method_79_code mct238 := by
  intro j c h
  unfold mct238 at h
  match j, h with
  | 0, h => cases h; exact mDr238_0
  | 1, h => cases h; exact mDr238_1
  | n + 2, h => simp at h
theorem mDr239_0 : mDc1 prog_14_method_123_code 0 [some (.aload_n 0, 1), some (.iconst 0, 1), some (.putfield 128, 3), none, none, some (.aload_n 0, 1), some (.getfield 225, 3), none, none, some (.iconst 3, 1), some (.if_icmp .ne 5, 3), none, none, some (.iconst (-1), 1), some (.ireturn, 1), some (.aload_n 0, 1), some (.aload_n 0, 1), some (.getfield 225, 3), none, none, some (.iconst 0, 1), some (.invokevirtual 440, 3), none, none, some (.aload_n 0, 1), some (.dup, 1), some (.getfield 225, 3), none, none, some (.iconst 1, 1), some (.iadd, 1), some (.putfield 225, 3)] = true := by decide +kernel
theorem mDr239_1 : mDc1 prog_14_method_123_code 32 [none, none, some (.aload_n 0, 1), some (.getfield 225, 3), none, none, some (.ireturn, 1)] = true := by decide +kernel
theorem mDt239 : mDcP prog_14_method_123_code mct239 := by
  intro j c h
  unfold mct239 at h
  match j, h with
  | 0, h => cases h; exact mDr239_0
  | 1, h => cases h; exact mDr239_1
  | n + 2, h => simp at h
theorem mDr240_0 : mDc1 prog_14_method_4_code 0 [some (.iload_n 0, 1), some (.iload_n 1, 1), some (.if_icmp .lt 12, 3), none, none, some (.iload_n 0, 1), some (.iload_n 2, 1), some (.if_icmp .gt 7, 3), none, none, some (.iconst 1, 1), some (.goto 4, 3), none, none, some (.iconst 0, 1), some (.ireturn, 1)] = true := by decide +kernel
theorem mDt240 : mDcP prog_14_method_4_code mct240 := by
  intro j c h
  unfold mct240 at h
  match j, h with
  | 0, h => cases h; exact mDr240_0
  | n + 1, h => simp at h
theorem mDr241_0 : mDc1 prog_14_method_82_code 0 [some (.aload_n 0, 1), some (.getfield 107, 3), none, none, some (.iload_n 1, 1), some (.iaload, 1), some (.aload_n 0, 1), some (.getfield 107, 3), none, none, some (.iload_n 2, 1), some (.iaload, 1), some (.if_icmp .lt 31, 3), none, none, some (.aload_n 0, 1), some (.getfield 107, 3), none, none, some (.iload_n 1, 1), some (.iaload, 1), some (.aload_n 0, 1), some (.getfield 107, 3), none, none, some (.iload_n 2, 1), some (.iaload, 1), some (.if_icmp .ne 20, 3), none, none, some (.aload_n 0, 1), some (.iload_n 1, 1)] = true := by decide +kernel
theorem mDr241_1 : mDc1 prog_14_method_82_code 32 [some (.invokevirtual 354, 3), none, none, some (.aload_n 0, 1), some (.iload_n 2, 1), some (.invokevirtual 354, 3), none, none, some (.if_icmp .ge 7, 3), none, none, some (.iconst 1, 1), some (.goto 4, 3), none, none, some (.iconst 0, 1), some (.ireturn, 1)] = true := by decide +kernel
theorem mDt241 : mDcP prog_14_method_82_code mct241 := by
  intro j c h
  unfold mct241 at h
  match j, h with
  | 0, h => cases h; exact mDr241_0
  | 1, h => cases h; exact mDr241_1
  | n + 2, h => simp at h
theorem mDr242_0 : mDc1 prog_14_method_105_code 0 [some (.iconst 0, 1), some (.istore_n 2, 1), some (.iload_n 2, 1), some (.aload_n 0, 1), some (.getfield 222, 3), none, none, some (.if_icmp .ge 55, 3), none, none, some (.iconst 0, 1), some (.istore_n 3, 1), some (.iload_n 3, 1), some (.iload_n 2, 1), some (.if_icmp .ge 42, 3), none, none, some (.iload_n 1, 1), some (.iload_n 2, 1), some (.ishr, 1), some (.iload_n 1, 1), some (.iload_n 3, 1), some (.ishr, 1), some (.iand, 1), some (.iconst 1, 1), some (.iand, 1), some (.iconst 1, 1), some (.if_icmp .ne 23, 3), none, none, some (.aload_n 0, 1), some (.iload_n 2, 1)] = true := by decide +kernel
theorem mDr242_1 : mDc1 prog_14_method_105_code 32 [some (.iload_n 3, 1), some (.invokevirtual 401, 3), none, none, some (.ifCond .ne 12, 3), none, none, some (.aload_n 0, 1), some (.iload_n 3, 1), some (.iload_n 2, 1), some (.invokevirtual 401, 3), none, none, some (.ifCond .eq 5, 3), none, none, some (.iconst 0, 1), some (.ireturn, 1), some (.iinc 3 1, 3), none, none, some (.goto (-41), 3), none, none, some (.iinc 2 1, 3), none, none, some (.goto (-57), 3), none, none, some (.iconst 1, 1), some (.ireturn, 1)] = true := by decide +kernel
theorem mDt242 : mDcP prog_14_method_105_code mct242 := by
  intro j c h
  unfold mct242 at h
  match j, h with
  | 0, h => cases h; exact mDr242_0
  | 1, h => cases h; exact mDr242_1
  | n + 2, h => simp at h
theorem mDr243_0 : mDc1 prog_14_method_102_code 0 [some (.aload_n 0, 1), some (.getfield 55, 3), none, none, some (.iload_n 2, 1), some (.aaload, 1), some (.iconst 3, 1), some (.iaload, 1), some (.aload_n 0, 1), some (.aload_n 0, 1), some (.getfield 55, 3), none, none, some (.iload_n 2, 1), some (.aaload, 1), some (.iconst 2, 1), some (.iaload, 1), some (.aload_n 0, 1), some (.getfield 55, 3), none, none, some (.iload_n 1, 1), some (.aaload, 1), some (.iconst 0, 1), some (.iaload, 1), some (.invokevirtual 240, 3), none, none, some (.iadd, 1), some (.aload_n 0, 1), some (.getfield 55, 3)] = true := by decide +kernel
theorem mDr243_1 : mDc1 prog_14_method_102_code 32 [none, some (.iload_n 1, 1), some (.aaload, 1), some (.iconst 1, 1), some (.iaload, 1), some (.if_icmp .gt 7, 3), none, none, some (.iconst 1, 1), some (.goto 4, 3), none, none, some (.iconst 0, 1), some (.ireturn, 1)] = true := by decide +kernel
theorem mDt243 : mDcP prog_14_method_102_code mct243 := by
  intro j c h
  unfold mct243 at h
  match j, h with
  | 0, h => cases h; exact mDr243_0
  | 1, h => cases h; exact mDr243_1
  | n + 2, h => simp at h
theorem mDr244_0 : mDc1 prog_14_method_12_code 0 [some (.iload_n 0, 1), some (.bipush 48, 2), none, some (.if_icmp .lt 13, 3), none, none, some (.iload_n 0, 1), some (.bipush 57, 2), none, some (.if_icmp .gt 7, 3), none, none, some (.iconst 1, 1), some (.goto 4, 3), none, none, some (.iconst 0, 1), some (.ireturn, 1)] = true := by decide +kernel
theorem mDt244 : mDcP prog_14_method_12_code mct244 := by
  intro j c h
  unfold mct244 at h
  match j, h with
  | 0, h => cases h; exact mDr244_0
  | n + 1, h => simp at h
theorem mDr245_0 : mDc1 prog_14_method_25_code 0 [some (.aload_n 0, 1), some (.getfield 22, 3), none, none, some (.iload_n 1, 1), some (.aaload, 1), some (.iconst 3, 1), some (.iaload, 1), some (.ifCond .le 7, 3), none, none, some (.iconst 1, 1), some (.goto 4, 3), none, none, some (.iconst 0, 1), some (.ireturn, 1)] = true := by decide +kernel
theorem mDt245 : mDcP prog_14_method_25_code mct245 := by
  intro j c h
  unfold mct245 at h
  match j, h with
  | 0, h => cases h; exact mDr245_0
  | n + 1, h => simp at h
theorem mDr246_0 : mDc1 prog_14_method_103_code 0 [some (.iload_n 1, 1), some (.iconst 0, 1), some (.aload_n 0, 1), some (.getfield 222, 3), none, none, some (.iconst 1, 1), some (.isub, 1), some (.invokestatic 162, 3), none, none, some (.ireturn, 1)] = true := by decide +kernel
theorem mDt246 : mDcP prog_14_method_103_code mct246 := by
  intro j c h
  unfold mct246 at h
  match j, h with
  | 0, h => cases h; exact mDr246_0
  | n + 1, h => simp at h
theorem mDr247_0 : mDc1 prog_14_method_31_code 0 [some (.iload_n 2, 1), some (.istore_n 3, 1), some (.iload_n 3, 1), some (.iload_n 1, 1), some (.if_icmp .le 15, 3), none, none, some (.aload_n 0, 1), some (.getfield 22, 3), none, none, some (.iload_n 3, 1), some (.aaload, 1), some (.iconst 0, 1), some (.iaload, 1), some (.istore_n 3, 1), some (.goto (-14), 3), none, none, some (.iload_n 3, 1), some (.iload_n 1, 1), some (.if_icmp .ne 7, 3), none, none, some (.iconst 1, 1), some (.goto 4, 3), none, none, some (.iconst 0, 1), some (.ireturn, 1)] = true := by decide +kernel
theorem mDt247 : mDcP prog_14_method_31_code mct247 := by
  intro j c h
  unfold mct247 at h
  match j, h with
  | 0, h => cases h; exact mDr247_0
  | n + 1, h => simp at h
theorem mDr248_0 : mDc1 prog_14_method_28_code 0 [some (.iload_n 1, 1), some (.iconst 0, 1), some (.aload_n 0, 1), some (.getfield 17, 3), none, none, some (.iconst 0, 1), some (.iaload, 1), some (.iconst 1, 1), some (.isub, 1), some (.invokestatic 162, 3), none, none, some (.ireturn, 1)] = true := by decide +kernel
theorem mDt248 : mDcP prog_14_method_28_code mct248 := by
  intro j c h
  unfold mct248 at h
  match j, h with
  | 0, h => cases h; exact mDr248_0
  | n + 1, h => simp at h
theorem mDr249_0 : mDc1 prog_14_method_29_code 0 [some (.iload_n 1, 1), some (.iconst 0, 1), some (.aload_n 0, 1), some (.getfield 17, 3), none, none, some (.iconst 1, 1), some (.iaload, 1), some (.iconst 1, 1), some (.isub, 1), some (.invokestatic 162, 3), none, none, some (.ireturn, 1)] = true := by decide +kernel
theorem mDt249 : mDcP prog_14_method_29_code mct249 := by
  intro j c h
  unfold mct249 at h
  match j, h with
  | 0, h => cases h; exact mDr249_0
  | n + 1, h => simp at h
theorem mDr250_0 : mDc1 prog_14_method_111_code 0 [some (.iload_n 0, 1), some (.iload_n 1, 1), some (.ixor, 1), some (.iload_n 0, 1), some (.iload_n 1, 1), some (.ixor, 1), some (.ineg, 1), some (.iand, 1), some (.istore_n 2, 1), some (.iload_n 0, 1), some (.iload_n 2, 1), some (.iand, 1), some (.ifCond .eq 7, 3), none, none, some (.iconst 1, 1), some (.goto 4, 3), none, none, some (.iconst 0, 1), some (.ireturn, 1)] = true := by decide +kernel
theorem mDt250 : mDcP prog_14_method_111_code mct250 := by
  intro j c h
  unfold mct250 at h
  match j, h with
  | 0, h => cases h; exact mDr250_0
  | n + 1, h => simp at h
theorem mDr251_0 : mDc1 prog_14_method_53_code 0 [some (.iload_n 2, 1), some (.istore 5, 2), none, some (.iload 5, 2), none, some (.iload_n 3, 1), some (.if_icmp .ge 115, 3), none, none, some (.aload_n 0, 1), some (.aload_n 1, 1), some (.iload 5, 2), none, some (.iaload, 1), some (.iload 4, 2), none, some (.invokevirtual 289, 3), none, none, some (.istore 6, 2), none, some (.iload 6, 2), none, some (.iload 4, 2), none, some (.if_icmp .ne 38, 3), none, none, some (.iload 5, 2), none, some (.istore 7, 2)] = true := by decide +kernel
theorem mDr251_1 : mDc1 prog_14_method_53_code 32 [some (.iload 7, 2), none, some (.iload_n 3, 1), some (.if_icmp .ge 26, 3), none, none, some (.aload_n 0, 1), some (.aload_n 1, 1), some (.iload 7, 2), none, some (.iaload, 1), some (.iload 4, 2), none, some (.invokevirtual 289, 3), none, none, some (.iload 4, 2), none, some (.if_icmp .eq 5, 3), none, none, some (.iconst 1, 1), some (.ireturn, 1), some (.iinc 7 1, 3), none, none, some (.goto (-26), 3), none, none, some (.iconst 0, 1), some (.ireturn, 1), some (.iload 5, 2)] = true := by decide +kernel
theorem mDr251_2 : mDc1 prog_14_method_53_code 64 [none, some (.iconst 2, 1), some (.iadd, 1), some (.istore 7, 2), none, some (.iload 7, 2), none, some (.iload_n 3, 1), some (.if_icmp .ge 43, 3), none, none, some (.aload_n 0, 1), some (.aload_n 1, 1), some (.iload 7, 2), none, some (.iaload, 1), some (.iload 4, 2), none, some (.invokevirtual 289, 3), none, none, some (.iload 6, 2), none, some (.if_icmp .ne 22, 3), none, none, some (.aload_n 0, 1), some (.aload_n 1, 1), some (.iload 7, 2), none, some (.iconst 1, 1), some (.isub, 1)] = true := by decide +kernel
theorem mDr251_3 : mDc1 prog_14_method_53_code 96 [some (.iaload, 1), some (.iload 4, 2), none, some (.invokevirtual 289, 3), none, none, some (.iload 6, 2), none, some (.if_icmp .eq 5, 3), none, none, some (.iconst 1, 1), some (.ireturn, 1), some (.iinc 7 1, 3), none, none, some (.goto (-43), 3), none, none, some (.iinc 5 1, 3), none, none, some (.goto (-115), 3), none, none, some (.iconst 0, 1), some (.ireturn, 1)] = true := by decide +kernel
theorem mDt251 : mDcP prog_14_method_53_code mct251 := by
  intro j c h
  unfold mct251 at h
  match j, h with
  | 0, h => cases h; exact mDr251_0
  | 1, h => cases h; exact mDr251_1
  | 2, h => cases h; exact mDr251_2
  | 3, h => cases h; exact mDr251_3
  | n + 4, h => simp at h
theorem mDr252_0 : mDc1 prog_14_method_44_code 0 [some (.iload_n 1, 1), some (.iconst 0, 1), some (.aload_n 0, 1), some (.getfield 219, 3), none, none, some (.iconst 1, 1), some (.isub, 1), some (.invokestatic 162, 3), none, none, some (.ireturn, 1)] = true := by decide +kernel
theorem mDt252 : mDcP prog_14_method_44_code mct252 := by
  intro j c h
  unfold mct252 at h
  match j, h with
  | 0, h => cases h; exact mDr252_0
  | n + 1, h => simp at h
theorem mDr253_0 : mDc1 prog_14_method_16_code 0 [some (.aload_n 0, 1), some (.getfield 144, 3), none, none, some (.ifCond .ne 29, 3), none, none, some (.aload_n 0, 1), some (.invokevirtual 172, 3), none, none, some (.iload_n 1, 1), some (.iload_n 2, 1), some (.iload_n 3, 1), some (.iload 4, 2), none, some (.iload 5, 2), none, some (.iload 6, 2), none, some (.iload 7, 2), none, some (.invokestatic 176, 3), none, none, some (.lcmp, 1), some (.ifCond .ne 7, 3), none, none, some (.iconst 1, 1), some (.goto 4, 3)] = true := by decide +kernel
theorem mDr253_1 : mDc1 prog_14_method_16_code 32 [none, some (.iconst 0, 1), some (.ireturn, 1)] = true := by decide +kernel
theorem mDt253 : mDcP prog_14_method_16_code mct253 := by
  intro j c h
  unfold mct253 at h
  match j, h with
  | 0, h => cases h; exact mDr253_0
  | 1, h => cases h; exact mDr253_1
  | n + 2, h => simp at h
theorem mDr254_0 : mDc1 prog_14_method_101_code 0 [some (.aload_n 0, 1), some (.iconst 0, 1), some (.putfield 128, 3), none, none, some (.aload_n 0, 1), some (.aload_n 0, 1), some (.iload_n 1, 1), some (.invokevirtual 237, 3), none, none, some (.ifCond .eq 11, 3), none, none, some (.aload_n 0, 1), some (.iload_n 3, 1), some (.invokevirtual 237, 3), none, none, some (.ifCond .ne 7, 3), none, none, some (.iconst 1, 1), some (.goto 4, 3), none, none, some (.iconst 0, 1), some (.iconst 1, 1), some (.invokevirtual 205, 3), none, none, some (.ifCond .ne 58, 3)] = true := by decide +kernel
theorem mDr254_1 : mDc1 prog_14_method_101_code 32 [none, none, some (.aload_n 0, 1), some (.iload_n 2, 1), some (.iconst 0, 1), some (.sipush 2879, 3), none, none, some (.invokestatic 162, 3), none, none, some (.ifCond .eq 34, 3), none, none, some (.iload 4, 2), none, some (.iconst 0, 1), some (.sipush 2879, 3), none, none, some (.invokestatic 162, 3), none, none, some (.ifCond .eq 22, 3), none, none, some (.iload 4, 2), none, some (.iload_n 2, 1), some (.if_icmp .le 16, 3)] = true := by decide +kernel
theorem mDr254_2 : mDc1 prog_14_method_101_code 64 [some (.iload 4, 2), none, some (.iload_n 2, 1), some (.isub, 1), some (.aload_n 0, 1), some (.iload_n 1, 1), some (.iload_n 3, 1), some (.invokevirtual 240, 3), none, none, some (.if_icmp .ge 7, 3), none, none, some (.iconst 1, 1), some (.goto 4, 3), none, none, some (.iconst 0, 1), some (.iconst 2, 1), some (.invokevirtual 205, 3), none, none, some (.ifCond .eq 5, 3), none, none, some (.iconst 0, 1), some (.ireturn, 1), some (.aload_n 0, 1), some (.getfield 222, 3), none, none, some (.bipush 14, 2)] = true := by decide +kernel
theorem mDr254_3 : mDc1 prog_14_method_101_code 96 [none, some (.if_icmp .ne 5, 3), none, none, some (.iconst (-1), 1), some (.ireturn, 1), some (.aload_n 0, 1), some (.getfield 55, 3), none, none, some (.aload_n 0, 1), some (.getfield 222, 3), none, none, some (.aaload, 1), some (.iconst 0, 1), some (.iload_n 1, 1), some (.iastore, 1), some (.aload_n 0, 1), some (.getfield 55, 3), none, none, some (.aload_n 0, 1), some (.getfield 222, 3), none, none, some (.aaload, 1), some (.iconst 1, 1), some (.iload_n 2, 1), some (.iastore, 1), some (.aload_n 0, 1), some (.getfield 55, 3)] = true := by decide +kernel
theorem mDr254_4 : mDc1 prog_14_method_101_code 128 [none, none, some (.aload_n 0, 1), some (.getfield 222, 3), none, none, some (.aaload, 1), some (.iconst 2, 1), some (.iload_n 3, 1), some (.iastore, 1), some (.aload_n 0, 1), some (.getfield 55, 3), none, none, some (.aload_n 0, 1), some (.getfield 222, 3), none, none, some (.aaload, 1), some (.iconst 3, 1), some (.iload 4, 2), none, some (.iastore, 1), some (.aload_n 0, 1), some (.dup, 1), some (.getfield 222, 3), none, none, some (.iconst 1, 1), some (.iadd, 1), some (.putfield 222, 3)] = true := by decide +kernel
theorem mDr254_5 : mDc1 prog_14_method_101_code 160 [none, some (.aload_n 0, 1), some (.getfield 222, 3), none, none, some (.iconst 1, 1), some (.isub, 1), some (.ireturn, 1)] = true := by decide +kernel
theorem mDt254 : mDcP prog_14_method_101_code mct254 := by
  intro j c h
  unfold mct254 at h
  match j, h with
  | 0, h => cases h; exact mDr254_0
  | 1, h => cases h; exact mDr254_1
  | 2, h => cases h; exact mDr254_2
  | 3, h => cases h; exact mDr254_3
  | 4, h => cases h; exact mDr254_4
  | 5, h => cases h; exact mDr254_5
  | n + 6, h => simp at h
theorem mDr255_0 : mDc1 prog_14_method_59_code 0 [some (.iconst 0, 1), some (.istore_n 1, 1), some (.iload_n 1, 1), some (.bipush 8, 2), none, some (.if_icmp .ge 16, 3), none, none, some (.aload_n 0, 1), some (.getfield 67, 3), none, none, some (.iload_n 1, 1), some (.iconst 0, 1), some (.bastore, 1), some (.iinc 1 1, 3), none, none, some (.goto (-16), 3), none, none, some (.iconst 0, 1), some (.istore_n 1, 1), some (.iload_n 1, 1), some (.bipush 8, 2), none, some (.if_icmp .ge 23, 3), none, none, some (.aload_n 0, 1), some (.getfield 61, 3)] = true := by decide +kernel
theorem mDr255_1 : mDc1 prog_14_method_59_code 32 [none, some (.iload_n 1, 1), some (.iconst (-1), 1), some (.iastore, 1), some (.aload_n 0, 1), some (.getfield 64, 3), none, none, some (.iload_n 1, 1), some (.iconst (-1), 1), some (.iastore, 1), some (.iinc 1 1, 3), none, none, some (.goto (-23), 3), none, none, some (.iconst 0, 1), some (.istore_n 1, 1), some (.iload_n 1, 1), some (.aload_n 0, 1), some (.getfield 219, 3), none, none, some (.if_icmp .ge 108, 3), none, none, some (.aload_n 0, 1), some (.getfield 58, 3), none, none, some (.iload_n 1, 1)] = true := by decide +kernel
theorem mDr255_2 : mDc1 prog_14_method_59_code 64 [some (.aload_n 0, 1), some (.getfield 37, 3), none, none, some (.iload_n 1, 1), some (.iaload, 1), some (.ifCond .ne 7, 3), none, none, some (.iconst 0, 1), some (.goto 28, 3), none, none, some (.aload_n 0, 1), some (.aload_n 0, 1), some (.getfield 34, 3), none, none, some (.iload_n 1, 1), some (.aaload, 1), some (.iconst 0, 1), some (.aload_n 0, 1), some (.getfield 37, 3), none, none, some (.iload_n 1, 1), some (.iaload, 1), some (.iconst 0, 1), some (.aload_n 0, 1), some (.getfield 40, 3)] = true := by decide +kernel
theorem mDr255_3 : mDc1 prog_14_method_59_code 96 [some (.iload_n 1, 1), some (.iaload, 1), some (.iconst (-1), 1), some (.invokevirtual 310, 3), none, none, some (.iastore, 1), some (.iconst 0, 1), some (.istore_n 2, 1), some (.iload_n 2, 1), some (.aload_n 0, 1), some (.getfield 37, 3), none, none, some (.iload_n 1, 1), some (.iaload, 1), some (.if_icmp .ge 46, 3), none, none, some (.aload_n 0, 1), some (.getfield 58, 3), none, none, some (.iload_n 1, 1), some (.iaload, 1), some (.ifCond .eq 37, 3), none, none, some (.aload_n 0, 1), some (.getfield 61, 3)] = true := by decide +kernel
theorem mDr255_4 : mDc1 prog_14_method_59_code 128 [some (.aload_n 0, 1), some (.getfield 34, 3), none, none, some (.iload_n 1, 1), some (.aaload, 1), some (.iload_n 2, 1), some (.iaload, 1), some (.iconst (-1), 1), some (.iastore, 1), some (.aload_n 0, 1), some (.getfield 64, 3), none, none, some (.aload_n 0, 1), some (.getfield 34, 3), none, none, some (.iload_n 1, 1), some (.aaload, 1), some (.iload_n 2, 1), some (.iaload, 1), some (.iconst (-1), 1), some (.iastore, 1), some (.iinc 2 1, 3), none, none, some (.goto (-50), 3), none, none, some (.iinc 1 1, 3)] = true := by decide +kernel
theorem mDr255_5 : mDc1 prog_14_method_59_code 160 [none, some (.goto (-110), 3), none, none, some (.return_, 1)] = true := by decide +kernel
theorem mDt255 : mDcP prog_14_method_59_code mct255 := by
  intro j c h
  unfold mct255 at h
  match j, h with
  | 0, h => cases h; exact mDr255_0
  | 1, h => cases h; exact mDr255_1
  | 2, h => cases h; exact mDr255_2
  | 3, h => cases h; exact mDr255_3
  | 4, h => cases h; exact mDr255_4
  | 5, h => cases h; exact mDr255_5
  | n + 6, h => simp at h
theorem mDr256_0 : mDc1 prog_14_method_58_code 0 [some (.iload 6, 2), none, some (.istore 7, 2), none, some (.aload_n 0, 1), some (.aload_n 1, 1), some (.iload_n 2, 1), some (.iload_n 3, 1), some (.invokevirtual 296, 3), none, none, some (.aload_n 0, 1), some (.getfield 22, 3), none, none, some (.iload 4, 2), none, some (.aaload, 1), some (.iconst 2, 1), some (.iaload, 1), some (.if_icmp .le 10, 3), none, none, some (.sipush 300, 3), none, none, some (.iload 4, 2), none, some (.iadd, 1), some (.ireturn, 1), some (.aload_n 0, 1), some (.aload_n 1, 1)] = true := by decide +kernel
theorem mDr256_1 : mDc1 prog_14_method_58_code 32 [some (.iload_n 2, 1), some (.iload_n 3, 1), some (.iload 4, 2), none, some (.invokevirtual 300, 3), none, none, some (.ifCond .eq 10, 3), none, none, some (.sipush 200, 3), none, none, some (.iload 4, 2), none, some (.iadd, 1), some (.ireturn, 1), some (.aload_n 0, 1), some (.aload_n 1, 1), some (.iload_n 2, 1), some (.iload_n 3, 1), some (.iload 4, 2), none, some (.invokevirtual 304, 3), none, none, some (.istore 8, 2), none, some (.aload_n 0, 1), some (.iload 4, 2), none, some (.invokevirtual 228, 3)] = true := by decide +kernel
theorem mDr256_2 : mDc1 prog_14_method_58_code 64 [none, none, some (.ifCond .eq 15, 3), none, none, some (.aload_n 0, 1), some (.getfield 22, 3), none, none, some (.iload 4, 2), none, some (.aaload, 1), some (.iconst 3, 1), some (.iaload, 1), some (.goto 4, 3), none, none, some (.iconst 0, 1), some (.istore 9, 2), none, some (.iconst 0, 1), some (.istore 10, 2), none, some (.aload_n 0, 1), some (.aload_n 1, 1), some (.iload_n 2, 1), some (.iaload, 1), some (.iload 4, 2), none, some (.invokevirtual 289, 3)] = true := by decide +kernel
theorem mDr256_3 : mDc1 prog_14_method_58_code 96 [some (.iload 4, 2), none, some (.if_icmp .eq 7, 3), none, none, some (.iconst 1, 1), some (.goto 4, 3), none, none, some (.iconst 0, 1), some (.istore 11, 2), none, some (.iload 8, 2), none, some (.ifCond .le 35, 3), none, none, some (.iload 11, 2), none, some (.ifCond .eq 30, 3), none, none, some (.aload_n 0, 1), some (.iload 4, 2), none, some (.invokevirtual 228, 3), none, none, some (.ifCond .eq 14, 3), none, none, some (.aload_n 0, 1)] = true := by decide +kernel
theorem mDr256_4 : mDc1 prog_14_method_58_code 128 [some (.getfield 43, 3), none, none, some (.iload 4, 2), none, some (.iaload, 1), some (.iconst 1, 1), some (.if_icmp .ne 10, 3), none, none, some (.sipush 400, 3), none, none, some (.iload 4, 2), none, some (.iadd, 1), some (.ireturn, 1), some (.iload 4, 2), none, some (.ifCond .ne 26, 3), none, none, some (.aload_n 0, 1), some (.iconst 0, 1), some (.aload_n 0, 1), some (.aload_n 1, 1), some (.iload_n 2, 1), some (.iload_n 3, 1), some (.invokevirtual 296, 3), none, none, some (.invokevirtual 307, 3)] = true := by decide +kernel
theorem mDr256_5 : mDc1 prog_14_method_58_code 160 [none, none, some (.istore 7, 2), none, some (.iload 7, 2), none, some (.iconst (-1), 1), some (.if_icmp .ne 6, 3), none, none, some (.bipush 100, 2), none, some (.ireturn, 1), some (.iload_n 2, 1), some (.istore 12, 2), none, some (.iload 12, 2), none, some (.iload_n 3, 1), some (.if_icmp .ge 102, 3), none, none, some (.aload_n 0, 1), some (.aload_n 1, 1), some (.iload 12, 2), none, some (.iaload, 1), some (.iload 4, 2), none, some (.invokevirtual 289, 3)] = true := by decide +kernel
theorem mDr256_6 : mDc1 prog_14_method_58_code 192 [some (.iload 4, 2), none, some (.if_icmp .ne 6, 3), none, none, some (.goto 69, 3), none, none, some (.aload_n 0, 1), some (.getfield 77, 3), none, none, some (.iload 4, 2), none, some (.aaload, 1), some (.iload 10, 2), none, some (.iload 10, 2), none, some (.ifCond .ne 8, 3), none, none, some (.iload 7, 2), none, some (.goto 26, 3), none, none, some (.aload_n 0, 1), some (.iload 4, 2), none, some (.aload_n 0, 1), some (.aload_n 1, 1)] = true := by decide +kernel
theorem mDr256_7 : mDc1 prog_14_method_58_code 224 [some (.iload 12, 2), none, some (.aload_n 0, 1), some (.aload_n 1, 1), some (.iload 12, 2), none, some (.iload_n 3, 1), some (.iload 4, 2), none, some (.invokevirtual 292, 3), none, none, some (.invokevirtual 296, 3), none, none, some (.invokevirtual 307, 3), none, none, some (.iastore, 1), some (.aload_n 0, 1), some (.getfield 77, 3), none, none, some (.iload 4, 2), none, some (.aaload, 1), some (.iload 10, 2), none, some (.iaload, 1), some (.iconst (-1), 1), some (.if_icmp .ne 9, 3)] = true := by decide +kernel
theorem mDr256_8 : mDc1 prog_14_method_58_code 256 [none, some (.bipush 100, 2), none, some (.iload 4, 2), none, some (.iadd, 1), some (.ireturn, 1), some (.iinc 10 1, 3), none, none, some (.aload_n 0, 1), some (.aload_n 1, 1), some (.iload 12, 2), none, some (.iload_n 3, 1), some (.iload 4, 2), none, some (.invokevirtual 292, 3), none, none, some (.istore 12, 2), none, some (.goto (-102), 3), none, none, some (.iconst 0, 1), some (.istore 10, 2), none, some (.iload_n 2, 1), some (.istore 12, 2), none, some (.iload 12, 2)] = true := by decide +kernel
theorem mDr256_9 : mDc1 prog_14_method_58_code 288 [none, some (.iload_n 3, 1), some (.if_icmp .ge 154, 3), none, none, some (.aload_n 0, 1), some (.aload_n 1, 1), some (.iload 12, 2), none, some (.iload_n 3, 1), some (.iload 4, 2), none, some (.invokevirtual 292, 3), none, none, some (.istore 13, 2), none, some (.aload_n 0, 1), some (.aload_n 1, 1), some (.iload 12, 2), none, some (.iaload, 1), some (.iload 4, 2), none, some (.invokevirtual 289, 3), none, none, some (.istore 14, 2), none, some (.iload 14, 2), none, some (.iload 4, 2)] = true := by decide +kernel
theorem mDr256_10 : mDc1 prog_14_method_58_code 320 [none, some (.if_icmp .ne 45, 3), none, none, some (.iload 12, 2), none, some (.istore 15, 2), none, some (.iload 15, 2), none, some (.iload 13, 2), none, some (.if_icmp .ge 31, 3), none, none, some (.aload_n 0, 1), some (.getfield 61, 3), none, none, some (.aload_n 1, 1), some (.iload 15, 2), none, some (.iaload, 1), some (.iload 5, 2), none, some (.iastore, 1), some (.aload_n 0, 1), some (.getfield 64, 3), none, none, some (.aload_n 1, 1), some (.iload 15, 2)] = true := by decide +kernel
theorem mDr256_11 : mDc1 prog_14_method_58_code 352 [none, some (.iaload, 1), some (.iload 7, 2), none, some (.iastore, 1), some (.iinc 15 1, 3), none, none, some (.goto (-32), 3), none, none, some (.goto 66, 3), none, none, some (.aload_n 0, 1), some (.aload_n 1, 1), some (.iload 12, 2), none, some (.iload 13, 2), none, some (.iload 14, 2), none, some (.iload 5, 2), none, some (.iload 8, 2), none, some (.ifCond .le 13, 3), none, none, some (.iload 9, 2), none, some (.iload 10, 2)] = true := by decide +kernel
theorem mDr256_12 : mDc1 prog_14_method_58_code 384 [none, some (.iconst 1, 1), some (.iadd, 1), some (.imul, 1), some (.goto 4, 3), none, none, some (.iconst 0, 1), some (.iadd, 1), some (.aload_n 0, 1), some (.getfield 22, 3), none, none, some (.iload 14, 2), none, some (.aaload, 1), some (.iconst 1, 1), some (.iaload, 1), some (.iadd, 1), some (.aload_n 0, 1), some (.getfield 77, 3), none, none, some (.iload 4, 2), none, some (.aaload, 1), some (.iload 10, 2), none, some (.iaload, 1), some (.invokevirtual 310, 3)] = true := by decide +kernel
theorem mDr256_13 : mDc1 prog_14_method_58_code 416 [some (.istore 15, 2), none, some (.iload 15, 2), none, some (.ifCond .eq 6, 3), none, none, some (.iload 15, 2), none, some (.ireturn, 1), some (.iinc 10 1, 3), none, none, some (.aload_n 0, 1), some (.aload_n 1, 1), some (.iload 12, 2), none, some (.iload_n 3, 1), some (.iload 4, 2), none, some (.invokevirtual 292, 3), none, none, some (.istore 12, 2), none, some (.goto (-154), 3), none, none, some (.iconst 0, 1), some (.ireturn, 1)] = true := by decide +kernel
theorem mDt256 : mDcP prog_14_method_58_code mct256 := by
  intro j c h
  unfold mct256 at h
  match j, h with
  | 0, h => cases h; exact mDr256_0
  | 1, h => cases h; exact mDr256_1
  | 2, h => cases h; exact mDr256_2
  | 3, h => cases h; exact mDr256_3
  | 4, h => cases h; exact mDr256_4
  | 5, h => cases h; exact mDr256_5
  | 6, h => cases h; exact mDr256_6
  | 7, h => cases h; exact mDr256_7
  | 8, h => cases h; exact mDr256_8
  | 9, h => cases h; exact mDr256_9
  | 10, h => cases h; exact mDr256_10
  | 11, h => cases h; exact mDr256_11
  | 12, h => cases h; exact mDr256_12
  | 13, h => cases h; exact mDr256_13
  | n + 14, h => simp at h
theorem mDr257_0 : mDc1 prog_14_method_19_code 0 [some (.aload_n 0, 1), some (.bipush 16, 2), none, some (.bipush 12, 2), none, some (.iconst 1, 1), some (.iconst 3, 1), some (.iconst 5, 1), some (.iconst 0, 1), some (.iconst 0, 1), some (.invokevirtual 180, 3), none, none, some (.ifCond .eq 5, 3), none, none, some (.iconst 0, 1), some (.ireturn, 1), some (.aload_n 0, 1), some (.bipush 6, 2), none, some (.bipush 15, 2), none, some (.bipush 18, 2), none, some (.bipush 11, 2), none, some (.iconst 0, 1), some (.iconst 0, 1), some (.iconst 0, 1), some (.invokevirtual 180, 3)] = true := by decide +kernel
theorem mDr257_1 : mDc1 prog_14_method_19_code 32 [none, some (.ifCond .eq 5, 3), none, none, some (.iconst 1, 1), some (.ireturn, 1), some (.aload_n 0, 1), some (.bipush 16, 2), none, some (.bipush 15, 2), none, some (.bipush 18, 2), none, some (.bipush 20, 2), none, some (.bipush 9, 2), none, some (.bipush 15, 2), none, some (.bipush 14, 2), none, some (.invokevirtual 180, 3), none, none, some (.ifCond .eq 5, 3), none, none, some (.iconst 2, 1), some (.ireturn, 1), some (.aload_n 0, 1), some (.bipush 12, 2)] = true := by decide +kernel
theorem mDr257_2 : mDc1 prog_14_method_19_code 64 [some (.iconst 1, 1), some (.bipush 20, 2), none, some (.iconst 5, 1), some (.iconst 0, 1), some (.iconst 0, 1), some (.iconst 0, 1), some (.invokevirtual 180, 3), none, none, some (.ifCond .eq 5, 3), none, none, some (.iconst 3, 1), some (.ireturn, 1), some (.aload_n 0, 1), some (.iconst 5, 1), some (.bipush 14, 2), none, some (.bipush 7, 2), none, some (.bipush 9, 2), none, some (.bipush 14, 2), none, some (.iconst 5, 1), some (.iconst 0, 1), some (.invokevirtual 180, 3), none, none, some (.ifCond .eq 5, 3)] = true := by decide +kernel
theorem mDr257_3 : mDc1 prog_14_method_19_code 96 [none, some (.iconst 4, 1), some (.ireturn, 1), some (.aload_n 0, 1), some (.bipush 23, 2), none, some (.iconst 1, 1), some (.bipush 14, 2), none, some (.bipush 20, 2), none, some (.iconst 0, 1), some (.iconst 0, 1), some (.iconst 0, 1), some (.invokevirtual 180, 3), none, none, some (.ifCond .eq 7, 3), none, none, some (.iconst 5, 1), some (.goto 4, 3), none, none, some (.iconst (-1), 1), some (.ireturn, 1)] = true := by decide +kernel
theorem mDt257 : mDcP prog_14_method_19_code mct257 := by
  intro j c h
  unfold mct257 at h
  match j, h with
  | 0, h => cases h; exact mDr257_0
  | 1, h => cases h; exact mDr257_1
  | 2, h => cases h; exact mDr257_2
  | 3, h => cases h; exact mDr257_3
  | n + 4, h => simp at h
theorem mDr258_0 : mDc1 prog_14_method_23_code 0 [some (.aload_n 0, 1), some (.iconst 0, 1), some (.putfield 128, 3), none, none, some (.aload_n 0, 1), some (.iload_n 1, 1), some (.iconst 0, 1), some (.aload_n 0, 1), some (.getfield 131, 3), none, none, some (.invokestatic 162, 3), none, none, some (.ifCond .ne 7, 3), none, none, some (.iconst 1, 1), some (.goto 4, 3), none, none, some (.iconst 0, 1), some (.iconst 1, 1), some (.invokevirtual 205, 3), none, none, some (.ifCond .eq 5, 3), none, none, some (.iconst 0, 1), some (.ireturn, 1)] = true := by decide +kernel
theorem mDr258_1 : mDc1 prog_14_method_23_code 32 [some (.aload_n 0, 1), some (.iconst 0, 1), some (.putfield 131, 3), none, none, some (.aload_n 0, 1), some (.iload_n 1, 1), some (.putfield 134, 3), none, none, some (.aload_n 0, 1), some (.iconst 0, 1), some (.putfield 137, 3), none, none, some (.aload_n 0, 1), some (.iconst 0, 1), some (.putfield 144, 3), none, none, some (.aload_n 0, 1), some (.iconst (-1), 1), some (.putfield 147, 3), none, none, some (.aload_n 0, 1), some (.invokevirtual 209, 3), none, none, some (.aload_n 0, 1), some (.invokevirtual 150, 3)] = true := by decide +kernel
theorem mDr258_2 : mDc1 prog_14_method_23_code 64 [none, some (.aload_n 0, 1), some (.getfield 144, 3), none, none, some (.ifCond .ne 25, 3), none, none, some (.aload_n 0, 1), some (.getfield 137, 3), none, none, some (.aload_n 0, 1), some (.getfield 134, 3), none, none, some (.if_icmp .ge 14, 3), none, none, some (.aload_n 0, 1), some (.invokevirtual 212, 3), none, none, some (.aload_n 0, 1), some (.invokevirtual 150, 3), none, none, some (.goto (-26), 3), none, none, some (.aload_n 0, 1), some (.aload_n 0, 1)] = true := by decide +kernel
theorem mDr258_3 : mDc1 prog_14_method_23_code 96 [some (.getfield 147, 3), none, none, some (.putfield 9, 3), none, none, some (.aload_n 0, 1), some (.getfield 144, 3), none, none, some (.ifCond .eq 11, 3), none, none, some (.aload_n 0, 1), some (.getfield 144, 3), none, none, some (.bipush 10, 2), none, some (.isub, 1), some (.ireturn, 1), some (.iconst 0, 1), some (.istore_n 2, 1), some (.iload_n 2, 1), some (.iconst 4, 1), some (.if_icmp .ge 23, 3), none, none, some (.aload_n 0, 1), some (.getfield 17, 3)] = true := by decide +kernel
theorem mDr258_4 : mDc1 prog_14_method_23_code 128 [some (.iload_n 2, 1), some (.aload_n 0, 1), some (.getfield 17, 3), none, none, some (.iconst 4, 1), some (.iload_n 2, 1), some (.iadd, 1), some (.iaload, 1), some (.iastore, 1), some (.iinc 2 1, 3), none, none, some (.goto (-22), 3), none, none, some (.iconst 0, 1), some (.istore_n 2, 1), some (.iload_n 2, 1), some (.bipush 12, 2), none, some (.if_icmp .ge 41, 3), none, none, some (.iconst 0, 1), some (.istore_n 3, 1), some (.iload_n 3, 1), some (.iconst 5, 1), some (.if_icmp .ge 28, 3), none, none, some (.aload_n 0, 1)] = true := by decide +kernel
theorem mDr258_5 : mDc1 prog_14_method_23_code 160 [some (.getfield 22, 3), none, none, some (.iload_n 2, 1), some (.aaload, 1), some (.iload_n 3, 1), some (.aload_n 0, 1), some (.getfield 22, 3), none, none, some (.bipush 12, 2), none, some (.iload_n 2, 1), some (.iadd, 1), some (.aaload, 1), some (.iload_n 3, 1), some (.iaload, 1), some (.iastore, 1), some (.iinc 3 1, 3), none, none, some (.goto (-27), 3), none, none, some (.iinc 2 1, 3), none, none, some (.goto (-41), 3), none, none, some (.iconst 0, 1), some (.istore_n 2, 1)] = true := by decide +kernel
theorem mDr258_6 : mDc1 prog_14_method_23_code 192 [some (.iload_n 2, 1), some (.bipush 8, 2), none, some (.if_icmp .ge 41, 3), none, none, some (.iconst 0, 1), some (.istore_n 3, 1), some (.iload_n 3, 1), some (.iconst 4, 1), some (.if_icmp .ge 28, 3), none, none, some (.aload_n 0, 1), some (.getfield 25, 3), none, none, some (.iload_n 2, 1), some (.aaload, 1), some (.iload_n 3, 1), some (.aload_n 0, 1), some (.getfield 25, 3), none, none, some (.bipush 8, 2), none, some (.iload_n 2, 1), some (.iadd, 1), some (.aaload, 1), some (.iload_n 3, 1), some (.iaload, 1), some (.iastore, 1)] = true := by decide +kernel
theorem mDr258_7 : mDc1 prog_14_method_23_code 224 [some (.iinc 3 1, 3), none, none, some (.goto (-27), 3), none, none, some (.iinc 2 1, 3), none, none, some (.goto (-41), 3), none, none, some (.iconst 0, 1), some (.istore_n 2, 1), some (.iload_n 2, 1), some (.bipush 8, 2), none, some (.if_icmp .ge 41, 3), none, none, some (.iconst 0, 1), some (.istore_n 3, 1), some (.iload_n 3, 1), some (.iconst 2, 1), some (.if_icmp .ge 28, 3), none, none, some (.aload_n 0, 1), some (.getfield 28, 3), none, none, some (.iload_n 2, 1)] = true := by decide +kernel
theorem mDr258_8 : mDc1 prog_14_method_23_code 256 [some (.aaload, 1), some (.iload_n 3, 1), some (.aload_n 0, 1), some (.getfield 28, 3), none, none, some (.bipush 8, 2), none, some (.iload_n 2, 1), some (.iadd, 1), some (.aaload, 1), some (.iload_n 3, 1), some (.iaload, 1), some (.iastore, 1), some (.iinc 3 1, 3), none, none, some (.goto (-27), 3), none, none, some (.iinc 2 1, 3), none, none, some (.goto (-41), 3), none, none, some (.iconst 0, 1), some (.istore_n 2, 1), some (.iload_n 2, 1), some (.bipush 12, 2), none, some (.if_icmp .ge 41, 3)] = true := by decide +kernel
theorem mDr258_9 : mDc1 prog_14_method_23_code 288 [none, none, some (.iconst 0, 1), some (.istore_n 3, 1), some (.iload_n 3, 1), some (.iconst 3, 1), some (.if_icmp .ge 28, 3), none, none, some (.aload_n 0, 1), some (.getfield 31, 3), none, none, some (.iload_n 2, 1), some (.aaload, 1), some (.iload_n 3, 1), some (.aload_n 0, 1), some (.getfield 31, 3), none, none, some (.bipush 12, 2), none, some (.iload_n 2, 1), some (.iadd, 1), some (.aaload, 1), some (.iload_n 3, 1), some (.iaload, 1), some (.iastore, 1), some (.iinc 3 1, 3), none, none, some (.goto (-27), 3)] = true := by decide +kernel
theorem mDr258_10 : mDc1 prog_14_method_23_code 320 [none, none, some (.iinc 2 1, 3), none, none, some (.goto (-41), 3), none, none, some (.aload_n 0, 1), some (.iconst 1, 1), some (.putfield 215, 3), none, none, some (.aload_n 0, 1), some (.iconst 0, 1), some (.putfield 219, 3), none, none, some (.aload_n 0, 1), some (.iconst 0, 1), some (.putfield 222, 3), none, none, some (.aload_n 0, 1), some (.iconst 0, 1), some (.putfield 225, 3), none, none, some (.iconst 0, 1), some (.istore_n 2, 1), some (.iload_n 2, 1), some (.bipush 12, 2)] = true := by decide +kernel
theorem mDr258_11 : mDc1 prog_14_method_23_code 352 [none, some (.if_icmp .ge 23, 3), none, none, some (.aload_n 0, 1), some (.getfield 43, 3), none, none, some (.iload_n 2, 1), some (.iconst 0, 1), some (.iastore, 1), some (.aload_n 0, 1), some (.getfield 46, 3), none, none, some (.iload_n 2, 1), some (.iconst 0, 1), some (.iastore, 1), some (.iinc 2 1, 3), none, none, some (.goto (-23), 3), none, none, some (.iconst 0, 1), some (.istore_n 2, 1), some (.iload_n 2, 1), some (.bipush 8, 2), none, some (.if_icmp .ge 26, 3)] = true := by decide +kernel
theorem mDr258_12 : mDc1 prog_14_method_23_code 384 [some (.aload_n 0, 1), some (.getfield 49, 3), none, none, some (.iload_n 2, 1), some (.sipush 1080, 3), none, none, some (.iastore, 1), some (.aload_n 0, 1), some (.getfield 52, 3), none, none, some (.iload_n 2, 1), some (.bipush 127, 2), none, some (.iastore, 1), some (.iinc 2 1, 3), none, none, some (.goto (-26), 3), none, none, some (.aload_n 0, 1), some (.getfield 17, 3), none, none, some (.iconst 0, 1), some (.iaload, 1), some (.ireturn, 1)] = true := by decide +kernel
theorem mDt258 : mDcP prog_14_method_23_code mct258 := by
  intro j c h
  unfold mct258 at h
  match j, h with
  | 0, h => cases h; exact mDr258_0
  | 1, h => cases h; exact mDr258_1
  | 2, h => cases h; exact mDr258_2
  | 3, h => cases h; exact mDr258_3
  | 4, h => cases h; exact mDr258_4
  | 5, h => cases h; exact mDr258_5
  | 6, h => cases h; exact mDr258_6
  | 7, h => cases h; exact mDr258_7
  | 8, h => cases h; exact mDr258_8
  | 9, h => cases h; exact mDr258_9
  | 10, h => cases h; exact mDr258_10
  | 11, h => cases h; exact mDr258_11
  | 12, h => cases h; exact mDr258_12
  | n + 13, h => simp at h
theorem mDr259_0 : mDc1 prog_14_method_80_code 0 [some (.bipush 8, 2), none, some (.istore_n 2, 1), some (.iconst 0, 1), some (.istore_n 3, 1), some (.iload_n 3, 1), some (.aload_n 0, 1), some (.getfield 104, 3), none, none, some (.iload_n 1, 1), some (.iaload, 1), some (.if_icmp .ge 22, 3), none, none, some (.iload_n 2, 1), some (.aload_n 0, 1), some (.getfield 101, 3), none, none, some (.iload_n 1, 1), some (.aaload, 1), some (.iload_n 3, 1), some (.iaload, 1), some (.invokestatic 259, 3), none, none, some (.istore_n 2, 1), some (.iinc 3 1, 3), none, none, some (.goto (-26), 3)] = true := by decide +kernel
theorem mDr259_1 : mDc1 prog_14_method_80_code 32 [none, none, some (.iload_n 2, 1), some (.ireturn, 1)] = true := by decide +kernel
theorem mDt259 : mDcP prog_14_method_80_code mct259 := by
  intro j c h
  unfold mct259 at h
  match j, h with
  | 0, h => cases h; exact mDr259_0
  | 1, h => cases h; exact mDr259_1
  | n + 2, h => simp at h
theorem mDr260_0 : mDc1 prog_14_method_56_code 0 [some (.iconst 0, 1), some (.istore 4, 2), none, some (.iload_n 2, 1), some (.istore 5, 2), none, some (.iload 5, 2), none, some (.iload_n 3, 1), some (.if_icmp .ge 25, 3), none, none, some (.iload 4, 2), none, some (.aload_n 0, 1), some (.getfield 25, 3), none, none, some (.aload_n 1, 1), some (.iload 5, 2), none, some (.iaload, 1), some (.aaload, 1), some (.iconst 1, 1), some (.iaload, 1), some (.iadd, 1), some (.istore 4, 2), none, some (.iinc 5 1, 3), none, none, some (.goto (-25), 3)] = true := by decide +kernel
theorem mDr260_1 : mDc1 prog_14_method_56_code 32 [none, none, some (.iload 4, 2), none, some (.ireturn, 1)] = true := by decide +kernel
theorem mDt260 : mDcP prog_14_method_56_code mct260 := by
  intro j c h
  unfold mct260 at h
  match j, h with
  | 0, h => cases h; exact mDr260_0
  | 1, h => cases h; exact mDr260_1
  | n + 2, h => simp at h
theorem mDr261_0 : mDc1 prog_14_method_5_code 0 [some (.iload_n 0, 1), some (.iload_n 1, 1), some (.if_icmp .ge 7, 3), none, none, some (.iload_n 0, 1), some (.goto 4, 3), none, none, some (.iload_n 1, 1), some (.ireturn, 1)] = true := by decide +kernel
theorem mDt261 : mDcP prog_14_method_5_code mct261 := by
  intro j c h
  unfold mct261 at h
  match j, h with
  | 0, h => cases h; exact mDr261_0
  | n + 1, h => simp at h
theorem mDr262_0 : mDc1 prog_14_method_112_code 0 [some (.aload_n 0, 1), some (.iconst 0, 1), some (.putfield 128, 3), none, none, some (.aload_n 0, 1), some (.iload_n 1, 1), some (.iconst 1, 1), some (.iconst 3, 1), some (.invokestatic 162, 3), none, none, some (.ifCond .eq 12, 3), none, none, some (.iload_n 2, 1), some (.iconst 0, 1), some (.iconst 1, 1), some (.invokestatic 162, 3), none, none, some (.ifCond .ne 7, 3), none, none, some (.iconst 1, 1), some (.goto 4, 3), none, none, some (.iconst 0, 1), some (.iconst 1, 1), some (.invokevirtual 205, 3)] = true := by decide +kernel
theorem mDr262_1 : mDc1 prog_14_method_112_code 32 [none, some (.ifCond .eq 5, 3), none, none, some (.iconst 0, 1), some (.ireturn, 1), some (.iconst (-1), 1), some (.istore_n 3, 1), some (.iconst 0, 1), some (.istore 4, 2), none, some (.iconst 1, 1), some (.istore 5, 2), none, some (.iload 5, 2), none, some (.iconst 1, 1), some (.aload_n 0, 1), some (.getfield 17, 3), none, none, some (.iconst 0, 1), some (.iaload, 1), some (.ishl, 1), some (.if_icmp .ge 67, 3), none, none, some (.iload 5, 2), none, some (.invokestatic 404, 3)] = true := by decide +kernel
theorem mDr262_2 : mDc1 prog_14_method_112_code 64 [some (.iload_n 1, 1), some (.if_icmp .eq 6, 3), none, none, some (.goto 49, 3), none, none, some (.aload_n 0, 1), some (.iload 5, 2), none, some (.invokevirtual 413, 3), none, none, some (.istore 6, 2), none, some (.iload_n 3, 1), some (.iconst (-1), 1), some (.if_icmp .eq 29, 3), none, none, some (.iload 6, 2), none, some (.iload 4, 2), none, some (.if_icmp .gt 29, 3), none, none, some (.iload 6, 2), none, some (.iload 4, 2), none, some (.if_icmp .ne 15, 3)] = true := by decide +kernel
theorem mDr262_3 : mDc1 prog_14_method_112_code 96 [none, none, some (.iload 5, 2), none, some (.iload_n 3, 1), some (.invokestatic 416, 3), none, none, some (.ifCond .ne 6, 3), none, none, some (.goto 10, 3), none, none, some (.iload 5, 2), none, some (.istore_n 3, 1), some (.iload 6, 2), none, some (.istore 4, 2), none, some (.iinc 5 1, 3), none, none, some (.goto (-74), 3), none, none, some (.iload_n 3, 1), some (.iconst (-1), 1), some (.if_icmp .ne 7, 3)] = true := by decide +kernel
theorem mDr262_4 : mDc1 prog_14_method_112_code 128 [some (.iconst (-1), 1), some (.goto 13, 3), none, none, some (.iload_n 2, 1), some (.ifCond .ne 8, 3), none, none, some (.iload 4, 2), none, some (.goto 4, 3), none, none, some (.iload_n 3, 1), some (.ireturn, 1)] = true := by decide +kernel
theorem mDt262 : mDcP prog_14_method_112_code mct262 := by
  intro j c h
  unfold mct262 at h
  match j, h with
  | 0, h => cases h; exact mDr262_0
  | 1, h => cases h; exact mDr262_1
  | 2, h => cases h; exact mDr262_2
  | 3, h => cases h; exact mDr262_3
  | 4, h => cases h; exact mDr262_4
  | n + 5, h => simp at h
theorem mDr263_0 : mDc1 prog_14_method_110_code 0 [some (.iconst 0, 1), some (.istore_n 2, 1), some (.iconst 0, 1), some (.istore_n 3, 1), some (.iload_n 3, 1), some (.aload_n 0, 1), some (.getfield 17, 3), none, none, some (.iconst 0, 1), some (.iaload, 1), some (.if_icmp .ge 88, 3), none, none, some (.aload_n 0, 1), some (.iload_n 3, 1), some (.invokevirtual 228, 3), none, none, some (.ifCond .ne 6, 3), none, none, some (.goto 71, 3), none, none, some (.iconst (-1), 1), some (.istore 4, 2), none, some (.iconst 0, 1), some (.istore 5, 2), none, some (.iload 5, 2)] = true := by decide +kernel
theorem mDr263_1 : mDc1 prog_14_method_110_code 32 [none, some (.aload_n 0, 1), some (.getfield 17, 3), none, none, some (.iconst 0, 1), some (.iaload, 1), some (.if_icmp .ge 49, 3), none, none, some (.iload_n 1, 1), some (.iload 5, 2), none, some (.ishr, 1), some (.iconst 1, 1), some (.iand, 1), some (.iconst 1, 1), some (.if_icmp .ne 33, 3), none, none, some (.iload 4, 2), none, some (.iconst (-1), 1), some (.if_icmp .ne 13, 3), none, none, some (.aload_n 0, 1), some (.iload_n 3, 1), some (.iload 5, 2), none, some (.invokevirtual 240, 3)] = true := by decide +kernel
theorem mDr263_2 : mDc1 prog_14_method_110_code 64 [none, some (.goto 15, 3), none, none, some (.iload 4, 2), none, some (.aload_n 0, 1), some (.iload_n 3, 1), some (.iload 5, 2), none, some (.invokevirtual 240, 3), none, none, some (.invokestatic 259, 3), none, none, some (.istore 4, 2), none, some (.iinc 5 1, 3), none, none, some (.goto (-54), 3), none, none, some (.iload_n 2, 1), some (.iload 4, 2), none, some (.iadd, 1), some (.istore_n 2, 1), some (.iinc 3 1, 3)] = true := by decide +kernel
theorem mDr263_3 : mDc1 prog_14_method_110_code 96 [some (.goto (-92), 3), none, none, some (.iload_n 2, 1), some (.ireturn, 1)] = true := by decide +kernel
theorem mDt263 : mDcP prog_14_method_110_code mct263 := by
  intro j c h
  unfold mct263 at h
  match j, h with
  | 0, h => cases h; exact mDr263_0
  | 1, h => cases h; exact mDr263_1
  | 2, h => cases h; exact mDr263_2
  | 3, h => cases h; exact mDr263_3
  | n + 4, h => simp at h
theorem mDr264_0 : mDc1 prog_14_method_40_code 0 [some (.iload_n 1, 1), some (.istore_n 3, 1), some (.iconst 0, 1), some (.istore 4, 2), none, some (.iload 4, 2), none, some (.aload_n 0, 1), some (.getfield 17, 3), none, none, some (.iconst 1, 1), some (.iaload, 1), some (.if_icmp .ge 41, 3), none, none, some (.iload_n 1, 1), some (.iload 4, 2), none, some (.ishr, 1), some (.iconst 1, 1), some (.iand, 1), some (.iconst 1, 1), some (.if_icmp .ne 25, 3), none, none, some (.aload_n 0, 1), some (.getfield 25, 3), none, none, some (.iload 4, 2)] = true := by decide +kernel
theorem mDr264_1 : mDc1 prog_14_method_40_code 32 [some (.aaload, 1), some (.iconst 0, 1), some (.iaload, 1), some (.iload_n 2, 1), some (.if_icmp .ne 12, 3), none, none, some (.iload_n 3, 1), some (.iconst 1, 1), some (.iload 4, 2), none, some (.ishl, 1), some (.iconst (-1), 1), some (.ixor, 1), some (.iand, 1), some (.istore_n 3, 1), some (.iinc 4 1, 3), none, none, some (.goto (-46), 3), none, none, some (.iload_n 1, 1), some (.iload_n 3, 1), some (.iconst (-1), 1), some (.ixor, 1), some (.iand, 1), some (.istore 4, 2), none, some (.iload_n 3, 1), some (.ifCond .eq 50, 3)] = true := by decide +kernel
theorem mDr264_2 : mDc1 prog_14_method_40_code 64 [none, some (.aload_n 0, 1), some (.iload_n 2, 1), some (.aload_n 0, 1), some (.getfield 25, 3), none, none, some (.aload_n 0, 1), some (.iload_n 3, 1), some (.iload_n 2, 1), some (.invokevirtual 256, 3), none, none, some (.aaload, 1), some (.iconst 0, 1), some (.iaload, 1), some (.invokevirtual 262, 3), none, none, some (.istore 5, 2), none, some (.aload_n 0, 1), some (.iload_n 3, 1), some (.iload 5, 2), none, some (.invokevirtual 247, 3), none, none, some (.istore 6, 2), none, some (.aload_n 0, 1), some (.iload 6, 2)] = true := by decide +kernel
theorem mDr264_3 : mDc1 prog_14_method_40_code 96 [none, some (.iload 5, 2), none, some (.invokevirtual 265, 3), none, none, some (.iload_n 3, 1), some (.iload 6, 2), none, some (.iconst (-1), 1), some (.ixor, 1), some (.iand, 1), some (.istore_n 3, 1), some (.goto (-48), 3), none, none, some (.iconst 0, 1), some (.istore 5, 2), none, some (.iload 5, 2), none, some (.aload_n 0, 1), some (.getfield 17, 3), none, none, some (.iconst 1, 1), some (.iaload, 1), some (.if_icmp .ge 43, 3), none, none, some (.iload 4, 2)] = true := by decide +kernel
theorem mDr264_4 : mDc1 prog_14_method_40_code 128 [some (.iload 5, 2), none, some (.ishr, 1), some (.iconst 1, 1), some (.iand, 1), some (.ifCond .ne 6, 3), none, none, some (.goto 24, 3), none, none, some (.aload_n 0, 1), some (.getfield 89, 3), none, none, some (.aload_n 0, 1), some (.getfield 268, 3), none, none, some (.iload 5, 2), none, some (.iastore, 1), some (.aload_n 0, 1), some (.dup, 1), some (.getfield 268, 3), none, none, some (.iconst 1, 1), some (.iadd, 1), some (.putfield 268, 3)] = true := by decide +kernel
theorem mDr264_5 : mDc1 prog_14_method_40_code 160 [some (.iinc 5 1, 3), none, none, some (.goto (-48), 3), none, none, some (.return_, 1)] = true := by decide +kernel
theorem mDt264 : mDcP prog_14_method_40_code mct264 := by
  intro j c h
  unfold mct264 at h
  match j, h with
  | 0, h => cases h; exact mDr264_0
  | 1, h => cases h; exact mDr264_1
  | 2, h => cases h; exact mDr264_2
  | 3, h => cases h; exact mDr264_3
  | 4, h => cases h; exact mDr264_4
  | 5, h => cases h; exact mDr264_5
  | n + 6, h => simp at h
theorem mDr265_0 : mDc1 prog_14_method_41_code 0 [some (.aload_n 0, 1), some (.iconst 0, 1), some (.putfield 268, 3), none, none, some (.iload_n 1, 1), some (.ifCond .eq 9, 3), none, none, some (.aload_n 0, 1), some (.iload_n 1, 1), some (.iconst 0, 1), some (.invokevirtual 265, 3), none, none, some (.return_, 1)] = true := by decide +kernel
theorem mDt265 : mDcP prog_14_method_41_code mct265 := by
  intro j c h
  unfold mct265 at h
  match j, h with
  | 0, h => cases h; exact mDr265_0
  | n + 1, h => simp at h
theorem mDr266_0 : mDc1 prog_14_method_93_code 0 [some (.aload_n 0, 1), some (.iconst 0, 1), some (.putfield 128, 3), none, none, some (.aload_n 0, 1), some (.invokevirtual 387, 3), none, none, some (.lreturn, 1)] = true := by decide +kernel
theorem mDt266 : mDcP prog_14_method_93_code mct266 := by
  intro j c h
  unfold mct266 at h
  match j, h with
  | 0, h => cases h; exact mDr266_0
  | n + 1, h => simp at h
theorem mDr267_0 : mDc1 prog_14_method_92_code 0 [some (.lconst 0, 1), some (.lstore_n 1, 1), some (.iconst 0, 1), some (.istore_n 3, 1), some (.iload_n 3, 1), some (.iconst 1, 1), some (.aload_n 0, 1), some (.getfield 17, 3), none, none, some (.iconst 1, 1), some (.iaload, 1), some (.ishl, 1), some (.if_icmp .ge 146, 3), none, none, some (.lconst 1, 1), some (.lstore 4, 2), none, some (.iconst 1, 1), some (.istore 6, 2), none, some (.iconst 0, 1), some (.istore 7, 2), none, some (.iload 7, 2), none, some (.aload_n 0, 1), some (.getfield 17, 3), none, none, some (.iconst 1, 1)] = true := by decide +kernel
theorem mDr267_1 : mDc1 prog_14_method_92_code 32 [some (.iaload, 1), some (.if_icmp .ge 103, 3), none, none, some (.iload_n 3, 1), some (.iload 7, 2), none, some (.ishr, 1), some (.iconst 1, 1), some (.iand, 1), some (.iconst 1, 1), some (.if_icmp .ne 7, 3), none, none, some (.iconst 1, 1), some (.goto 4, 3), none, none, some (.iconst 0, 1), some (.istore 8, 2), none, some (.iload 6, 2), none, some (.ifCond .eq 24, 3), none, none, some (.iload 8, 2), none, some (.ifCond .eq 15, 3), none, none, some (.aload_n 0, 1)] = true := by decide +kernel
theorem mDr267_2 : mDc1 prog_14_method_92_code 64 [some (.getfield 25, 3), none, none, some (.iload 7, 2), none, some (.aaload, 1), some (.iconst 2, 1), some (.iaload, 1), some (.ifCond .le 7, 3), none, none, some (.iconst 1, 1), some (.goto 4, 3), none, none, some (.iconst 0, 1), some (.istore 6, 2), none, some (.aload_n 0, 1), some (.getfield 25, 3), none, none, some (.iload 7, 2), none, some (.aaload, 1), some (.iconst 2, 1), some (.iaload, 1), some (.ifCond .le 39, 3), none, none, some (.lload 4, 2)] = true := by decide +kernel
theorem mDr267_3 : mDc1 prog_14_method_92_code 96 [some (.iload 8, 2), none, some (.ifCond .eq 16, 3), none, none, some (.aload_n 0, 1), some (.getfield 25, 3), none, none, some (.iload 7, 2), none, some (.aaload, 1), some (.iconst 2, 1), some (.iaload, 1), some (.i2l, 1), some (.goto 16, 3), none, none, some (.bipush 20, 2), none, some (.aload_n 0, 1), some (.getfield 25, 3), none, none, some (.iload 7, 2), none, some (.aaload, 1), some (.iconst 2, 1), some (.iaload, 1), some (.isub, 1), some (.i2l, 1), some (.lmul, 1)] = true := by decide +kernel
theorem mDr267_4 : mDc1 prog_14_method_92_code 128 [some (.lstore 4, 2), none, some (.iinc 7 1, 3), none, none, some (.goto (-108), 3), none, none, some (.iload 6, 2), none, some (.ifCond .eq 15, 3), none, none, some (.lload_n 1, 1), some (.lload 4, 2), none, some (.aload_n 0, 1), some (.iload_n 3, 1), some (.invokevirtual 384, 3), none, none, some (.i2l, 1), some (.lmul, 1), some (.ladd, 1), some (.lstore_n 1, 1), some (.iinc 3 1, 3), none, none, some (.goto (-152), 3), none, none, some (.lload_n 1, 1)] = true := by decide +kernel
theorem mDr267_5 : mDc1 prog_14_method_92_code 160 [some (.lreturn, 1)] = true := by decide +kernel
theorem mDt267 : mDcP prog_14_method_92_code mct267 := by
  intro j c h
  unfold mct267 at h
  match j, h with
  | 0, h => cases h; exact mDr267_0
  | 1, h => cases h; exact mDr267_1
  | 2, h => cases h; exact mDr267_2
  | 3, h => cases h; exact mDr267_3
  | 4, h => cases h; exact mDr267_4
  | 5, h => cases h; exact mDr267_5
  | n + 6, h => simp at h
theorem mDr268_0 : mDc1 prog_14_method_6_code 0 [some (.iload_n 0, 1), some (.iload_n 1, 1), some (.if_icmp .le 7, 3), none, none, some (.iload_n 0, 1), some (.goto 4, 3), none, none, some (.iload_n 1, 1), some (.ireturn, 1)] = true := by decide +kernel
theorem mDt268 : mDcP prog_14_method_6_code mct268 := by
  intro j c h
  unfold mct268 at h
  match j, h with
  | 0, h => cases h; exact mDr268_0
  | n + 1, h => simp at h
theorem mDr269_0 : mDc1 prog_14_method_120_code 0 [some (.iload_n 3, 1), some (.ifCond .ne 15, 3), none, none, some (.aload_n 0, 1), some (.getfield 125, 3), none, none, some (.iload_n 1, 1), some (.aaload, 1), some (.aload_n 0, 1), some (.getfield 429, 3), none, none, some (.iload_n 2, 1), some (.iastore, 1), some (.aload_n 0, 1), some (.dup, 1), some (.getfield 429, 3), none, none, some (.iconst 1, 1), some (.iadd, 1), some (.putfield 429, 3), none, none, some (.aload_n 0, 1), some (.getfield 125, 3), none, none, some (.iload_n 1, 1), some (.aaload, 1)] = true := by decide +kernel
theorem mDr269_1 : mDc1 prog_14_method_120_code 32 [some (.aload_n 0, 1), some (.getfield 429, 3), none, none, some (.iconst 1, 1), some (.isub, 1), some (.iaload, 1), some (.ireturn, 1)] = true := by decide +kernel
theorem mDt269 : mDcP prog_14_method_120_code mct269 := by
  intro j c h
  unfold mct269 at h
  match j, h with
  | 0, h => cases h; exact mDr269_0
  | 1, h => cases h; exact mDr269_1
  | n + 2, h => simp at h
theorem mDr270_0 : mDc1 prog_14_method_122_code 0 [some (.aload_n 0, 1), some (.iconst 0, 1), some (.putfield 429, 3), none, none, some (.aload_n 0, 1), some (.aload_n 0, 1), some (.iload_n 1, 1), some (.aload_n 0, 1), some (.getfield 219, 3), none, none, some (.iload_n 2, 1), some (.invokevirtual 432, 3), none, none, some (.putfield 219, 3), none, none, some (.aload_n 0, 1), some (.aload_n 0, 1), some (.iload_n 1, 1), some (.aload_n 0, 1), some (.getfield 222, 3), none, none, some (.iload_n 2, 1), some (.invokevirtual 432, 3), none, none, some (.putfield 222, 3)] = true := by decide +kernel
theorem mDr270_1 : mDc1 prog_14_method_122_code 32 [none, some (.aload_n 0, 1), some (.iload_n 1, 1), some (.aload_n 0, 1), some (.getfield 37, 3), none, none, some (.iload_n 2, 1), some (.invokevirtual 436, 3), none, none, some (.aload_n 0, 1), some (.iload_n 1, 1), some (.aload_n 0, 1), some (.getfield 40, 3), none, none, some (.iload_n 2, 1), some (.invokevirtual 436, 3), none, none, some (.aload_n 0, 1), some (.iload_n 1, 1), some (.aload_n 0, 1), some (.getfield 43, 3), none, none, some (.iload_n 2, 1), some (.invokevirtual 436, 3), none, none, some (.aload_n 0, 1)] = true := by decide +kernel
theorem mDr270_2 : mDc1 prog_14_method_122_code 64 [some (.iload_n 1, 1), some (.aload_n 0, 1), some (.getfield 46, 3), none, none, some (.iload_n 2, 1), some (.invokevirtual 436, 3), none, none, some (.aload_n 0, 1), some (.iload_n 1, 1), some (.aload_n 0, 1), some (.getfield 49, 3), none, none, some (.iload_n 2, 1), some (.invokevirtual 436, 3), none, none, some (.aload_n 0, 1), some (.iload_n 1, 1), some (.aload_n 0, 1), some (.getfield 52, 3), none, none, some (.iload_n 2, 1), some (.invokevirtual 436, 3), none, none, some (.iconst 0, 1), some (.istore_n 3, 1), some (.iload_n 3, 1)] = true := by decide +kernel
theorem mDr270_3 : mDc1 prog_14_method_122_code 96 [some (.iconst 4, 1), some (.if_icmp .ge 21, 3), none, none, some (.aload_n 0, 1), some (.iload_n 1, 1), some (.aload_n 0, 1), some (.getfield 34, 3), none, none, some (.iload_n 3, 1), some (.aaload, 1), some (.iload_n 2, 1), some (.invokevirtual 436, 3), none, none, some (.iinc 3 1, 3), none, none, some (.goto (-20), 3), none, none, some (.iconst 0, 1), some (.istore_n 3, 1), some (.iload_n 3, 1), some (.bipush 14, 2), none, some (.if_icmp .ge 21, 3), none, none, some (.aload_n 0, 1), some (.iload_n 1, 1)] = true := by decide +kernel
theorem mDr270_4 : mDc1 prog_14_method_122_code 128 [some (.aload_n 0, 1), some (.getfield 55, 3), none, none, some (.iload_n 3, 1), some (.aaload, 1), some (.iload_n 2, 1), some (.invokevirtual 436, 3), none, none, some (.iinc 3 1, 3), none, none, some (.goto (-21), 3), none, none, some (.return_, 1)] = true := by decide +kernel
theorem mDt270 : mDcP prog_14_method_122_code mct270 := by
  intro j c h
  unfold mct270 at h
  match j, h with
  | 0, h => cases h; exact mDr270_0
  | 1, h => cases h; exact mDr270_1
  | 2, h => cases h; exact mDr270_2
  | 3, h => cases h; exact mDr270_3
  | 4, h => cases h; exact mDr270_4
  | n + 5, h => simp at h
theorem mDr271_0 : mDc1 prog_14_method_121_code 0 [some (.iconst 0, 1), some (.istore 4, 2), none, some (.iload 4, 2), none, some (.aload_n 2, 1), some (.arraylength, 1), some (.if_icmp .ge 23, 3), none, none, some (.aload_n 2, 1), some (.iload 4, 2), none, some (.aload_n 0, 1), some (.iload_n 1, 1), some (.aload_n 2, 1), some (.iload 4, 2), none, some (.iaload, 1), some (.iload_n 3, 1), some (.invokevirtual 432, 3), none, none, some (.iastore, 1), some (.iinc 4 1, 3), none, none, some (.goto (-24), 3), none, none, some (.return_, 1)] = true := by decide +kernel
theorem mDt271 : mDcP prog_14_method_121_code mct271 := by
  intro j c h
  unfold mct271 at h
  match j, h with
  | 0, h => cases h; exact mDr271_0
  | n + 1, h => simp at h
theorem mDr272_0 : mDc1 prog_14_method_52_code 0 [some (.aload_n 0, 1), some (.getfield 25, 3), none, none, some (.iload_n 1, 1), some (.aaload, 1), some (.iconst 0, 1), some (.iaload, 1), some (.iload_n 2, 1), some (.if_icmp .ne 7, 3), none, none, some (.iload_n 2, 1), some (.goto 16, 3), none, none, some (.aload_n 0, 1), some (.iload_n 2, 1), some (.aload_n 0, 1), some (.getfield 25, 3), none, none, some (.iload_n 1, 1), some (.aaload, 1), some (.iconst 0, 1), some (.iaload, 1), some (.invokevirtual 262, 3), none, none, some (.ireturn, 1)] = true := by decide +kernel
theorem mDt272 : mDcP prog_14_method_52_code mct272 := by
  intro j c h
  unfold mct272 at h
  match j, h with
  | 0, h => cases h; exact mDr272_0
  | n + 1, h => simp at h
theorem mDr273_0 : mDc1 prog_14_method_13_code 0 [some (.aload_n 0, 1), some (.getfield 144, 3), none, none, some (.ifCond .eq 5, 3), none, none, some (.iconst 0, 1), some (.ireturn, 1), some (.aload_n 0, 1), some (.invokevirtual 150, 3), none, none, some (.aload_n 0, 1), some (.getfield 137, 3), none, none, some (.istore_n 3, 1), some (.iconst 0, 1), some (.istore 4, 2), none, some (.aload_n 0, 1), some (.aload_n 0, 1), some (.getfield 137, 3), none, none, some (.invokevirtual 140, 3), none, none, some (.invokestatic 153, 3)] = true := by decide +kernel
theorem mDr273_1 : mDc1 prog_14_method_13_code 32 [some (.ifCond .ne 12, 3), none, none, some (.aload_n 0, 1), some (.iconst 1, 1), some (.aload_n 0, 1), some (.getfield 137, 3), none, none, some (.invokevirtual 157, 3), none, none, some (.aload_n 0, 1), some (.aload_n 0, 1), some (.getfield 137, 3), none, none, some (.invokevirtual 140, 3), none, none, some (.invokestatic 153, 3), none, none, some (.ifCond .eq 51, 3), none, none, some (.bipush 10, 2), none, some (.iload 4, 2), none, some (.imul, 1), some (.aload_n 0, 1)] = true := by decide +kernel
theorem mDr273_2 : mDc1 prog_14_method_13_code 64 [some (.aload_n 0, 1), some (.getfield 137, 3), none, none, some (.invokevirtual 140, 3), none, none, some (.iadd, 1), some (.bipush 48, 2), none, some (.isub, 1), some (.istore 4, 2), none, some (.iload 4, 2), none, some (.ldc 161, 2), none, some (.if_icmp .le 8, 3), none, none, some (.ldc 161, 2), none, some (.goto 5, 3), none, none, some (.iload 4, 2), none, some (.istore 4, 2), none, some (.aload_n 0, 1), some (.dup, 1), some (.getfield 137, 3)] = true := by decide +kernel
theorem mDr273_3 : mDc1 prog_14_method_13_code 96 [none, none, some (.iconst 1, 1), some (.iadd, 1), some (.putfield 137, 3), none, none, some (.goto (-59), 3), none, none, some (.iload 4, 2), none, some (.iload_n 1, 1), some (.iload_n 2, 1), some (.invokestatic 162, 3), none, none, some (.ifCond .ne 9, 3), none, none, some (.aload_n 0, 1), some (.iconst 2, 1), some (.iload_n 3, 1), some (.invokevirtual 157, 3), none, none, some (.iload 4, 2), none, some (.ireturn, 1)] = true := by decide +kernel
theorem mDt273 : mDcP prog_14_method_13_code mct273 := by
  intro j c h
  unfold mct273 at h
  match j, h with
  | 0, h => cases h; exact mDr273_0
  | 1, h => cases h; exact mDr273_1
  | 2, h => cases h; exact mDr273_2
  | 3, h => cases h; exact mDr273_3
  | n + 4, h => simp at h
theorem mDr274_0 : mDc1 prog_14_method_106_code 0 [some (.iconst 0, 1), some (.istore_n 1, 1), some (.iconst 0, 1), some (.istore_n 2, 1), some (.iload_n 2, 1), some (.bipush 14, 2), none, some (.if_icmp .ge 17, 3), none, none, some (.iload_n 1, 1), some (.iload_n 0, 1), some (.iload_n 2, 1), some (.ishr, 1), some (.iconst 1, 1), some (.iand, 1), some (.iadd, 1), some (.istore_n 1, 1), some (.iinc 2 1, 3), none, none, some (.goto (-17), 3), none, none, some (.iload_n 1, 1), some (.ireturn, 1)] = true := by decide +kernel
theorem mDt274 : mDcP prog_14_method_106_code mct274 := by
  intro j c h
  unfold mct274 at h
  match j, h with
  | 0, h => cases h; exact mDr274_0
  | n + 1, h => simp at h
theorem mDr275_0 : mDc1 prog_14_method_38_code 0 [some (.aload_n 0, 1), some (.iconst 0, 1), some (.putfield 128, 3), none, none, some (.aload_n 0, 1), some (.aload_n 0, 1), some (.iload_n 1, 1), some (.invokevirtual 253, 3), none, none, some (.ifCond .ne 7, 3), none, none, some (.iconst 1, 1), some (.goto 4, 3), none, none, some (.iconst 0, 1), some (.iconst 1, 1), some (.invokevirtual 205, 3), none, none, some (.ifCond .eq 5, 3), none, none, some (.iconst 0, 1), some (.ireturn, 1), some (.aload_n 0, 1), some (.iload_n 1, 1), some (.iconst 0, 1), some (.invokevirtual 250, 3)] = true := by decide +kernel
theorem mDr275_1 : mDc1 prog_14_method_38_code 32 [none, none, some (.ireturn, 1)] = true := by decide +kernel
theorem mDt275 : mDcP prog_14_method_38_code mct275 := by
  intro j c h
  unfold mct275 at h
  match j, h with
  | 0, h => cases h; exact mDr275_0
  | 1, h => cases h; exact mDr275_1
  | n + 2, h => simp at h
theorem mDr276_0 : mDc1 prog_14_method_36_code 0 [some (.iconst 1, 1), some (.istore_n 3, 1), some (.iconst 0, 1), some (.istore 4, 2), none, some (.iconst 0, 1), some (.istore 5, 2), none, some (.iconst 0, 1), some (.istore 6, 2), none, some (.iload 6, 2), none, some (.aload_n 0, 1), some (.getfield 17, 3), none, none, some (.iconst 1, 1), some (.iaload, 1), some (.if_icmp .ge 42, 3), none, none, some (.iload_n 1, 1), some (.iload 6, 2), none, some (.ishr, 1), some (.iconst 1, 1), some (.iand, 1), some (.ifCond .eq 27, 3), none, none, some (.aload_n 0, 1)] = true := by decide +kernel
theorem mDr276_1 : mDc1 prog_14_method_36_code 32 [some (.getfield 25, 3), none, none, some (.iload 6, 2), none, some (.aaload, 1), some (.iconst 0, 1), some (.iaload, 1), some (.iload_n 2, 1), some (.if_icmp .eq 6, 3), none, none, some (.goto 11, 3), none, none, some (.iinc 4 1, 3), none, none, some (.iload_n 3, 1), some (.iload 4, 2), none, some (.imul, 1), some (.istore_n 3, 1), some (.iinc 6 1, 3), none, none, some (.goto (-47), 3), none, none, some (.iload_n 2, 1), some (.iconst 1, 1), some (.iadd, 1)] = true := by decide +kernel
theorem mDr276_2 : mDc1 prog_14_method_36_code 64 [some (.istore 6, 2), none, some (.iload 6, 2), none, some (.aload_n 0, 1), some (.getfield 17, 3), none, none, some (.iconst 0, 1), some (.iaload, 1), some (.if_icmp .ge 60, 3), none, none, some (.aload_n 0, 1), some (.getfield 22, 3), none, none, some (.iload 6, 2), none, some (.aaload, 1), some (.iconst 0, 1), some (.iaload, 1), some (.iload_n 2, 1), some (.if_icmp .ne 13, 3), none, none, some (.aload_n 0, 1), some (.iload_n 1, 1), some (.iload 6, 2), none, some (.invokevirtual 247, 3)] = true := by decide +kernel
theorem mDr276_3 : mDc1 prog_14_method_36_code 96 [none, some (.goto 4, 3), none, none, some (.iconst 0, 1), some (.istore 7, 2), none, some (.iload 7, 2), none, some (.ifCond .ne 6, 3), none, none, some (.goto 20, 3), none, none, some (.iinc 5 1, 3), none, none, some (.iload_n 3, 1), some (.iload 5, 2), none, some (.aload_n 0, 1), some (.iload 7, 2), none, some (.iload 6, 2), none, some (.invokevirtual 250, 3), none, none, some (.imul, 1), some (.imul, 1), some (.istore_n 3, 1)] = true := by decide +kernel
theorem mDr276_4 : mDc1 prog_14_method_36_code 128 [some (.iinc 6 1, 3), none, none, some (.goto (-65), 3), none, none, some (.iload_n 3, 1), some (.ireturn, 1)] = true := by decide +kernel
theorem mDt276 : mDcP prog_14_method_36_code mct276 := by
  intro j c h
  unfold mct276 at h
  match j, h with
  | 0, h => cases h; exact mDr276_0
  | 1, h => cases h; exact mDr276_1
  | 2, h => cases h; exact mDr276_2
  | 3, h => cases h; exact mDr276_3
  | 4, h => cases h; exact mDr276_4
  | n + 5, h => simp at h
theorem mDr277_0 : mDc1 prog_14_method_99_code 0 [some (.iconst 0, 1), some (.istore_n 2, 1), some (.iconst 0, 1), some (.istore_n 3, 1), some (.iload_n 3, 1), some (.aload_n 0, 1), some (.getfield 17, 3), none, none, some (.iconst 3, 1), some (.iaload, 1), some (.if_icmp .ge 36, 3), none, none, some (.iload_n 2, 1), some (.aload_n 0, 1), some (.getfield 31, 3), none, none, some (.iload_n 3, 1), some (.aaload, 1), some (.iconst 0, 1), some (.iaload, 1), some (.iload_n 1, 1), some (.if_icmp .ne 14, 3), none, none, some (.aload_n 0, 1), some (.getfield 31, 3), none, none, some (.iload_n 3, 1)] = true := by decide +kernel
theorem mDr277_1 : mDc1 prog_14_method_99_code 32 [some (.aaload, 1), some (.iconst 1, 1), some (.iaload, 1), some (.goto 4, 3), none, none, some (.iconst 0, 1), some (.iadd, 1), some (.istore_n 2, 1), some (.iinc 3 1, 3), none, none, some (.goto (-40), 3), none, none, some (.iload_n 2, 1), some (.ireturn, 1)] = true := by decide +kernel
theorem mDt277 : mDcP prog_14_method_99_code mct277 := by
  intro j c h
  unfold mct277 at h
  match j, h with
  | 0, h => cases h; exact mDr277_0
  | 1, h => cases h; exact mDr277_1
  | n + 2, h => simp at h
theorem mDr278_0 : mDc1 prog_14_method_109_code 0 [some (.aload_n 0, 1), some (.iconst 0, 1), some (.putfield 128, 3), none, none, some (.aload_n 0, 1), some (.invokevirtual 410, 3), none, none, some (.ireturn, 1)] = true := by decide +kernel
theorem mDt278 : mDcP prog_14_method_109_code mct278 := by
  intro j c h
  unfold mct278 at h
  match j, h with
  | 0, h => cases h; exact mDr278_0
  | n + 1, h => simp at h
theorem mDr279_0 : mDc1 prog_14_method_107_code 0 [some (.iconst 0, 1), some (.istore_n 1, 1), some (.iconst 1, 1), some (.istore_n 2, 1), some (.iload_n 2, 1), some (.iconst 1, 1), some (.aload_n 0, 1), some (.getfield 222, 3), none, none, some (.ishl, 1), some (.if_icmp .ge 30, 3), none, none, some (.iload_n 2, 1), some (.invokestatic 404, 3), none, none, some (.iload_n 1, 1), some (.invokestatic 404, 3), none, none, some (.if_icmp .le 13, 3), none, none, some (.aload_n 0, 1), some (.iload_n 2, 1), some (.invokevirtual 407, 3), none, none, some (.ifCond .eq 5, 3)] = true := by decide +kernel
theorem mDr279_1 : mDc1 prog_14_method_107_code 32 [none, some (.iload_n 2, 1), some (.istore_n 1, 1), some (.iinc 2 1, 3), none, none, some (.goto (-34), 3), none, none, some (.iload_n 1, 1), some (.ireturn, 1)] = true := by decide +kernel
theorem mDt279 : mDcP prog_14_method_107_code mct279 := by
  intro j c h
  unfold mct279 at h
  match j, h with
  | 0, h => cases h; exact mDr279_0
  | 1, h => cases h; exact mDr279_1
  | n + 2, h => simp at h
theorem mDr280_0 : mDc1 prog_14_method_47_code 0 [some (.aload_n 0, 1), some (.iconst 0, 1), some (.putfield 128, 3), none, none, some (.aload_n 0, 1), some (.aload_n 0, 1), some (.iload_n 1, 1), some (.invokevirtual 274, 3), none, none, some (.ifCond .ne 7, 3), none, none, some (.iconst 1, 1), some (.goto 4, 3), none, none, some (.iconst 0, 1), some (.iconst 1, 1), some (.invokevirtual 205, 3), none, none, some (.ifCond .ne 24, 3), none, none, some (.aload_n 0, 1), some (.aload_n 0, 1), some (.iload_n 2, 1), some (.invokevirtual 277, 3)] = true := by decide +kernel
theorem mDr280_1 : mDc1 prog_14_method_47_code 32 [some (.ifCond .ne 7, 3), none, none, some (.iconst 1, 1), some (.goto 4, 3), none, none, some (.iconst 0, 1), some (.iconst 2, 1), some (.invokevirtual 205, 3), none, none, some (.ifCond .eq 5, 3), none, none, some (.iconst 0, 1), some (.ireturn, 1), some (.aload_n 0, 1), some (.iload_n 2, 1), some (.invokevirtual 280, 3), none, none, some (.iconst (-1), 1), some (.if_icmp .eq 5, 3), none, none, some (.iconst (-1), 1), some (.ireturn, 1), some (.aload_n 0, 1), some (.getfield 34, 3)] = true := by decide +kernel
theorem mDr280_2 : mDc1 prog_14_method_47_code 64 [some (.iload_n 1, 1), some (.aaload, 1), some (.aload_n 0, 1), some (.getfield 37, 3), none, none, some (.iload_n 1, 1), some (.iaload, 1), some (.iload_n 2, 1), some (.iastore, 1), some (.aload_n 0, 1), some (.getfield 37, 3), none, none, some (.iload_n 1, 1), some (.dup2, 1), some (.iaload, 1), some (.iconst 1, 1), some (.iadd, 1), some (.iastore, 1), some (.aload_n 0, 1), some (.getfield 37, 3), none, none, some (.iload_n 1, 1), some (.iaload, 1), some (.ireturn, 1)] = true := by decide +kernel
theorem mDt280 : mDcP prog_14_method_47_code mct280 := by
  intro j c h
  unfold mct280 at h
  match j, h with
  | 0, h => cases h; exact mDr280_0
  | 1, h => cases h; exact mDr280_1
  | 2, h => cases h; exact mDr280_2
  | n + 3, h => simp at h
theorem mDr281_0 : mDc1 prog_14_method_88_code 0 [some (.aload_n 0, 1), some (.iconst 0, 1), some (.putfield 128, 3), none, none, some (.aload_n 0, 1), some (.aload_n 0, 1), some (.iload_n 1, 1), some (.invokevirtual 277, 3), none, none, some (.ifCond .eq 11, 3), none, none, some (.aload_n 0, 1), some (.iload_n 2, 1), some (.invokevirtual 253, 3), none, none, some (.ifCond .ne 7, 3), none, none, some (.iconst 1, 1), some (.goto 4, 3), none, none, some (.iconst 0, 1), some (.iconst 1, 1), some (.invokevirtual 205, 3), none, none, some (.ifCond .eq 5, 3)] = true := by decide +kernel
theorem mDr281_1 : mDc1 prog_14_method_88_code 32 [none, none, some (.iconst 0, 1), some (.ireturn, 1), some (.aload_n 0, 1), some (.iload_n 2, 1), some (.invokevirtual 378, 3), none, none, some (.aload_n 0, 1), some (.getfield 116, 3), none, none, some (.iload_n 1, 1), some (.iaload, 1), some (.ireturn, 1)] = true := by decide +kernel
theorem mDt281 : mDcP prog_14_method_88_code mct281 := by
  intro j c h
  unfold mct281 at h
  match j, h with
  | 0, h => cases h; exact mDr281_0
  | 1, h => cases h; exact mDr281_1
  | n + 2, h => simp at h
theorem mDr282_0 : mDc1 prog_14_method_124_code 0 [some (.aload_n 0, 1), some (.iconst 0, 1), some (.putfield 128, 3), none, none, some (.aload_n 0, 1), some (.getfield 225, 3), none, none, some (.ifCond .ne 5, 3), none, none, some (.iconst (-1), 1), some (.ireturn, 1), some (.aload_n 0, 1), some (.dup, 1), some (.getfield 225, 3), none, none, some (.iconst 1, 1), some (.isub, 1), some (.putfield 225, 3), none, none, some (.aload_n 0, 1), some (.aload_n 0, 1), some (.getfield 225, 3), none, none, some (.iconst 1, 1), some (.invokevirtual 440, 3)] = true := by decide +kernel
theorem mDr282_1 : mDc1 prog_14_method_124_code 32 [none, some (.aload_n 0, 1), some (.getfield 225, 3), none, none, some (.ireturn, 1)] = true := by decide +kernel
theorem mDt282 : mDcP prog_14_method_124_code mct282 := by
  intro j c h
  unfold mct282 at h
  match j, h with
  | 0, h => cases h; exact mDr282_0
  | 1, h => cases h; exact mDr282_1
  | n + 2, h => simp at h
theorem mDr283_0 : mDc1 prog_14_method_20_code 0 [some (.aload_n 0, 1), some (.bipush 18, 2), none, some (.bipush 15, 2), none, some (.bipush 15, 2), none, some (.bipush 20, 2), none, some (.iconst 0, 1), some (.iconst 0, 1), some (.iconst 0, 1), some (.invokevirtual 180, 3), none, none, some (.ifCond .ne 12, 3), none, none, some (.aload_n 0, 1), some (.iconst 1, 1), some (.aload_n 0, 1), some (.getfield 137, 3), none, none, some (.invokevirtual 157, 3), none, none, some (.aload_n 0, 1), some (.getfield 144, 3), none, none, some (.ifCond .eq 4, 3)] = true := by decide +kernel
theorem mDr283_1 : mDc1 prog_14_method_20_code 32 [none, none, some (.return_, 1), some (.aload_n 0, 1), some (.invokevirtual 184, 3), none, none, some (.aload_n 0, 1), some (.getfield 22, 3), none, none, some (.bipush 12, 2), none, some (.aaload, 1), some (.astore_n 1, 1), some (.aload_n 1, 1), some (.iconst 0, 1), some (.iconst (-1), 1), some (.iastore, 1), some (.aload_n 1, 1), some (.iconst 1, 1), some (.iconst 0, 1), some (.iastore, 1), some (.aload_n 1, 1), some (.iconst 2, 1), some (.aload_n 0, 1), some (.iconst 1, 1), some (.bipush 60, 2), none, some (.invokevirtual 187, 3)] = true := by decide +kernel
theorem mDr283_2 : mDc1 prog_14_method_20_code 64 [some (.iastore, 1), some (.aload_n 1, 1), some (.iconst 3, 1), some (.iconst 0, 1), some (.iastore, 1), some (.aload_n 1, 1), some (.iconst 4, 1), some (.iconst 0, 1), some (.iastore, 1), some (.aload_n 0, 1), some (.bipush 59, 2), none, some (.invokevirtual 191, 3), none, none, some (.aload_n 0, 1), some (.getfield 17, 3), none, none, some (.iconst 4, 1), some (.iconst 1, 1), some (.iastore, 1), some (.aload_n 0, 1), some (.getfield 17, 3), none, none, some (.iconst 5, 1), some (.iconst 0, 1), some (.iastore, 1), some (.aload_n 0, 1), some (.getfield 17, 3)] = true := by decide +kernel
theorem mDr283_3 : mDc1 prog_14_method_20_code 96 [none, some (.bipush 6, 2), none, some (.iconst 0, 1), some (.iastore, 1), some (.aload_n 0, 1), some (.getfield 17, 3), none, none, some (.bipush 7, 2), none, some (.iconst 0, 1), some (.iastore, 1), some (.aload_n 0, 1), some (.iconst 1, 1), some (.putfield 195, 3), none, none, some (.return_, 1)] = true := by decide +kernel
theorem mDt283 : mDcP prog_14_method_20_code mct283 := by
  intro j c h
  unfold mct283 at h
  match j, h with
  | 0, h => cases h; exact mDr283_0
  | 1, h => cases h; exact mDr283_1
  | 2, h => cases h; exact mDr283_2
  | 3, h => cases h; exact mDr283_3
  | n + 4, h => simp at h
theorem mDr284_0 : mDc1 prog_14_method_51_code 0 [some (.aload_n 0, 1), some (.iconst 0, 1), some (.putfield 128, 3), none, none, some (.aload_n 0, 1), some (.aload_n 0, 1), some (.iload_n 1, 1), some (.invokevirtual 274, 3), none, none, some (.ifCond .ne 7, 3), none, none, some (.iconst 1, 1), some (.goto 4, 3), none, none, some (.iconst 0, 1), some (.iconst 1, 1), some (.invokevirtual 205, 3), none, none, some (.ifCond .eq 5, 3), none, none, some (.iconst 0, 1), some (.ireturn, 1), some (.iload_n 2, 1), some (.iconst 0, 1), some (.aload_n 0, 1), some (.getfield 37, 3)] = true := by decide +kernel
theorem mDr284_1 : mDc1 prog_14_method_51_code 32 [none, none, some (.iload_n 1, 1), some (.iaload, 1), some (.iconst 1, 1), some (.isub, 1), some (.invokestatic 162, 3), none, none, some (.ifCond .eq 14, 3), none, none, some (.aload_n 0, 1), some (.getfield 34, 3), none, none, some (.iload_n 1, 1), some (.aaload, 1), some (.iload_n 2, 1), some (.iaload, 1), some (.goto 4, 3), none, none, some (.iconst (-1), 1), some (.ireturn, 1)] = true := by decide +kernel
theorem mDt284 : mDcP prog_14_method_51_code mct284 := by
  intro j c h
  unfold mct284 at h
  match j, h with
  | 0, h => cases h; exact mDr284_0
  | 1, h => cases h; exact mDr284_1
  | n + 2, h => simp at h
theorem mDr285_0 : mDc1 prog_14_method_89_code 0 [some (.aload_n 0, 1), some (.iconst 0, 1), some (.putfield 128, 3), none, none, some (.aload_n 0, 1), some (.aload_n 0, 1), some (.iload_n 1, 1), some (.invokevirtual 253, 3), none, none, some (.ifCond .ne 7, 3), none, none, some (.iconst 1, 1), some (.goto 4, 3), none, none, some (.iconst 0, 1), some (.iconst 1, 1), some (.invokevirtual 205, 3), none, none, some (.ifCond .eq 5, 3), none, none, some (.iconst 0, 1), some (.ireturn, 1), some (.aload_n 0, 1), some (.iload_n 1, 1), some (.invokevirtual 378, 3)] = true := by decide +kernel
theorem mDr285_1 : mDc1 prog_14_method_89_code 32 [none, some (.aload_n 0, 1), some (.invokevirtual 381, 3), none, none, some (.ireturn, 1)] = true := by decide +kernel
theorem mDt285 : mDcP prog_14_method_89_code mct285 := by
  intro j c h
  unfold mct285 at h
  match j, h with
  | 0, h => cases h; exact mDr285_0
  | 1, h => cases h; exact mDr285_1
  | n + 2, h => simp at h
theorem mDr286_0 : mDc1 prog_14_method_87_code 0 [some (.iconst 0, 1), some (.istore_n 1, 1), some (.iconst 0, 1), some (.istore_n 2, 1), some (.iload_n 2, 1), some (.aload_n 0, 1), some (.getfield 360, 3), none, none, some (.if_icmp .ge 26, 3), none, none, some (.iload_n 1, 1), some (.aload_n 0, 1), some (.getfield 110, 3), none, none, some (.iload_n 2, 1), some (.iaload, 1), some (.ifCond .ne 7, 3), none, none, some (.iconst 1, 1), some (.goto 4, 3), none, none, some (.iconst 0, 1), some (.iadd, 1), some (.istore_n 1, 1), some (.iinc 2 1, 3)] = true := by decide +kernel
theorem mDr286_1 : mDc1 prog_14_method_87_code 32 [some (.goto (-28), 3), none, none, some (.iload_n 1, 1), some (.ireturn, 1)] = true := by decide +kernel
theorem mDt286 : mDcP prog_14_method_87_code mct286 := by
  intro j c h
  unfold mct286 at h
  match j, h with
  | 0, h => cases h; exact mDr286_0
  | 1, h => cases h; exact mDr286_1
  | n + 2, h => simp at h
theorem mDr287_0 : mDc1 prog_14_method_119_code 0 [some (.aload_n 0, 1), some (.iconst 0, 1), some (.putfield 128, 3), none, none, some (.aload_n 0, 1), some (.iload_n 2, 1), some (.iconst 1, 1), some (.sipush 200, 3), none, none, some (.invokestatic 162, 3), none, none, some (.ifCond .ne 7, 3), none, none, some (.iconst 1, 1), some (.goto 4, 3), none, none, some (.iconst 0, 1), some (.iconst 1, 1), some (.invokevirtual 205, 3), none, none, some (.ifCond .eq 5, 3), none, none, some (.iconst 0, 1), some (.ireturn, 1), some (.aload_n 0, 1)] = true := by decide +kernel
theorem mDr287_1 : mDc1 prog_14_method_119_code 32 [some (.iload_n 1, 1), some (.putfield 422, 3), none, none, some (.iconst 0, 1), some (.istore_n 3, 1), some (.iconst 0, 1), some (.istore 4, 2), none, some (.iload 4, 2), none, some (.iload_n 2, 1), some (.if_icmp .ge 16, 3), none, none, some (.iload_n 3, 1), some (.aload_n 0, 1), some (.invokevirtual 426, 3), none, none, some (.iadd, 1), some (.istore_n 3, 1), some (.iinc 4 1, 3), none, none, some (.goto (-16), 3), none, none, some (.iload_n 3, 1), some (.ireturn, 1)] = true := by decide +kernel
theorem mDt287 : mDcP prog_14_method_119_code mct287 := by
  intro j c h
  unfold mct287 at h
  match j, h with
  | 0, h => cases h; exact mDr287_0
  | 1, h => cases h; exact mDr287_1
  | n + 2, h => simp at h
theorem mDr288_0 : mDc1 prog_14_method_63_code 0 [some (.iconst 0, 1), some (.istore_n 3, 1), some (.iload_n 3, 1), some (.aload_n 0, 1), some (.getfield 37, 3), none, none, some (.iload_n 1, 1), some (.iaload, 1), some (.if_icmp .ge 43, 3), none, none, some (.aload_n 0, 1), some (.getfield 58, 3), none, none, some (.iload_n 1, 1), some (.iaload, 1), some (.ifCond .ne 34, 3), none, none, some (.aload_n 0, 1), some (.iload_n 2, 1), some (.aload_n 0, 1), some (.getfield 25, 3), none, none, some (.aload_n 0, 1), some (.getfield 34, 3), none, none, some (.iload_n 1, 1)] = true := by decide +kernel
theorem mDr288_1 : mDc1 prog_14_method_63_code 32 [some (.aaload, 1), some (.iload_n 3, 1), some (.iaload, 1), some (.aaload, 1), some (.iconst 0, 1), some (.iaload, 1), some (.invokevirtual 243, 3), none, none, some (.ifCond .eq 5, 3), none, none, some (.iconst 1, 1), some (.ireturn, 1), some (.iinc 3 1, 3), none, none, some (.goto (-47), 3), none, none, some (.iconst 0, 1), some (.ireturn, 1)] = true := by decide +kernel
theorem mDt288 : mDcP prog_14_method_63_code mct288 := by
  intro j c h
  unfold mct288 at h
  match j, h with
  | 0, h => cases h; exact mDr288_0
  | 1, h => cases h; exact mDr288_1
  | n + 2, h => simp at h
theorem mDr289_0 : mDc1 prog_14_method_64_code 0 [some (.aload_n 0, 1), some (.getfield 22, 3), none, none, some (.iload_n 2, 1), some (.aaload, 1), some (.iconst 0, 1), some (.iaload, 1), some (.istore_n 3, 1), some (.iload_n 3, 1), some (.ifCond .le 26, 3), none, none, some (.aload_n 0, 1), some (.iload_n 1, 1), some (.iload_n 3, 1), some (.invokevirtual 317, 3), none, none, some (.ifCond .eq 5, 3), none, none, some (.iconst 1, 1), some (.ireturn, 1), some (.aload_n 0, 1), some (.getfield 22, 3), none, none, some (.iload_n 3, 1), some (.aaload, 1), some (.iconst 0, 1), some (.iaload, 1)] = true := by decide +kernel
theorem mDr289_1 : mDc1 prog_14_method_64_code 32 [some (.istore_n 3, 1), some (.goto (-24), 3), none, none, some (.iconst 0, 1), some (.ireturn, 1)] = true := by decide +kernel
theorem mDt289 : mDcP prog_14_method_64_code mct289 := by
  intro j c h
  unfold mct289 at h
  match j, h with
  | 0, h => cases h; exact mDr289_0
  | 1, h => cases h; exact mDr289_1
  | n + 2, h => simp at h
theorem mDr290_0 : mDc1 prog_14_method_96_code 0 [some (.aload_n 0, 1), some (.iconst 0, 1), some (.putfield 128, 3), none, none, some (.iconst 0, 1), some (.istore_n 1, 1), some (.aload_n 0, 1), some (.getfield 17, 3), none, none, some (.iconst 0, 1), some (.iaload, 1), some (.iconst 1, 1), some (.isub, 1), some (.istore_n 2, 1), some (.iload_n 2, 1), some (.ifCond .lt 51, 3), none, none, some (.aload_n 0, 1), some (.iload_n 2, 1), some (.invokevirtual 228, 3), none, none, some (.ifCond .ne 6, 3), none, none, some (.goto 34, 3), none, none, some (.aload_n 0, 1)] = true := by decide +kernel
theorem mDr290_1 : mDc1 prog_14_method_96_code 32 [some (.iload_n 2, 1), some (.invokevirtual 390, 3), none, none, some (.istore_n 3, 1), some (.iload_n 1, 1), some (.iload_n 3, 1), some (.aload_n 0, 1), some (.getfield 46, 3), none, none, some (.iload_n 2, 1), some (.iaload, 1), some (.if_icmp .eq 7, 3), none, none, some (.iconst 1, 1), some (.goto 4, 3), none, none, some (.iconst 0, 1), some (.iadd, 1), some (.istore_n 1, 1), some (.aload_n 0, 1), some (.getfield 46, 3), none, none, some (.iload_n 2, 1), some (.iload_n 3, 1), some (.iastore, 1), some (.iinc 2 (-1), 3)] = true := by decide +kernel
theorem mDr290_2 : mDc1 prog_14_method_96_code 64 [none, some (.goto (-49), 3), none, none, some (.iload_n 1, 1), some (.ireturn, 1)] = true := by decide +kernel
theorem mDt290 : mDcP prog_14_method_96_code mct290 := by
  intro j c h
  unfold mct290 at h
  match j, h with
  | 0, h => cases h; exact mDr290_0
  | 1, h => cases h; exact mDr290_1
  | 2, h => cases h; exact mDr290_2
  | n + 3, h => simp at h
theorem mDr291_0 : mDc1 prog_14_method_77_code 0 [some (.aload_n 0, 1), some (.iconst 0, 1), some (.putfield 128, 3), none, none, some (.aload_n 0, 1), some (.iload_n 1, 1), some (.invokevirtual 351, 3), none, none, some (.ifCond .eq 5, 3), none, none, some (.iconst 0, 1), some (.ireturn, 1), some (.aload_n 0, 1), some (.getfield 43, 3), none, none, some (.iload_n 1, 1), some (.iaload, 1), some (.iconst 1, 1), some (.if_icmp .ne 7, 3), none, none, some (.iconst 1, 1), some (.goto 4, 3), none, none, some (.iconst 0, 1), some (.istore_n 3, 1), some (.aload_n 0, 1)] = true := by decide +kernel
theorem mDr291_1 : mDc1 prog_14_method_77_code 32 [some (.getfield 43, 3), none, none, some (.iload_n 1, 1), some (.iload_n 2, 1), some (.ifCond .eq 7, 3), none, none, some (.iconst 1, 1), some (.goto 4, 3), none, none, some (.iconst 0, 1), some (.iastore, 1), some (.iload_n 3, 1), some (.ireturn, 1)] = true := by decide +kernel
theorem mDt291 : mDcP prog_14_method_77_code mct291 := by
  intro j c h
  unfold mct291 at h
  match j, h with
  | 0, h => cases h; exact mDr291_0
  | 1, h => cases h; exact mDr291_1
  | n + 2, h => simp at h
theorem mDr292_0 : mDc1 prog_14_method_18_code 0 [some (.aload_n 0, 1), some (.getfield 144, 3), none, none, some (.ifCond .eq 4, 3), none, none, some (.return_, 1), some (.aload_n 0, 1), some (.invokevirtual 150, 3), none, none, some (.aload_n 0, 1), some (.aload_n 0, 1), some (.getfield 137, 3), none, none, some (.invokevirtual 140, 3), none, none, some (.iload_n 1, 1), some (.if_icmp .ne 16, 3), none, none, some (.aload_n 0, 1), some (.dup, 1), some (.getfield 137, 3), none, none, some (.iconst 1, 1), some (.iadd, 1), some (.putfield 137, 3)] = true := by decide +kernel
theorem mDr292_1 : mDc1 prog_14_method_18_code 32 [none, none, some (.goto 12, 3), none, none, some (.aload_n 0, 1), some (.iconst 1, 1), some (.aload_n 0, 1), some (.getfield 137, 3), none, none, some (.invokevirtual 157, 3), none, none, some (.return_, 1)] = true := by decide +kernel
theorem mDt292 : mDcP prog_14_method_18_code mct292 := by
  intro j c h
  unfold mct292 at h
  match j, h with
  | 0, h => cases h; exact mDr292_0
  | 1, h => cases h; exact mDr292_1
  | n + 2, h => simp at h
theorem mDr293_0 : mDc1 prog_14_method_17_code 0 [some (.aload_n 0, 1), some (.aload_n 0, 1), some (.getfield 137, 3), none, none, some (.invokevirtual 140, 3), none, none, some (.bipush 97, 2), none, some (.if_icmp .lt 29, 3), none, none, some (.aload_n 0, 1), some (.aload_n 0, 1), some (.getfield 137, 3), none, none, some (.invokevirtual 140, 3), none, none, some (.bipush 122, 2), none, some (.if_icmp .gt 16, 3), none, none, some (.aload_n 0, 1), some (.dup, 1), some (.getfield 137, 3), none, none, some (.iconst 1, 1)] = true := by decide +kernel
theorem mDr293_1 : mDc1 prog_14_method_17_code 32 [some (.iadd, 1), some (.putfield 137, 3), none, none, some (.goto (-36), 3), none, none, some (.return_, 1)] = true := by decide +kernel
theorem mDt293 : mDcP prog_14_method_17_code mct293 := by
  intro j c h
  unfold mct293 at h
  match j, h with
  | 0, h => cases h; exact mDr293_0
  | 1, h => cases h; exact mDr293_1
  | n + 2, h => simp at h
theorem mDr294_0 : mDc1 prog_14_method_49_code 0 [some (.aload_n 0, 1), some (.iconst 0, 1), some (.putfield 128, 3), none, none, some (.aload_n 0, 1), some (.aload_n 0, 1), some (.iload_n 1, 1), some (.invokevirtual 274, 3), none, none, some (.ifCond .ne 7, 3), none, none, some (.iconst 1, 1), some (.goto 4, 3), none, none, some (.iconst 0, 1), some (.iconst 1, 1), some (.invokevirtual 205, 3), none, none, some (.ifCond .eq 5, 3), none, none, some (.iconst 0, 1), some (.ireturn, 1), some (.aload_n 0, 1), some (.aload_n 0, 1), some (.iload_n 1, 1), some (.invokevirtual 283, 3)] = true := by decide +kernel
theorem mDr294_1 : mDc1 prog_14_method_49_code 32 [none, none, some (.invokevirtual 271, 3), none, none, some (.iconst 0, 1), some (.istore_n 2, 1), some (.iconst 0, 1), some (.istore_n 3, 1), some (.iload_n 3, 1), some (.aload_n 0, 1), some (.getfield 268, 3), none, none, some (.if_icmp .ge 32, 3), none, none, some (.aload_n 0, 1), some (.getfield 89, 3), none, none, some (.iload_n 3, 1), some (.iaload, 1), some (.aload_n 0, 1), some (.getfield 34, 3), none, none, some (.iload_n 1, 1), some (.aaload, 1), some (.iload_n 3, 1), some (.iaload, 1), some (.if_icmp .eq 7, 3)] = true := by decide +kernel
theorem mDr294_2 : mDc1 prog_14_method_49_code 64 [none, none, some (.iconst 1, 1), some (.goto 4, 3), none, none, some (.iload_n 2, 1), some (.istore_n 2, 1), some (.iinc 3 1, 3), none, none, some (.goto (-34), 3), none, none, some (.aload_n 0, 1), some (.iload_n 1, 1), some (.invokevirtual 286, 3), none, none, some (.iload_n 2, 1), some (.ireturn, 1)] = true := by decide +kernel
theorem mDt294 : mDcP prog_14_method_49_code mct294 := by
  intro j c h
  unfold mct294 at h
  match j, h with
  | 0, h => cases h; exact mDr294_0
  | 1, h => cases h; exact mDr294_1
  | 2, h => cases h; exact mDr294_2
  | n + 3, h => simp at h
theorem mDr295_0 : mDc1 prog_14_method_97_code 0 [some (.aload_n 0, 1), some (.iconst 0, 1), some (.putfield 128, 3), none, none, some (.aload_n 0, 1), some (.aload_n 0, 1), some (.iload_n 1, 1), some (.invokevirtual 277, 3), none, none, some (.ifCond .eq 23, 3), none, none, some (.iload_n 2, 1), some (.iconst 0, 1), some (.sipush 240, 3), none, none, some (.invokestatic 162, 3), none, none, some (.ifCond .eq 12, 3), none, none, some (.iload_n 3, 1), some (.iconst 0, 1), some (.iconst 1, 1), some (.invokestatic 162, 3), none, none, some (.ifCond .ne 7, 3)] = true := by decide +kernel
theorem mDr295_1 : mDc1 prog_14_method_97_code 32 [none, none, some (.iconst 1, 1), some (.goto 4, 3), none, none, some (.iconst 0, 1), some (.iconst 1, 1), some (.invokevirtual 205, 3), none, none, some (.ifCond .eq 5, 3), none, none, some (.iconst 0, 1), some (.ireturn, 1), some (.aload_n 0, 1), some (.iconst 0, 1), some (.invokevirtual 378, 3), none, none, some (.iconst 0, 1), some (.istore 4, 2), none, some (.iload 4, 2), none, some (.aload_n 0, 1), some (.getfield 17, 3), none, none, some (.iconst 1, 1), some (.iaload, 1)] = true := by decide +kernel
theorem mDr295_2 : mDc1 prog_14_method_97_code 64 [some (.if_icmp .ge 23, 3), none, none, some (.aload_n 0, 1), some (.getfield 122, 3), none, none, some (.iload 4, 2), none, some (.aload_n 0, 1), some (.getfield 116, 3), none, none, some (.iload 4, 2), none, some (.iaload, 1), some (.iastore, 1), some (.iinc 4 1, 3), none, none, some (.goto (-28), 3), none, none, some (.iconst 0, 1), some (.istore 4, 2), none, some (.iload 4, 2), none, some (.aload_n 0, 1), some (.getfield 17, 3)] = true := by decide +kernel
theorem mDr295_3 : mDc1 prog_14_method_97_code 96 [some (.iconst 1, 1), some (.iaload, 1), some (.if_icmp .ge 23, 3), none, none, some (.aload_n 0, 1), some (.getfield 113, 3), none, none, some (.iload 4, 2), none, some (.aload_n 0, 1), some (.getfield 49, 3), none, none, some (.iload 4, 2), none, some (.iaload, 1), some (.iastore, 1), some (.iinc 4 1, 3), none, none, some (.goto (-28), 3), none, none, some (.aload_n 0, 1), some (.getfield 113, 3), none, none, some (.iload_n 1, 1), some (.dup2, 1), some (.iaload, 1)] = true := by decide +kernel
theorem mDr295_4 : mDc1 prog_14_method_97_code 128 [some (.iload_n 2, 1), some (.iadd, 1), some (.iastore, 1), some (.aload_n 0, 1), some (.invokevirtual 375, 3), none, none, some (.iconst 0, 1), some (.istore 4, 2), none, some (.iconst 0, 1), some (.istore 5, 2), none, some (.iload 5, 2), none, some (.aload_n 0, 1), some (.getfield 17, 3), none, none, some (.iconst 1, 1), some (.iaload, 1), some (.if_icmp .ge 60, 3), none, none, some (.iload 5, 2), none, some (.iload_n 1, 1), some (.if_icmp .eq 48, 3), none, none, some (.aload_n 0, 1), some (.getfield 116, 3)] = true := by decide +kernel
theorem mDr295_5 : mDc1 prog_14_method_97_code 160 [none, none, some (.iload 5, 2), none, some (.iaload, 1), some (.aload_n 0, 1), some (.getfield 122, 3), none, none, some (.iload 5, 2), none, some (.iaload, 1), some (.if_icmp .le 31, 3), none, none, some (.iload 4, 2), none, some (.iload_n 3, 1), some (.ifCond .ne 7, 3), none, none, some (.iconst 1, 1), some (.goto 18, 3), none, none, some (.aload_n 0, 1), some (.getfield 116, 3), none, none, some (.iload 5, 2), none, some (.iaload, 1)] = true := by decide +kernel
theorem mDr295_6 : mDc1 prog_14_method_97_code 192 [some (.aload_n 0, 1), some (.getfield 122, 3), none, none, some (.iload 5, 2), none, some (.iaload, 1), some (.isub, 1), some (.iadd, 1), some (.istore 4, 2), none, some (.iinc 5 1, 3), none, none, some (.goto (-65), 3), none, none, some (.iload 4, 2), none, some (.ireturn, 1)] = true := by decide +kernel
theorem mDt295 : mDcP prog_14_method_97_code mct295 := by
  intro j c h
  unfold mct295 at h
  match j, h with
  | 0, h => cases h; exact mDr295_0
  | 1, h => cases h; exact mDr295_1
  | 2, h => cases h; exact mDr295_2
  | 3, h => cases h; exact mDr295_3
  | 4, h => cases h; exact mDr295_4
  | 5, h => cases h; exact mDr295_5
  | 6, h => cases h; exact mDr295_6
  | n + 7, h => simp at h
theorem mDr296_0 : mDc1 prog_14_method_57_code 0 [some (.iconst 0, 1), some (.istore_n 3, 1), some (.iload_n 3, 1), some (.aload_n 0, 1), some (.getfield 17, 3), none, none, some (.iconst 2, 1), some (.iaload, 1), some (.if_icmp .ge 54, 3), none, none, some (.aload_n 0, 1), some (.getfield 28, 3), none, none, some (.iload_n 3, 1), some (.aaload, 1), some (.iconst 0, 1), some (.iaload, 1), some (.iload_n 1, 1), some (.if_icmp .ne 36, 3), none, none, some (.aload_n 0, 1), some (.getfield 67, 3), none, none, some (.iload_n 3, 1), some (.baload, 1), some (.ifCond .ne 27, 3)] = true := by decide +kernel
theorem mDr296_1 : mDc1 prog_14_method_57_code 32 [none, some (.aload_n 0, 1), some (.getfield 28, 3), none, none, some (.iload_n 3, 1), some (.aaload, 1), some (.iconst 1, 1), some (.iaload, 1), some (.iload_n 2, 1), some (.if_icmp .ge 6, 3), none, none, some (.goto 12, 3), none, none, some (.aload_n 0, 1), some (.getfield 67, 3), none, none, some (.iload_n 3, 1), some (.iconst 1, 1), some (.bastore, 1), some (.iload_n 3, 1), some (.ireturn, 1), some (.iinc 3 1, 3), none, none, some (.goto (-58), 3), none, none, some (.iconst (-1), 1)] = true := by decide +kernel
theorem mDr296_2 : mDc1 prog_14_method_57_code 64 [some (.ireturn, 1)] = true := by decide +kernel
theorem mDt296 : mDcP prog_14_method_57_code mct296 := by
  intro j c h
  unfold mct296 at h
  match j, h with
  | 0, h => cases h; exact mDr296_0
  | 1, h => cases h; exact mDr296_1
  | 2, h => cases h; exact mDr296_2
  | n + 3, h => simp at h
theorem mDr297_0 : mDc1 prog_14_method_22_code 0 [some (.iload_n 1, 1), some (.ifCond .ne 61, 3), none, none, some (.aload_n 0, 1), some (.getfield 22, 3), none, none, some (.bipush 12, 2), none, some (.aload_n 0, 1), some (.getfield 17, 3), none, none, some (.iconst 4, 1), some (.iaload, 1), some (.iadd, 1), some (.aaload, 1), some (.astore_n 3, 1), some (.aload_n 3, 1), some (.iconst 0, 1), some (.iload_n 2, 1), some (.iastore, 1), some (.aload_n 3, 1), some (.iconst 1, 1), some (.aload_n 0, 1), some (.iconst 1, 1), some (.sipush 240, 3), none, none, some (.invokevirtual 187, 3)] = true := by decide +kernel
theorem mDr297_1 : mDc1 prog_14_method_22_code 32 [none, some (.iastore, 1), some (.aload_n 3, 1), some (.iconst 2, 1), some (.aload_n 0, 1), some (.iconst 1, 1), some (.bipush 60, 2), none, some (.invokevirtual 187, 3), none, none, some (.iastore, 1), some (.aload_n 3, 1), some (.iconst 3, 1), some (.iconst 0, 1), some (.iastore, 1), some (.aload_n 3, 1), some (.iconst 4, 1), some (.iconst 0, 1), some (.iastore, 1), some (.aload_n 0, 1), some (.getfield 17, 3), none, none, some (.iconst 4, 1), some (.dup2, 1), some (.iaload, 1), some (.iconst 1, 1), some (.iadd, 1), some (.iastore, 1), some (.iload_n 1, 1), some (.iconst 1, 1)] = true := by decide +kernel
theorem mDr297_2 : mDc1 prog_14_method_22_code 64 [some (.if_icmp .ne 52, 3), none, none, some (.aload_n 0, 1), some (.iconst 1, 1), some (.bipush 60, 2), none, some (.invokevirtual 187, 3), none, none, some (.istore_n 3, 1), some (.aload_n 0, 1), some (.iconst 1, 1), some (.bipush 60, 2), none, some (.invokevirtual 187, 3), none, none, some (.istore 4, 2), none, some (.aload_n 0, 1), some (.getfield 144, 3), none, none, some (.ifCond .ne 28, 3), none, none, some (.aload_n 0, 1), some (.getfield 22, 3), none, none, some (.bipush 12, 2)] = true := by decide +kernel
theorem mDr297_3 : mDc1 prog_14_method_22_code 96 [none, some (.iload_n 2, 1), some (.iadd, 1), some (.aaload, 1), some (.iconst 3, 1), some (.iload_n 3, 1), some (.iastore, 1), some (.aload_n 0, 1), some (.getfield 22, 3), none, none, some (.bipush 12, 2), none, some (.iload_n 2, 1), some (.iadd, 1), some (.aaload, 1), some (.iconst 4, 1), some (.iload 4, 2), none, some (.iastore, 1), some (.iload_n 1, 1), some (.iconst 2, 1), some (.if_icmp .ne 50, 3), none, none, some (.aload_n 0, 1), some (.getfield 25, 3), none, none, some (.bipush 8, 2), none, some (.aload_n 0, 1)] = true := by decide +kernel
theorem mDr297_4 : mDc1 prog_14_method_22_code 128 [some (.getfield 17, 3), none, none, some (.iconst 5, 1), some (.iaload, 1), some (.iadd, 1), some (.aaload, 1), some (.astore_n 3, 1), some (.aload_n 3, 1), some (.iconst 0, 1), some (.iload_n 2, 1), some (.iastore, 1), some (.aload_n 3, 1), some (.iconst 1, 1), some (.aload_n 0, 1), some (.iconst 1, 1), some (.bipush 15, 2), none, some (.invokevirtual 187, 3), none, none, some (.iastore, 1), some (.aload_n 3, 1), some (.iconst 2, 1), some (.iconst 0, 1), some (.iastore, 1), some (.aload_n 3, 1), some (.iconst 3, 1), some (.iconst 0, 1), some (.iastore, 1), some (.aload_n 0, 1), some (.getfield 17, 3)] = true := by decide +kernel
theorem mDr297_5 : mDc1 prog_14_method_22_code 160 [none, none, some (.iconst 5, 1), some (.dup2, 1), some (.iaload, 1), some (.iconst 1, 1), some (.iadd, 1), some (.iastore, 1), some (.iload_n 1, 1), some (.iconst 4, 1), some (.if_icmp .ne 56, 3), none, none, some (.aload_n 0, 1), some (.getfield 28, 3), none, none, some (.bipush 8, 2), none, some (.aload_n 0, 1), some (.getfield 17, 3), none, none, some (.bipush 6, 2), none, some (.iaload, 1), some (.iadd, 1), some (.aaload, 1), some (.iconst 0, 1), some (.iload_n 2, 1), some (.iastore, 1), some (.aload_n 0, 1)] = true := by decide +kernel
theorem mDr297_6 : mDc1 prog_14_method_22_code 192 [some (.getfield 28, 3), none, none, some (.bipush 8, 2), none, some (.aload_n 0, 1), some (.getfield 17, 3), none, none, some (.bipush 6, 2), none, some (.iaload, 1), some (.iadd, 1), some (.aaload, 1), some (.iconst 1, 1), some (.aload_n 0, 1), some (.iconst 1, 1), some (.bipush 60, 2), none, some (.invokevirtual 187, 3), none, none, some (.iastore, 1), some (.aload_n 0, 1), some (.getfield 17, 3), none, none, some (.bipush 6, 2), none, some (.dup2, 1), some (.iaload, 1), some (.iconst 1, 1)] = true := by decide +kernel
theorem mDr297_7 : mDc1 prog_14_method_22_code 224 [some (.iadd, 1), some (.iastore, 1), some (.iload_n 1, 1), some (.iconst 5, 1), some (.if_icmp .ne 56, 3), none, none, some (.aload_n 0, 1), some (.getfield 31, 3), none, none, some (.bipush 12, 2), none, some (.aload_n 0, 1), some (.getfield 17, 3), none, none, some (.bipush 7, 2), none, some (.iaload, 1), some (.iadd, 1), some (.aaload, 1), some (.astore_n 3, 1), some (.aload_n 3, 1), some (.iconst 0, 1), some (.iload_n 2, 1), some (.iastore, 1), some (.aload_n 3, 1), some (.iconst 1, 1), some (.aload_n 0, 1), some (.iconst 1, 1), some (.sipush 999, 3)] = true := by decide +kernel
theorem mDr297_8 : mDc1 prog_14_method_22_code 256 [none, none, some (.invokevirtual 187, 3), none, none, some (.iastore, 1), some (.aload_n 3, 1), some (.iconst 2, 1), some (.aload_n 0, 1), some (.iconst 0, 1), some (.sipush 1439, 3), none, none, some (.invokevirtual 187, 3), none, none, some (.iastore, 1), some (.aload_n 0, 1), some (.getfield 17, 3), none, none, some (.bipush 7, 2), none, some (.dup2, 1), some (.iaload, 1), some (.iconst 1, 1), some (.iadd, 1), some (.iastore, 1), some (.return_, 1)] = true := by decide +kernel
theorem mDt297 : mDcP prog_14_method_22_code mct297 := by
  intro j c h
  unfold mct297 at h
  match j, h with
  | 0, h => cases h; exact mDr297_0
  | 1, h => cases h; exact mDr297_1
  | 2, h => cases h; exact mDr297_2
  | 3, h => cases h; exact mDr297_3
  | 4, h => cases h; exact mDr297_4
  | 5, h => cases h; exact mDr297_5
  | 6, h => cases h; exact mDr297_6
  | 7, h => cases h; exact mDr297_7
  | 8, h => cases h; exact mDr297_8
  | n + 9, h => simp at h
theorem mDr298_0 : mDc1 prog_14_method_2_code 0 [some (.aload_n 0, 1), some (.getfield 128, 3), none, none, some (.ireturn, 1)] = true := by decide +kernel
theorem mDt298 : mDcP prog_14_method_2_code mct298 := by
  intro j c h
  unfold mct298 at h
  match j, h with
  | 0, h => cases h; exact mDr298_0
  | n + 1, h => simp at h
theorem mDr299_0 : mDc1 prog_14_method_27_code 0 [some (.aload_n 0, 1), some (.iconst 0, 1), some (.putfield 128, 3), none, none, some (.aload_n 0, 1), some (.iload_n 1, 1), some (.iconst 0, 1), some (.iconst 5, 1), some (.invokestatic 162, 3), none, none, some (.ifCond .ne 7, 3), none, none, some (.iconst 1, 1), some (.goto 4, 3), none, none, some (.iconst 0, 1), some (.iconst 1, 1), some (.invokevirtual 205, 3), none, none, some (.ifCond .eq 5, 3), none, none, some (.iconst 0, 1), some (.ireturn, 1), some (.iload_n 1, 1), some (.iconst 4, 1), some (.if_icmp .ge 10, 3)] = true := by decide +kernel
theorem mDr299_1 : mDc1 prog_14_method_27_code 32 [none, none, some (.aload_n 0, 1), some (.getfield 17, 3), none, none, some (.iload_n 1, 1), some (.iaload, 1), some (.ireturn, 1), some (.iconst 0, 1), some (.istore_n 2, 1), some (.iconst 0, 1), some (.istore_n 3, 1), some (.iload_n 3, 1), some (.aload_n 0, 1), some (.getfield 17, 3), none, none, some (.iconst 0, 1), some (.iaload, 1), some (.if_icmp .ge 25, 3), none, none, some (.iload_n 2, 1), some (.aload_n 0, 1), some (.iload_n 3, 1), some (.invokevirtual 228, 3), none, none, some (.ifCond .eq 7, 3)] = true := by decide +kernel
theorem mDr299_2 : mDc1 prog_14_method_27_code 64 [some (.iconst 1, 1), some (.goto 4, 3), none, none, some (.iconst 0, 1), some (.iadd, 1), some (.istore_n 2, 1), some (.iinc 3 1, 3), none, none, some (.goto (-29), 3), none, none, some (.iload_n 1, 1), some (.iconst 4, 1), some (.if_icmp .ne 7, 3), none, none, some (.iload_n 2, 1), some (.goto 10, 3), none, none, some (.aload_n 0, 1), some (.sipush 255, 3), none, none, some (.invokevirtual 231, 3), none, none, some (.ireturn, 1)] = true := by decide +kernel
theorem mDt299 : mDcP prog_14_method_27_code mct299 := by
  intro j c h
  unfold mct299 at h
  match j, h with
  | 0, h => cases h; exact mDr299_0
  | 1, h => cases h; exact mDr299_1
  | 2, h => cases h; exact mDr299_2
  | n + 3, h => simp at h
theorem mDr300_0 : mDc1 prog_14_method_34_code 0 [some (.iload_n 2, 1), some (.istore_n 3, 1), some (.aload_n 0, 1), some (.getfield 22, 3), none, none, some (.iload_n 3, 1), some (.aaload, 1), some (.iconst 0, 1), some (.iaload, 1), some (.iload_n 1, 1), some (.if_icmp .eq 15, 3), none, none, some (.aload_n 0, 1), some (.getfield 22, 3), none, none, some (.iload_n 3, 1), some (.aaload, 1), some (.iconst 0, 1), some (.iaload, 1), some (.istore_n 3, 1), some (.goto (-21), 3), none, none, some (.iload_n 3, 1), some (.ireturn, 1)] = true := by decide +kernel
theorem mDt300 : mDcP prog_14_method_34_code mct300 := by
  intro j c h
  unfold mct300 at h
  match j, h with
  | 0, h => cases h; exact mDr300_0
  | n + 1, h => simp at h
theorem mDr301_0 : mDc1 prog_14_method_43_code 0 [some (.aload_n 0, 1), some (.iconst 0, 1), some (.putfield 128, 3), none, none, some (.aload_n 0, 1), some (.iload_n 1, 1), some (.iconst 0, 1), some (.sipush 1439, 3), none, none, some (.invokestatic 162, 3), none, none, some (.ifCond .ne 7, 3), none, none, some (.iconst 1, 1), some (.goto 4, 3), none, none, some (.iconst 0, 1), some (.iconst 1, 1), some (.invokevirtual 205, 3), none, none, some (.ifCond .ne 23, 3), none, none, some (.aload_n 0, 1), some (.aload_n 0, 1), some (.getfield 215, 3)] = true := by decide +kernel
theorem mDr301_1 : mDc1 prog_14_method_43_code 32 [none, none, some (.ifCond .ne 7, 3), none, none, some (.iconst 1, 1), some (.goto 4, 3), none, none, some (.iconst 0, 1), some (.iconst 2, 1), some (.invokevirtual 205, 3), none, none, some (.ifCond .eq 5, 3), none, none, some (.iconst 0, 1), some (.ireturn, 1), some (.aload_n 0, 1), some (.getfield 219, 3), none, none, some (.iconst 4, 1), some (.if_icmp .ne 5, 3), none, none, some (.iconst (-1), 1), some (.ireturn, 1), some (.aload_n 0, 1), some (.getfield 37, 3)] = true := by decide +kernel
theorem mDr301_2 : mDc1 prog_14_method_43_code 64 [none, some (.aload_n 0, 1), some (.getfield 219, 3), none, none, some (.iconst 0, 1), some (.iastore, 1), some (.aload_n 0, 1), some (.getfield 40, 3), none, none, some (.aload_n 0, 1), some (.getfield 219, 3), none, none, some (.iload_n 1, 1), some (.iastore, 1), some (.aload_n 0, 1), some (.dup, 1), some (.getfield 219, 3), none, none, some (.iconst 1, 1), some (.iadd, 1), some (.putfield 219, 3), none, none, some (.aload_n 0, 1), some (.getfield 219, 3), none, none, some (.iconst 1, 1)] = true := by decide +kernel
theorem mDr301_3 : mDc1 prog_14_method_43_code 96 [some (.isub, 1), some (.ireturn, 1)] = true := by decide +kernel
theorem mDt301 : mDcP prog_14_method_43_code mct301 := by
  intro j c h
  unfold mct301 at h
  match j, h with
  | 0, h => cases h; exact mDr301_0
  | 1, h => cases h; exact mDr301_1
  | 2, h => cases h; exact mDr301_2
  | 3, h => cases h; exact mDr301_3
  | n + 4, h => simp at h
theorem mDr302_0 : mDc1 prog_14_method_45_code 0 [some (.iconst 0, 1), some (.istore_n 2, 1), some (.iload_n 2, 1), some (.aload_n 0, 1), some (.getfield 219, 3), none, none, some (.if_icmp .ge 41, 3), none, none, some (.iconst 0, 1), some (.istore_n 3, 1), some (.iload_n 3, 1), some (.aload_n 0, 1), some (.getfield 37, 3), none, none, some (.iload_n 2, 1), some (.iaload, 1), some (.if_icmp .ge 23, 3), none, none, some (.aload_n 0, 1), some (.getfield 34, 3), none, none, some (.iload_n 2, 1), some (.aaload, 1), some (.iload_n 3, 1), some (.iaload, 1), some (.iload_n 1, 1), some (.if_icmp .ne 5, 3)] = true := by decide +kernel
theorem mDr302_1 : mDc1 prog_14_method_45_code 32 [none, none, some (.iload_n 2, 1), some (.ireturn, 1), some (.iinc 3 1, 3), none, none, some (.goto (-27), 3), none, none, some (.iinc 2 1, 3), none, none, some (.goto (-43), 3), none, none, some (.iconst (-1), 1), some (.ireturn, 1)] = true := by decide +kernel
theorem mDt302 : mDcP prog_14_method_45_code mct302 := by
  intro j c h
  unfold mct302 at h
  match j, h with
  | 0, h => cases h; exact mDr302_0
  | 1, h => cases h; exact mDr302_1
  | n + 2, h => simp at h
theorem mDr303_0 : mDc1 prog_14_method_33_code 0 [some (.aload_n 0, 1), some (.iconst 0, 1), some (.putfield 128, 3), none, none, some (.aload_n 0, 1), some (.aload_n 0, 1), some (.iload_n 1, 1), some (.invokevirtual 237, 3), none, none, some (.ifCond .eq 11, 3), none, none, some (.aload_n 0, 1), some (.iload_n 2, 1), some (.invokevirtual 237, 3), none, none, some (.ifCond .ne 7, 3), none, none, some (.iconst 1, 1), some (.goto 4, 3), none, none, some (.iconst 0, 1), some (.iconst 1, 1), some (.invokevirtual 205, 3), none, none, some (.ifCond .eq 5, 3)] = true := by decide +kernel
theorem mDr303_1 : mDc1 prog_14_method_33_code 32 [none, none, some (.iconst 0, 1), some (.ireturn, 1), some (.aload_n 0, 1), some (.iload_n 1, 1), some (.iload_n 2, 1), some (.invokevirtual 240, 3), none, none, some (.ireturn, 1)] = true := by decide +kernel
theorem mDt303 : mDcP prog_14_method_33_code mct303 := by
  intro j c h
  unfold mct303 at h
  match j, h with
  | 0, h => cases h; exact mDr303_0
  | 1, h => cases h; exact mDr303_1
  | n + 2, h => simp at h
theorem mDr304_0 : mDc1 prog_14_method_32_code 0 [some (.iload_n 1, 1), some (.istore_n 3, 1), some (.iload_n 2, 1), some (.istore 4, 2), none, some (.iload_n 3, 1), some (.iload 4, 2), none, some (.if_icmp .eq 35, 3), none, none, some (.iload_n 3, 1), some (.iload 4, 2), none, some (.if_icmp .le 15, 3), none, none, some (.aload_n 0, 1), some (.getfield 22, 3), none, none, some (.iload_n 3, 1), some (.aaload, 1), some (.iconst 0, 1), some (.iaload, 1), some (.istore_n 3, 1), some (.goto (-21), 3), none, none, some (.aload_n 0, 1), some (.getfield 22, 3)] = true := by decide +kernel
theorem mDr304_1 : mDc1 prog_14_method_32_code 32 [none, some (.iload 4, 2), none, some (.aaload, 1), some (.iconst 0, 1), some (.iaload, 1), some (.istore 4, 2), none, some (.goto (-35), 3), none, none, some (.aload_n 0, 1), some (.iload_n 1, 1), some (.invokevirtual 234, 3), none, none, some (.aload_n 0, 1), some (.iload_n 2, 1), some (.invokevirtual 234, 3), none, none, some (.iadd, 1), some (.iconst 2, 1), some (.aload_n 0, 1), some (.iload_n 3, 1), some (.invokevirtual 234, 3), none, none, some (.imul, 1), some (.isub, 1), some (.ireturn, 1)] = true := by decide +kernel
theorem mDt304 : mDcP prog_14_method_32_code mct304 := by
  intro j c h
  unfold mct304 at h
  match j, h with
  | 0, h => cases h; exact mDr304_0
  | 1, h => cases h; exact mDr304_1
  | n + 2, h => simp at h
theorem mDr305_0 : mDc1 prog_14_method_116_code 0 [some (.aload_n 0, 1), some (.iconst 0, 1), some (.putfield 128, 3), none, none, some (.aload_n 0, 1), some (.aload_n 0, 1), some (.iload_n 1, 1), some (.invokevirtual 274, 3), none, none, some (.ifCond .ne 7, 3), none, none, some (.iconst 1, 1), some (.goto 4, 3), none, none, some (.iconst 0, 1), some (.iconst 1, 1), some (.invokevirtual 205, 3), none, none, some (.ifCond .ne 24, 3), none, none, some (.aload_n 0, 1), some (.aload_n 0, 1), some (.iload_n 2, 1), some (.invokevirtual 237, 3)] = true := by decide +kernel
theorem mDr305_1 : mDc1 prog_14_method_116_code 32 [some (.ifCond .ne 7, 3), none, none, some (.iconst 1, 1), some (.goto 4, 3), none, none, some (.iconst 0, 1), some (.iconst 2, 1), some (.invokevirtual 205, 3), none, none, some (.ifCond .eq 5, 3), none, none, some (.iconst 0, 1), some (.ireturn, 1), some (.aload_n 0, 1), some (.getfield 37, 3), none, none, some (.iload_n 1, 1), some (.iaload, 1), some (.istore_n 3, 1), some (.iconst (-1), 1), some (.istore 4, 2), none, some (.iconst 0, 1), some (.istore 5, 2), none, some (.iload_n 3, 1), some (.ifCond .eq 20, 3)] = true := by decide +kernel
theorem mDr305_2 : mDc1 prog_14_method_116_code 64 [none, none, some (.aload_n 0, 1), some (.aload_n 0, 1), some (.getfield 34, 3), none, none, some (.iload_n 1, 1), some (.aaload, 1), some (.iconst 0, 1), some (.iload_n 3, 1), some (.iconst 0, 1), some (.invokevirtual 419, 3), none, none, some (.iconst (-1), 1), some (.if_icmp .ne 5, 3), none, none, some (.iconst 0, 1), some (.ireturn, 1), some (.iconst 0, 1), some (.istore 6, 2), none, some (.iload 6, 2), none, some (.iload_n 3, 1), some (.if_icmp .ge 58, 3), none, none, some (.iload 4, 2)] = true := by decide +kernel
theorem mDr305_3 : mDc1 prog_14_method_116_code 96 [some (.iconst (-1), 1), some (.if_icmp .ne 52, 3), none, none, some (.aload_n 0, 1), some (.getfield 25, 3), none, none, some (.aload_n 0, 1), some (.getfield 34, 3), none, none, some (.iload_n 1, 1), some (.aaload, 1), some (.iload 6, 2), none, some (.iaload, 1), some (.aaload, 1), some (.iconst 0, 1), some (.iaload, 1), some (.istore 7, 2), none, some (.iload 7, 2), none, some (.iload_n 2, 1), some (.if_icmp .eq 22, 3), none, none, some (.aload_n 0, 1), some (.iload_n 2, 1), some (.iload 7, 2)] = true := by decide +kernel
theorem mDr305_4 : mDc1 prog_14_method_116_code 128 [some (.invokevirtual 243, 3), none, none, some (.ifCond .eq 12, 3), none, none, some (.aload_n 0, 1), some (.iload_n 2, 1), some (.iload 7, 2), none, some (.invokevirtual 262, 3), none, none, some (.istore 4, 2), none, some (.iinc 6 1, 3), none, none, some (.goto (-58), 3), none, none, some (.iconst 0, 1), some (.istore 6, 2), none, some (.iload 6, 2), none, some (.aload_n 0, 1), some (.getfield 17, 3), none, none, some (.iconst 3, 1), some (.iaload, 1)] = true := by decide +kernel
theorem mDr305_5 : mDc1 prog_14_method_116_code 160 [some (.if_icmp .ge 146, 3), none, none, some (.iconst 0, 1), some (.istore 7, 2), none, some (.iconst 0, 1), some (.istore 8, 2), none, some (.iload 8, 2), none, some (.iload_n 3, 1), some (.if_icmp .ge 105, 3), none, none, some (.aload_n 0, 1), some (.getfield 25, 3), none, none, some (.aload_n 0, 1), some (.getfield 34, 3), none, none, some (.iload_n 1, 1), some (.aaload, 1), some (.iload 8, 2), none, some (.iaload, 1), some (.aaload, 1), some (.iconst 0, 1), some (.iaload, 1), some (.istore 9, 2)] = true := by decide +kernel
theorem mDr305_6 : mDc1 prog_14_method_116_code 192 [none, some (.aload_n 0, 1), some (.getfield 31, 3), none, none, some (.iload 6, 2), none, some (.aaload, 1), some (.iconst 0, 1), some (.iaload, 1), some (.istore 10, 2), none, some (.iload 7, 2), none, some (.ifCond .ne 58, 3), none, none, some (.iload 9, 2), none, some (.iload_n 2, 1), some (.if_icmp .eq 56, 3), none, none, some (.aload_n 0, 1), some (.iload_n 2, 1), some (.iload 9, 2), none, some (.invokevirtual 243, 3), none, none, some (.ifCond .eq 46, 3)] = true := by decide +kernel
theorem mDr305_7 : mDc1 prog_14_method_116_code 224 [none, some (.aload_n 0, 1), some (.iload_n 2, 1), some (.iload 9, 2), none, some (.invokevirtual 262, 3), none, none, some (.iload 4, 2), none, some (.if_icmp .eq 34, 3), none, none, some (.iload 10, 2), none, some (.iload_n 2, 1), some (.if_icmp .eq 28, 3), none, none, some (.aload_n 0, 1), some (.iload_n 2, 1), some (.iload 10, 2), none, some (.invokevirtual 243, 3), none, none, some (.ifCond .eq 18, 3), none, none, some (.aload_n 0, 1), some (.iload 10, 2)] = true := by decide +kernel
theorem mDr305_8 : mDc1 prog_14_method_116_code 256 [some (.iload 9, 2), none, some (.invokevirtual 243, 3), none, none, some (.ifCond .eq 7, 3), none, none, some (.iconst 1, 1), some (.goto 4, 3), none, none, some (.iconst 0, 1), some (.istore 7, 2), none, some (.iinc 8 1, 3), none, none, some (.goto (-105), 3), none, none, some (.iload 5, 2), none, some (.iload 7, 2), none, some (.ifCond .eq 15, 3), none, none, some (.aload_n 0, 1), some (.getfield 31, 3)] = true := by decide +kernel
theorem mDr305_9 : mDc1 prog_14_method_116_code 288 [some (.iload 6, 2), none, some (.aaload, 1), some (.iconst 1, 1), some (.iaload, 1), some (.goto 4, 3), none, none, some (.iconst 0, 1), some (.iadd, 1), some (.istore 5, 2), none, some (.iinc 6 1, 3), none, none, some (.goto (-151), 3), none, none, some (.iload 5, 2), none, some (.ireturn, 1)] = true := by decide +kernel
theorem mDt305 : mDcP prog_14_method_116_code mct305 := by
  intro j c h
  unfold mct305 at h
  match j, h with
  | 0, h => cases h; exact mDr305_0
  | 1, h => cases h; exact mDr305_1
  | 2, h => cases h; exact mDr305_2
  | 3, h => cases h; exact mDr305_3
  | 4, h => cases h; exact mDr305_4
  | 5, h => cases h; exact mDr305_5
  | 6, h => cases h; exact mDr305_6
  | 7, h => cases h; exact mDr305_7
  | 8, h => cases h; exact mDr305_8
  | 9, h => cases h; exact mDr305_9
  | n + 10, h => simp at h
theorem mDr306_0 : mDc1 prog_14_method_15_code 0 [some (.lconst 0, 1), some (.lstore 7, 2), none, some (.iconst 0, 1), some (.istore 9, 2), none, some (.iload 9, 2), none, some (.bipush 7, 2), none, some (.if_icmp .ge 96, 3), none, none, some (.iload 9, 2), none, some (.ifCond .ne 7, 3), none, none, some (.iload_n 0, 1), some (.goto 57, 3), none, none, some (.iload 9, 2), none, some (.iconst 1, 1), some (.if_icmp .ne 7, 3), none, none, some (.iload_n 1, 1), some (.goto 47, 3)] = true := by decide +kernel
theorem mDr306_1 : mDc1 prog_14_method_15_code 32 [some (.iload 9, 2), none, some (.iconst 2, 1), some (.if_icmp .ne 7, 3), none, none, some (.iload_n 2, 1), some (.goto 37, 3), none, none, some (.iload 9, 2), none, some (.iconst 3, 1), some (.if_icmp .ne 7, 3), none, none, some (.iload_n 3, 1), some (.goto 27, 3), none, none, some (.iload 9, 2), none, some (.iconst 4, 1), some (.if_icmp .ne 8, 3), none, none, some (.iload 4, 2), none, some (.goto 16, 3), none, none, some (.iload 9, 2)] = true := by decide +kernel
theorem mDr306_2 : mDc1 prog_14_method_15_code 64 [none, some (.iconst 5, 1), some (.if_icmp .ne 8, 3), none, none, some (.iload 5, 2), none, some (.goto 5, 3), none, none, some (.iload 6, 2), none, some (.istore 10, 2), none, some (.iload 10, 2), none, some (.ifCond .ne 8, 3), none, none, some (.lload 7, 2), none, some (.goto 13, 3), none, none, some (.ldc2_w 166, 3), none, none, some (.lload 7, 2), none, some (.lmul, 1), some (.iload 10, 2)] = true := by decide +kernel
theorem mDr306_3 : mDc1 prog_14_method_15_code 96 [some (.i2l, 1), some (.ladd, 1), some (.lstore 7, 2), none, some (.iinc 9 1, 3), none, none, some (.goto (-97), 3), none, none, some (.lload 7, 2), none, some (.lreturn, 1)] = true := by decide +kernel
theorem mDt306 : mDcP prog_14_method_15_code mct306 := by
  intro j c h
  unfold mct306 at h
  match j, h with
  | 0, h => cases h; exact mDr306_0
  | 1, h => cases h; exact mDr306_1
  | 2, h => cases h; exact mDr306_2
  | 3, h => cases h; exact mDr306_3
  | n + 4, h => simp at h
theorem mDr307_0 : mDc1 prog_14_method_14_code 0 [some (.aload_n 0, 1), some (.invokevirtual 150, 3), none, none, some (.lconst 0, 1), some (.lstore_n 1, 1), some (.iconst 0, 1), some (.istore_n 3, 1), some (.aload_n 0, 1), some (.aload_n 0, 1), some (.getfield 137, 3), none, none, some (.iload_n 3, 1), some (.iadd, 1), some (.invokevirtual 140, 3), none, none, some (.bipush 97, 2), none, some (.if_icmp .lt 58, 3), none, none, some (.aload_n 0, 1), some (.aload_n 0, 1), some (.getfield 137, 3), none, none, some (.iload_n 3, 1), some (.iadd, 1), some (.invokevirtual 140, 3)] = true := by decide +kernel
theorem mDr307_1 : mDc1 prog_14_method_14_code 32 [none, some (.bipush 122, 2), none, some (.if_icmp .gt 43, 3), none, none, some (.iload_n 3, 1), some (.bipush 7, 2), none, some (.if_icmp .ge 29, 3), none, none, some (.ldc2_w 166, 3), none, none, some (.lload_n 1, 1), some (.lmul, 1), some (.aload_n 0, 1), some (.aload_n 0, 1), some (.getfield 137, 3), none, none, some (.iload_n 3, 1), some (.iadd, 1), some (.invokevirtual 140, 3), none, none, some (.i2l, 1), some (.ladd, 1), some (.ldc2_w 168, 3)] = true := by decide +kernel
theorem mDr307_2 : mDc1 prog_14_method_14_code 64 [some (.lsub, 1), some (.lconst 1, 1), some (.ladd, 1), some (.goto 4, 3), none, none, some (.lload_n 1, 1), some (.lstore_n 1, 1), some (.iinc 3 1, 3), none, none, some (.goto (-67), 3), none, none, some (.iload_n 3, 1), some (.bipush 7, 2), none, some (.if_icmp .le 9, 3), none, none, some (.ldc2_w 170, 3), none, none, some (.goto 4, 3), none, none, some (.lload_n 1, 1), some (.lreturn, 1)] = true := by decide +kernel
theorem mDt307 : mDcP prog_14_method_14_code mct307 := by
  intro j c h
  unfold mct307 at h
  match j, h with
  | 0, h => cases h; exact mDr307_0
  | 1, h => cases h; exact mDr307_1
  | 2, h => cases h; exact mDr307_2
  | n + 3, h => simp at h
theorem mDr308_0 : mDc1 prog_14_method_68_code 0 [some (.aload_n 0, 1), some (.iconst 0, 1), some (.putfield 128, 3), none, none, some (.aload_n 0, 1), some (.iload_n 1, 1), some (.iconst (-1), 1), some (.aload_n 0, 1), some (.getfield 17, 3), none, none, some (.iconst 3, 1), some (.iaload, 1), some (.iconst 1, 1), some (.isub, 1), some (.invokestatic 162, 3), none, none, some (.ifCond .ne 7, 3), none, none, some (.iconst 1, 1), some (.goto 4, 3), none, none, some (.iconst 0, 1), some (.iconst 1, 1), some (.invokevirtual 205, 3), none, none, some (.ifCond .eq 5, 3)] = true := by decide +kernel
theorem mDr308_1 : mDc1 prog_14_method_68_code 32 [none, none, some (.iconst 0, 1), some (.ireturn, 1), some (.aload_n 0, 1), some (.invokevirtual 314, 3), none, none, some (.iload_n 1, 1), some (.iconst (-1), 1), some (.if_icmp .ne 10, 3), none, none, some (.aload_n 0, 1), some (.invokevirtual 335, 3), none, none, some (.goto 8, 3), none, none, some (.aload_n 0, 1), some (.iload_n 1, 1), some (.invokevirtual 332, 3), none, none, some (.ireturn, 1)] = true := by decide +kernel
theorem mDt308 : mDcP prog_14_method_68_code mct308 := by
  intro j c h
  unfold mct308 at h
  match j, h with
  | 0, h => cases h; exact mDr308_0
  | 1, h => cases h; exact mDr308_1
  | n + 2, h => simp at h
theorem mDr309_0 : mDc1 prog_14_method_67_code 0 [some (.iconst 0, 1), some (.istore_n 1, 1), some (.iconst 0, 1), some (.istore_n 2, 1), some (.iload_n 2, 1), some (.aload_n 0, 1), some (.getfield 17, 3), none, none, some (.iconst 3, 1), some (.iaload, 1), some (.if_icmp .ge 17, 3), none, none, some (.iload_n 1, 1), some (.aload_n 0, 1), some (.iload_n 2, 1), some (.invokevirtual 332, 3), none, none, some (.iadd, 1), some (.istore_n 1, 1), some (.iinc 2 1, 3), none, none, some (.goto (-21), 3), none, none, some (.iload_n 1, 1), some (.ireturn, 1)] = true := by decide +kernel
theorem mDt309 : mDcP prog_14_method_67_code mct309 := by
  intro j c h
  unfold mct309 at h
  match j, h with
  | 0, h => cases h; exact mDr309_0
  | n + 1, h => simp at h
theorem mDr310_0 : mDc1 prog_14_method_71_code 0 [some (.aload_n 0, 1), some (.getfield 31, 3), none, none, some (.iload_n 1, 1), some (.aaload, 1), some (.iconst 0, 1), some (.iaload, 1), some (.istore 4, 2), none, some (.aload_n 0, 1), some (.iload_n 1, 1), some (.aload_n 0, 1), some (.getfield 40, 3), none, none, some (.iload_n 2, 1), some (.iaload, 1), some (.invokevirtual 323, 3), none, none, some (.istore 5, 2), none, some (.iload_n 3, 1), some (.iload 4, 2), none, some (.ishr, 1), some (.iconst 1, 1), some (.iand, 1), some (.iconst 1, 1), some (.if_icmp .ne 6, 3)] = true := by decide +kernel
theorem mDr310_1 : mDc1 prog_14_method_71_code 32 [none, some (.iload 5, 2), none, some (.ireturn, 1), some (.aload_n 0, 1), some (.getfield 22, 3), none, none, some (.iload 4, 2), none, some (.aaload, 1), some (.iconst 0, 1), some (.iaload, 1), some (.istore 6, 2), none, some (.iload 6, 2), none, some (.ifCond .le 32, 3), none, none, some (.iload_n 3, 1), some (.iload 6, 2), none, some (.ishr, 1), some (.iconst 1, 1), some (.iand, 1), some (.iconst 1, 1), some (.if_icmp .ne 8, 3), none, none, some (.iload 5, 2)] = true := by decide +kernel
theorem mDr310_2 : mDc1 prog_14_method_71_code 64 [some (.iconst 2, 1), some (.idiv, 1), some (.ireturn, 1), some (.aload_n 0, 1), some (.getfield 22, 3), none, none, some (.iload 6, 2), none, some (.aaload, 1), some (.iconst 0, 1), some (.iaload, 1), some (.istore 6, 2), none, some (.goto (-31), 3), none, none, some (.iconst 0, 1), some (.ireturn, 1)] = true := by decide +kernel
theorem mDt310 : mDcP prog_14_method_71_code mct310 := by
  intro j c h
  unfold mct310 at h
  match j, h with
  | 0, h => cases h; exact mDr310_0
  | 1, h => cases h; exact mDr310_1
  | 2, h => cases h; exact mDr310_2
  | n + 3, h => simp at h
theorem mDr311_0 : mDc1 prog_14_method_65_code 0 [some (.aload_n 0, 1), some (.getfield 31, 3), none, none, some (.iload_n 1, 1), some (.aaload, 1), some (.iconst 1, 1), some (.iaload, 1), some (.bipush 100, 2), none, some (.bipush 90, 2), none, some (.iload_n 2, 1), some (.aload_n 0, 1), some (.getfield 31, 3), none, none, some (.iload_n 1, 1), some (.aaload, 1), some (.iconst 2, 1), some (.iaload, 1), some (.isub, 1), some (.invokestatic 320, 3), none, none, some (.bipush 10, 2), none, some (.idiv, 1), some (.invokestatic 259, 3), none, none, some (.isub, 1)] = true := by decide +kernel
theorem mDr311_1 : mDc1 prog_14_method_65_code 32 [some (.imul, 1), some (.ireturn, 1)] = true := by decide +kernel
theorem mDt311 : mDcP prog_14_method_65_code mct311 := by
  intro j c h
  unfold mct311 at h
  match j, h with
  | 0, h => cases h; exact mDr311_0
  | 1, h => cases h; exact mDr311_1
  | n + 2, h => simp at h
theorem mDr312_0 : mDc1 prog_14_method_66_code 0 [some (.iconst 0, 1), some (.istore_n 2, 1), some (.iconst 0, 1), some (.istore_n 3, 1), some (.iload_n 3, 1), some (.aload_n 0, 1), some (.getfield 219, 3), none, none, some (.if_icmp .ge 72, 3), none, none, some (.aload_n 0, 1), some (.iload_n 1, 1), some (.aload_n 0, 1), some (.getfield 40, 3), none, none, some (.iload_n 3, 1), some (.iaload, 1), some (.invokevirtual 323, 3), none, none, some (.istore 4, 2), none, some (.iload_n 2, 1), some (.aload_n 0, 1), some (.iload_n 3, 1), some (.aload_n 0, 1), some (.getfield 31, 3)] = true := by decide +kernel
theorem mDr312_1 : mDc1 prog_14_method_66_code 32 [some (.iload_n 1, 1), some (.aaload, 1), some (.iconst 0, 1), some (.iaload, 1), some (.invokevirtual 317, 3), none, none, some (.ifCond .eq 8, 3), none, none, some (.iload 4, 2), none, some (.goto 27, 3), none, none, some (.aload_n 0, 1), some (.iload_n 3, 1), some (.aload_n 0, 1), some (.getfield 31, 3), none, none, some (.iload_n 1, 1), some (.aaload, 1), some (.iconst 0, 1), some (.iaload, 1), some (.invokevirtual 326, 3), none, none, some (.ifCond .eq 10, 3), none, none, some (.iload 4, 2)] = true := by decide +kernel
theorem mDr312_2 : mDc1 prog_14_method_66_code 64 [none, some (.iconst 2, 1), some (.idiv, 1), some (.goto 4, 3), none, none, some (.iconst 0, 1), some (.invokestatic 329, 3), none, none, some (.istore_n 2, 1), some (.iinc 3 1, 3), none, none, some (.goto (-74), 3), none, none, some (.iload_n 2, 1), some (.ireturn, 1)] = true := by decide +kernel
theorem mDt312 : mDcP prog_14_method_66_code mct312 := by
  intro j c h
  unfold mct312 at h
  match j, h with
  | 0, h => cases h; exact mDr312_0
  | 1, h => cases h; exact mDr312_1
  | 2, h => cases h; exact mDr312_2
  | n + 3, h => simp at h
theorem mDr313_0 : mDc1 prog_14_method_100_code 0 [some (.aload_n 0, 1), some (.iconst 0, 1), some (.putfield 128, 3), none, none, some (.aload_n 0, 1), some (.aload_n 0, 1), some (.iload_n 1, 1), some (.invokevirtual 274, 3), none, none, some (.ifCond .ne 7, 3), none, none, some (.iconst 1, 1), some (.goto 4, 3), none, none, some (.iconst 0, 1), some (.iconst 1, 1), some (.invokevirtual 205, 3), none, none, some (.ifCond .ne 26, 3), none, none, some (.aload_n 0, 1), some (.iload_n 2, 1), some (.iconst 0, 1), some (.bipush 100, 2), none, some (.invokestatic 162, 3)] = true := by decide +kernel
theorem mDr313_1 : mDc1 prog_14_method_100_code 32 [none, none, some (.ifCond .ne 7, 3), none, none, some (.iconst 1, 1), some (.goto 4, 3), none, none, some (.iconst 0, 1), some (.iconst 2, 1), some (.invokevirtual 205, 3), none, none, some (.ifCond .eq 5, 3), none, none, some (.iconst 0, 1), some (.ireturn, 1), some (.lconst 0, 1), some (.lstore_n 3, 1), some (.iconst 0, 1), some (.istore 5, 2), none, some (.iload 5, 2), none, some (.aload_n 0, 1), some (.getfield 37, 3), none, none, some (.iload_n 1, 1), some (.iaload, 1)] = true := by decide +kernel
theorem mDr313_2 : mDc1 prog_14_method_100_code 64 [some (.if_icmp .ge 116, 3), none, none, some (.aload_n 0, 1), some (.getfield 25, 3), none, none, some (.aload_n 0, 1), some (.getfield 34, 3), none, none, some (.iload_n 1, 1), some (.aaload, 1), some (.iload 5, 2), none, some (.iaload, 1), some (.aaload, 1), some (.iconst 0, 1), some (.iaload, 1), some (.istore 6, 2), none, some (.lconst 0, 1), some (.lstore 7, 2), none, some (.iconst 0, 1), some (.istore 9, 2), none, some (.iload 9, 2), none, some (.aload_n 0, 1), some (.getfield 37, 3)] = true := by decide +kernel
theorem mDr313_3 : mDc1 prog_14_method_100_code 96 [none, some (.iload_n 1, 1), some (.iaload, 1), some (.if_icmp .ge 55, 3), none, none, some (.lload 7, 2), none, some (.aload_n 0, 1), some (.getfield 25, 3), none, none, some (.aload_n 0, 1), some (.getfield 34, 3), none, none, some (.iload_n 1, 1), some (.aaload, 1), some (.iload 9, 2), none, some (.iaload, 1), some (.aaload, 1), some (.iconst 1, 1), some (.iaload, 1), some (.i2l, 1), some (.aload_n 0, 1), some (.iload 6, 2), none, some (.aload_n 0, 1), some (.getfield 25, 3)] = true := by decide +kernel
theorem mDr313_4 : mDc1 prog_14_method_100_code 128 [some (.aload_n 0, 1), some (.getfield 34, 3), none, none, some (.iload_n 1, 1), some (.aaload, 1), some (.iload 9, 2), none, some (.iaload, 1), some (.aaload, 1), some (.iconst 0, 1), some (.iaload, 1), some (.invokevirtual 240, 3), none, none, some (.i2l, 1), some (.lmul, 1), some (.ladd, 1), some (.lstore 7, 2), none, some (.iinc 9 1, 3), none, none, some (.goto (-60), 3), none, none, some (.lload_n 3, 1), some (.aload_n 0, 1), some (.iload 6, 2), none, some (.invokevirtual 393, 3)] = true := by decide +kernel
theorem mDr313_5 : mDc1 prog_14_method_100_code 160 [none, some (.i2l, 1), some (.ldc2_w 396, 3), none, none, some (.iload_n 2, 1), some (.i2l, 1), some (.lsub, 1), some (.lmul, 1), some (.lload 7, 2), none, some (.lmul, 1), some (.ladd, 1), some (.lstore_n 3, 1), some (.iinc 5 1, 3), none, none, some (.goto (-121), 3), none, none, some (.aload_n 0, 1), some (.getfield 37, 3), none, none, some (.iload_n 1, 1), some (.iaload, 1), some (.ifCond .ne 7, 3), none, none, some (.iconst 0, 1), some (.goto 28, 3)] = true := by decide +kernel
theorem mDr313_6 : mDc1 prog_14_method_100_code 192 [none, some (.lload_n 3, 1), some (.ldc2_w 396, 3), none, none, some (.aload_n 0, 1), some (.aload_n 0, 1), some (.getfield 34, 3), none, none, some (.iload_n 1, 1), some (.aaload, 1), some (.iconst 0, 1), some (.aload_n 0, 1), some (.getfield 37, 3), none, none, some (.iload_n 1, 1), some (.iaload, 1), some (.invokevirtual 296, 3), none, none, some (.i2l, 1), some (.lmul, 1), some (.ldiv, 1), some (.l2i, 1), some (.ireturn, 1)] = true := by decide +kernel
theorem mDt313 : mDcP prog_14_method_100_code mct313 := by
  intro j c h
  unfold mct313 at h
  match j, h with
  | 0, h => cases h; exact mDr313_0
  | 1, h => cases h; exact mDr313_1
  | 2, h => cases h; exact mDr313_2
  | 3, h => cases h; exact mDr313_3
  | 4, h => cases h; exact mDr313_4
  | 5, h => cases h; exact mDr313_5
  | 6, h => cases h; exact mDr313_6
  | n + 7, h => simp at h
theorem mDr314_0 : mDc1 prog_14_method_11_code 0 [some (.aload_n 0, 1), some (.getfield 144, 3), none, none, some (.ifCond .ne 13, 3), none, none, some (.aload_n 0, 1), some (.iload_n 1, 1), some (.putfield 144, 3), none, none, some (.aload_n 0, 1), some (.iload_n 2, 1), some (.putfield 147, 3), none, none, some (.return_, 1)] = true := by decide +kernel
theorem mDt314 : mDcP prog_14_method_11_code mct314 := by
  intro j c h
  unfold mct314 at h
  match j, h with
  | 0, h => cases h; exact mDr314_0
  | n + 1, h => simp at h
theorem mDr315_0 : mDc1 prog_32_method_103_code 0 [some (.iconst 0, 1), some (.istore_n 2, 1), some (.aload_n 0, 1), some (.arraylength, 1), some (.istore_n 3, 1), some (.iload_n 2, 1), some (.iload_n 3, 1), some (.if_icmp .ge 13, 3), none, none, some (.aload_n 0, 1), some (.iload_n 2, 1), some (.iload_n 1, 1), some (.iastore, 1), some (.iinc 2 1, 3), none, none, some (.goto (-12), 3), none, none, some (.return_, 1)] = true := by decide +kernel
theorem mDt315 : mDcP prog_32_method_103_code mct315 := by
  intro j c h
  unfold mct315 at h
  match j, h with
  | 0, h => cases h; exact mDr315_0
  | n + 1, h => simp at h
theorem mDr316_0 : mDc1 prog_32_method_101_code 0 [some (.iconst 0, 1), some (.istore_n 3, 1), some (.aload_n 0, 1), some (.arraylength, 1), some (.istore 4, 2), none, some (.iload_n 3, 1), some (.iload 4, 2), none, some (.if_icmp .ge 13, 3), none, none, some (.aload_n 0, 1), some (.iload_n 3, 1), some (.lload_n 1, 1), some (.lastore, 1), some (.iinc 3 1, 3), none, none, some (.goto (-13), 3), none, none, some (.return_, 1)] = true := by decide +kernel
theorem mDt316 : mDcP prog_32_method_101_code mct316 := by
  intro j c h
  unfold mct316 at h
  match j, h with
  | 0, h => cases h; exact mDr316_0
  | n + 1, h => simp at h
theorem mDr317_0 : mDc1 prog_22_method_49_code 0 [some (.iload_n 0, 1), some (.iload_n 0, 1), some (.iconst 1, 1), some (.iushr, 1), some (.ldc_w 265, 3), none, none, some (.iand, 1), some (.isub, 1), some (.istore_n 0, 1), some (.iload_n 0, 1), some (.ldc_w 266, 3), none, none, some (.iand, 1), some (.iload_n 0, 1), some (.iconst 2, 1), some (.iushr, 1), some (.ldc_w 266, 3), none, none, some (.iand, 1), some (.iadd, 1), some (.istore_n 0, 1), some (.iload_n 0, 1), some (.iload_n 0, 1), some (.iconst 4, 1), some (.iushr, 1), some (.iadd, 1), some (.ldc_w 267, 3)] = true := by decide +kernel
theorem mDr317_1 : mDc1 prog_22_method_49_code 32 [some (.iand, 1), some (.istore_n 0, 1), some (.iload_n 0, 1), some (.iload_n 0, 1), some (.bipush 8, 2), none, some (.iushr, 1), some (.iadd, 1), some (.istore_n 0, 1), some (.iload_n 0, 1), some (.iload_n 0, 1), some (.bipush 16, 2), none, some (.iushr, 1), some (.iadd, 1), some (.istore_n 0, 1), some (.iload_n 0, 1), some (.bipush 63, 2), none, some (.iand, 1), some (.ireturn, 1)] = true := by decide +kernel
theorem mDt317 : mDcP prog_22_method_49_code mct317 := by
  intro j c h
  unfold mct317 at h
  match j, h with
  | 0, h => cases h; exact mDr317_0
  | 1, h => cases h; exact mDr317_1
  | n + 2, h => simp at h
theorem mDr318_0 : mDc1 prog_23_method_59_code 0 [some (.iload_n 0, 1), some (.ifCond .ge 8, 3), none, none, some (.iload_n 0, 1), some (.ineg, 1), some (.goto 4, 3), none, none, some (.iload_n 0, 1), some (.ireturn, 1)] = true := by decide +kernel
theorem mDt318 : mDcP prog_23_method_59_code mct318 := by
  intro j c h
  unfold mct318 at h
  match j, h with
  | 0, h => cases h; exact mDr318_0
  | n + 1, h => simp at h
theorem mDr319_0 : mDc1 prog_23_method_65_code 0 [some (.iload_n 0, 1), some (.iload_n 1, 1), some (.if_icmp .lt 7, 3), none, none, some (.iload_n 0, 1), some (.goto 4, 3), none, none, some (.iload_n 1, 1), some (.ireturn, 1)] = true := by decide +kernel
theorem mDt319 : mDcP prog_23_method_65_code mct319 := by
  intro j c h
  unfold mct319 at h
  match j, h with
  | 0, h => cases h; exact mDr319_0
  | n + 1, h => simp at h
