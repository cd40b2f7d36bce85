/-! the instruction tables: each row of 32 bytes by the decoder itself (printed by wip/whole/tools/gen_dec.py) -/
theorem mDr110_0 : mDc1 prog_10_method_12_code 0 [some (.iconst 0, 1), some (.istore_n 2, 1), some (.iconst 0, 1), some (.istore_n 3, 1), some (.iload_n 3, 1), some (.iload_n 1, 1), some (.if_icmp .ge 20, 3), none, none, some (.iload_n 2, 1), some (.iconst 1, 1), some (.aload_n 0, 1), some (.getfield 21, 3), none, none, some (.iload_n 3, 1), some (.iaload, 1), some (.ishl, 1), some (.ior, 1), some (.istore_n 2, 1), some (.iinc 3 1, 3), none, none, some (.goto (-19), 3), none, none, some (.iload_n 2, 1), some (.ireturn, 1)] = true := by decide +kernel
theorem mDt110 : mDcP prog_10_method_12_code mct110 := by
  intro j c h
  unfold mct110 at h
  match j, h with
  | 0, h => cases h; exact mDr110_0
  | n + 1, h => simp at h
theorem mDr111_0 : mDc1 prog_10_method_10_code 0 [some (.iload_n 1, 1), some (.iconst 1, 1), some (.isub, 1), some (.istore_n 2, 1), some (.iload_n 2, 1), some (.ifCond .lt 72, 3), none, none, some (.aload_n 0, 1), some (.getfield 21, 3), none, none, some (.iload_n 2, 1), some (.iaload, 1), some (.aload_n 0, 1), some (.getfield 24, 3), none, none, some (.getfield 112, 3), none, none, some (.iload_n 1, 1), some (.isub, 1), some (.iload_n 2, 1), some (.iadd, 1), some (.if_icmp .ge 46, 3), none, none, some (.aload_n 0, 1), some (.getfield 21, 3)] = true := by decide +kernel
theorem mDr111_1 : mDc1 prog_10_method_10_code 32 [some (.iload_n 2, 1), some (.dup2, 1), some (.iaload, 1), some (.iconst 1, 1), some (.iadd, 1), some (.iastore, 1), some (.iload_n 2, 1), some (.iconst 1, 1), some (.iadd, 1), some (.istore_n 3, 1), some (.iload_n 3, 1), some (.iload_n 1, 1), some (.if_icmp .ge 25, 3), none, none, some (.aload_n 0, 1), some (.getfield 21, 3), none, none, some (.iload_n 3, 1), some (.aload_n 0, 1), some (.getfield 21, 3), none, none, some (.iload_n 3, 1), some (.iconst 1, 1), some (.isub, 1), some (.iaload, 1), some (.iconst 1, 1), some (.iadd, 1), some (.iastore, 1), some (.iinc 3 1, 3)] = true := by decide +kernel
theorem mDr111_2 : mDc1 prog_10_method_10_code 64 [none, none, some (.goto (-24), 3), none, none, some (.iconst 1, 1), some (.ireturn, 1), some (.iinc 2 (-1), 3), none, none, some (.goto (-70), 3), none, none, some (.iconst 0, 1), some (.ireturn, 1)] = true := by decide +kernel
theorem mDt111 : mDcP prog_10_method_10_code mct111 := by
  intro j c h
  unfold mct111 at h
  match j, h with
  | 0, h => cases h; exact mDr111_0
  | 1, h => cases h; exact mDr111_1
  | 2, h => cases h; exact mDr111_2
  | n + 3, h => simp at h
theorem mDr112_0 : mDc1 prog_10_method_8_code 0 [some (.aload_n 0, 1), some (.invokevirtual 93, 3), none, none, some (.istore_n 1, 1), some (.iconst 0, 1), some (.istore_n 2, 1), some (.aload_n 0, 1), some (.invokevirtual 73, 3), none, none, some (.istore_n 3, 1), some (.aload_n 0, 1), some (.getfield 32, 3), none, none, some (.getfield 62, 3), none, none, some (.iconst 1, 1), some (.isub, 1), some (.istore 4, 2), none, some (.iload 4, 2), none, some (.ifCond .lt 66, 3), none, none, some (.iload_n 3, 1), some (.iload 4, 2), none, some (.ishr, 1)] = true := by decide +kernel
theorem mDr112_1 : mDc1 prog_10_method_8_code 32 [some (.iconst 1, 1), some (.iand, 1), some (.ifCond .eq 51, 3), none, none, some (.iload_n 3, 1), some (.iconst 1, 1), some (.iload 4, 2), none, some (.ishl, 1), some (.iconst (-1), 1), some (.ixor, 1), some (.iand, 1), some (.istore_n 3, 1), some (.aload_n 0, 1), some (.iload_n 3, 1), some (.invokevirtual 77, 3), none, none, some (.iload_n 1, 1), some (.if_icmp .ge 33, 3), none, none, some (.iload_n 2, 1), some (.iconst 1, 1), some (.iload 4, 2), none, some (.ishl, 1), some (.ior, 1), some (.istore_n 2, 1), some (.iinc 1 (-1), 3)] = true := by decide +kernel
theorem mDr112_2 : mDc1 prog_10_method_8_code 64 [none, some (.iload_n 3, 1), some (.aload_n 0, 1), some (.getfield 9, 3), none, none, some (.iload 4, 2), none, some (.iaload, 1), some (.aload_n 0, 1), some (.getfield 15, 3), none, none, some (.iload 4, 2), none, some (.iaload, 1), some (.ior, 1), some (.iconst (-1), 1), some (.ixor, 1), some (.iand, 1), some (.istore_n 3, 1), some (.iinc 4 (-1), 3), none, none, some (.goto (-65), 3), none, none, some (.iload_n 2, 1), some (.ireturn, 1)] = true := by decide +kernel
theorem mDt112 : mDcP prog_10_method_8_code mct112 := by
  intro j c h
  unfold mct112 at h
  match j, h with
  | 0, h => cases h; exact mDr112_0
  | 1, h => cases h; exact mDr112_1
  | 2, h => cases h; exact mDr112_2
  | n + 3, h => simp at h
theorem mDr113_0 : mDc1 prog_10_method_11_code 0 [some (.iconst 0, 1), some (.istore_n 2, 1), some (.iconst 0, 1), some (.istore_n 3, 1), some (.iload_n 3, 1), some (.aload_n 0, 1), some (.getfield 24, 3), none, none, some (.getfield 112, 3), none, none, some (.if_icmp .ge 78, 3), none, none, some (.aload_n 0, 1), some (.getfield 24, 3), none, none, some (.iload_n 3, 1), some (.invokevirtual 117, 3), none, none, some (.ifCond .eq 61, 3), none, none, some (.aload_n 0, 1), some (.getfield 28, 3), none, none, some (.iload_n 3, 1), some (.aload_n 0, 1)] = true := by decide +kernel
theorem mDr113_1 : mDc1 prog_10_method_11_code 32 [some (.getfield 21, 3), none, none, some (.iconst 0, 1), some (.iaload, 1), some (.invokevirtual 47, 3), none, none, some (.istore 4, 2), none, some (.iconst 1, 1), some (.istore 5, 2), none, some (.iload 5, 2), none, some (.iload_n 1, 1), some (.if_icmp .ge 31, 3), none, none, some (.iload 4, 2), none, some (.aload_n 0, 1), some (.getfield 28, 3), none, none, some (.iload_n 3, 1), some (.aload_n 0, 1), some (.getfield 21, 3), none, none, some (.iload 5, 2)] = true := by decide +kernel
theorem mDr113_2 : mDc1 prog_10_method_11_code 64 [some (.iaload, 1), some (.invokevirtual 47, 3), none, none, some (.invokestatic 120, 3), none, none, some (.istore 4, 2), none, some (.iinc 5 1, 3), none, none, some (.goto (-31), 3), none, none, some (.iload_n 2, 1), some (.iload 4, 2), none, some (.iadd, 1), some (.istore_n 2, 1), some (.iinc 3 1, 3), none, none, some (.goto (-83), 3), none, none, some (.iload_n 2, 1), some (.ireturn, 1)] = true := by decide +kernel
theorem mDt113 : mDcP prog_10_method_11_code mct113 := by
  intro j c h
  unfold mct113 at h
  match j, h with
  | 0, h => cases h; exact mDr113_0
  | 1, h => cases h; exact mDr113_1
  | 2, h => cases h; exact mDr113_2
  | n + 3, h => simp at h
theorem mDr114_0 : mDc1 prog_11_method_1_code 0 [some (.aload_n 0, 1), some (.invokespecial 3, 3), none, none, some (.aload_n 0, 1), some (.sipush 144, 3), none, none, some (.newarray .int, 2), none, some (.putfield 9, 3), none, none, some (.aload_n 0, 1), some (.sipush 144, 3), none, none, some (.newarray .int, 2), none, some (.putfield 15, 3), none, none, some (.aload_n 0, 1), some (.bipush 12, 2), none, some (.newarray .int, 2), none, some (.putfield 18, 3), none, none, some (.aload_n 0, 1), some (.bipush 12, 2)] = true := by decide +kernel
theorem mDr114_1 : mDc1 prog_11_method_1_code 32 [none, some (.newarray .int, 2), none, some (.putfield 21, 3), none, none, some (.aload_n 0, 1), some (.bipush 12, 2), none, some (.newarray .int, 2), none, some (.putfield 24, 3), none, none, some (.aload_n 0, 1), some (.sipush 128, 3), none, none, some (.newarray .int, 2), none, some (.putfield 27, 3), none, none, some (.aload_n 0, 1), some (.aload_n 1, 1), some (.putfield 30, 3), none, none, some (.return_, 1)] = true := by decide +kernel
theorem mDt114 : mDcP prog_11_method_1_code mct114 := by
  intro j c h
  unfold mct114 at h
  match j, h with
  | 0, h => cases h; exact mDr114_0
  | 1, h => cases h; exact mDr114_1
  | n + 2, h => simp at h
theorem mDr115_0 : mDc1 prog_11_method_5_code 0 [some (.aload_n 0, 1), some (.getfield 21, 3), none, none, some (.iload_n 1, 1), some (.iconst 0, 1), some (.iastore, 1), some (.aload_n 0, 1), some (.getfield 24, 3), none, none, some (.iload_n 1, 1), some (.iconst 0, 1), some (.iastore, 1), some (.iconst 0, 1), some (.istore_n 2, 1), some (.iload_n 2, 1), some (.aload_n 0, 1), some (.getfield 30, 3), none, none, some (.getfield 53, 3), none, none, some (.if_icmp .ge 67, 3), none, none, some (.aload_n 0, 1), some (.getfield 18, 3), none, none, some (.aload_n 0, 1)] = true := by decide +kernel
theorem mDr115_1 : mDc1 prog_11_method_5_code 32 [some (.getfield 30, 3), none, none, some (.getfield 62, 3), none, none, some (.iload_n 2, 1), some (.iaload, 1), some (.iaload, 1), some (.iload_n 1, 1), some (.ishr, 1), some (.iconst 1, 1), some (.iand, 1), some (.ifCond .eq 15, 3), none, none, some (.aload_n 0, 1), some (.getfield 21, 3), none, none, some (.iload_n 1, 1), some (.dup2, 1), some (.iaload, 1), some (.iconst 1, 1), some (.iload_n 2, 1), some (.ishl, 1), some (.ior, 1), some (.iastore, 1), some (.aload_n 0, 1), some (.getfield 30, 3)] = true := by decide +kernel
theorem mDr115_2 : mDc1 prog_11_method_5_code 64 [some (.getfield 62, 3), none, none, some (.iload_n 2, 1), some (.iaload, 1), some (.iload_n 1, 1), some (.if_icmp .ne 15, 3), none, none, some (.aload_n 0, 1), some (.getfield 24, 3), none, none, some (.iload_n 1, 1), some (.dup2, 1), some (.iaload, 1), some (.iconst 1, 1), some (.iload_n 2, 1), some (.ishl, 1), some (.ior, 1), some (.iastore, 1), some (.iinc 2 1, 3), none, none, some (.goto (-72), 3), none, none, some (.return_, 1)] = true := by decide +kernel
theorem mDt115 : mDcP prog_11_method_5_code mct115 := by
  intro j c h
  unfold mct115 at h
  match j, h with
  | 0, h => cases h; exact mDr115_0
  | 1, h => cases h; exact mDr115_1
  | 2, h => cases h; exact mDr115_2
  | n + 3, h => simp at h
theorem mDr116_0 : mDc1 prog_11_method_2_code 0 [some (.aload_n 0, 1), some (.getfield 18, 3), none, none, some (.iconst 0, 1), some (.iconst 1, 1), some (.iastore, 1), some (.aload_n 0, 1), some (.getfield 9, 3), none, none, some (.iconst 0, 1), some (.iconst 0, 1), some (.iastore, 1), some (.iconst 1, 1), some (.istore_n 1, 1), some (.iload_n 1, 1), some (.aload_n 0, 1), some (.getfield 30, 3), none, none, some (.getfield 34, 3), none, none, some (.if_icmp .ge 38, 3), none, none, some (.aload_n 0, 1), some (.getfield 18, 3), none, none, some (.iload_n 1, 1)] = true := by decide +kernel
theorem mDr116_1 : mDc1 prog_11_method_2_code 32 [some (.aload_n 0, 1), some (.getfield 18, 3), none, none, some (.aload_n 0, 1), some (.getfield 30, 3), none, none, some (.getfield 40, 3), none, none, some (.iload_n 1, 1), some (.iaload, 1), some (.iaload, 1), some (.iconst 1, 1), some (.iload_n 1, 1), some (.ishl, 1), some (.ior, 1), some (.iastore, 1), some (.aload_n 0, 1), some (.iload_n 1, 1), some (.invokevirtual 43, 3), none, none, some (.iinc 1 1, 3), none, none, some (.goto (-43), 3), none, none, some (.iconst 0, 1), some (.istore_n 1, 1)] = true := by decide +kernel
theorem mDr116_2 : mDc1 prog_11_method_2_code 64 [some (.iload_n 1, 1), some (.aload_n 0, 1), some (.getfield 30, 3), none, none, some (.getfield 34, 3), none, none, some (.if_icmp .ge 19, 3), none, none, some (.aload_n 0, 1), some (.iload_n 1, 1), some (.invokevirtual 47, 3), none, none, some (.aload_n 0, 1), some (.iload_n 1, 1), some (.invokevirtual 50, 3), none, none, some (.iinc 1 1, 3), none, none, some (.goto (-24), 3), none, none, some (.iconst 0, 1), some (.istore_n 1, 1), some (.iload_n 1, 1), some (.aload_n 0, 1), some (.getfield 30, 3)] = true := by decide +kernel
theorem mDr116_3 : mDc1 prog_11_method_2_code 96 [none, none, some (.getfield 53, 3), none, none, some (.if_icmp .ge 50, 3), none, none, some (.iconst 1, 1), some (.iload_n 1, 1), some (.ishl, 1), some (.istore_n 2, 1), some (.iconst 0, 1), some (.istore_n 3, 1), some (.iload_n 3, 1), some (.iload_n 2, 1), some (.if_icmp .ge 33, 3), none, none, some (.aload_n 0, 1), some (.getfield 27, 3), none, none, some (.iload_n 3, 1), some (.iload_n 2, 1), some (.ior, 1), some (.aload_n 0, 1), some (.getfield 27, 3), none, none, some (.iload_n 3, 1), some (.iaload, 1)] = true := by decide +kernel
theorem mDr116_4 : mDc1 prog_11_method_2_code 128 [some (.aload_n 0, 1), some (.getfield 30, 3), none, none, some (.getfield 56, 3), none, none, some (.iload_n 1, 1), some (.iaload, 1), some (.iadd, 1), some (.iastore, 1), some (.iinc 3 1, 3), none, none, some (.goto (-32), 3), none, none, some (.iinc 1 1, 3), none, none, some (.goto (-55), 3), none, none, some (.return_, 1)] = true := by decide +kernel
theorem mDt116 : mDcP prog_11_method_2_code mct116 := by
  intro j c h
  unfold mct116 at h
  match j, h with
  | 0, h => cases h; exact mDr116_0
  | 1, h => cases h; exact mDr116_1
  | 2, h => cases h; exact mDr116_2
  | 3, h => cases h; exact mDr116_3
  | 4, h => cases h; exact mDr116_4
  | n + 5, h => simp at h
theorem mDr117_0 : mDc1 prog_11_method_4_code 0 [some (.iload_n 1, 1), some (.istore_n 2, 1), some (.aload_n 0, 1), some (.getfield 15, 3), none, none, some (.iload_n 1, 1), some (.bipush 12, 2), none, some (.imul, 1), some (.iload_n 1, 1), some (.iadd, 1), some (.iload_n 1, 1), some (.iastore, 1), some (.iconst 0, 1), some (.istore_n 3, 1), some (.iload_n 3, 1), some (.bipush 12, 2), none, some (.if_icmp .ge 43, 3), none, none, some (.iload_n 2, 1), some (.ifCond .eq 39, 3), none, none, some (.aload_n 0, 1), some (.getfield 15, 3), none, none, some (.aload_n 0, 1), some (.getfield 30, 3)] = true := by decide +kernel
theorem mDr117_1 : mDc1 prog_11_method_4_code 32 [none, none, some (.getfield 40, 3), none, none, some (.iload_n 2, 1), some (.iaload, 1), some (.bipush 12, 2), none, some (.imul, 1), some (.iload_n 1, 1), some (.iadd, 1), some (.iload_n 2, 1), some (.iastore, 1), some (.aload_n 0, 1), some (.getfield 30, 3), none, none, some (.getfield 40, 3), none, none, some (.iload_n 2, 1), some (.iaload, 1), some (.istore_n 2, 1), some (.iinc 3 1, 3), none, none, some (.goto (-43), 3), none, none, some (.return_, 1)] = true := by decide +kernel
theorem mDt117 : mDcP prog_11_method_4_code mct117 := by
  intro j c h
  unfold mct117 at h
  match j, h with
  | 0, h => cases h; exact mDr117_0
  | 1, h => cases h; exact mDr117_1
  | n + 2, h => simp at h
theorem mDr118_0 : mDc1 prog_11_method_3_code 0 [some (.aload_n 0, 1), some (.getfield 30, 3), none, none, some (.getfield 40, 3), none, none, some (.iload_n 1, 1), some (.iaload, 1), some (.istore_n 2, 1), some (.iconst 0, 1), some (.istore_n 3, 1), some (.iload_n 3, 1), some (.iload_n 1, 1), some (.if_icmp .ge 58, 3), none, none, some (.aload_n 0, 1), some (.getfield 9, 3), none, none, some (.iload_n 2, 1), some (.bipush 12, 2), none, some (.imul, 1), some (.iload_n 3, 1), some (.iadd, 1), some (.iaload, 1), some (.aload_n 0, 1), some (.getfield 30, 3)] = true := by decide +kernel
theorem mDr118_1 : mDc1 prog_11_method_3_code 32 [some (.getfield 59, 3), none, none, some (.iload_n 1, 1), some (.iaload, 1), some (.iadd, 1), some (.istore 4, 2), none, some (.aload_n 0, 1), some (.getfield 9, 3), none, none, some (.iload_n 1, 1), some (.bipush 12, 2), none, some (.imul, 1), some (.iload_n 3, 1), some (.iadd, 1), some (.iload 4, 2), none, some (.iastore, 1), some (.aload_n 0, 1), some (.getfield 9, 3), none, none, some (.iload_n 3, 1), some (.bipush 12, 2), none, some (.imul, 1), some (.iload_n 1, 1), some (.iadd, 1), some (.iload 4, 2)] = true := by decide +kernel
theorem mDr118_2 : mDc1 prog_11_method_3_code 64 [none, some (.iastore, 1), some (.iinc 3 1, 3), none, none, some (.goto (-57), 3), none, none, some (.aload_n 0, 1), some (.getfield 9, 3), none, none, some (.iload_n 1, 1), some (.bipush 12, 2), none, some (.imul, 1), some (.iload_n 1, 1), some (.iadd, 1), some (.iconst 0, 1), some (.iastore, 1), some (.return_, 1)] = true := by decide +kernel
theorem mDt118 : mDcP prog_11_method_3_code mct118 := by
  intro j c h
  unfold mct118 at h
  match j, h with
  | 0, h => cases h; exact mDr118_0
  | 1, h => cases h; exact mDr118_1
  | 2, h => cases h; exact mDr118_2
  | n + 3, h => simp at h
theorem mDr119_0 : mDc1 prog_11_method_9_code 0 [some (.iload_n 2, 1), some (.aload_n 0, 1), some (.getfield 18, 3), none, none, some (.iload_n 1, 1), some (.iaload, 1), some (.iand, 1), some (.bipush (-2), 2), none, some (.iand, 1), some (.ifCond .eq 7, 3), none, none, some (.iconst 1, 1), some (.goto 4, 3), none, none, some (.iconst 0, 1), some (.ireturn, 1)] = true := by decide +kernel
theorem mDt119 : mDcP prog_11_method_9_code mct119 := by
  intro j c h
  unfold mct119 at h
  match j, h with
  | 0, h => cases h; exact mDr119_0
  | n + 1, h => simp at h
theorem mDr120_0 : mDc1 prog_11_method_8_code 0 [some (.iload_n 2, 1), some (.iload_n 1, 1), some (.ishr, 1), some (.iconst 1, 1), some (.iand, 1), some (.ifCond .eq 7, 3), none, none, some (.iconst 1, 1), some (.goto 4, 3), none, none, some (.iconst 0, 1), some (.ireturn, 1)] = true := by decide +kernel
theorem mDt120 : mDcP prog_11_method_8_code mct120 := by
  intro j c h
  unfold mct120 at h
  match j, h with
  | 0, h => cases h; exact mDr120_0
  | n + 1, h => simp at h
theorem mDr121_0 : mDc1 prog_11_method_6_code 0 [some (.aload_n 0, 1), some (.getfield 9, 3), none, none, some (.iload_n 1, 1), some (.bipush 12, 2), none, some (.imul, 1), some (.iload_n 2, 1), some (.iadd, 1), some (.iaload, 1), some (.ireturn, 1)] = true := by decide +kernel
theorem mDt121 : mDcP prog_11_method_6_code mct121 := by
  intro j c h
  unfold mct121 at h
  match j, h with
  | 0, h => cases h; exact mDr121_0
  | n + 1, h => simp at h
theorem mDr122_0 : mDc1 prog_11_method_7_code 0 [some (.aload_n 0, 1), some (.getfield 15, 3), none, none, some (.iload_n 1, 1), some (.bipush 12, 2), none, some (.imul, 1), some (.iload_n 2, 1), some (.iadd, 1), some (.iaload, 1), some (.ireturn, 1)] = true := by decide +kernel
theorem mDt122 : mDcP prog_11_method_7_code mct122 := by
  intro j c h
  unfold mct122 at h
  match j, h with
  | 0, h => cases h; exact mDr122_0
  | n + 1, h => simp at h
theorem mDr123_0 : mDc1 prog_12_method_1_code 0 [some (.aload_n 0, 1), some (.invokespecial 3, 3), none, none, some (.aload_n 0, 1), some (.bipush 7, 2), none, some (.newarray .int, 2), none, some (.putfield 9, 3), none, none, some (.aload_n 0, 1), some (.bipush 7, 2), none, some (.newarray .int, 2), none, some (.putfield 15, 3), none, none, some (.aload_n 0, 1), some (.bipush 7, 2), none, some (.newarray .int, 2), none, some (.putfield 18, 3), none, none, some (.aload_n 0, 1), some (.bipush 7, 2), none, some (.newarray .int, 2)] = true := by decide +kernel
theorem mDr123_1 : mDc1 prog_12_method_1_code 32 [none, some (.putfield 21, 3), none, none, some (.aload_n 0, 1), some (.bipush 7, 2), none, some (.newarray .int, 2), none, some (.putfield 24, 3), none, none, some (.aload_n 0, 1), some (.bipush 7, 2), none, some (.newarray .int, 2), none, some (.putfield 27, 3), none, none, some (.aload_n 0, 1), some (.bipush 8, 2), none, some (.newarray .int, 2), none, some (.putfield 30, 3), none, none, some (.aload_n 0, 1), some (.bipush 7, 2), none, some (.newarray .int, 2)] = true := by decide +kernel
theorem mDr123_2 : mDc1 prog_12_method_1_code 64 [none, some (.putfield 33, 3), none, none, some (.aload_n 0, 1), some (.aload_n 1, 1), some (.putfield 36, 3), none, none, some (.aload_n 0, 1), some (.aload_n 2, 1), some (.putfield 40, 3), none, none, some (.return_, 1)] = true := by decide +kernel
theorem mDt123 : mDcP prog_12_method_1_code mct123 := by
  intro j c h
  unfold mct123 at h
  match j, h with
  | 0, h => cases h; exact mDr123_0
  | 1, h => cases h; exact mDr123_1
  | 2, h => cases h; exact mDr123_2
  | n + 3, h => simp at h
theorem mDr124_0 : mDc1 prog_12_method_7_code 0 [some (.iconst 0, 1), some (.istore_n 3, 1), some (.iload_n 1, 1), some (.istore 4, 2), none, some (.iload 4, 2), none, some (.iload_n 2, 1), some (.if_icmp .ge 21, 3), none, none, some (.iload_n 3, 1), some (.iconst 1, 1), some (.aload_n 0, 1), some (.getfield 9, 3), none, none, some (.iload 4, 2), none, some (.iaload, 1), some (.ishl, 1), some (.ior, 1), some (.istore_n 3, 1), some (.iinc 4 1, 3), none, none, some (.goto (-21), 3), none, none, some (.iload_n 3, 1), some (.ireturn, 1)] = true := by decide +kernel
theorem mDt124 : mDcP prog_12_method_7_code mct124 := by
  intro j c h
  unfold mct124 at h
  match j, h with
  | 0, h => cases h; exact mDr124_0
  | n + 1, h => simp at h
theorem mDr125_0 : mDc1 prog_12_method_4_code 0 [some (.aload_n 0, 1), some (.getfield 50, 3), none, none, some (.ifCond .ne 5, 3), none, none, some (.iconst 0, 1), some (.ireturn, 1), some (.aload_n 0, 1), some (.dup, 1), some (.getfield 50, 3), none, none, some (.iconst 1, 1), some (.isub, 1), some (.putfield 50, 3), none, none, some (.aload_n 0, 1), some (.aload_n 0, 1), some (.getfield 15, 3), none, none, some (.aload_n 0, 1), some (.getfield 50, 3), none, none, some (.iaload, 1), some (.putfield 58, 3)] = true := by decide +kernel
theorem mDr125_1 : mDc1 prog_12_method_4_code 32 [some (.aload_n 0, 1), some (.aload_n 0, 1), some (.getfield 18, 3), none, none, some (.aload_n 0, 1), some (.getfield 50, 3), none, none, some (.iaload, 1), some (.putfield 61, 3), none, none, some (.aload_n 0, 1), some (.aload_n 0, 1), some (.getfield 21, 3), none, none, some (.aload_n 0, 1), some (.getfield 50, 3), none, none, some (.iaload, 1), some (.putfield 64, 3), none, none, some (.aload_n 0, 1), some (.aload_n 0, 1), some (.getfield 24, 3), none, none, some (.aload_n 0, 1)] = true := by decide +kernel
theorem mDr125_2 : mDc1 prog_12_method_4_code 64 [some (.getfield 50, 3), none, none, some (.iaload, 1), some (.putfield 67, 3), none, none, some (.aload_n 0, 1), some (.aload_n 0, 1), some (.getfield 27, 3), none, none, some (.aload_n 0, 1), some (.getfield 50, 3), none, none, some (.iaload, 1), some (.putfield 70, 3), none, none, some (.iconst 1, 1), some (.ireturn, 1)] = true := by decide +kernel
theorem mDt125 : mDcP prog_12_method_4_code mct125 := by
  intro j c h
  unfold mct125 at h
  match j, h with
  | 0, h => cases h; exact mDr125_0
  | 1, h => cases h; exact mDr125_1
  | 2, h => cases h; exact mDr125_2
  | n + 3, h => simp at h
theorem mDr126_0 : mDc1 prog_12_method_6_code 0 [some (.aload_n 0, 1), some (.getfield 30, 3), none, none, some (.aload_n 0, 1), some (.getfield 73, 3), none, none, some (.iaload, 1), some (.aload_n 0, 1), some (.getfield 64, 3), none, none, some (.if_icmp .ge 10, 3), none, none, some (.aload_n 0, 1), some (.getfield 73, 3), none, none, some (.goto 9, 3), none, none, some (.aload_n 0, 1), some (.getfield 73, 3), none, none, some (.iconst 1, 1), some (.isub, 1), some (.ireturn, 1)] = true := by decide +kernel
theorem mDt126 : mDcP prog_12_method_6_code mct126 := by
  intro j c h
  unfold mct126 at h
  match j, h with
  | 0, h => cases h; exact mDr126_0
  | n + 1, h => simp at h
theorem mDr127_0 : mDc1 prog_12_method_11_code 0 [some (.aload_n 0, 1), some (.aload_n 2, 1), some (.iconst 0, 1), some (.iload_n 1, 1), some (.iconst 0, 1), some (.invokevirtual 103, 3), none, none, some (.iconst 0, 1), some (.istore_n 3, 1), some (.iconst 0, 1), some (.istore 4, 2), none, some (.iload 4, 2), none, some (.bipush 84, 2), none, some (.if_icmp .ge 36, 3), none, none, some (.aload_n 0, 1), some (.invokevirtual 107, 3), none, none, some (.ifCond .eq 29, 3), none, none, some (.aload_n 0, 1), some (.invokevirtual 111, 3), none, none, some (.ifCond .ne 5, 3)] = true := by decide +kernel
theorem mDr127_1 : mDc1 prog_12_method_11_code 32 [none, none, some (.iconst (-1), 1), some (.ireturn, 1), some (.iload_n 3, 1), some (.aload_n 0, 1), some (.invokevirtual 93, 3), none, none, some (.iadd, 1), some (.istore_n 3, 1), some (.aload_n 0, 1), some (.invokevirtual 114, 3), none, none, some (.iinc 4 1, 3), none, none, some (.goto (-37), 3), none, none, some (.iload_n 3, 1), some (.ireturn, 1)] = true := by decide +kernel
theorem mDt127 : mDcP prog_12_method_11_code mct127 := by
  intro j c h
  unfold mct127 at h
  match j, h with
  | 0, h => cases h; exact mDr127_0
  | 1, h => cases h; exact mDr127_1
  | n + 2, h => simp at h
theorem mDr128_0 : mDc1 prog_12_method_10_code 0 [some (.aload_n 0, 1), some (.invokevirtual 93, 3), none, none, some (.ifCond .le 18, 3), none, none, some (.aload_n 0, 1), some (.getfield 36, 3), none, none, some (.getfield 97, 3), none, none, some (.aload_n 0, 1), some (.getfield 58, 3), none, none, some (.iaload, 1), some (.goto 4, 3), none, none, some (.iconst 0, 1), some (.istore_n 1, 1), some (.aload_n 0, 1), some (.getfield 73, 3), none, none, some (.iconst 1, 1), some (.isub, 1), some (.istore_n 2, 1), some (.iload_n 2, 1)] = true := by decide +kernel
theorem mDr128_1 : mDc1 prog_12_method_10_code 32 [some (.ifCond .lt 89, 3), none, none, some (.aload_n 0, 1), some (.getfield 40, 3), none, none, some (.aload_n 0, 1), some (.getfield 58, 3), none, none, some (.aload_n 0, 1), some (.getfield 36, 3), none, none, some (.getfield 76, 3), none, none, some (.aload_n 0, 1), some (.getfield 9, 3), none, none, some (.aload_n 0, 1), some (.getfield 30, 3), none, none, some (.iload_n 2, 1), some (.iaload, 1), some (.iaload, 1), some (.iaload, 1), some (.invokevirtual 81, 3)] = true := by decide +kernel
theorem mDr128_2 : mDc1 prog_12_method_10_code 64 [none, some (.istore_n 3, 1), some (.aload_n 0, 1), some (.getfield 67, 3), none, none, some (.iload_n 1, 1), some (.iload_n 2, 1), some (.iconst 1, 1), some (.iadd, 1), some (.imul, 1), some (.iadd, 1), some (.aload_n 0, 1), some (.getfield 36, 3), none, none, some (.getfield 100, 3), none, none, some (.iload_n 3, 1), some (.iaload, 1), some (.iadd, 1), some (.istore 4, 2), none, some (.aload_n 0, 1), some (.iload_n 3, 1), some (.aload_n 0, 1), some (.getfield 30, 3), none, none, some (.iload_n 2, 1), some (.iaload, 1)] = true := by decide +kernel
theorem mDr128_3 : mDc1 prog_12_method_10_code 96 [some (.aload_n 0, 1), some (.getfield 30, 3), none, none, some (.iload_n 2, 1), some (.iconst 1, 1), some (.iadd, 1), some (.iaload, 1), some (.iload 4, 2), none, some (.aload_n 0, 1), some (.getfield 33, 3), none, none, some (.iload_n 2, 1), some (.iaload, 1), some (.invokevirtual 54, 3), none, none, some (.iinc 2 (-1), 3), none, none, some (.goto (-87), 3), none, none, some (.return_, 1)] = true := by decide +kernel
theorem mDt128 : mDcP prog_12_method_10_code mct128 := by
  intro j c h
  unfold mct128 at h
  match j, h with
  | 0, h => cases h; exact mDr128_0
  | 1, h => cases h; exact mDr128_1
  | 2, h => cases h; exact mDr128_2
  | 3, h => cases h; exact mDr128_3
  | n + 4, h => simp at h
theorem mDr129_0 : mDc1 prog_12_method_2_code 0 [some (.aload_n 1, 1), some (.iload_n 2, 1), some (.aload_n 0, 1), some (.getfield 9, 3), none, none, some (.iconst 0, 1), some (.iload_n 3, 1), some (.invokestatic 44, 3), none, none, some (.aload_n 0, 1), some (.iconst 0, 1), some (.putfield 50, 3), none, none, some (.iload_n 3, 1), some (.ifCond .le 13, 3), none, none, some (.aload_n 0, 1), some (.iconst 0, 1), some (.iconst 0, 1), some (.iload_n 3, 1), some (.iload 4, 2), none, some (.iconst (-1), 1), some (.invokevirtual 54, 3), none, none, some (.return_, 1)] = true := by decide +kernel
theorem mDt129 : mDcP prog_12_method_2_code mct129 := by
  intro j c h
  unfold mct129 at h
  match j, h with
  | 0, h => cases h; exact mDr129_0
  | n + 1, h => simp at h
theorem mDr130_0 : mDc1 prog_12_method_8_code 0 [some (.aload_n 0, 1), some (.getfield 40, 3), none, none, some (.getfield 87, 3), none, none, some (.aload_n 0, 1), some (.aload_n 0, 1), some (.getfield 61, 3), none, none, some (.aload_n 0, 1), some (.getfield 64, 3), none, none, some (.invokevirtual 90, 3), none, none, some (.iaload, 1), some (.ireturn, 1)] = true := by decide +kernel
theorem mDt130 : mDcP prog_12_method_8_code mct130 := by
  intro j c h
  unfold mct130 at h
  match j, h with
  | 0, h => cases h; exact mDr130_0
  | n + 1, h => simp at h
theorem mDr131_0 : mDc1 prog_12_method_9_code 0 [some (.aload_n 0, 1), some (.getfield 40, 3), none, none, some (.getfield 87, 3), none, none, some (.aload_n 0, 1), some (.aload_n 0, 1), some (.getfield 30, 3), none, none, some (.iload_n 1, 1), some (.iaload, 1), some (.aload_n 0, 1), some (.getfield 30, 3), none, none, some (.iload_n 1, 1), some (.iconst 1, 1), some (.iadd, 1), some (.iaload, 1), some (.invokevirtual 90, 3), none, none, some (.iaload, 1), some (.ireturn, 1)] = true := by decide +kernel
theorem mDt131 : mDcP prog_12_method_9_code mct131 := by
  intro j c h
  unfold mct131 at h
  match j, h with
  | 0, h => cases h; exact mDr131_0
  | n + 1, h => simp at h
theorem mDr132_0 : mDc1 prog_12_method_12_code 0 [some (.iconst 0, 1), some (.istore_n 2, 1), some (.iconst 0, 1), some (.istore_n 3, 1), some (.iload_n 3, 1), some (.bipush 84, 2), none, some (.if_icmp .ge 64, 3), none, none, some (.aload_n 0, 1), some (.invokevirtual 107, 3), none, none, some (.ifCond .eq 57, 3), none, none, some (.aload_n 0, 1), some (.invokevirtual 111, 3), none, none, some (.ifCond .ne 5, 3), none, none, some (.iconst 0, 1), some (.ireturn, 1), some (.aload_n 0, 1), some (.getfield 58, 3), none, none, some (.iload_n 1, 1), some (.if_icmp .ne 30, 3)] = true := by decide +kernel
theorem mDr132_1 : mDc1 prog_12_method_12_code 32 [none, none, some (.aload_n 0, 1), some (.getfield 73, 3), none, none, some (.ifCond .le 23, 3), none, none, some (.aload_n 0, 1), some (.aload_n 0, 1), some (.getfield 30, 3), none, none, some (.iconst 1, 1), some (.iaload, 1), some (.aload_n 0, 1), some (.getfield 30, 3), none, none, some (.aload_n 0, 1), some (.getfield 73, 3), none, none, some (.iaload, 1), some (.invokevirtual 117, 3), none, none, some (.istore_n 2, 1), some (.aload_n 0, 1), some (.invokevirtual 114, 3)] = true := by decide +kernel
theorem mDr132_2 : mDc1 prog_12_method_12_code 64 [none, some (.iinc 3 1, 3), none, none, some (.goto (-64), 3), none, none, some (.iload_n 2, 1), some (.ireturn, 1)] = true := by decide +kernel
theorem mDt132 : mDcP prog_12_method_12_code mct132 := by
  intro j c h
  unfold mct132 at h
  match j, h with
  | 0, h => cases h; exact mDr132_0
  | 1, h => cases h; exact mDr132_1
  | 2, h => cases h; exact mDr132_2
  | n + 3, h => simp at h
theorem mDr133_0 : mDc1 prog_12_method_13_code 0 [some (.iconst 0, 1), some (.istore_n 3, 1), some (.iload_n 1, 1), some (.istore 4, 2), none, some (.iload 4, 2), none, some (.iload_n 2, 1), some (.if_icmp .ge 35, 3), none, none, some (.iload_n 3, 1), some (.aload_n 0, 1), some (.getfield 40, 3), none, none, some (.getfield 120, 3), none, none, some (.aload_n 0, 1), some (.getfield 36, 3), none, none, some (.getfield 76, 3), none, none, some (.aload_n 0, 1), some (.getfield 9, 3), none, none, some (.iload 4, 2)] = true := by decide +kernel
theorem mDr133_1 : mDc1 prog_12_method_13_code 32 [some (.iaload, 1), some (.iaload, 1), some (.iaload, 1), some (.ior, 1), some (.istore_n 3, 1), some (.iinc 4 1, 3), none, none, some (.goto (-35), 3), none, none, some (.iload_n 3, 1), some (.aload_n 0, 1), some (.getfield 40, 3), none, none, some (.getfield 120, 3), none, none, some (.aload_n 0, 1), some (.getfield 58, 3), none, none, some (.iaload, 1), some (.iconst (-1), 1), some (.ixor, 1), some (.iand, 1), some (.ireturn, 1)] = true := by decide +kernel
theorem mDt133 : mDcP prog_12_method_13_code mct133 := by
  intro j c h
  unfold mct133 at h
  match j, h with
  | 0, h => cases h; exact mDr133_0
  | 1, h => cases h; exact mDr133_1
  | n + 2, h => simp at h
theorem mDr134_0 : mDc1 prog_12_method_3_code 0 [some (.aload_n 0, 1), some (.getfield 15, 3), none, none, some (.aload_n 0, 1), some (.getfield 50, 3), none, none, some (.iload_n 1, 1), some (.iastore, 1), some (.aload_n 0, 1), some (.getfield 18, 3), none, none, some (.aload_n 0, 1), some (.getfield 50, 3), none, none, some (.iload_n 2, 1), some (.iastore, 1), some (.aload_n 0, 1), some (.getfield 21, 3), none, none, some (.aload_n 0, 1), some (.getfield 50, 3), none, none, some (.iload_n 3, 1), some (.iastore, 1), some (.aload_n 0, 1), some (.getfield 24, 3)] = true := by decide +kernel
theorem mDr134_1 : mDc1 prog_12_method_3_code 32 [none, none, some (.aload_n 0, 1), some (.getfield 50, 3), none, none, some (.iload 4, 2), none, some (.iastore, 1), some (.aload_n 0, 1), some (.getfield 27, 3), none, none, some (.aload_n 0, 1), some (.getfield 50, 3), none, none, some (.iload 5, 2), none, some (.iastore, 1), some (.aload_n 0, 1), some (.dup, 1), some (.getfield 50, 3), none, none, some (.iconst 1, 1), some (.iadd, 1), some (.putfield 50, 3), none, none, some (.return_, 1)] = true := by decide +kernel
theorem mDt134 : mDcP prog_12_method_3_code mct134 := by
  intro j c h
  unfold mct134 at h
  match j, h with
  | 0, h => cases h; exact mDr134_0
  | 1, h => cases h; exact mDr134_1
  | n + 2, h => simp at h
theorem mDr135_0 : mDc1 prog_12_method_5_code 0 [some (.aload_n 0, 1), some (.iconst 0, 1), some (.putfield 73, 3), none, none, some (.aload_n 0, 1), some (.getfield 64, 3), none, none, some (.istore_n 1, 1), some (.iconst 0, 1), some (.istore_n 2, 1), some (.iconst (-1), 1), some (.istore_n 3, 1), some (.aload_n 0, 1), some (.getfield 61, 3), none, none, some (.istore 4, 2), none, some (.iload 4, 2), none, some (.aload_n 0, 1), some (.getfield 64, 3), none, none, some (.if_icmp .ge 108, 3), none, none, some (.aload_n 0, 1), some (.getfield 40, 3)] = true := by decide +kernel
theorem mDr135_1 : mDc1 prog_12_method_5_code 32 [none, some (.aload_n 0, 1), some (.getfield 58, 3), none, none, some (.aload_n 0, 1), some (.getfield 36, 3), none, none, some (.getfield 76, 3), none, none, some (.aload_n 0, 1), some (.getfield 9, 3), none, none, some (.iload 4, 2), none, some (.iaload, 1), some (.iaload, 1), some (.invokevirtual 81, 3), none, none, some (.istore 5, 2), none, some (.iload 5, 2), none, some (.iload_n 3, 1), some (.if_icmp .eq 68, 3), none, none, some (.iload_n 3, 1)] = true := by decide +kernel
theorem mDr135_2 : mDc1 prog_12_method_5_code 64 [some (.aload_n 0, 1), some (.getfield 58, 3), none, none, some (.if_icmp .eq 12, 3), none, none, some (.iload_n 2, 1), some (.iload 5, 2), none, some (.ishr, 1), some (.iconst 1, 1), some (.iand, 1), some (.ifCond .eq 5, 3), none, none, some (.iconst 0, 1), some (.ireturn, 1), some (.iload_n 2, 1), some (.iconst 1, 1), some (.iload 5, 2), none, some (.ishl, 1), some (.ior, 1), some (.istore_n 2, 1), some (.iload 5, 2), none, some (.istore_n 3, 1), some (.iload 5, 2), none, some (.aload_n 0, 1), some (.getfield 58, 3)] = true := by decide +kernel
theorem mDr135_3 : mDc1 prog_12_method_5_code 96 [none, none, some (.if_icmp .ne 9, 3), none, none, some (.iload 4, 2), none, some (.istore_n 1, 1), some (.goto 24, 3), none, none, some (.aload_n 0, 1), some (.getfield 30, 3), none, none, some (.aload_n 0, 1), some (.getfield 73, 3), none, none, some (.iload 4, 2), none, some (.iastore, 1), some (.aload_n 0, 1), some (.dup, 1), some (.getfield 73, 3), none, none, some (.iconst 1, 1), some (.iadd, 1), some (.putfield 73, 3)] = true := by decide +kernel
theorem mDr135_4 : mDc1 prog_12_method_5_code 128 [some (.iinc 4 1, 3), none, none, some (.goto (-111), 3), none, none, some (.aload_n 0, 1), some (.getfield 30, 3), none, none, some (.aload_n 0, 1), some (.getfield 73, 3), none, none, some (.iload_n 1, 1), some (.iastore, 1), some (.iconst 1, 1), some (.ireturn, 1)] = true := by decide +kernel
theorem mDt135 : mDcP prog_12_method_5_code mct135 := by
  intro j c h
  unfold mct135 at h
  match j, h with
  | 0, h => cases h; exact mDr135_0
  | 1, h => cases h; exact mDr135_1
  | 2, h => cases h; exact mDr135_2
  | 3, h => cases h; exact mDr135_3
  | 4, h => cases h; exact mDr135_4
  | n + 5, h => simp at h
theorem mDr136_0 : mDc1 prog_1_method_1_code 0 [some (.aload_n 0, 1), some (.invokespecial 3, 3), none, none, some (.aload_n 0, 1), some (.sipush 500, 3), none, none, some (.newarray .byte, 2), none, some (.putfield 9, 3), none, none, some (.aload_n 0, 1), some (.iconst 0, 1), some (.putfield 13, 3), none, none, some (.aload_n 0, 1), some (.iconst (-1), 1), some (.putfield 17, 3), none, none, some (.aload_n 0, 1), some (.new 20, 3), none, none, some (.dup, 1), some (.aload_n 0, 1), some (.getfield 9, 3)] = true := by decide +kernel
theorem mDr136_1 : mDc1 prog_1_method_1_code 32 [some (.invokespecial 22, 3), none, none, some (.putfield 25, 3), none, none, some (.aload_n 0, 1), some (.new 29, 3), none, none, some (.dup, 1), some (.invokespecial 31, 3), none, none, some (.putfield 32, 3), none, none, some (.aload_n 0, 1), some (.new 36, 3), none, none, some (.dup, 1), some (.aload_n 0, 1), some (.getfield 32, 3), none, none, some (.invokespecial 38, 3), none, none, some (.putfield 41, 3)] = true := by decide +kernel
theorem mDr136_2 : mDc1 prog_1_method_1_code 64 [some (.aload_n 0, 1), some (.new 45, 3), none, none, some (.dup, 1), some (.invokespecial 47, 3), none, none, some (.putfield 48, 3), none, none, some (.aload_n 0, 1), some (.iconst 3, 1), some (.anewarray 45, 3), none, none, some (.putfield 52, 3), none, none, some (.iconst 0, 1), some (.istore_n 1, 1), some (.iload_n 1, 1), some (.iconst 3, 1), some (.if_icmp .ge 22, 3), none, none, some (.aload_n 0, 1), some (.getfield 52, 3), none, none, some (.iload_n 1, 1), some (.new 45, 3)] = true := by decide +kernel
theorem mDr136_3 : mDc1 prog_1_method_1_code 96 [none, none, some (.dup, 1), some (.invokespecial 47, 3), none, none, some (.aastore, 1), some (.iinc 1 1, 3), none, none, some (.goto (-21), 3), none, none, some (.aload_n 0, 1), some (.iconst 0, 1), some (.putfield 56, 3), none, none, some (.aload_n 0, 1), some (.new 59, 3), none, none, some (.dup, 1), some (.aload_n 0, 1), some (.getfield 32, 3), none, none, some (.aload_n 0, 1), some (.getfield 41, 3), none, none, some (.invokespecial 61, 3)] = true := by decide +kernel
theorem mDr136_4 : mDc1 prog_1_method_1_code 128 [none, none, some (.putfield 64, 3), none, none, some (.aload_n 0, 1), some (.new 68, 3), none, none, some (.dup, 1), some (.aload_n 0, 1), some (.getfield 32, 3), none, none, some (.aload_n 0, 1), some (.getfield 41, 3), none, none, some (.invokespecial 70, 3), none, none, some (.putfield 71, 3), none, none, some (.aload_n 0, 1), some (.new 75, 3), none, none, some (.dup, 1), some (.aload_n 0, 1), some (.getfield 32, 3)] = true := by decide +kernel
theorem mDr136_5 : mDc1 prog_1_method_1_code 160 [none, some (.aload_n 0, 1), some (.getfield 41, 3), none, none, some (.aload_n 0, 1), some (.getfield 48, 3), none, none, some (.aload_n 0, 1), some (.getfield 71, 3), none, none, some (.invokespecial 77, 3), none, none, some (.putfield 80, 3), none, none, some (.aload_n 0, 1), some (.new 84, 3), none, none, some (.dup, 1), some (.aload_n 0, 1), some (.getfield 32, 3), none, none, some (.aload_n 0, 1), some (.getfield 41, 3)] = true := by decide +kernel
theorem mDr136_6 : mDc1 prog_1_method_1_code 192 [some (.aload_n 0, 1), some (.getfield 48, 3), none, none, some (.aload_n 0, 1), some (.getfield 64, 3), none, none, some (.aload_n 0, 1), some (.getfield 71, 3), none, none, some (.invokespecial 86, 3), none, none, some (.putfield 89, 3), none, none, some (.aload_n 0, 1), some (.new 93, 3), none, none, some (.dup, 1), some (.aload_n 0, 1), some (.getfield 32, 3), none, none, some (.aload_n 0, 1), some (.getfield 41, 3), none, none, some (.aload_n 0, 1)] = true := by decide +kernel
theorem mDr136_7 : mDc1 prog_1_method_1_code 224 [some (.getfield 48, 3), none, none, some (.invokespecial 95, 3), none, none, some (.putfield 98, 3), none, none, some (.aload_n 0, 1), some (.new 102, 3), none, none, some (.dup, 1), some (.aload_n 0, 1), some (.getfield 32, 3), none, none, some (.aload_n 0, 1), some (.getfield 41, 3), none, none, some (.aload_n 0, 1), some (.getfield 48, 3), none, none, some (.invokespecial 104, 3), none, none, some (.putfield 105, 3)] = true := by decide +kernel
theorem mDr136_8 : mDc1 prog_1_method_1_code 256 [some (.aload_n 0, 1), some (.bipush 7, 2), none, some (.newarray .int, 2), none, some (.putfield 109, 3), none, none, some (.return_, 1)] = true := by decide +kernel
theorem mDt136 : mDcP prog_1_method_1_code mct136 := by
  intro j c h
  unfold mct136 at h
  match j, h with
  | 0, h => cases h; exact mDr136_0
  | 1, h => cases h; exact mDr136_1
  | 2, h => cases h; exact mDr136_2
  | 3, h => cases h; exact mDr136_3
  | 4, h => cases h; exact mDr136_4
  | 5, h => cases h; exact mDr136_5
  | 6, h => cases h; exact mDr136_6
  | 7, h => cases h; exact mDr136_7
  | 8, h => cases h; exact mDr136_8
  | n + 9, h => simp at h
theorem mDr137_0 : mDc1 prog_1_method_33_code 0 [some (.aload_n 0, 1), some (.iload_n 1, 1), some (.invokevirtual 206, 3), none, none, some (.aload_n 0, 1), some (.getfield 48, 3), none, none, some (.getfield 219, 3), none, none, some (.iload_n 1, 1), some (.iaload, 1), some (.ifCond .ne 5, 3), none, none, some (.iconst 0, 1), some (.ireturn, 1), some (.aload_n 0, 1), some (.getfield 98, 3), none, none, some (.iconst 0, 1), some (.invokevirtual 298, 3), none, none, some (.aload_n 0, 1), some (.getfield 98, 3), none, none, some (.iload_n 1, 1)] = true := by decide +kernel
theorem mDr137_1 : mDc1 prog_1_method_33_code 32 [some (.invokevirtual 328, 3), none, none, some (.ireturn, 1)] = true := by decide +kernel
theorem mDt137 : mDcP prog_1_method_33_code mct137 := by
  intro j c h
  unfold mct137 at h
  match j, h with
  | 0, h => cases h; exact mDr137_0
  | 1, h => cases h; exact mDr137_1
  | n + 2, h => simp at h
theorem mDr138_0 : mDc1 prog_1_method_17_code 0 [some (.aload_n 0, 1), some (.iload_n 1, 1), some (.invokevirtual 209, 3), none, none, some (.aload_n 0, 1), some (.getfield 80, 3), none, none, some (.invokevirtual 237, 3), none, none, some (.aload_n 0, 1), some (.getfield 80, 3), none, none, some (.getfield 245, 3), none, none, some (.iload_n 1, 1), some (.iaload, 1), some (.ireturn, 1)] = true := by decide +kernel
theorem mDt138 : mDcP prog_1_method_17_code mct138 := by
  intro j c h
  unfold mct138 at h
  match j, h with
  | 0, h => cases h; exact mDr138_0
  | n + 1, h => simp at h
theorem mDr139_0 : mDc1 prog_1_method_37_code 0 [some (.aload_n 0, 1), some (.iload_n 1, 1), some (.invokevirtual 358, 3), none, none, some (.aload_n 0, 1), some (.iload_n 2, 1), some (.invokevirtual 358, 3), none, none, some (.aload_n 0, 1), some (.getfield 105, 3), none, none, some (.iload_n 1, 1), some (.iload_n 2, 1), some (.invokevirtual 361, 3), none, none, some (.ireturn, 1)] = true := by decide +kernel
theorem mDt139 : mDcP prog_1_method_37_code mct139 := by
  intro j c h
  unfold mct139 at h
  match j, h with
  | 0, h => cases h; exact mDr139_0
  | n + 1, h => simp at h
theorem mDr140_0 : mDc1 prog_1_method_19_code 0 [some (.iload_n 1, 1), some (.iconst (-1), 1), some (.if_icmp .eq 8, 3), none, none, some (.aload_n 0, 1), some (.iload_n 1, 1), some (.invokevirtual 209, 3), none, none, some (.aload_n 0, 1), some (.getfield 89, 3), none, none, some (.invokevirtual 256, 3), none, none, some (.ifCond .ne 6, 3), none, none, some (.bipush (-2), 2), none, some (.ireturn, 1), some (.iload_n 1, 1), some (.iconst (-1), 1), some (.if_icmp .ne 13, 3), none, none, some (.aload_n 0, 1), some (.getfield 89, 3)] = true := by decide +kernel
theorem mDr140_1 : mDc1 prog_1_method_19_code 32 [some (.getfield 260, 3), none, none, some (.goto 12, 3), none, none, some (.aload_n 0, 1), some (.getfield 89, 3), none, none, some (.getfield 263, 3), none, none, some (.iload_n 1, 1), some (.iaload, 1), some (.ireturn, 1)] = true := by decide +kernel
theorem mDt140 : mDcP prog_1_method_19_code mct140 := by
  intro j c h
  unfold mct140 at h
  match j, h with
  | 0, h => cases h; exact mDr140_0
  | 1, h => cases h; exact mDr140_1
  | n + 2, h => simp at h
theorem mDr141_0 : mDc1 prog_1_method_30_code 0 [some (.aload_n 0, 1), some (.iload_n 1, 1), some (.invokevirtual 280, 3), none, none, some (.aload_n 0, 1), some (.getfield 98, 3), none, none, some (.iload_n 1, 1), some (.invokevirtual 314, 3), none, none, some (.ireturn, 1)] = true := by decide +kernel
theorem mDt141 : mDcP prog_1_method_30_code mct141 := by
  intro j c h
  unfold mct141 at h
  match j, h with
  | 0, h => cases h; exact mDr141_0
  | n + 1, h => simp at h
theorem mDr142_0 : mDc1 prog_1_method_20_code 0 [some (.aload_n 0, 1), some (.getfield 48, 3), none, none, some (.getfield 197, 3), none, none, some (.ifCond .ne 5, 3), none, none, some (.iconst 0, 1), some (.ireturn, 1), some (.iconst 0, 1), some (.istore_n 1, 1), some (.iconst 0, 1), some (.istore_n 2, 1), some (.iload_n 2, 1), some (.aload_n 0, 1), some (.getfield 32, 3), none, none, some (.getfield 153, 3), none, none, some (.if_icmp .ge 59, 3), none, none, some (.iconst 0, 1), some (.istore_n 3, 1), some (.iconst 0, 1), some (.istore 4, 2)] = true := by decide +kernel
theorem mDr142_1 : mDc1 prog_1_method_20_code 32 [some (.iload 4, 2), none, some (.aload_n 0, 1), some (.getfield 48, 3), none, none, some (.getfield 197, 3), none, none, some (.if_icmp .ge 32, 3), none, none, some (.iload_n 3, 1), some (.aload_n 0, 1), some (.getfield 32, 3), none, none, some (.iload_n 2, 1), some (.aload_n 0, 1), some (.getfield 48, 3), none, none, some (.getfield 266, 3), none, none, some (.iload 4, 2), none, some (.iaload, 1), some (.invokevirtual 269, 3), none, none, some (.invokestatic 272, 3)] = true := by decide +kernel
theorem mDr142_2 : mDc1 prog_1_method_20_code 64 [none, none, some (.istore_n 3, 1), some (.iinc 4 1, 3), none, none, some (.goto (-38), 3), none, none, some (.iload_n 1, 1), some (.iload_n 3, 1), some (.iadd, 1), some (.istore_n 1, 1), some (.iinc 2 1, 3), none, none, some (.goto (-64), 3), none, none, some (.iload_n 1, 1), some (.ireturn, 1)] = true := by decide +kernel
theorem mDt142 : mDcP prog_1_method_20_code mct142 := by
  intro j c h
  unfold mct142 at h
  match j, h with
  | 0, h => cases h; exact mDr142_0
  | 1, h => cases h; exact mDr142_1
  | 2, h => cases h; exact mDr142_2
  | n + 3, h => simp at h
theorem mDr143_0 : mDc1 prog_1_method_35_code 0 [some (.iconst 0, 1), some (.istore_n 3, 1), some (.iconst 0, 1), some (.istore 4, 2), none, some (.iload 4, 2), none, some (.aload_n 0, 1), some (.getfield 32, 3), none, none, some (.getfield 147, 3), none, none, some (.if_icmp .ge 58, 3), none, none, some (.iload_n 1, 1), some (.iload 4, 2), none, some (.ishr, 1), some (.iconst 1, 1), some (.iand, 1), some (.ifCond .eq 43, 3), none, none, some (.iload_n 3, 1), some (.aload_n 0, 1), some (.getfield 32, 3), none, none, some (.getfield 344, 3)] = true := by decide +kernel
theorem mDr143_1 : mDc1 prog_1_method_35_code 32 [none, none, some (.iload 4, 2), none, some (.iaload, 1), some (.aload_n 0, 1), some (.getfield 41, 3), none, none, some (.aload_n 0, 1), some (.getfield 32, 3), none, none, some (.getfield 333, 3), none, none, some (.iload_n 2, 1), some (.iaload, 1), some (.aload_n 0, 1), some (.getfield 32, 3), none, none, some (.getfield 333, 3), none, none, some (.iload 4, 2), none, some (.iaload, 1), some (.invokevirtual 176, 3), none, none, some (.imul, 1)] = true := by decide +kernel
theorem mDr143_2 : mDc1 prog_1_method_35_code 64 [some (.iadd, 1), some (.istore_n 3, 1), some (.iinc 4 1, 3), none, none, some (.goto (-64), 3), none, none, some (.iload_n 3, 1), some (.ireturn, 1)] = true := by decide +kernel
theorem mDt143 : mDcP prog_1_method_35_code mct143 := by
  intro j c h
  unfold mct143 at h
  match j, h with
  | 0, h => cases h; exact mDr143_0
  | 1, h => cases h; exact mDr143_1
  | 2, h => cases h; exact mDr143_2
  | n + 3, h => simp at h
theorem mDr144_0 : mDc1 prog_1_method_13_code 0 [some (.aload_n 0, 1), some (.iload_n 1, 1), some (.invokevirtual 206, 3), none, none, some (.aload_n 0, 1), some (.getfield 48, 3), none, none, some (.iload_n 1, 1), some (.invokevirtual 234, 3), none, none, some (.ireturn, 1)] = true := by decide +kernel
theorem mDt144 : mDcP prog_1_method_13_code mct144 := by
  intro j c h
  unfold mct144 at h
  match j, h with
  | 0, h => cases h; exact mDr144_0
  | n + 1, h => simp at h
theorem mDr145_0 : mDc1 prog_1_method_48_code 0 [some (.iload_n 1, 1), some (.tableswitch 84 0 5 #[39, 47, 55, 63, 74, 79], 39)] = true := by decide +kernel
theorem mDr145_1 : mDc1 prog_1_method_48_code 32 [none, none, none, none, none, none, none, none, some (.aload_n 0, 1), some (.getfield 48, 3), none, none, some (.getfield 197, 3), none, none, some (.ireturn, 1), some (.aload_n 0, 1), some (.getfield 48, 3), none, none, some (.invokevirtual 414, 3), none, none, some (.ireturn, 1), some (.aload_n 0, 1), some (.getfield 48, 3), none, none, some (.getfield 351, 3), none, none, some (.ireturn, 1)] = true := by decide +kernel
theorem mDr145_2 : mDc1 prog_1_method_48_code 64 [some (.aload_n 0, 1), some (.getfield 48, 3), none, none, some (.getfield 287, 3), none, none, some (.invokestatic 160, 3), none, none, some (.ireturn, 1), some (.aload_n 0, 1), some (.getfield 56, 3), none, none, some (.ireturn, 1), some (.aload_n 0, 1), some (.getfield 13, 3), none, none, some (.ireturn, 1), some (.iconst (-1), 1), some (.ireturn, 1)] = true := by decide +kernel
theorem mDt145 : mDcP prog_1_method_48_code mct145 := by
  intro j c h
  unfold mct145 at h
  match j, h with
  | 0, h => cases h; exact mDr145_0
  | 1, h => cases h; exact mDr145_1
  | 2, h => cases h; exact mDr145_2
  | n + 3, h => simp at h
theorem mDr146_0 : mDc1 prog_1_method_42_code 0 [some (.aload_n 0, 1), some (.iload_n 1, 1), some (.invokevirtual 206, 3), none, none, some (.iload_n 2, 1), some (.ifCond .lt 9, 3), none, none, some (.iload_n 2, 1), some (.bipush 7, 2), none, some (.if_icmp .lt 14, 3), none, none, some (.new 117, 3), none, none, some (.dup, 1), some (.ldc_w 389, 3), none, none, some (.invokespecial 121, 3), none, none, some (.athrow, 1), some (.aload_n 0, 1), some (.getfield 71, 3), none, none, some (.aload_n 0, 1), some (.getfield 48, 3)] = true := by decide +kernel
theorem mDr146_1 : mDc1 prog_1_method_42_code 32 [none, none, some (.iload_n 1, 1), some (.iload_n 2, 1), some (.aload_n 0, 1), some (.getfield 109, 3), none, none, some (.invokevirtual 391, 3), none, none, some (.aload_n 0, 1), some (.getfield 109, 3), none, none, some (.invokevirtual 395, 3), none, none, some (.ireturn, 1)] = true := by decide +kernel
theorem mDt146 : mDcP prog_1_method_42_code mct146 := by
  intro j c h
  unfold mct146 at h
  match j, h with
  | 0, h => cases h; exact mDr146_0
  | 1, h => cases h; exact mDr146_1
  | n + 2, h => simp at h
theorem mDr147_0 : mDc1 prog_1_method_44_code 0 [some (.aload_n 0, 1), some (.getfield 98, 3), none, none, some (.iload_n 1, 1), some (.iconst 1, 1), some (.invokevirtual 406, 3), none, none, some (.ireturn, 1)] = true := by decide +kernel
theorem mDt147 : mDcP prog_1_method_44_code mct147 := by
  intro j c h
  unfold mct147 at h
  match j, h with
  | 0, h => cases h; exact mDr147_0
  | n + 1, h => simp at h
theorem mDr148_0 : mDc1 prog_1_method_41_code 0 [some (.aload_n 0, 1), some (.iload_n 1, 1), some (.invokevirtual 209, 3), none, none, some (.iload_n 2, 1), some (.ifCond .lt 9, 3), none, none, some (.iload_n 2, 1), some (.bipush 127, 2), none, some (.if_icmp .le 14, 3), none, none, some (.new 117, 3), none, none, some (.dup, 1), some (.ldc_w 384, 3), none, none, some (.invokespecial 121, 3), none, none, some (.athrow, 1), some (.aload_n 0, 1), some (.getfield 48, 3), none, none, some (.getfield 386, 3)] = true := by decide +kernel
theorem mDr148_1 : mDc1 prog_1_method_41_code 32 [none, some (.iload_n 1, 1), some (.iaload, 1), some (.istore_n 3, 1), some (.aload_n 0, 1), some (.getfield 48, 3), none, none, some (.getfield 386, 3), none, none, some (.iload_n 1, 1), some (.iload_n 2, 1), some (.iastore, 1), some (.iload_n 3, 1), some (.ireturn, 1)] = true := by decide +kernel
theorem mDt148 : mDcP prog_1_method_41_code mct148 := by
  intro j c h
  unfold mct148 at h
  match j, h with
  | 0, h => cases h; exact mDr148_0
  | 1, h => cases h; exact mDr148_1
  | n + 2, h => simp at h
theorem mDr149_0 : mDc1 prog_1_method_16_code 0 [some (.aload_n 0, 1), some (.iload_n 1, 1), some (.invokevirtual 209, 3), none, none, some (.aload_n 0, 1), some (.getfield 80, 3), none, none, some (.invokevirtual 237, 3), none, none, some (.aload_n 0, 1), some (.getfield 80, 3), none, none, some (.getfield 243, 3), none, none, some (.iload_n 1, 1), some (.iaload, 1), some (.ireturn, 1)] = true := by decide +kernel
theorem mDt149 : mDcP prog_1_method_16_code mct149 := by
  intro j c h
  unfold mct149 at h
  match j, h with
  | 0, h => cases h; exact mDr149_0
  | n + 1, h => simp at h
theorem mDr150_0 : mDc1 prog_1_method_15_code 0 [some (.aload_n 0, 1), some (.iload_n 1, 1), some (.invokevirtual 206, 3), none, none, some (.aload_n 0, 1), some (.getfield 80, 3), none, none, some (.invokevirtual 237, 3), none, none, some (.aload_n 0, 1), some (.getfield 80, 3), none, none, some (.getfield 240, 3), none, none, some (.iload_n 1, 1), some (.iaload, 1), some (.ireturn, 1)] = true := by decide +kernel
theorem mDt150 : mDcP prog_1_method_15_code mct150 := by
  intro j c h
  unfold mct150 at h
  match j, h with
  | 0, h => cases h; exact mDr150_0
  | n + 1, h => simp at h
theorem mDr151_0 : mDc1 prog_1_method_24_code 0 [some (.aload_n 0, 1), some (.iload_n 1, 1), some (.invokevirtual 209, 3), none, none, some (.iload_n 2, 1), some (.ifCond .lt 10, 3), none, none, some (.iload_n 2, 1), some (.sipush 1439, 3), none, none, some (.if_icmp .le 13, 3), none, none, some (.new 117, 3), none, none, some (.dup, 1), some (.ldc 190, 2), none, some (.invokespecial 121, 3), none, none, some (.athrow, 1), some (.aload_n 0, 1), some (.getfield 48, 3), none, none, some (.getfield 290, 3)] = true := by decide +kernel
theorem mDr151_1 : mDc1 prog_1_method_24_code 32 [none, some (.iload_n 1, 1), some (.iaload, 1), some (.istore_n 3, 1), some (.aload_n 0, 1), some (.getfield 48, 3), none, none, some (.getfield 290, 3), none, none, some (.iload_n 1, 1), some (.iload_n 2, 1), some (.iastore, 1), some (.iload_n 3, 1), some (.ireturn, 1)] = true := by decide +kernel
theorem mDt151 : mDcP prog_1_method_24_code mct151 := by
  intro j c h
  unfold mct151 at h
  match j, h with
  | 0, h => cases h; exact mDr151_0
  | 1, h => cases h; exact mDr151_1
  | n + 2, h => simp at h
theorem mDr152_0 : mDc1 prog_1_method_5_code 0 [some (.aload_n 0, 1), some (.getfield 17, 3), none, none, some (.ireturn, 1)] = true := by decide +kernel
theorem mDt152 : mDcP prog_1_method_5_code mct152 := by
  intro j c h
  unfold mct152 at h
  match j, h with
  | 0, h => cases h; exact mDr152_0
  | n + 1, h => simp at h
theorem mDr153_0 : mDc1 prog_1_method_2_code 0 [some (.aload_n 0, 1), some (.getfield 13, 3), none, none, some (.bipush 20, 2), none, some (.iadd, 1), some (.sipush 500, 3), none, none, some (.if_icmp .le 5, 3), none, none, some (.iconst (-1), 1), some (.ireturn, 1), some (.aload_n 0, 1), some (.iload_n 1, 1), some (.invokevirtual 113, 3), none, none, some (.aload_n 0, 1), some (.iload_n 2, 1), some (.invokevirtual 113, 3), none, none, some (.aload_n 0, 1), some (.iload_n 3, 1), some (.invokevirtual 113, 3), none, none, some (.aload_n 0, 1), some (.iload 4, 2)] = true := by decide +kernel
theorem mDr153_1 : mDc1 prog_1_method_2_code 32 [none, some (.invokevirtual 113, 3), none, none, some (.aload_n 0, 1), some (.iload 5, 2), none, some (.invokevirtual 113, 3), none, none, some (.aload_n 0, 1), some (.getfield 13, 3), none, none, some (.ireturn, 1)] = true := by decide +kernel
theorem mDt153 : mDcP prog_1_method_2_code mct153 := by
  intro j c h
  unfold mct153 at h
  match j, h with
  | 0, h => cases h; exact mDr153_0
  | 1, h => cases h; exact mDr153_1
  | n + 2, h => simp at h
theorem mDr154_0 : mDc1 prog_1_method_38_code 0 [some (.aload_n 0, 1), some (.getfield 105, 3), none, none, some (.invokevirtual 365, 3), none, none, some (.ireturn, 1)] = true := by decide +kernel
theorem mDt154 : mDcP prog_1_method_38_code mct154 := by
  intro j c h
  unfold mct154 at h
  match j, h with
  | 0, h => cases h; exact mDr154_0
  | n + 1, h => simp at h
theorem mDr155_0 : mDc1 prog_1_method_9_code 0 [some (.aload_n 0, 1), some (.iload_n 1, 1), some (.invokevirtual 180, 3), none, none, some (.iload_n 2, 1), some (.ifCond .lt 11, 3), none, none, some (.iload_n 2, 1), some (.iload_n 1, 1), some (.invokestatic 160, 3), none, none, some (.if_icmp .lt 5, 3), none, none, some (.iconst (-1), 1), some (.ireturn, 1), some (.aload_n 0, 1), some (.getfield 64, 3), none, none, some (.iload_n 1, 1), some (.aload_n 0, 1), some (.getfield 109, 3), none, none, some (.iconst 0, 1), some (.invokevirtual 186, 3)] = true := by decide +kernel
theorem mDr155_1 : mDc1 prog_1_method_9_code 32 [some (.aload_n 0, 1), some (.getfield 109, 3), none, none, some (.iload_n 2, 1), some (.iaload, 1), some (.ireturn, 1)] = true := by decide +kernel
theorem mDt155 : mDcP prog_1_method_9_code mct155 := by
  intro j c h
  unfold mct155 at h
  match j, h with
  | 0, h => cases h; exact mDr155_0
  | 1, h => cases h; exact mDr155_1
  | n + 2, h => simp at h
theorem mDr156_0 : mDc1 prog_1_method_21_code 0 [some (.aload_n 0, 1), some (.getfield 89, 3), none, none, some (.invokevirtual 256, 3), none, none, some (.ifCond .ne 6, 3), none, none, some (.bipush (-2), 2), none, some (.ireturn, 1), some (.iconst 0, 1), some (.istore_n 1, 1), some (.iconst 0, 1), some (.istore_n 2, 1), some (.iload_n 2, 1), some (.aload_n 0, 1), some (.getfield 32, 3), none, none, some (.getfield 147, 3), none, none, some (.if_icmp .ge 33, 3), none, none, some (.aload_n 0, 1), some (.getfield 48, 3)] = true := by decide +kernel
theorem mDr156_1 : mDc1 prog_1_method_21_code 32 [some (.getfield 212, 3), none, none, some (.iload_n 2, 1), some (.iaload, 1), some (.aload_n 0, 1), some (.getfield 89, 3), none, none, some (.getfield 263, 3), none, none, some (.iload_n 2, 1), some (.iaload, 1), some (.if_icmp .eq 6, 3), none, none, some (.iinc 1 1, 3), none, none, some (.iinc 2 1, 3), none, none, some (.goto (-38), 3), none, none, some (.aload_n 0, 1), some (.invokevirtual 277, 3), none, none, some (.iload_n 1, 1), some (.ireturn, 1)] = true := by decide +kernel
theorem mDt156 : mDcP prog_1_method_21_code mct156 := by
  intro j c h
  unfold mct156 at h
  match j, h with
  | 0, h => cases h; exact mDr156_0
  | 1, h => cases h; exact mDr156_1
  | n + 2, h => simp at h
theorem mDr157_0 : mDc1 prog_1_method_28_code 0 [some (.aload_n 0, 1), some (.iload_n 1, 1), some (.invokevirtual 180, 3), none, none, some (.aload_n 0, 1), some (.getfield 98, 3), none, none, some (.iload_n 1, 1), some (.invokevirtual 298, 3), none, none, some (.aload_n 0, 1), some (.getfield 98, 3), none, none, some (.invokevirtual 307, 3), none, none, some (.ireturn, 1)] = true := by decide +kernel
theorem mDt157 : mDcP prog_1_method_28_code mct157 := by
  intro j c h
  unfold mct157 at h
  match j, h with
  | 0, h => cases h; exact mDr157_0
  | n + 1, h => simp at h
theorem mDr158_0 : mDc1 prog_1_method_25_code 0 [some (.aload_n 0, 1), some (.iload_n 1, 1), some (.invokevirtual 280, 3), none, none, some (.iload_n 2, 1), some (.ifCond .lt 9, 3), none, none, some (.iload_n 2, 1), some (.bipush 60, 2), none, some (.if_icmp .le 14, 3), none, none, some (.new 117, 3), none, none, some (.dup, 1), some (.ldc_w 293, 3), none, none, some (.invokespecial 121, 3), none, none, some (.athrow, 1), some (.aload_n 0, 1), some (.getfield 48, 3), none, none, some (.getfield 295, 3)] = true := by decide +kernel
theorem mDr158_1 : mDc1 prog_1_method_25_code 32 [none, some (.iload_n 1, 1), some (.iaload, 1), some (.istore_n 3, 1), some (.aload_n 0, 1), some (.getfield 48, 3), none, none, some (.getfield 295, 3), none, none, some (.iload_n 1, 1), some (.iload_n 2, 1), some (.iastore, 1), some (.iload_n 3, 1), some (.ireturn, 1)] = true := by decide +kernel
theorem mDt158 : mDcP prog_1_method_25_code mct158 := by
  intro j c h
  unfold mct158 at h
  match j, h with
  | 0, h => cases h; exact mDr158_0
  | 1, h => cases h; exact mDr158_1
  | n + 2, h => simp at h
theorem mDr159_0 : mDc1 prog_1_method_46_code 0 [some (.aload_n 0, 1), some (.getfield 56, 3), none, none, some (.iconst 3, 1), some (.if_icmp .lt 5, 3), none, none, some (.iconst (-1), 1), some (.ireturn, 1), some (.aload_n 0, 1), some (.getfield 52, 3), none, none, some (.aload_n 0, 1), some (.getfield 56, 3), none, none, some (.aaload, 1), some (.aload_n 0, 1), some (.getfield 48, 3), none, none, some (.invokevirtual 411, 3), none, none, some (.aload_n 0, 1), some (.dup, 1), some (.getfield 56, 3), none, none, some (.iconst 1, 1)] = true := by decide +kernel
theorem mDr159_1 : mDc1 prog_1_method_46_code 32 [some (.iadd, 1), some (.putfield 56, 3), none, none, some (.aload_n 0, 1), some (.getfield 56, 3), none, none, some (.ireturn, 1)] = true := by decide +kernel
theorem mDt159 : mDcP prog_1_method_46_code mct159 := by
  intro j c h
  unfold mct159 at h
  match j, h with
  | 0, h => cases h; exact mDr159_0
  | 1, h => cases h; exact mDr159_1
  | n + 2, h => simp at h
theorem mDr160_0 : mDc1 prog_1_method_36_code 0 [some (.aload_n 0, 1), some (.iload_n 1, 1), some (.invokevirtual 173, 3), none, none, some (.aload_n 0, 1), some (.iload_n 3, 1), some (.invokevirtual 173, 3), none, none, some (.iload_n 2, 1), some (.ifCond .lt 24, 3), none, none, some (.iload_n 2, 1), some (.sipush 2879, 3), none, none, some (.if_icmp .gt 17, 3), none, none, some (.iload 4, 2), none, some (.iload_n 2, 1), some (.if_icmp .le 11, 3), none, none, some (.iload 4, 2), none, some (.sipush 2879, 3)] = true := by decide +kernel
theorem mDr160_1 : mDc1 prog_1_method_36_code 32 [some (.if_icmp .le 14, 3), none, none, some (.new 117, 3), none, none, some (.dup, 1), some (.ldc_w 347, 3), none, none, some (.invokespecial 121, 3), none, none, some (.athrow, 1), some (.iload 4, 2), none, some (.iload_n 2, 1), some (.isub, 1), some (.aload_n 0, 1), some (.getfield 41, 3), none, none, some (.iload_n 1, 1), some (.iload_n 3, 1), some (.invokevirtual 176, 3), none, none, some (.if_icmp .ge 14, 3), none, none, some (.new 117, 3)] = true := by decide +kernel
theorem mDr160_2 : mDc1 prog_1_method_36_code 64 [none, some (.dup, 1), some (.ldc_w 349, 3), none, none, some (.invokespecial 121, 3), none, none, some (.athrow, 1), some (.aload_n 0, 1), some (.getfield 48, 3), none, none, some (.getfield 351, 3), none, none, some (.bipush 14, 2), none, some (.if_icmp .ne 5, 3), none, none, some (.iconst (-1), 1), some (.ireturn, 1), some (.aload_n 0, 1), some (.getfield 48, 3), none, none, some (.iload_n 1, 1), some (.iload_n 2, 1), some (.iload_n 3, 1), some (.iload 4, 2)] = true := by decide +kernel
theorem mDr160_3 : mDc1 prog_1_method_36_code 96 [some (.invokevirtual 354, 3), none, none, some (.ireturn, 1)] = true := by decide +kernel
theorem mDt160 : mDcP prog_1_method_36_code mct160 := by
  intro j c h
  unfold mct160 at h
  match j, h with
  | 0, h => cases h; exact mDr160_0
  | 1, h => cases h; exact mDr160_1
  | 2, h => cases h; exact mDr160_2
  | 3, h => cases h; exact mDr160_3
  | n + 4, h => simp at h
theorem mDr161_0 : mDc1 prog_1_method_4_code 0 [some (.iload_n 1, 1), some (.ifCond .lt 11, 3), none, none, some (.iload_n 1, 1), some (.aload_n 0, 1), some (.getfield 13, 3), none, none, some (.if_icmp .le 13, 3), none, none, some (.new 117, 3), none, none, some (.dup, 1), some (.ldc 119, 2), none, some (.invokespecial 121, 3), none, none, some (.athrow, 1), some (.aload_n 0, 1), some (.iconst 0, 1), some (.putfield 13, 3), none, none, some (.aload_n 0, 1), some (.getfield 25, 3), none, none, some (.iload_n 1, 1)] = true := by decide +kernel
theorem mDr161_1 : mDc1 prog_1_method_4_code 32 [some (.invokevirtual 124, 3), none, none, some (.istore_n 2, 1), some (.aload_n 0, 1), some (.aload_n 0, 1), some (.getfield 25, 3), none, none, some (.getfield 128, 3), none, none, some (.putfield 17, 3), none, none, some (.iload_n 2, 1), some (.ifCond .eq 8, 3), none, none, some (.iload_n 2, 1), some (.bipush 10, 2), none, some (.isub, 1), some (.ireturn, 1), some (.aload_n 0, 1), some (.getfield 32, 3), none, none, some (.aload_n 0, 1), some (.getfield 25, 3)] = true := by decide +kernel
theorem mDr161_2 : mDc1 prog_1_method_4_code 64 [some (.getfield 129, 3), none, none, some (.invokevirtual 132, 3), none, none, some (.aload_n 0, 1), some (.getfield 41, 3), none, none, some (.invokevirtual 135, 3), none, none, some (.aload_n 0, 1), some (.getfield 48, 3), none, none, some (.invokevirtual 138, 3), none, none, some (.aload_n 0, 1), some (.iconst 0, 1), some (.putfield 56, 3), none, none, some (.aload_n 0, 1), some (.getfield 89, 3), none, none, some (.invokevirtual 141, 3)] = true := by decide +kernel
theorem mDr161_3 : mDc1 prog_1_method_4_code 96 [some (.aload_n 0, 1), some (.getfield 32, 3), none, none, some (.getfield 144, 3), none, none, some (.ireturn, 1)] = true := by decide +kernel
theorem mDt161 : mDcP prog_1_method_4_code mct161 := by
  intro j c h
  unfold mct161 at h
  match j, h with
  | 0, h => cases h; exact mDr161_0
  | 1, h => cases h; exact mDr161_1
  | 2, h => cases h; exact mDr161_2
  | 3, h => cases h; exact mDr161_3
  | n + 4, h => simp at h
theorem mDr162_0 : mDc1 prog_1_method_40_code 0 [some (.iload_n 1, 1), some (.iconst 1, 1), some (.if_icmp .lt 8, 3), none, none, some (.iload_n 1, 1), some (.iconst 3, 1), some (.if_icmp .le 14, 3), none, none, some (.new 117, 3), none, none, some (.dup, 1), some (.ldc_w 371, 3), none, none, some (.invokespecial 121, 3), none, none, some (.athrow, 1), some (.iload_n 2, 1), some (.ifCond .eq 19, 3), none, none, some (.iload_n 2, 1), some (.iconst 1, 1), some (.if_icmp .eq 14, 3), none, none, some (.new 117, 3)] = true := by decide +kernel
theorem mDr162_1 : mDc1 prog_1_method_40_code 32 [none, some (.dup, 1), some (.ldc_w 373, 3), none, none, some (.invokespecial 121, 3), none, none, some (.athrow, 1), some (.aload_n 0, 1), some (.getfield 32, 3), none, none, some (.getfield 144, 3), none, none, some (.iload_n 1, 1), some (.if_icmp .ge 5, 3), none, none, some (.iconst (-1), 1), some (.ireturn, 1), some (.aload_n 0, 1), some (.getfield 105, 3), none, none, some (.iload_n 1, 1), some (.invokevirtual 375, 3), none, none, some (.iload_n 2, 1), some (.ifCond .ne 13, 3)] = true := by decide +kernel
theorem mDr162_2 : mDc1 prog_1_method_40_code 64 [none, none, some (.aload_n 0, 1), some (.getfield 105, 3), none, none, some (.getfield 378, 3), none, none, some (.goto 10, 3), none, none, some (.aload_n 0, 1), some (.getfield 105, 3), none, none, some (.getfield 381, 3), none, none, some (.ireturn, 1)] = true := by decide +kernel
theorem mDt162 : mDcP prog_1_method_40_code mct162 := by
  intro j c h
  unfold mct162 at h
  match j, h with
  | 0, h => cases h; exact mDr162_0
  | 1, h => cases h; exact mDr162_1
  | 2, h => cases h; exact mDr162_2
  | n + 3, h => simp at h
theorem mDr163_0 : mDc1 prog_1_method_29_code 0 [some (.aload_n 0, 1), some (.getfield 98, 3), none, none, some (.invokevirtual 310, 3), none, none, some (.lreturn, 1)] = true := by decide +kernel
theorem mDt163 : mDcP prog_1_method_29_code mct163 := by
  intro j c h
  unfold mct163 at h
  match j, h with
  | 0, h => cases h; exact mDr163_0
  | n + 1, h => simp at h
theorem mDr164_0 : mDc1 prog_1_method_50_code 0 [some (.aload_n 0, 1), some (.iload_n 1, 1), some (.invokevirtual 173, 3), none, none, some (.aload_n 0, 1), some (.getfield 32, 3), none, none, some (.iload_n 1, 1), some (.invokevirtual 317, 3), none, none, some (.ifCond .ne 14, 3), none, none, some (.new 117, 3), none, none, some (.dup, 1), some (.ldc_w 425, 3), none, none, some (.invokespecial 121, 3), none, none, some (.athrow, 1), some (.return_, 1)] = true := by decide +kernel
theorem mDt164 : mDcP prog_1_method_50_code mct164 := by
  intro j c h
  unfold mct164 at h
  match j, h with
  | 0, h => cases h; exact mDr164_0
  | n + 1, h => simp at h
theorem mDr165_0 : mDc1 prog_1_method_54_code 0 [some (.iload_n 1, 1), some (.ifCond .lt 14, 3), none, none, some (.iload_n 1, 1), some (.aload_n 0, 1), some (.getfield 48, 3), none, none, some (.getfield 351, 3), none, none, some (.if_icmp .lt 14, 3), none, none, some (.new 117, 3), none, none, some (.dup, 1), some (.ldc_w 436, 3), none, none, some (.invokespecial 121, 3), none, none, some (.athrow, 1), some (.return_, 1)] = true := by decide +kernel
theorem mDt165 : mDcP prog_1_method_54_code mct165 := by
  intro j c h
  unfold mct165 at h
  match j, h with
  | 0, h => cases h; exact mDr165_0
  | n + 1, h => simp at h
theorem mDr166_0 : mDc1 prog_1_method_49_code 0 [some (.aload_n 0, 1), some (.getfield 32, 3), none, none, some (.iload_n 1, 1), some (.invokevirtual 417, 3), none, none, some (.ifCond .ne 14, 3), none, none, some (.new 420, 3), none, none, some (.dup, 1), some (.ldc_w 422, 3), none, none, some (.invokespecial 424, 3), none, none, some (.athrow, 1), some (.return_, 1)] = true := by decide +kernel
theorem mDt166 : mDcP prog_1_method_49_code mct166 := by
  intro j c h
  unfold mct166 at h
  match j, h with
  | 0, h => cases h; exact mDr166_0
  | n + 1, h => simp at h
theorem mDr167_0 : mDc1 prog_1_method_51_code 0 [some (.iload_n 1, 1), some (.ifCond .lt 14, 3), none, none, some (.iload_n 1, 1), some (.aload_n 0, 1), some (.getfield 32, 3), none, none, some (.getfield 147, 3), none, none, some (.if_icmp .lt 14, 3), none, none, some (.new 117, 3), none, none, some (.dup, 1), some (.ldc_w 427, 3), none, none, some (.invokespecial 121, 3), none, none, some (.athrow, 1), some (.return_, 1)] = true := by decide +kernel
theorem mDt167 : mDcP prog_1_method_51_code mct167 := by
  intro j c h
  unfold mct167 at h
  match j, h with
  | 0, h => cases h; exact mDr167_0
  | n + 1, h => simp at h
theorem mDr168_0 : mDc1 prog_1_method_52_code 0 [some (.iload_n 1, 1), some (.ifCond .lt 14, 3), none, none, some (.iload_n 1, 1), some (.aload_n 0, 1), some (.getfield 32, 3), none, none, some (.invokevirtual 168, 3), none, none, some (.if_icmp .le 14, 3), none, none, some (.new 117, 3), none, none, some (.dup, 1), some (.ldc_w 429, 3), none, none, some (.invokespecial 121, 3), none, none, some (.athrow, 1), some (.return_, 1)] = true := by decide +kernel
theorem mDt168 : mDcP prog_1_method_52_code mct168 := by
  intro j c h
  unfold mct168 at h
  match j, h with
  | 0, h => cases h; exact mDr168_0
  | n + 1, h => simp at h
theorem mDr169_0 : mDc1 prog_1_method_53_code 0 [some (.iload_n 1, 1), some (.ifCond .lt 14, 3), none, none, some (.iload_n 1, 1), some (.aload_n 0, 1), some (.getfield 48, 3), none, none, some (.getfield 197, 3), none, none, some (.if_icmp .lt 14, 3), none, none, some (.new 431, 3), none, none, some (.dup, 1), some (.ldc_w 433, 3), none, none, some (.invokespecial 435, 3), none, none, some (.athrow, 1), some (.return_, 1)] = true := by decide +kernel
theorem mDt169 : mDcP prog_1_method_53_code mct169 := by
  intro j c h
  unfold mct169 at h
  match j, h with
  | 0, h => cases h; exact mDr169_0
  | n + 1, h => simp at h
theorem mDr170_0 : mDc1 prog_1_method_8_code 0 [some (.aload_n 0, 1), some (.iload_n 1, 1), some (.invokevirtual 180, 3), none, none, some (.aload_n 0, 1), some (.getfield 64, 3), none, none, some (.iload_n 1, 1), some (.invokevirtual 183, 3), none, none, some (.ireturn, 1)] = true := by decide +kernel
theorem mDt170 : mDcP prog_1_method_8_code mct170 := by
  intro j c h
  unfold mct170 at h
  match j, h with
  | 0, h => cases h; exact mDr170_0
  | n + 1, h => simp at h
theorem mDr171_0 : mDc1 prog_1_method_39_code 0 [some (.aload_n 0, 1), some (.getfield 105, 3), none, none, some (.invokevirtual 368, 3), none, none, some (.ireturn, 1)] = true := by decide +kernel
theorem mDt171 : mDcP prog_1_method_39_code mct171 := by
  intro j c h
  unfold mct171 at h
  match j, h with
  | 0, h => cases h; exact mDr171_0
  | n + 1, h => simp at h
theorem mDr172_0 : mDc1 prog_1_method_11_code 0 [some (.aload_n 0, 1), some (.iload_n 1, 1), some (.invokevirtual 206, 3), none, none, some (.aload_n 0, 1), some (.iload_n 2, 1), some (.invokevirtual 209, 3), none, none, some (.aload_n 0, 1), some (.getfield 48, 3), none, none, some (.getfield 212, 3), none, none, some (.iload_n 2, 1), some (.iaload, 1), some (.iconst (-1), 1), some (.if_icmp .eq 5, 3), none, none, some (.iconst (-1), 1), some (.ireturn, 1), some (.aload_n 0, 1), some (.getfield 48, 3), none, none, some (.iload_n 1, 1), some (.iload_n 2, 1), some (.invokevirtual 215, 3)] = true := by decide +kernel
theorem mDr172_1 : mDc1 prog_1_method_11_code 32 [none, none, some (.aload_n 0, 1), some (.getfield 48, 3), none, none, some (.getfield 219, 3), none, none, some (.iload_n 1, 1), some (.iaload, 1), some (.ireturn, 1)] = true := by decide +kernel
theorem mDt172 : mDcP prog_1_method_11_code mct172 := by
  intro j c h
  unfold mct172 at h
  match j, h with
  | 0, h => cases h; exact mDr172_0
  | 1, h => cases h; exact mDr172_1
  | n + 2, h => simp at h
theorem mDr173_0 : mDc1 prog_1_method_22_code 0 [some (.iconst 0, 1), some (.istore_n 1, 1), some (.iload_n 1, 1), some (.aload_n 0, 1), some (.getfield 48, 3), none, none, some (.getfield 197, 3), none, none, some (.if_icmp .ge 18, 3), none, none, some (.aload_n 0, 1), some (.getfield 48, 3), none, none, some (.iload_n 1, 1), some (.invokevirtual 234, 3), none, none, some (.pop, 1), some (.iinc 1 1, 3), none, none, some (.goto (-23), 3), none, none, some (.iconst 0, 1), some (.istore_n 1, 1), some (.iload_n 1, 1), some (.aload_n 0, 1)] = true := by decide +kernel
theorem mDr173_1 : mDc1 prog_1_method_22_code 32 [some (.getfield 32, 3), none, none, some (.getfield 147, 3), none, none, some (.if_icmp .ge 26, 3), none, none, some (.aload_n 0, 1), some (.getfield 48, 3), none, none, some (.aload_n 0, 1), some (.getfield 89, 3), none, none, some (.getfield 263, 3), none, none, some (.iload_n 1, 1), some (.iaload, 1), some (.iload_n 1, 1), some (.invokevirtual 215, 3), none, none, some (.iinc 1 1, 3), none, none, some (.goto (-31), 3)] = true := by decide +kernel
theorem mDr173_2 : mDc1 prog_1_method_22_code 64 [some (.iconst 0, 1), some (.istore_n 1, 1), some (.iload_n 1, 1), some (.aload_n 0, 1), some (.getfield 48, 3), none, none, some (.getfield 197, 3), none, none, some (.if_icmp .ge 35, 3), none, none, some (.aload_n 0, 1), some (.getfield 64, 3), none, none, some (.aload_n 0, 1), some (.getfield 48, 3), none, none, some (.iload_n 1, 1), some (.invokevirtual 231, 3), none, none, some (.aload_n 0, 1), some (.getfield 48, 3), none, none, some (.getfield 222, 3)] = true := by decide +kernel
theorem mDr173_3 : mDc1 prog_1_method_22_code 96 [some (.iload_n 1, 1), some (.bipush 7, 2), none, some (.imul, 1), some (.invokevirtual 186, 3), none, none, some (.iinc 1 1, 3), none, none, some (.goto (-40), 3), none, none, some (.return_, 1)] = true := by decide +kernel
theorem mDt173 : mDcP prog_1_method_22_code mct173 := by
  intro j c h
  unfold mct173 at h
  match j, h with
  | 0, h => cases h; exact mDr173_0
  | 1, h => cases h; exact mDr173_1
  | 2, h => cases h; exact mDr173_2
  | 3, h => cases h; exact mDr173_3
  | n + 4, h => simp at h
theorem mDr174_0 : mDc1 prog_1_method_26_code 0 [some (.aload_n 0, 1), some (.iload_n 1, 1), some (.invokevirtual 209, 3), none, none, some (.aload_n 0, 1), some (.iload_n 2, 1), some (.invokevirtual 180, 3), none, none, some (.aload_n 0, 1), some (.getfield 98, 3), none, none, some (.iload_n 2, 1), some (.invokevirtual 298, 3), none, none, some (.aload_n 0, 1), some (.getfield 98, 3), none, none, some (.iload_n 1, 1), some (.invokevirtual 301, 3), none, none, some (.ireturn, 1)] = true := by decide +kernel
theorem mDt174 : mDcP prog_1_method_26_code mct174 := by
  intro j c h
  unfold mct174 at h
  match j, h with
  | 0, h => cases h; exact mDr174_0
  | n + 1, h => simp at h
theorem mDr175_0 : mDc1 prog_1_method_47_code 0 [some (.aload_n 0, 1), some (.getfield 56, 3), none, none, some (.ifCond .gt 5, 3), none, none, some (.iconst (-1), 1), some (.ireturn, 1), some (.aload_n 0, 1), some (.dup, 1), some (.getfield 56, 3), none, none, some (.iconst 1, 1), some (.isub, 1), some (.putfield 56, 3), none, none, some (.aload_n 0, 1), some (.getfield 48, 3), none, none, some (.aload_n 0, 1), some (.getfield 52, 3), none, none, some (.aload_n 0, 1), some (.getfield 56, 3), none, none, some (.aaload, 1)] = true := by decide +kernel
theorem mDr175_1 : mDc1 prog_1_method_47_code 32 [some (.invokevirtual 411, 3), none, none, some (.aload_n 0, 1), some (.getfield 89, 3), none, none, some (.invokevirtual 200, 3), none, none, some (.aload_n 0, 1), some (.getfield 56, 3), none, none, some (.ireturn, 1)] = true := by decide +kernel
theorem mDt175 : mDcP prog_1_method_47_code mct175 := by
  intro j c h
  unfold mct175 at h
  match j, h with
  | 0, h => cases h; exact mDr175_0
  | 1, h => cases h; exact mDr175_1
  | n + 2, h => simp at h
theorem mDr176_0 : mDc1 prog_1_method_14_code 0 [some (.aload_n 0, 1), some (.iload_n 1, 1), some (.invokevirtual 206, 3), none, none, some (.iload_n 2, 1), some (.ifCond .lt 16, 3), none, none, some (.iload_n 2, 1), some (.aload_n 0, 1), some (.getfield 48, 3), none, none, some (.getfield 219, 3), none, none, some (.iload_n 1, 1), some (.iaload, 1), some (.if_icmp .lt 5, 3), none, none, some (.iconst (-1), 1), some (.ireturn, 1), some (.aload_n 0, 1), some (.getfield 48, 3), none, none, some (.getfield 222, 3), none, none, some (.iload_n 1, 1)] = true := by decide +kernel
theorem mDr176_1 : mDc1 prog_1_method_14_code 32 [some (.bipush 7, 2), none, some (.imul, 1), some (.iload_n 2, 1), some (.iadd, 1), some (.iaload, 1), some (.ireturn, 1)] = true := by decide +kernel
theorem mDt176 : mDcP prog_1_method_14_code mct176 := by
  intro j c h
  unfold mct176 at h
  match j, h with
  | 0, h => cases h; exact mDr176_0
  | 1, h => cases h; exact mDr176_1
  | n + 2, h => simp at h
theorem mDr177_0 : mDc1 prog_1_method_27_code 0 [some (.aload_n 0, 1), some (.iload_n 1, 1), some (.invokevirtual 180, 3), none, none, some (.aload_n 0, 1), some (.getfield 98, 3), none, none, some (.iload_n 1, 1), some (.invokevirtual 298, 3), none, none, some (.aload_n 0, 1), some (.getfield 98, 3), none, none, some (.invokevirtual 304, 3), none, none, some (.ireturn, 1)] = true := by decide +kernel
theorem mDt177 : mDcP prog_1_method_27_code mct177 := by
  intro j c h
  unfold mct177 at h
  match j, h with
  | 0, h => cases h; exact mDr177_0
  | n + 1, h => simp at h
theorem mDr178_0 : mDc1 prog_1_method_45_code 0 [some (.iload_n 2, 1), some (.iconst 1, 1), some (.if_icmp .lt 10, 3), none, none, some (.iload_n 2, 1), some (.sipush 200, 3), none, none, some (.if_icmp .le 14, 3), none, none, some (.new 117, 3), none, none, some (.dup, 1), some (.ldc_w 409, 3), none, none, some (.invokespecial 121, 3), none, none, some (.athrow, 1), some (.aload_n 0, 1), some (.getfield 98, 3), none, none, some (.iload_n 1, 1), some (.iload_n 2, 1), some (.invokevirtual 406, 3)] = true := by decide +kernel
theorem mDr178_1 : mDc1 prog_1_method_45_code 32 [some (.ireturn, 1)] = true := by decide +kernel
theorem mDt178 : mDcP prog_1_method_45_code mct178 := by
  intro j c h
  unfold mct178 at h
  match j, h with
  | 0, h => cases h; exact mDr178_0
  | 1, h => cases h; exact mDr178_1
  | n + 2, h => simp at h
theorem mDr179_0 : mDc1 prog_1_method_31_code 0 [some (.iconst 0, 1), some (.istore_n 1, 1), some (.aload_n 0, 1), some (.getfield 32, 3), none, none, some (.getfield 144, 3), none, none, some (.iconst 1, 1), some (.isub, 1), some (.istore_n 2, 1), some (.iload_n 2, 1), some (.ifCond .lt 55, 3), none, none, some (.aload_n 0, 1), some (.getfield 32, 3), none, none, some (.iload_n 2, 1), some (.invokevirtual 317, 3), none, none, some (.ifCond .eq 38, 3), none, none, some (.aload_n 0, 1), some (.getfield 98, 3), none, none, some (.iload_n 2, 1)] = true := by decide +kernel
theorem mDr179_1 : mDc1 prog_1_method_31_code 32 [some (.invokevirtual 314, 3), none, none, some (.istore_n 3, 1), some (.iload_n 3, 1), some (.aload_n 0, 1), some (.getfield 48, 3), none, none, some (.getfield 295, 3), none, none, some (.iload_n 2, 1), some (.iaload, 1), some (.if_icmp .eq 16, 3), none, none, some (.aload_n 0, 1), some (.getfield 48, 3), none, none, some (.getfield 295, 3), none, none, some (.iload_n 2, 1), some (.iload_n 3, 1), some (.iastore, 1), some (.iinc 1 1, 3), none, none, some (.iinc 2 (-1), 3)] = true := by decide +kernel
theorem mDr179_2 : mDc1 prog_1_method_31_code 64 [none, some (.goto (-53), 3), none, none, some (.iload_n 1, 1), some (.ireturn, 1)] = true := by decide +kernel
theorem mDt179 : mDcP prog_1_method_31_code mct179 := by
  intro j c h
  unfold mct179 at h
  match j, h with
  | 0, h => cases h; exact mDr179_0
  | 1, h => cases h; exact mDr179_1
  | 2, h => cases h; exact mDr179_2
  | n + 3, h => simp at h
theorem mDr180_0 : mDc1 prog_1_method_23_code 0 [some (.aload_n 0, 1), some (.iload_n 1, 1), some (.invokevirtual 280, 3), none, none, some (.aload_n 0, 1), some (.getfield 48, 3), none, none, some (.iload_n 1, 1), some (.invokevirtual 283, 3), none, none, some (.istore_n 3, 1), some (.iload_n 3, 1), some (.iload_n 2, 1), some (.if_icmp .eq 25, 3), none, none, some (.aload_n 0, 1), some (.getfield 48, 3), none, none, some (.dup, 1), some (.getfield 287, 3), none, none, some (.iconst 1, 1), some (.iload_n 1, 1), some (.ishl, 1), some (.ixor, 1), some (.putfield 287, 3)] = true := by decide +kernel
theorem mDr180_1 : mDc1 prog_1_method_23_code 32 [none, none, some (.aload_n 0, 1), some (.getfield 89, 3), none, none, some (.invokevirtual 200, 3), none, none, some (.iload_n 3, 1), some (.ireturn, 1)] = true := by decide +kernel
theorem mDt180 : mDcP prog_1_method_23_code mct180 := by
  intro j c h
  unfold mct180 at h
  match j, h with
  | 0, h => cases h; exact mDr180_0
  | 1, h => cases h; exact mDr180_1
  | n + 2, h => simp at h
theorem mDr181_0 : mDc1 prog_1_method_12_code 0 [some (.aload_n 0, 1), some (.iload_n 1, 1), some (.invokevirtual 206, 3), none, none, some (.iload_n 1, 1), some (.bipush 7, 2), none, some (.imul, 1), some (.istore_n 2, 1), some (.aload_n 0, 1), some (.getfield 48, 3), none, none, some (.getfield 219, 3), none, none, some (.iload_n 1, 1), some (.iaload, 1), some (.istore_n 3, 1), some (.aload_n 0, 1), some (.getfield 48, 3), none, none, some (.getfield 222, 3), none, none, some (.iload_n 2, 1), some (.aload_n 0, 1), some (.getfield 109, 3)] = true := by decide +kernel
theorem mDr181_1 : mDc1 prog_1_method_12_code 32 [some (.iconst 0, 1), some (.iload_n 3, 1), some (.invokestatic 225, 3), none, none, some (.aload_n 0, 1), some (.getfield 64, 3), none, none, some (.aload_n 0, 1), some (.getfield 48, 3), none, none, some (.iload_n 1, 1), some (.invokevirtual 231, 3), none, none, some (.aload_n 0, 1), some (.getfield 48, 3), none, none, some (.getfield 222, 3), none, none, some (.iload_n 2, 1), some (.invokevirtual 186, 3), none, none, some (.iconst 0, 1), some (.istore 4, 2), none, some (.iload 4, 2)] = true := by decide +kernel
theorem mDr181_2 : mDc1 prog_1_method_12_code 64 [none, some (.iload_n 3, 1), some (.if_icmp .ge 33, 3), none, none, some (.aload_n 0, 1), some (.getfield 48, 3), none, none, some (.getfield 222, 3), none, none, some (.iload_n 2, 1), some (.iload 4, 2), none, some (.iadd, 1), some (.iaload, 1), some (.aload_n 0, 1), some (.getfield 109, 3), none, none, some (.iload 4, 2), none, some (.iaload, 1), some (.if_icmp .eq 5, 3), none, none, some (.iconst 1, 1), some (.ireturn, 1), some (.iinc 4 1, 3)] = true := by decide +kernel
theorem mDr181_3 : mDc1 prog_1_method_12_code 96 [some (.goto (-33), 3), none, none, some (.iconst 0, 1), some (.ireturn, 1)] = true := by decide +kernel
theorem mDt181 : mDcP prog_1_method_12_code mct181 := by
  intro j c h
  unfold mct181 at h
  match j, h with
  | 0, h => cases h; exact mDr181_0
  | 1, h => cases h; exact mDr181_1
  | 2, h => cases h; exact mDr181_2
  | 3, h => cases h; exact mDr181_3
  | n + 4, h => simp at h
theorem mDr182_0 : mDc1 prog_1_method_32_code 0 [some (.aload_n 0, 1), some (.iload_n 1, 1), some (.invokevirtual 209, 3), none, none, some (.iload_n 2, 1), some (.ifCond .lt 10, 3), none, none, some (.iload_n 2, 1), some (.sipush 240, 3), none, none, some (.if_icmp .le 14, 3), none, none, some (.new 117, 3), none, none, some (.dup, 1), some (.ldc_w 320, 3), none, none, some (.invokespecial 121, 3), none, none, some (.athrow, 1), some (.iload_n 3, 1), some (.ifCond .eq 19, 3), none, none, some (.iload_n 3, 1)] = true := by decide +kernel
theorem mDr182_1 : mDc1 prog_1_method_32_code 32 [some (.iconst 1, 1), some (.if_icmp .eq 14, 3), none, none, some (.new 117, 3), none, none, some (.dup, 1), some (.ldc_w 322, 3), none, none, some (.invokespecial 121, 3), none, none, some (.athrow, 1), some (.aload_n 0, 1), some (.getfield 98, 3), none, none, some (.iload_n 1, 1), some (.iload_n 2, 1), some (.iload_n 3, 1), some (.iconst 1, 1), some (.if_icmp .ne 7, 3), none, none, some (.iconst 1, 1), some (.goto 4, 3), none, none, some (.iconst 0, 1), some (.invokevirtual 324, 3)] = true := by decide +kernel
theorem mDr182_2 : mDc1 prog_1_method_32_code 64 [none, none, some (.ireturn, 1)] = true := by decide +kernel
theorem mDt182 : mDcP prog_1_method_32_code mct182 := by
  intro j c h
  unfold mct182 at h
  match j, h with
  | 0, h => cases h; exact mDr182_0
  | 1, h => cases h; exact mDr182_1
  | 2, h => cases h; exact mDr182_2
  | n + 3, h => simp at h
theorem mDr183_0 : mDc1 prog_1_method_3_code 0 [some (.bipush 24, 2), none, some (.istore_n 2, 1), some (.iload_n 2, 1), some (.ifCond .lt 32, 3), none, none, some (.aload_n 0, 1), some (.getfield 9, 3), none, none, some (.aload_n 0, 1), some (.getfield 13, 3), none, none, some (.iload_n 1, 1), some (.iload_n 2, 1), some (.iushr, 1), some (.i2b, 1), some (.bastore, 1), some (.aload_n 0, 1), some (.dup, 1), some (.getfield 13, 3), none, none, some (.iconst 1, 1), some (.iadd, 1), some (.putfield 13, 3), none, none, some (.iinc 2 (-8), 3)] = true := by decide +kernel
theorem mDr183_1 : mDc1 prog_1_method_3_code 32 [none, some (.goto (-30), 3), none, none, some (.return_, 1)] = true := by decide +kernel
theorem mDt183 : mDcP prog_1_method_3_code mct183 := by
  intro j c h
  unfold mct183 at h
  match j, h with
  | 0, h => cases h; exact mDr183_0
  | 1, h => cases h; exact mDr183_1
  | n + 2, h => simp at h
theorem mDr184_0 : mDc1 prog_1_method_6_code 0 [some (.iload_n 1, 1), some (.tableswitch 98 0 5 #[39, 47, 55, 63, 71, 82], 39)] = true := by decide +kernel
theorem mDr184_1 : mDc1 prog_1_method_6_code 32 [none, none, none, none, none, none, none, none, some (.aload_n 0, 1), some (.getfield 32, 3), none, none, some (.getfield 144, 3), none, none, some (.ireturn, 1), some (.aload_n 0, 1), some (.getfield 32, 3), none, none, some (.getfield 147, 3), none, none, some (.ireturn, 1), some (.aload_n 0, 1), some (.getfield 32, 3), none, none, some (.getfield 150, 3), none, none, some (.ireturn, 1)] = true := by decide +kernel
theorem mDr184_2 : mDc1 prog_1_method_6_code 64 [some (.aload_n 0, 1), some (.getfield 32, 3), none, none, some (.getfield 153, 3), none, none, some (.ireturn, 1), some (.aload_n 0, 1), some (.getfield 32, 3), none, none, some (.invokevirtual 156, 3), none, none, some (.invokestatic 160, 3), none, none, some (.ireturn, 1), some (.aload_n 0, 1), some (.getfield 41, 3), none, none, some (.getfield 165, 3), none, none, some (.aload_n 0, 1), some (.getfield 32, 3), none, none, some (.invokevirtual 168, 3)] = true := by decide +kernel
theorem mDr184_3 : mDc1 prog_1_method_6_code 96 [none, some (.iaload, 1), some (.ireturn, 1), some (.new 117, 3), none, none, some (.dup, 1), some (.ldc 171, 2), none, some (.invokespecial 121, 3), none, none, some (.athrow, 1)] = true := by decide +kernel
theorem mDt184 : mDcP prog_1_method_6_code mct184 := by
  intro j c h
  unfold mct184 at h
  match j, h with
  | 0, h => cases h; exact mDr184_0
  | 1, h => cases h; exact mDr184_1
  | 2, h => cases h; exact mDr184_2
  | 3, h => cases h; exact mDr184_3
  | n + 4, h => simp at h
theorem mDr185_0 : mDc1 prog_1_method_10_code 0 [some (.iload_n 1, 1), some (.ifCond .lt 10, 3), none, none, some (.iload_n 1, 1), some (.sipush 1439, 3), none, none, some (.if_icmp .le 13, 3), none, none, some (.new 117, 3), none, none, some (.dup, 1), some (.ldc 190, 2), none, some (.invokespecial 121, 3), none, none, some (.athrow, 1), some (.aload_n 0, 1), some (.getfield 32, 3), none, none, some (.getfield 144, 3), none, none, some (.ifCond .ne 13, 3), none, none, some (.new 192, 3)] = true := by decide +kernel
theorem mDr185_1 : mDc1 prog_1_method_10_code 32 [none, none, some (.dup, 1), some (.ldc 194, 2), none, some (.invokespecial 196, 3), none, none, some (.athrow, 1), some (.aload_n 0, 1), some (.getfield 48, 3), none, none, some (.getfield 197, 3), none, none, some (.iconst 4, 1), some (.if_icmp .ne 5, 3), none, none, some (.iconst (-1), 1), some (.ireturn, 1), some (.aload_n 0, 1), some (.getfield 89, 3), none, none, some (.invokevirtual 200, 3), none, none, some (.aload_n 0, 1), some (.getfield 48, 3)] = true := by decide +kernel
theorem mDr185_2 : mDc1 prog_1_method_10_code 64 [none, some (.iload_n 1, 1), some (.invokevirtual 203, 3), none, none, some (.ireturn, 1)] = true := by decide +kernel
theorem mDt185 : mDcP prog_1_method_10_code mct185 := by
  intro j c h
  unfold mct185 at h
  match j, h with
  | 0, h => cases h; exact mDr185_0
  | 1, h => cases h; exact mDr185_1
  | 2, h => cases h; exact mDr185_2
  | n + 3, h => simp at h
theorem mDr186_0 : mDc1 prog_1_method_7_code 0 [some (.aload_n 0, 1), some (.iload_n 1, 1), some (.invokevirtual 173, 3), none, none, some (.aload_n 0, 1), some (.iload_n 2, 1), some (.invokevirtual 173, 3), none, none, some (.aload_n 0, 1), some (.getfield 41, 3), none, none, some (.iload_n 1, 1), some (.iload_n 2, 1), some (.invokevirtual 176, 3), none, none, some (.ireturn, 1)] = true := by decide +kernel
theorem mDt186 : mDcP prog_1_method_7_code mct186 := by
  intro j c h
  unfold mct186 at h
  match j, h with
  | 0, h => cases h; exact mDr186_0
  | n + 1, h => simp at h
theorem mDr187_0 : mDc1 prog_1_method_43_code 0 [some (.aload_n 0, 1), some (.iload_n 1, 1), some (.invokevirtual 206, 3), none, none, some (.aload_n 0, 1), some (.iload_n 2, 1), some (.invokevirtual 173, 3), none, none, some (.aload_n 0, 1), some (.getfield 71, 3), none, none, some (.aload_n 0, 1), some (.getfield 48, 3), none, none, some (.getfield 222, 3), none, none, some (.iload_n 1, 1), some (.bipush 7, 2), none, some (.imul, 1), some (.aload_n 0, 1), some (.getfield 48, 3), none, none, some (.getfield 219, 3)] = true := by decide +kernel
theorem mDr187_1 : mDc1 prog_1_method_43_code 32 [some (.iload_n 1, 1), some (.iaload, 1), some (.iconst 0, 1), some (.invokevirtual 399, 3), none, none, some (.aload_n 0, 1), some (.getfield 32, 3), none, none, some (.aload_n 0, 1), some (.getfield 71, 3), none, none, some (.iload_n 2, 1), some (.invokevirtual 403, 3), none, none, some (.invokevirtual 336, 3), none, none, some (.ireturn, 1)] = true := by decide +kernel
theorem mDt187 : mDcP prog_1_method_43_code mct187 := by
  intro j c h
  unfold mct187 at h
  match j, h with
  | 0, h => cases h; exact mDr187_0
  | 1, h => cases h; exact mDr187_1
  | n + 2, h => simp at h
theorem mDr188_0 : mDc1 prog_1_method_18_code 0 [some (.iload_n 1, 1), some (.iconst (-1), 1), some (.if_icmp .lt 14, 3), none, none, some (.iload_n 1, 1), some (.aload_n 0, 1), some (.getfield 32, 3), none, none, some (.getfield 153, 3), none, none, some (.if_icmp .lt 13, 3), none, none, some (.new 117, 3), none, none, some (.dup, 1), some (.ldc 248, 2), none, some (.invokespecial 121, 3), none, none, some (.athrow, 1), some (.aload_n 0, 1), some (.getfield 80, 3), none, none, some (.invokevirtual 237, 3)] = true := by decide +kernel
theorem mDr188_1 : mDc1 prog_1_method_18_code 32 [none, some (.iload_n 1, 1), some (.iconst (-1), 1), some (.if_icmp .ne 13, 3), none, none, some (.aload_n 0, 1), some (.getfield 80, 3), none, none, some (.invokevirtual 250, 3), none, none, some (.goto 11, 3), none, none, some (.aload_n 0, 1), some (.getfield 80, 3), none, none, some (.iload_n 1, 1), some (.invokevirtual 253, 3), none, none, some (.ireturn, 1)] = true := by decide +kernel
theorem mDt188 : mDcP prog_1_method_18_code mct188 := by
  intro j c h
  unfold mct188 at h
  match j, h with
  | 0, h => cases h; exact mDr188_0
  | 1, h => cases h; exact mDr188_1
  | n + 2, h => simp at h
theorem mDr189_0 : mDc1 prog_1_method_34_code 0 [some (.aload_n 0, 1), some (.iload_n 1, 1), some (.invokevirtual 206, 3), none, none, some (.iload_n 2, 1), some (.ifCond .lt 9, 3), none, none, some (.iload_n 2, 1), some (.bipush 100, 2), none, some (.if_icmp .le 14, 3), none, none, some (.new 117, 3), none, none, some (.dup, 1), some (.ldc_w 331, 3), none, none, some (.invokespecial 121, 3), none, none, some (.athrow, 1), some (.aload_n 0, 1), some (.getfield 48, 3), none, none, some (.iload_n 1, 1), some (.invokevirtual 231, 3)] = true := by decide +kernel
theorem mDr189_1 : mDc1 prog_1_method_34_code 32 [none, none, some (.istore_n 3, 1), some (.aload_n 0, 1), some (.getfield 41, 3), none, none, some (.getfield 165, 3), none, none, some (.iload_n 3, 1), some (.iaload, 1), some (.istore 4, 2), none, some (.iload 4, 2), none, some (.ifCond .ne 5, 3), none, none, some (.iconst 0, 1), some (.ireturn, 1), some (.lconst 0, 1), some (.lstore 5, 2), none, some (.iconst 0, 1), some (.istore 7, 2), none, some (.iload 7, 2), none, some (.aload_n 0, 1), some (.getfield 32, 3)] = true := by decide +kernel
theorem mDr189_2 : mDc1 prog_1_method_34_code 64 [none, some (.getfield 147, 3), none, none, some (.if_icmp .ge 58, 3), none, none, some (.iload_n 3, 1), some (.iload 7, 2), none, some (.ishr, 1), some (.iconst 1, 1), some (.iand, 1), some (.ifCond .eq 43, 3), none, none, some (.lload 5, 2), none, some (.aload_n 0, 1), some (.getfield 32, 3), none, none, some (.iconst 1, 1), some (.aload_n 0, 1), some (.getfield 32, 3), none, none, some (.getfield 333, 3), none, none, some (.iload 7, 2)] = true := by decide +kernel
theorem mDr189_3 : mDc1 prog_1_method_34_code 96 [some (.iaload, 1), some (.ishl, 1), some (.invokevirtual 336, 3), none, none, some (.i2l, 1), some (.bipush 100, 2), none, some (.iload_n 2, 1), some (.isub, 1), some (.i2l, 1), some (.lmul, 1), some (.aload_n 0, 1), some (.iload_n 3, 1), some (.iload 7, 2), none, some (.invokevirtual 339, 3), none, none, some (.i2l, 1), some (.lmul, 1), some (.ladd, 1), some (.lstore 5, 2), none, some (.iinc 7 1, 3), none, none, some (.goto (-64), 3), none, none, some (.lload 5, 2)] = true := by decide +kernel
theorem mDr189_4 : mDc1 prog_1_method_34_code 128 [some (.ldc2_w 342, 3), none, none, some (.iload 4, 2), none, some (.i2l, 1), some (.lmul, 1), some (.ldiv, 1), some (.l2i, 1), some (.ireturn, 1)] = true := by decide +kernel
theorem mDt189 : mDcP prog_1_method_34_code mct189 := by
  intro j c h
  unfold mct189 at h
  match j, h with
  | 0, h => cases h; exact mDr189_0
  | 1, h => cases h; exact mDr189_1
  | 2, h => cases h; exact mDr189_2
  | 3, h => cases h; exact mDr189_3
  | 4, h => cases h; exact mDr189_4
  | n + 5, h => simp at h
theorem mDr190_0 : mDc1 prog_14_method_1_code 0 [some (.aload_n 0, 1), some (.invokespecial 1, 3), none, none, some (.aload_n 0, 1), some (.iconst (-1), 1), some (.putfield 9, 3), none, none, some (.aload_n 0, 1), some (.sipush 500, 3), none, none, some (.newarray .int, 2), none, some (.putfield 13, 3), none, none, some (.aload_n 0, 1), some (.bipush 8, 2), none, some (.newarray .int, 2), none, some (.putfield 17, 3), none, none, some (.aload_n 0, 1), some (.bipush 24, 2), none, some (.iconst 5, 1), some (.multianewarray 20 2, 4)] = true := by decide +kernel
theorem mDr190_1 : mDc1 prog_14_method_1_code 32 [none, none, some (.putfield 22, 3), none, none, some (.aload_n 0, 1), some (.bipush 16, 2), none, some (.iconst 4, 1), some (.multianewarray 20 2, 4), none, none, none, some (.putfield 25, 3), none, none, some (.aload_n 0, 1), some (.bipush 16, 2), none, some (.iconst 2, 1), some (.multianewarray 20 2, 4), none, none, none, some (.putfield 28, 3), none, none, some (.aload_n 0, 1), some (.bipush 24, 2), none, some (.iconst 3, 1), some (.multianewarray 20 2, 4)] = true := by decide +kernel
theorem mDr190_2 : mDc1 prog_14_method_1_code 64 [none, none, none, some (.putfield 31, 3), none, none, some (.aload_n 0, 1), some (.iconst 4, 1), some (.bipush 8, 2), none, some (.multianewarray 20 2, 4), none, none, none, some (.putfield 34, 3), none, none, some (.aload_n 0, 1), some (.iconst 4, 1), some (.newarray .int, 2), none, some (.putfield 37, 3), none, none, some (.aload_n 0, 1), some (.iconst 4, 1), some (.newarray .int, 2), none, some (.putfield 40, 3), none, none, some (.aload_n 0, 1)] = true := by decide +kernel
theorem mDr190_3 : mDc1 prog_14_method_1_code 96 [some (.bipush 12, 2), none, some (.newarray .int, 2), none, some (.putfield 43, 3), none, none, some (.aload_n 0, 1), some (.bipush 12, 2), none, some (.newarray .int, 2), none, some (.putfield 46, 3), none, none, some (.aload_n 0, 1), some (.bipush 8, 2), none, some (.newarray .int, 2), none, some (.putfield 49, 3), none, none, some (.aload_n 0, 1), some (.bipush 8, 2), none, some (.newarray .int, 2), none, some (.putfield 52, 3), none, none, some (.aload_n 0, 1)] = true := by decide +kernel
theorem mDr190_4 : mDc1 prog_14_method_1_code 128 [some (.bipush 14, 2), none, some (.iconst 4, 1), some (.multianewarray 20 2, 4), none, none, none, some (.putfield 55, 3), none, none, some (.aload_n 0, 1), some (.iconst 4, 1), some (.newarray .int, 2), none, some (.putfield 58, 3), none, none, some (.aload_n 0, 1), some (.bipush 8, 2), none, some (.newarray .int, 2), none, some (.putfield 61, 3), none, none, some (.aload_n 0, 1), some (.bipush 8, 2), none, some (.newarray .int, 2), none, some (.putfield 64, 3)] = true := by decide +kernel
theorem mDr190_5 : mDc1 prog_14_method_1_code 160 [none, some (.aload_n 0, 1), some (.bipush 8, 2), none, some (.newarray .boolean, 2), none, some (.putfield 67, 3), none, none, some (.aload_n 0, 1), some (.bipush 8, 2), none, some (.newarray .int, 2), none, some (.putfield 71, 3), none, none, some (.aload_n 0, 1), some (.iconst 4, 1), some (.newarray .int, 2), none, some (.putfield 74, 3), none, none, some (.aload_n 0, 1), some (.bipush 12, 2), none, some (.bipush 8, 2), none, some (.multianewarray 20 2, 4)] = true := by decide +kernel
theorem mDr190_6 : mDc1 prog_14_method_1_code 192 [none, some (.putfield 77, 3), none, none, some (.aload_n 0, 1), some (.sipush 256, 3), none, none, some (.bipush 8, 2), none, some (.multianewarray 20 2, 4), none, none, none, some (.putfield 80, 3), none, none, some (.aload_n 0, 1), some (.sipush 256, 3), none, none, some (.newarray .int, 2), none, some (.putfield 83, 3), none, none, some (.aload_n 0, 1), some (.sipush 256, 3), none, none, some (.newarray .int, 2)] = true := by decide +kernel
theorem mDr190_7 : mDc1 prog_14_method_1_code 224 [some (.putfield 86, 3), none, none, some (.aload_n 0, 1), some (.bipush 8, 2), none, some (.newarray .int, 2), none, some (.putfield 89, 3), none, none, some (.aload_n 0, 1), some (.bipush 8, 2), none, some (.newarray .int, 2), none, some (.putfield 92, 3), none, none, some (.aload_n 0, 1), some (.iconst 4, 1), some (.newarray .int, 2), none, some (.putfield 95, 3), none, none, some (.aload_n 0, 1), some (.iconst 4, 1), some (.bipush 8, 2), none, some (.multianewarray 20 2, 4)] = true := by decide +kernel
theorem mDr190_8 : mDc1 prog_14_method_1_code 256 [none, none, some (.putfield 98, 3), none, none, some (.aload_n 0, 1), some (.bipush 8, 2), none, some (.bipush 8, 2), none, some (.multianewarray 20 2, 4), none, none, none, some (.putfield 101, 3), none, none, some (.aload_n 0, 1), some (.bipush 8, 2), none, some (.newarray .int, 2), none, some (.putfield 104, 3), none, none, some (.aload_n 0, 1), some (.bipush 8, 2), none, some (.newarray .int, 2), none, some (.putfield 107, 3)] = true := by decide +kernel
theorem mDr190_9 : mDc1 prog_14_method_1_code 288 [none, some (.aload_n 0, 1), some (.bipush 8, 2), none, some (.newarray .int, 2), none, some (.putfield 110, 3), none, none, some (.aload_n 0, 1), some (.bipush 8, 2), none, some (.newarray .int, 2), none, some (.putfield 113, 3), none, none, some (.aload_n 0, 1), some (.bipush 8, 2), none, some (.newarray .int, 2), none, some (.putfield 116, 3), none, none, some (.aload_n 0, 1), some (.bipush 8, 2), none, some (.newarray .int, 2), none, some (.putfield 119, 3)] = true := by decide +kernel
theorem mDr190_10 : mDc1 prog_14_method_1_code 320 [none, some (.aload_n 0, 1), some (.bipush 8, 2), none, some (.newarray .int, 2), none, some (.putfield 122, 3), none, none, some (.aload_n 0, 1), some (.iconst 3, 1), some (.sipush 220, 3), none, none, some (.multianewarray 20 2, 4), none, none, none, some (.putfield 125, 3), none, none, some (.return_, 1)] = true := by decide +kernel
theorem mDt190 : mDcP prog_14_method_1_code mct190 := by
  intro j c h
  unfold mct190 at h
  match j, h with
  | 0, h => cases h; exact mDr190_0
  | 1, h => cases h; exact mDr190_1
  | 2, h => cases h; exact mDr190_2
  | 3, h => cases h; exact mDr190_3
  | 4, h => cases h; exact mDr190_4
  | 5, h => cases h; exact mDr190_5
  | 6, h => cases h; exact mDr190_6
  | 7, h => cases h; exact mDr190_7
  | 8, h => cases h; exact mDr190_8
  | 9, h => cases h; exact mDr190_9
  | 10, h => cases h; exact mDr190_10
  | n + 11, h => simp at h
theorem mDr191_0 : mDc1 prog_14_method_98_code 0 [some (.aload_n 0, 1), some (.iconst 0, 1), some (.putfield 128, 3), none, none, some (.aload_n 0, 1), some (.aload_n 0, 1), some (.iload_n 1, 1), some (.invokevirtual 274, 3), none, none, some (.ifCond .ne 7, 3), none, none, some (.iconst 1, 1), some (.goto 4, 3), none, none, some (.iconst 0, 1), some (.iconst 1, 1), some (.invokevirtual 205, 3), none, none, some (.ifCond .eq 5, 3), none, none, some (.iconst 0, 1), some (.ireturn, 1), some (.aload_n 0, 1), some (.iconst 0, 1), some (.invokevirtual 378, 3)] = true := by decide +kernel
theorem mDr191_1 : mDc1 prog_14_method_98_code 32 [none, some (.aload_n 0, 1), some (.getfield 37, 3), none, none, some (.iload_n 1, 1), some (.iaload, 1), some (.istore_n 2, 1), some (.iconst 0, 1), some (.istore_n 3, 1), some (.iload_n 3, 1), some (.aload_n 0, 1), some (.getfield 360, 3), none, none, some (.if_icmp .ge 98, 3), none, none, some (.iload_n 2, 1), some (.ifCond .le 94, 3), none, none, some (.aload_n 0, 1), some (.getfield 110, 3), none, none, some (.iload_n 3, 1), some (.iaload, 1), some (.ifCond .ne 17, 3), none, none, some (.aload_n 0, 1)] = true := by decide +kernel
theorem mDr191_2 : mDc1 prog_14_method_98_code 64 [some (.getfield 104, 3), none, none, some (.iload_n 3, 1), some (.iaload, 1), some (.iload_n 2, 1), some (.if_icmp .ne 7, 3), none, none, some (.iconst 1, 1), some (.goto 4, 3), none, none, some (.iconst 0, 1), some (.istore 4, 2), none, some (.iconst 0, 1), some (.istore 5, 2), none, some (.iload 5, 2), none, some (.iload_n 2, 1), some (.if_icmp .ge 46, 3), none, none, some (.iload 4, 2), none, some (.ifCond .eq 41, 3), none, none, some (.aload_n 0, 1), some (.getfield 101, 3)] = true := by decide +kernel
theorem mDr191_3 : mDc1 prog_14_method_98_code 96 [none, none, some (.iload_n 3, 1), some (.aaload, 1), some (.iload 5, 2), none, some (.iaload, 1), some (.aload_n 0, 1), some (.getfield 34, 3), none, none, some (.iload_n 1, 1), some (.aaload, 1), some (.iload_n 2, 1), some (.iconst 1, 1), some (.isub, 1), some (.iload 5, 2), none, some (.isub, 1), some (.iaload, 1), some (.if_icmp .ne 7, 3), none, none, some (.iconst 1, 1), some (.goto 4, 3), none, none, some (.iconst 0, 1), some (.istore 4, 2), none, some (.iinc 5 1, 3)] = true := by decide +kernel
theorem mDr191_4 : mDc1 prog_14_method_98_code 128 [none, some (.goto (-46), 3), none, none, some (.iload 4, 2), none, some (.ifCond .eq 5, 3), none, none, some (.iconst 1, 1), some (.ireturn, 1), some (.iinc 3 1, 3), none, none, some (.goto (-100), 3), none, none, some (.iconst 0, 1), some (.ireturn, 1)] = true := by decide +kernel
theorem mDt191 : mDcP prog_14_method_98_code mct191 := by
  intro j c h
  unfold mct191 at h
  match j, h with
  | 0, h => cases h; exact mDr191_0
  | 1, h => cases h; exact mDr191_1
  | 2, h => cases h; exact mDr191_2
  | 3, h => cases h; exact mDr191_3
  | 4, h => cases h; exact mDr191_4
  | n + 5, h => simp at h
theorem mDr192_0 : mDc1 prog_14_method_7_code 0 [some (.iload_n 0, 1), some (.ifCond .ge 8, 3), none, none, some (.iload_n 0, 1), some (.ineg, 1), some (.goto 4, 3), none, none, some (.iload_n 0, 1), some (.ireturn, 1)] = true := by decide +kernel
theorem mDt192 : mDcP prog_14_method_7_code mct192 := by
  intro j c h
  unfold mct192 at h
  match j, h with
  | 0, h => cases h; exact mDr192_0
  | n + 1, h => simp at h
theorem mDr193_0 : mDc1 prog_14_method_37_code 0 [some (.iload_n 1, 1), some (.iconst 0, 1), some (.iconst 1, 1), some (.aload_n 0, 1), some (.getfield 17, 3), none, none, some (.iconst 1, 1), some (.iaload, 1), some (.ishl, 1), some (.iconst 1, 1), some (.isub, 1), some (.invokestatic 162, 3), none, none, some (.ireturn, 1)] = true := by decide +kernel
theorem mDt193 : mDcP prog_14_method_37_code mct193 := by
  intro j c h
  unfold mct193 at h
  match j, h with
  | 0, h => cases h; exact mDr193_0
  | n + 1, h => simp at h
theorem mDr194_0 : mDc1 prog_14_method_62_code 0 [some (.aload_n 0, 1), some (.iconst 0, 1), some (.putfield 128, 3), none, none, some (.aload_n 0, 1), some (.aload_n 0, 1), some (.iload_n 1, 1), some (.invokevirtual 277, 3), none, none, some (.ifCond .ne 7, 3), none, none, some (.iconst 1, 1), some (.goto 4, 3), none, none, some (.iconst 0, 1), some (.iconst 1, 1), some (.invokevirtual 205, 3), none, none, some (.ifCond .eq 5, 3), none, none, some (.iconst 0, 1), some (.ireturn, 1), some (.aload_n 0, 1), some (.invokevirtual 314, 3)] = true := by decide +kernel
theorem mDr194_1 : mDc1 prog_14_method_62_code 32 [some (.aload_n 0, 1), some (.getfield 61, 3), none, none, some (.iload_n 1, 1), some (.iaload, 1), some (.ireturn, 1)] = true := by decide +kernel
theorem mDt194 : mDcP prog_14_method_62_code mct194 := by
  intro j c h
  unfold mct194 at h
  match j, h with
  | 0, h => cases h; exact mDr194_0
  | 1, h => cases h; exact mDr194_1
  | n + 2, h => simp at h
theorem mDr195_0 : mDc1 prog_14_method_3_code 0 [some (.iload_n 1, 1), some (.ifCond .eq 15, 3), none, none, some (.aload_n 0, 1), some (.getfield 128, 3), none, none, some (.ifCond .ne 8, 3), none, none, some (.aload_n 0, 1), some (.iload_n 2, 1), some (.putfield 128, 3), none, none, some (.aload_n 0, 1), some (.getfield 128, 3), none, none, some (.ifCond .eq 7, 3), none, none, some (.iconst 1, 1), some (.goto 4, 3), none, none, some (.iconst 0, 1), some (.ireturn, 1)] = true := by decide +kernel
theorem mDt195 : mDcP prog_14_method_3_code mct195 := by
  intro j c h
  unfold mct195 at h
  match j, h with
  | 0, h => cases h; exact mDr195_0
  | n + 1, h => simp at h
theorem mDr196_0 : mDc1 prog_14_method_76_code 0 [some (.aload_n 0, 1), some (.aload_n 0, 1), some (.iload_n 1, 1), some (.invokevirtual 237, 3), none, none, some (.ifCond .ne 7, 3), none, none, some (.iconst 1, 1), some (.goto 4, 3), none, none, some (.iconst 0, 1), some (.iconst 1, 1), some (.invokevirtual 205, 3), none, none, some (.ifCond .ne 24, 3), none, none, some (.aload_n 0, 1), some (.aload_n 0, 1), some (.iload_n 1, 1), some (.invokevirtual 228, 3), none, none, some (.ifCond .ne 7, 3), none, none, some (.iconst 1, 1), some (.goto 4, 3)] = true := by decide +kernel
theorem mDr196_1 : mDc1 prog_14_method_76_code 32 [none, none, some (.iconst 0, 1), some (.iconst 2, 1), some (.invokevirtual 205, 3), none, none, some (.ifCond .eq 7, 3), none, none, some (.iconst 1, 1), some (.goto 4, 3), none, none, some (.iconst 0, 1), some (.ireturn, 1)] = true := by decide +kernel
theorem mDt196 : mDcP prog_14_method_76_code mct196 := by
  intro j c h
  unfold mct196 at h
  match j, h with
  | 0, h => cases h; exact mDr196_0
  | 1, h => cases h; exact mDr196_1
  | n + 2, h => simp at h
theorem mDr197_0 : mDc1 prog_14_method_104_code 0 [some (.aload_n 0, 1), some (.iconst 0, 1), some (.putfield 128, 3), none, none, some (.aload_n 0, 1), some (.aload_n 0, 1), some (.iload_n 1, 1), some (.invokevirtual 398, 3), none, none, some (.ifCond .eq 11, 3), none, none, some (.aload_n 0, 1), some (.iload_n 2, 1), some (.invokevirtual 398, 3), none, none, some (.ifCond .ne 7, 3), none, none, some (.iconst 1, 1), some (.goto 4, 3), none, none, some (.iconst 0, 1), some (.iconst 1, 1), some (.invokevirtual 205, 3), none, none, some (.ifCond .eq 5, 3)] = true := by decide +kernel
theorem mDr197_1 : mDc1 prog_14_method_104_code 32 [none, none, some (.iconst 0, 1), some (.ireturn, 1), some (.iload_n 1, 1), some (.iload_n 2, 1), some (.if_icmp .eq 16, 3), none, none, some (.aload_n 0, 1), some (.iload_n 1, 1), some (.iload_n 2, 1), some (.invokevirtual 401, 3), none, none, some (.ifCond .eq 7, 3), none, none, some (.iconst 1, 1), some (.goto 4, 3), none, none, some (.iconst 0, 1), some (.ireturn, 1)] = true := by decide +kernel
theorem mDt197 : mDcP prog_14_method_104_code mct197 := by
  intro j c h
  unfold mct197 at h
  match j, h with
  | 0, h => cases h; exact mDr197_0
  | 1, h => cases h; exact mDr197_1
  | n + 2, h => simp at h
theorem mDr198_0 : mDc1 prog_14_method_73_code 0 [some (.aload_n 0, 1), some (.iconst 0, 1), some (.putfield 128, 3), none, none, some (.aload_n 0, 1), some (.iload_n 1, 1), some (.iconst (-1), 1), some (.if_icmp .eq 15, 3), none, none, some (.aload_n 0, 1), some (.iload_n 1, 1), some (.invokevirtual 277, 3), none, none, some (.ifCond .ne 7, 3), none, none, some (.iconst 1, 1), some (.goto 4, 3), none, none, some (.iconst 0, 1), some (.iconst 1, 1), some (.invokevirtual 205, 3), none, none, some (.ifCond .eq 5, 3), none, none, some (.iconst 0, 1)] = true := by decide +kernel
theorem mDr198_1 : mDc1 prog_14_method_73_code 32 [some (.ireturn, 1), some (.aload_n 0, 1), some (.invokevirtual 348, 3), none, none, some (.istore_n 2, 1), some (.iload_n 2, 1), some (.bipush (-2), 2), none, some (.if_icmp .eq 8, 3), none, none, some (.iload_n 1, 1), some (.iconst (-1), 1), some (.if_icmp .ne 7, 3), none, none, some (.iload_n 2, 1), some (.goto 9, 3), none, none, some (.aload_n 0, 1), some (.getfield 92, 3), none, none, some (.iload_n 1, 1), some (.iaload, 1), some (.ireturn, 1)] = true := by decide +kernel
theorem mDt198 : mDcP prog_14_method_73_code mct198 := by
  intro j c h
  unfold mct198 at h
  match j, h with
  | 0, h => cases h; exact mDr198_0
  | 1, h => cases h; exact mDr198_1
  | n + 2, h => simp at h
theorem mDr199_0 : mDc1 prog_14_method_95_code 0 [some (.aload_n 0, 1), some (.iconst 0, 1), some (.putfield 128, 3), none, none, some (.aload_n 0, 1), some (.iload_n 1, 1), some (.invokevirtual 351, 3), none, none, some (.ifCond .eq 5, 3), none, none, some (.iconst 0, 1), some (.ireturn, 1), some (.aload_n 0, 1), some (.iload_n 1, 1), some (.invokevirtual 390, 3), none, none, some (.ireturn, 1)] = true := by decide +kernel
theorem mDt199 : mDcP prog_14_method_95_code mct199 := by
  intro j c h
  unfold mct199 at h
  match j, h with
  | 0, h => cases h; exact mDr199_0
  | n + 1, h => simp at h
