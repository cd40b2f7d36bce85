/-! the instruction tables: each row of 32 bytes by the decoder itself (printed by wip/whole/tools/gen_dec.py) -/
theorem mDr320_0 : mDc1 prog_23_method_69_code 0 [some (.iload_n 0, 1), some (.iload_n 1, 1), some (.if_icmp .gt 7, 3), none, none, some (.iload_n 0, 1), some (.goto 4, 3), none, none, some (.iload_n 1, 1), some (.ireturn, 1)] = true := by decide +kernel
theorem mDt320 : mDcP prog_23_method_69_code mct320 := by
  intro j c h
  unfold mct320 at h
  match j, h with
  | 0, h => cases h; exact mDr320_0
  | n + 1, h => simp at h
theorem mDr321_0 : mDc1 method_26_code 0 [some (.aload_n 2, 1), some (.iconst 0, 1), some (.aload_n 0, 1), some (.iload_n 1, 1), some (.invokevirtual 90, 3), none, none, some (.ifCond .eq 7, 3), none, none, some (.lconst 1, 1), some (.goto 4, 3), none, none, some (.lconst 0, 1), some (.lastore, 1), some (.goto 6, 3), none, none, some (.astore_n 3, 1), some (.iconst 1, 1), some (.ireturn, 1), some (.iconst 0, 1), some (.ireturn, 1)] = true := by decide +kernel
theorem mDt321 : mDcP method_26_code mct321 := by
  intro j c h
  unfold mct321 at h
  match j, h with
  | 0, h => cases h; exact mDr321_0
  | n + 1, h => simp at h
theorem mDr322_0 : mDc1 method_15_code 0 [some (.aload_n 2, 1), some (.iconst 0, 1), some (.aload_n 0, 1), some (.iload_n 1, 1), some (.invokevirtual 55, 3), none, none, some (.i2l, 1), some (.lastore, 1), some (.goto 6, 3), none, none, some (.astore_n 3, 1), some (.iconst 1, 1), some (.ireturn, 1), some (.iconst 0, 1), some (.ireturn, 1)] = true := by decide +kernel
theorem mDt322 : mDcP method_15_code mct322 := by
  intro j c h
  unfold mct322 at h
  match j, h with
  | 0, h => cases h; exact mDr322_0
  | n + 1, h => simp at h
theorem mDr323_0 : mDc1 method_29_code 0 [some (.aload_n 3, 1), some (.iconst 0, 1), some (.aload_n 0, 1), some (.iload_n 1, 1), some (.iload_n 2, 1), some (.invokevirtual 101, 3), none, none, some (.ifCond .eq 7, 3), none, none, some (.lconst 1, 1), some (.goto 4, 3), none, none, some (.lconst 0, 1), some (.lastore, 1), some (.goto 7, 3), none, none, some (.astore 4, 2), none, some (.iconst 1, 1), some (.ireturn, 1), some (.iconst 0, 1), some (.ireturn, 1)] = true := by decide +kernel
theorem mDt323 : mDcP method_29_code mct323 := by
  intro j c h
  unfold mct323 at h
  match j, h with
  | 0, h => cases h; exact mDr323_0
  | n + 1, h => simp at h
theorem mDr324_0 : mDc1 method_17_code 0 [some (.aload_n 2, 1), some (.iconst 0, 1), some (.aload_n 0, 1), some (.iload_n 1, 1), some (.invokevirtual 61, 3), none, none, some (.i2l, 1), some (.lastore, 1), some (.goto 6, 3), none, none, some (.astore_n 3, 1), some (.iconst 1, 1), some (.ireturn, 1), some (.iconst 0, 1), some (.ireturn, 1)] = true := by decide +kernel
theorem mDt324 : mDcP method_17_code mct324 := by
  intro j c h
  unfold mct324 at h
  match j, h with
  | 0, h => cases h; exact mDr324_0
  | n + 1, h => simp at h
theorem mDr325_0 : mDc1 method_24_code 0 [some (.aload_n 2, 1), some (.iconst 0, 1), some (.aload_n 0, 1), some (.iload_n 1, 1), some (.invokevirtual 83, 3), none, none, some (.i2l, 1), some (.lastore, 1), some (.goto 9, 3), none, none, some (.astore_n 3, 1), some (.iconst 1, 1), some (.ireturn, 1), some (.astore_n 3, 1), some (.iconst 2, 1), some (.ireturn, 1), some (.iconst 0, 1), some (.ireturn, 1)] = true := by decide +kernel
theorem mDt325 : mDcP method_24_code mct325 := by
  intro j c h
  unfold mct325 at h
  match j, h with
  | 0, h => cases h; exact mDr325_0
  | n + 1, h => simp at h
theorem mDr326_0 : mDc1 method_11_code 0 [some (.aload_n 2, 1), some (.iconst 0, 1), some (.aload_n 0, 1), some (.iload_n 1, 1), some (.invokevirtual 43, 3), none, none, some (.i2l, 1), some (.lastore, 1), some (.goto 6, 3), none, none, some (.astore_n 3, 1), some (.iconst 1, 1), some (.ireturn, 1), some (.iconst 0, 1), some (.ireturn, 1)] = true := by decide +kernel
theorem mDt326 : mDcP method_11_code mct326 := by
  intro j c h
  unfold mct326 at h
  match j, h with
  | 0, h => cases h; exact mDr326_0
  | n + 1, h => simp at h
theorem mDr327_0 : mDc1 method_32_code 0 [some (.aload_n 3, 1), some (.iconst 0, 1), some (.aload_n 0, 1), some (.iload_n 1, 1), some (.iload_n 2, 1), some (.invokevirtual 111, 3), none, none, some (.i2l, 1), some (.lastore, 1), some (.goto 11, 3), none, none, some (.astore 4, 2), none, some (.iconst 1, 1), some (.ireturn, 1), some (.astore 4, 2), none, some (.iconst 2, 1), some (.ireturn, 1), some (.iconst 0, 1), some (.ireturn, 1)] = true := by decide +kernel
theorem mDt327 : mDcP method_32_code mct327 := by
  intro j c h
  unfold mct327 at h
  match j, h with
  | 0, h => cases h; exact mDr327_0
  | n + 1, h => simp at h
theorem mDr328_0 : mDc1 method_31_code 0 [some (.aload_n 3, 1), some (.iconst 0, 1), some (.aload_n 0, 1), some (.iload_n 1, 1), some (.iload_n 2, 1), some (.invokevirtual 108, 3), none, none, some (.i2l, 1), some (.lastore, 1), some (.goto 7, 3), none, none, some (.astore 4, 2), none, some (.iconst 1, 1), some (.ireturn, 1), some (.iconst 0, 1), some (.ireturn, 1)] = true := by decide +kernel
theorem mDt328 : mDcP method_31_code mct328 := by
  intro j c h
  unfold mct328 at h
  match j, h with
  | 0, h => cases h; exact mDr328_0
  | n + 1, h => simp at h
theorem mDr329_0 : mDc1 method_14_code 0 [some (.aload_n 2, 1), some (.iconst 0, 1), some (.aload_n 0, 1), some (.iload_n 1, 1), some (.invokevirtual 52, 3), none, none, some (.i2l, 1), some (.lastore, 1), some (.goto 6, 3), none, none, some (.astore_n 3, 1), some (.iconst 1, 1), some (.ireturn, 1), some (.iconst 0, 1), some (.ireturn, 1)] = true := by decide +kernel
theorem mDt329 : mDcP method_14_code mct329 := by
  intro j c h
  unfold mct329 at h
  match j, h with
  | 0, h => cases h; exact mDr329_0
  | n + 1, h => simp at h
theorem mDr330_0 : mDc1 method_13_code 0 [some (.aload_n 2, 1), some (.iconst 0, 1), some (.aload_n 0, 1), some (.iload_n 1, 1), some (.invokevirtual 49, 3), none, none, some (.i2l, 1), some (.lastore, 1), some (.goto 6, 3), none, none, some (.astore_n 3, 1), some (.iconst 1, 1), some (.ireturn, 1), some (.iconst 0, 1), some (.ireturn, 1)] = true := by decide +kernel
theorem mDt330 : mDcP method_13_code mct330 := by
  intro j c h
  unfold mct330 at h
  match j, h with
  | 0, h => cases h; exact mDr330_0
  | n + 1, h => simp at h
theorem mDr331_0 : mDc1 method_19_code 0 [some (.aload_n 3, 1), some (.iconst 0, 1), some (.aload_n 0, 1), some (.iload_n 1, 1), some (.iload_n 2, 1), some (.invokevirtual 68, 3), none, none, some (.i2l, 1), some (.lastore, 1), some (.goto 7, 3), none, none, some (.astore 4, 2), none, some (.iconst 1, 1), some (.ireturn, 1), some (.iconst 0, 1), some (.ireturn, 1)] = true := by decide +kernel
theorem mDt331 : mDcP method_19_code mct331 := by
  intro j c h
  unfold mct331 at h
  match j, h with
  | 0, h => cases h; exact mDr331_0
  | n + 1, h => simp at h
theorem mDr332_0 : mDc1 method_7_code 0 [some (.aload_n 3, 1), some (.iconst 0, 1), some (.aload_n 0, 1), some (.iload_n 1, 1), some (.iload_n 2, 1), some (.invokevirtual 27, 3), none, none, some (.i2l, 1), some (.lastore, 1), some (.goto 7, 3), none, none, some (.astore 4, 2), none, some (.iconst 1, 1), some (.ireturn, 1), some (.iconst 0, 1), some (.ireturn, 1)] = true := by decide +kernel
theorem mDt332 : mDcP method_7_code mct332 := by
  intro j c h
  unfold mct332 at h
  match j, h with
  | 0, h => cases h; exact mDr332_0
  | n + 1, h => simp at h
theorem mDr333_0 : mDc1 method_23_code 0 [some (.aload_n 2, 1), some (.iconst 0, 1), some (.aload_n 0, 1), some (.iload_n 1, 1), some (.invokevirtual 80, 3), none, none, some (.i2l, 1), some (.lastore, 1), some (.goto 6, 3), none, none, some (.astore_n 3, 1), some (.iconst 1, 1), some (.ireturn, 1), some (.iconst 0, 1), some (.ireturn, 1)] = true := by decide +kernel
theorem mDt333 : mDcP method_23_code mct333 := by
  intro j c h
  unfold mct333 at h
  match j, h with
  | 0, h => cases h; exact mDr333_0
  | n + 1, h => simp at h
theorem mDr334_0 : mDc1 method_20_code 0 [some (.aload_n 3, 1), some (.iconst 0, 1), some (.aload_n 0, 1), some (.iload_n 1, 1), some (.iload_n 2, 1), some (.invokevirtual 71, 3), none, none, some (.i2l, 1), some (.lastore, 1), some (.goto 11, 3), none, none, some (.astore 4, 2), none, some (.iconst 1, 1), some (.ireturn, 1), some (.astore 4, 2), none, some (.iconst 2, 1), some (.ireturn, 1), some (.iconst 0, 1), some (.ireturn, 1)] = true := by decide +kernel
theorem mDt334 : mDcP method_20_code mct334 := by
  intro j c h
  unfold mct334 at h
  match j, h with
  | 0, h => cases h; exact mDr334_0
  | n + 1, h => simp at h
theorem mDr335_0 : mDc1 method_28_code 0 [some (.aload 5, 2), none, some (.iconst 0, 1), some (.aload_n 0, 1), some (.iload_n 1, 1), some (.iload_n 2, 1), some (.iload_n 3, 1), some (.iload 4, 2), none, some (.invokevirtual 97, 3), none, none, some (.i2l, 1), some (.lastore, 1), some (.goto 11, 3), none, none, some (.astore 6, 2), none, some (.iconst 1, 1), some (.ireturn, 1), some (.astore 6, 2), none, some (.iconst 2, 1), some (.ireturn, 1), some (.iconst 0, 1), some (.ireturn, 1)] = true := by decide +kernel
theorem mDt335 : mDcP method_28_code mct335 := by
  intro j c h
  unfold mct335 at h
  match j, h with
  | 0, h => cases h; exact mDr335_0
  | n + 1, h => simp at h
theorem mDr336_0 : mDc1 method_3_code 0 [some (.aload_n 2, 1), some (.iconst 0, 1), some (.aload_n 0, 1), some (.iload_n 1, 1), some (.invokevirtual 7, 3), none, none, some (.i2l, 1), some (.lastore, 1), some (.goto 6, 3), none, none, some (.astore_n 3, 1), some (.iconst 1, 1), some (.ireturn, 1), some (.iconst 0, 1), some (.ireturn, 1)] = true := by decide +kernel
theorem mDt336 : mDcP method_3_code mct336 := by
  intro j c h
  unfold mct336 at h
  match j, h with
  | 0, h => cases h; exact mDr336_0
  | n + 1, h => simp at h
theorem mDr337_0 : mDc1 method_30_code 0 [some (.aload_n 3, 1), some (.iconst 0, 1), some (.aload_n 0, 1), some (.iload_n 1, 1), some (.iload_n 2, 1), some (.invokevirtual 105, 3), none, none, some (.i2l, 1), some (.lastore, 1), some (.goto 7, 3), none, none, some (.astore 4, 2), none, some (.iconst 1, 1), some (.ireturn, 1), some (.iconst 0, 1), some (.ireturn, 1)] = true := by decide +kernel
theorem mDt337 : mDcP method_30_code mct337 := by
  intro j c h
  unfold mct337 at h
  match j, h with
  | 0, h => cases h; exact mDr337_0
  | n + 1, h => simp at h
theorem mDr338_0 : mDc1 method_6_code 0 [some (.aload_n 2, 1), some (.iconst 0, 1), some (.aload_n 0, 1), some (.iload_n 1, 1), some (.invokevirtual 24, 3), none, none, some (.i2l, 1), some (.lastore, 1), some (.goto 6, 3), none, none, some (.astore_n 3, 1), some (.iconst 1, 1), some (.ireturn, 1), some (.iconst 0, 1), some (.ireturn, 1)] = true := by decide +kernel
theorem mDt338 : mDcP method_6_code mct338 := by
  intro j c h
  unfold mct338 at h
  match j, h with
  | 0, h => cases h; exact mDr338_0
  | n + 1, h => simp at h
theorem mDr339_0 : mDc1 method_9_code 0 [some (.aload_n 3, 1), some (.iconst 0, 1), some (.aload_n 0, 1), some (.iload_n 1, 1), some (.iload_n 2, 1), some (.invokevirtual 35, 3), none, none, some (.i2l, 1), some (.lastore, 1), some (.goto 11, 3), none, none, some (.astore 4, 2), none, some (.iconst 1, 1), some (.ireturn, 1), some (.astore 4, 2), none, some (.iconst 2, 1), some (.ireturn, 1), some (.iconst 0, 1), some (.ireturn, 1)] = true := by decide +kernel
theorem mDt339 : mDcP method_9_code mct339 := by
  intro j c h
  unfold mct339 at h
  match j, h with
  | 0, h => cases h; exact mDr339_0
  | n + 1, h => simp at h
theorem mDr340_0 : mDc1 method_21_code 0 [some (.aload_n 3, 1), some (.iconst 0, 1), some (.aload_n 0, 1), some (.iload_n 1, 1), some (.iload_n 2, 1), some (.invokevirtual 74, 3), none, none, some (.i2l, 1), some (.lastore, 1), some (.goto 7, 3), none, none, some (.astore 4, 2), none, some (.iconst 1, 1), some (.ireturn, 1), some (.iconst 0, 1), some (.ireturn, 1)] = true := by decide +kernel
theorem mDt340 : mDcP method_21_code mct340 := by
  intro j c h
  unfold mct340 at h
  match j, h with
  | 0, h => cases h; exact mDr340_0
  | n + 1, h => simp at h
theorem mDr341_0 : mDc1 method_12_code 0 [some (.aload_n 3, 1), some (.iconst 0, 1), some (.aload_n 0, 1), some (.iload_n 1, 1), some (.iload_n 2, 1), some (.invokevirtual 46, 3), none, none, some (.i2l, 1), some (.lastore, 1), some (.goto 7, 3), none, none, some (.astore 4, 2), none, some (.iconst 1, 1), some (.ireturn, 1), some (.iconst 0, 1), some (.ireturn, 1)] = true := by decide +kernel
theorem mDt341 : mDcP method_12_code mct341 := by
  intro j c h
  unfold mct341 at h
  match j, h with
  | 0, h => cases h; exact mDr341_0
  | n + 1, h => simp at h
theorem mDr342_0 : mDc1 method_22_code 0 [some (.aload_n 2, 1), some (.iconst 0, 1), some (.aload_n 0, 1), some (.iload_n 1, 1), some (.invokevirtual 77, 3), none, none, some (.i2l, 1), some (.lastore, 1), some (.goto 6, 3), none, none, some (.astore_n 3, 1), some (.iconst 1, 1), some (.ireturn, 1), some (.iconst 0, 1), some (.ireturn, 1)] = true := by decide +kernel
theorem mDt342 : mDcP method_22_code mct342 := by
  intro j c h
  unfold mct342 at h
  match j, h with
  | 0, h => cases h; exact mDr342_0
  | n + 1, h => simp at h
theorem mDr343_0 : mDc1 method_34_code 0 [some (.aload_n 3, 1), some (.iconst 0, 1), some (.aload_n 0, 1), some (.iload_n 1, 1), some (.iload_n 2, 1), some (.invokevirtual 117, 3), none, none, some (.i2l, 1), some (.lastore, 1), some (.goto 7, 3), none, none, some (.astore 4, 2), none, some (.iconst 1, 1), some (.ireturn, 1), some (.iconst 0, 1), some (.ireturn, 1)] = true := by decide +kernel
theorem mDt343 : mDcP method_34_code mct343 := by
  intro j c h
  unfold mct343 at h
  match j, h with
  | 0, h => cases h; exact mDr343_0
  | n + 1, h => simp at h
theorem mDr344_0 : mDc1 method_18_code 0 [some (.aload_n 3, 1), some (.iconst 0, 1), some (.aload_n 0, 1), some (.iload_n 1, 1), some (.iload_n 2, 1), some (.invokevirtual 64, 3), none, none, some (.ifCond .eq 7, 3), none, none, some (.lconst 1, 1), some (.goto 4, 3), none, none, some (.lconst 0, 1), some (.lastore, 1), some (.goto 11, 3), none, none, some (.astore 4, 2), none, some (.iconst 1, 1), some (.ireturn, 1), some (.astore 4, 2), none, some (.iconst 2, 1), some (.ireturn, 1), some (.iconst 0, 1), some (.ireturn, 1)] = true := by decide +kernel
theorem mDt344 : mDcP method_18_code mct344 := by
  intro j c h
  unfold mct344 at h
  match j, h with
  | 0, h => cases h; exact mDr344_0
  | n + 1, h => simp at h
theorem mDr345_0 : mDc1 method_10_code 0 [some (.aload_n 2, 1), some (.iconst 0, 1), some (.aload_n 0, 1), some (.iload_n 1, 1), some (.invokevirtual 40, 3), none, none, some (.i2l, 1), some (.lastore, 1), some (.goto 6, 3), none, none, some (.astore_n 3, 1), some (.iconst 1, 1), some (.ireturn, 1), some (.iconst 0, 1), some (.ireturn, 1)] = true := by decide +kernel
theorem mDt345 : mDcP method_10_code mct345 := by
  intro j c h
  unfold mct345 at h
  match j, h with
  | 0, h => cases h; exact mDr345_0
  | n + 1, h => simp at h
theorem mDr346_0 : mDc1 method_25_code 0 [some (.aload 4, 2), none, some (.iconst 0, 1), some (.aload_n 0, 1), some (.iload_n 1, 1), some (.iload_n 2, 1), some (.iload_n 3, 1), some (.invokevirtual 86, 3), none, none, some (.i2l, 1), some (.lastore, 1), some (.goto 7, 3), none, none, some (.astore 5, 2), none, some (.iconst 1, 1), some (.ireturn, 1), some (.iconst 0, 1), some (.ireturn, 1)] = true := by decide +kernel
theorem mDt346 : mDcP method_25_code mct346 := by
  intro j c h
  unfold mct346 at h
  match j, h with
  | 0, h => cases h; exact mDr346_0
  | n + 1, h => simp at h
theorem mDr347_0 : mDc1 method_4_code 0 [some (.aload_n 2, 1), some (.iconst 0, 1), some (.aload_n 0, 1), some (.iload_n 1, 1), some (.invokevirtual 15, 3), none, none, some (.i2l, 1), some (.lastore, 1), some (.goto 6, 3), none, none, some (.astore_n 3, 1), some (.iconst 1, 1), some (.ireturn, 1), some (.iconst 0, 1), some (.ireturn, 1)] = true := by decide +kernel
theorem mDt347 : mDcP method_4_code mct347 := by
  intro j c h
  unfold mct347 at h
  match j, h with
  | 0, h => cases h; exact mDr347_0
  | n + 1, h => simp at h
theorem mDr348_0 : mDc1 method_8_code 0 [some (.aload_n 2, 1), some (.iconst 0, 1), some (.aload_n 0, 1), some (.iload_n 1, 1), some (.invokevirtual 30, 3), none, none, some (.i2l, 1), some (.lastore, 1), some (.goto 9, 3), none, none, some (.astore_n 3, 1), some (.iconst 1, 1), some (.ireturn, 1), some (.astore_n 3, 1), some (.iconst 2, 1), some (.ireturn, 1), some (.iconst 0, 1), some (.ireturn, 1)] = true := by decide +kernel
theorem mDt348 : mDcP method_8_code mct348 := by
  intro j c h
  unfold mct348 at h
  match j, h with
  | 0, h => cases h; exact mDr348_0
  | n + 1, h => simp at h
theorem mDr349_0 : mDc1 method_5_code 0 [some (.aload_n 3, 1), some (.iconst 0, 1), some (.aload_n 0, 1), some (.iload_n 1, 1), some (.iload_n 2, 1), some (.invokevirtual 18, 3), none, none, some (.i2l, 1), some (.lastore, 1), some (.goto 7, 3), none, none, some (.astore 4, 2), none, some (.iconst 1, 1), some (.ireturn, 1), some (.iconst 0, 1), some (.ireturn, 1)] = true := by decide +kernel
theorem mDt349 : mDcP method_5_code mct349 := by
  intro j c h
  unfold mct349 at h
  match j, h with
  | 0, h => cases h; exact mDr349_0
  | n + 1, h => simp at h
theorem mDr350_0 : mDc1 method_33_code 0 [some (.aload_n 3, 1), some (.iconst 0, 1), some (.aload_n 0, 1), some (.iload_n 1, 1), some (.iload_n 2, 1), some (.invokevirtual 114, 3), none, none, some (.i2l, 1), some (.lastore, 1), some (.goto 11, 3), none, none, some (.astore 4, 2), none, some (.iconst 1, 1), some (.ireturn, 1), some (.astore 4, 2), none, some (.iconst 2, 1), some (.ireturn, 1), some (.iconst 0, 1), some (.ireturn, 1)] = true := by decide +kernel
theorem mDt350 : mDcP method_33_code mct350 := by
  intro j c h
  unfold mct350 at h
  match j, h with
  | 0, h => cases h; exact mDr350_0
  | n + 1, h => simp at h
theorem mDr351_0 : mDc1 method_16_code 0 [some (.aload_n 2, 1), some (.iconst 0, 1), some (.aload_n 0, 1), some (.iload_n 1, 1), some (.invokevirtual 58, 3), none, none, some (.i2l, 1), some (.lastore, 1), some (.goto 6, 3), none, none, some (.astore_n 3, 1), some (.iconst 1, 1), some (.ireturn, 1), some (.iconst 0, 1), some (.ireturn, 1)] = true := by decide +kernel
theorem mDt351 : mDcP method_16_code mct351 := by
  intro j c h
  unfold mct351 at h
  match j, h with
  | 0, h => cases h; exact mDr351_0
  | n + 1, h => simp at h
theorem mDr352_0 : mDc1 method_27_code 0 [some (.aload_n 3, 1), some (.iconst 0, 1), some (.aload_n 0, 1), some (.iload_n 1, 1), some (.iload_n 2, 1), some (.invokevirtual 94, 3), none, none, some (.i2l, 1), some (.lastore, 1), some (.goto 11, 3), none, none, some (.astore 4, 2), none, some (.iconst 1, 1), some (.ireturn, 1), some (.astore 4, 2), none, some (.iconst 2, 1), some (.ireturn, 1), some (.iconst 0, 1), some (.ireturn, 1)] = true := by decide +kernel
theorem mDt352 : mDcP method_27_code mct352 := by
  intro j c h
  unfold mct352 at h
  match j, h with
  | 0, h => cases h; exact mDr352_0
  | n + 1, h => simp at h
theorem mDr353_0 : mDc1 code 0 [some (.new 8, 3), none, none, some (.dup, 1), some (.invokespecial 120, 3), none, none, some (.astore_n 1, 1), some (.new 121, 3), none, none, some (.dup, 1), some (.invokespecial 123, 3), none, none, some (.astore_n 2, 1), some (.iconst 1, 1), some (.newarray .long, 2), none, some (.astore_n 3, 1), some (.iconst 0, 1), some (.istore 4, 2), none, some (.iload 4, 2), none, some (.aload_n 0, 1), some (.arraylength, 1), some (.bipush 6, 2), none, some (.isub, 1), some (.if_icmp .gt 2518, 3)] = true := by decide +kernel
theorem mDr353_1 : mDc1 code 32 [none, some (.aload_n 0, 1), some (.iload 4, 2), none, some (.iaload, 1), some (.bipush 63, 2), none, some (.iand, 1), some (.tableswitch 2502 0 43 #[192, 265, 321, 334, 390, 458, 514, 582, 638, 706, 762, 818, 886, 942, 998, 1054, 1110, 1166, 1179, 1192, 1283, 1351, 1419, 1487, 1543, 1599, 1613, 1669, 1682, 1762, 1825, 1893, 1985, 2060, 2073, 2086, 2154, 2222, 2290, 2358, 2383, 2451, 2464, 2477], 192)] = true := by decide +kernel
theorem mDr353_2 : mDc1 code 64 [] = true := by decide +kernel
theorem mDr353_3 : mDc1 code 96 [] = true := by decide +kernel
theorem mDr353_4 : mDc1 code 128 [] = true := by decide +kernel
theorem mDr353_5 : mDc1 code 160 [] = true := by decide +kernel
theorem mDr353_6 : mDc1 code 192 [] = true := by decide +kernel
theorem mDr353_7 : mDc1 code 224 [none, none, none, none, none, none, none, none, some (.aload_n 1, 1), some (.aload_n 0, 1), some (.iload 4, 2), none, some (.iconst 1, 1), some (.iadd, 1), some (.iaload, 1), some (.aload_n 0, 1), some (.iload 4, 2), none, some (.iconst 2, 1), some (.iadd, 1), some (.iaload, 1), some (.aload_n 0, 1), some (.iload 4, 2), none, some (.iconst 3, 1), some (.iadd, 1), some (.iaload, 1), some (.aload_n 0, 1), some (.iload 4, 2), none, some (.iconst 4, 1), some (.iadd, 1)] = true := by decide +kernel
theorem mDr353_8 : mDc1 code 256 [some (.iaload, 1), some (.aload_n 0, 1), some (.iload 4, 2), none, some (.iconst 5, 1), some (.iadd, 1), some (.iaload, 1), some (.invokevirtual 124, 3), none, none, some (.aload_n 2, 1), some (.aload_n 0, 1), some (.iload 4, 2), none, some (.iconst 1, 1), some (.iadd, 1), some (.iaload, 1), some (.aload_n 0, 1), some (.iload 4, 2), none, some (.iconst 2, 1), some (.iadd, 1), some (.iaload, 1), some (.aload_n 0, 1), some (.iload 4, 2), none, some (.iconst 3, 1), some (.iadd, 1), some (.iaload, 1), some (.aload_n 0, 1), some (.iload 4, 2)] = true := by decide +kernel
theorem mDr353_9 : mDc1 code 288 [some (.iconst 4, 1), some (.iadd, 1), some (.iaload, 1), some (.aload_n 0, 1), some (.iload 4, 2), none, some (.iconst 5, 1), some (.iadd, 1), some (.iaload, 1), some (.invokevirtual 128, 3), none, none, some (.if_icmp .eq 2242, 3), none, none, some (.iconst 0, 1), some (.ireturn, 1), some (.aload_n 1, 1), some (.aload_n 0, 1), some (.iload 4, 2), none, some (.iconst 1, 1), some (.iadd, 1), some (.iaload, 1), some (.aload_n 3, 1), some (.invokestatic 129, 3), none, none, some (.istore 5, 2), none, some (.aload_n 2, 1), some (.aload_n 0, 1)] = true := by decide +kernel
theorem mDr353_10 : mDc1 code 320 [some (.iload 4, 2), none, some (.iconst 1, 1), some (.iadd, 1), some (.iaload, 1), some (.invokevirtual 134, 3), none, none, some (.istore 6, 2), none, some (.aload_n 2, 1), some (.invokevirtual 135, 3), none, none, some (.iload 5, 2), none, some (.if_icmp .eq 5, 3), none, none, some (.iconst 0, 1), some (.ireturn, 1), some (.iload 5, 2), none, some (.ifCond .ne 15, 3), none, none, some (.aload_n 3, 1), some (.iconst 0, 1), some (.laload, 1), some (.iload 6, 2), none, some (.i2l, 1)] = true := by decide +kernel
theorem mDr353_11 : mDc1 code 352 [some (.lcmp, 1), some (.ifCond .eq 5, 3), none, none, some (.iconst 0, 1), some (.ireturn, 1), some (.goto 2184, 3), none, none, some (.aload_n 1, 1), some (.invokevirtual 139, 3), none, none, some (.aload_n 2, 1), some (.invokevirtual 142, 3), none, none, some (.if_icmp .eq 2173, 3), none, none, some (.iconst 0, 1), some (.ireturn, 1), some (.aload_n 1, 1), some (.aload_n 0, 1), some (.iload 4, 2), none, some (.iconst 1, 1), some (.iadd, 1), some (.iaload, 1), some (.aload_n 3, 1), some (.invokestatic 143, 3)] = true := by decide +kernel
theorem mDr353_12 : mDc1 code 384 [none, some (.istore 5, 2), none, some (.aload_n 2, 1), some (.aload_n 0, 1), some (.iload 4, 2), none, some (.iconst 1, 1), some (.iadd, 1), some (.iaload, 1), some (.invokevirtual 145, 3), none, none, some (.istore 6, 2), none, some (.aload_n 2, 1), some (.invokevirtual 135, 3), none, none, some (.iload 5, 2), none, some (.if_icmp .eq 5, 3), none, none, some (.iconst 0, 1), some (.ireturn, 1), some (.iload 5, 2), none, some (.ifCond .ne 15, 3), none, none, some (.aload_n 3, 1)] = true := by decide +kernel
theorem mDr353_13 : mDc1 code 416 [some (.iconst 0, 1), some (.laload, 1), some (.iload 6, 2), none, some (.i2l, 1), some (.lcmp, 1), some (.ifCond .eq 5, 3), none, none, some (.iconst 0, 1), some (.ireturn, 1), some (.goto 2115, 3), none, none, some (.aload_n 1, 1), some (.aload_n 0, 1), some (.iload 4, 2), none, some (.iconst 1, 1), some (.iadd, 1), some (.iaload, 1), some (.aload_n 0, 1), some (.iload 4, 2), none, some (.iconst 2, 1), some (.iadd, 1), some (.iaload, 1), some (.aload_n 3, 1), some (.invokestatic 146, 3), none, none, some (.istore 5, 2)] = true := by decide +kernel
theorem mDr353_14 : mDc1 code 448 [none, some (.aload_n 2, 1), some (.aload_n 0, 1), some (.iload 4, 2), none, some (.iconst 1, 1), some (.iadd, 1), some (.iaload, 1), some (.aload_n 0, 1), some (.iload 4, 2), none, some (.iconst 2, 1), some (.iadd, 1), some (.iaload, 1), some (.invokevirtual 149, 3), none, none, some (.istore 6, 2), none, some (.aload_n 2, 1), some (.invokevirtual 135, 3), none, none, some (.iload 5, 2), none, some (.if_icmp .eq 5, 3), none, none, some (.iconst 0, 1), some (.ireturn, 1), some (.iload 5, 2)] = true := by decide +kernel
theorem mDr353_15 : mDc1 code 480 [some (.ifCond .ne 15, 3), none, none, some (.aload_n 3, 1), some (.iconst 0, 1), some (.laload, 1), some (.iload 6, 2), none, some (.i2l, 1), some (.lcmp, 1), some (.ifCond .eq 5, 3), none, none, some (.iconst 0, 1), some (.ireturn, 1), some (.goto 2047, 3), none, none, some (.aload_n 1, 1), some (.aload_n 0, 1), some (.iload 4, 2), none, some (.iconst 1, 1), some (.iadd, 1), some (.iaload, 1), some (.aload_n 3, 1), some (.invokestatic 150, 3), none, none, some (.istore 5, 2), none, some (.aload_n 2, 1)] = true := by decide +kernel
theorem mDr353_16 : mDc1 code 512 [some (.aload_n 0, 1), some (.iload 4, 2), none, some (.iconst 1, 1), some (.iadd, 1), some (.iaload, 1), some (.invokevirtual 152, 3), none, none, some (.istore 6, 2), none, some (.aload_n 2, 1), some (.invokevirtual 135, 3), none, none, some (.iload 5, 2), none, some (.if_icmp .eq 5, 3), none, none, some (.iconst 0, 1), some (.ireturn, 1), some (.iload 5, 2), none, some (.ifCond .ne 15, 3), none, none, some (.aload_n 3, 1), some (.iconst 0, 1), some (.laload, 1), some (.iload 6, 2)] = true := by decide +kernel
theorem mDr353_17 : mDc1 code 544 [some (.i2l, 1), some (.lcmp, 1), some (.ifCond .eq 5, 3), none, none, some (.iconst 0, 1), some (.ireturn, 1), some (.goto 1991, 3), none, none, some (.aload_n 1, 1), some (.aload_n 0, 1), some (.iload 4, 2), none, some (.iconst 1, 1), some (.iadd, 1), some (.iaload, 1), some (.aload_n 0, 1), some (.iload 4, 2), none, some (.iconst 2, 1), some (.iadd, 1), some (.iaload, 1), some (.aload_n 3, 1), some (.invokestatic 153, 3), none, none, some (.istore 5, 2), none, some (.aload_n 2, 1), some (.aload_n 0, 1), some (.iload 4, 2)] = true := by decide +kernel
theorem mDr353_18 : mDc1 code 576 [none, some (.iconst 1, 1), some (.iadd, 1), some (.iaload, 1), some (.aload_n 0, 1), some (.iload 4, 2), none, some (.iconst 2, 1), some (.iadd, 1), some (.iaload, 1), some (.invokevirtual 155, 3), none, none, some (.istore 6, 2), none, some (.aload_n 2, 1), some (.invokevirtual 135, 3), none, none, some (.iload 5, 2), none, some (.if_icmp .eq 5, 3), none, none, some (.iconst 0, 1), some (.ireturn, 1), some (.iload 5, 2), none, some (.ifCond .ne 15, 3), none, none, some (.aload_n 3, 1)] = true := by decide +kernel
theorem mDr353_19 : mDc1 code 608 [some (.iconst 0, 1), some (.laload, 1), some (.iload 6, 2), none, some (.i2l, 1), some (.lcmp, 1), some (.ifCond .eq 5, 3), none, none, some (.iconst 0, 1), some (.ireturn, 1), some (.goto 1923, 3), none, none, some (.aload_n 1, 1), some (.aload_n 0, 1), some (.iload 4, 2), none, some (.iconst 1, 1), some (.iadd, 1), some (.iaload, 1), some (.aload_n 3, 1), some (.invokestatic 156, 3), none, none, some (.istore 5, 2), none, some (.aload_n 2, 1), some (.aload_n 0, 1), some (.iload 4, 2), none, some (.iconst 1, 1)] = true := by decide +kernel
theorem mDr353_20 : mDc1 code 640 [some (.iadd, 1), some (.iaload, 1), some (.invokevirtual 158, 3), none, none, some (.istore 6, 2), none, some (.aload_n 2, 1), some (.invokevirtual 135, 3), none, none, some (.iload 5, 2), none, some (.if_icmp .eq 5, 3), none, none, some (.iconst 0, 1), some (.ireturn, 1), some (.iload 5, 2), none, some (.ifCond .ne 15, 3), none, none, some (.aload_n 3, 1), some (.iconst 0, 1), some (.laload, 1), some (.iload 6, 2), none, some (.i2l, 1), some (.lcmp, 1), some (.ifCond .eq 5, 3)] = true := by decide +kernel
theorem mDr353_21 : mDc1 code 672 [none, some (.iconst 0, 1), some (.ireturn, 1), some (.goto 1867, 3), none, none, some (.aload_n 1, 1), some (.aload_n 0, 1), some (.iload 4, 2), none, some (.iconst 1, 1), some (.iadd, 1), some (.iaload, 1), some (.aload_n 0, 1), some (.iload 4, 2), none, some (.iconst 2, 1), some (.iadd, 1), some (.iaload, 1), some (.aload_n 3, 1), some (.invokestatic 159, 3), none, none, some (.istore 5, 2), none, some (.aload_n 2, 1), some (.aload_n 0, 1), some (.iload 4, 2), none, some (.iconst 1, 1), some (.iadd, 1), some (.iaload, 1)] = true := by decide +kernel
theorem mDr353_22 : mDc1 code 704 [some (.aload_n 0, 1), some (.iload 4, 2), none, some (.iconst 2, 1), some (.iadd, 1), some (.iaload, 1), some (.invokevirtual 161, 3), none, none, some (.istore 6, 2), none, some (.aload_n 2, 1), some (.invokevirtual 135, 3), none, none, some (.iload 5, 2), none, some (.if_icmp .eq 5, 3), none, none, some (.iconst 0, 1), some (.ireturn, 1), some (.iload 5, 2), none, some (.ifCond .ne 15, 3), none, none, some (.aload_n 3, 1), some (.iconst 0, 1), some (.laload, 1), some (.iload 6, 2)] = true := by decide +kernel
theorem mDr353_23 : mDc1 code 736 [some (.i2l, 1), some (.lcmp, 1), some (.ifCond .eq 5, 3), none, none, some (.iconst 0, 1), some (.ireturn, 1), some (.goto 1799, 3), none, none, some (.aload_n 1, 1), some (.aload_n 0, 1), some (.iload 4, 2), none, some (.iconst 1, 1), some (.iadd, 1), some (.iaload, 1), some (.aload_n 3, 1), some (.invokestatic 162, 3), none, none, some (.istore 5, 2), none, some (.aload_n 2, 1), some (.aload_n 0, 1), some (.iload 4, 2), none, some (.iconst 1, 1), some (.iadd, 1), some (.iaload, 1), some (.invokevirtual 164, 3)] = true := by decide +kernel
theorem mDr353_24 : mDc1 code 768 [none, some (.istore 6, 2), none, some (.aload_n 2, 1), some (.invokevirtual 135, 3), none, none, some (.iload 5, 2), none, some (.if_icmp .eq 5, 3), none, none, some (.iconst 0, 1), some (.ireturn, 1), some (.iload 5, 2), none, some (.ifCond .ne 15, 3), none, none, some (.aload_n 3, 1), some (.iconst 0, 1), some (.laload, 1), some (.iload 6, 2), none, some (.i2l, 1), some (.lcmp, 1), some (.ifCond .eq 5, 3), none, none, some (.iconst 0, 1), some (.ireturn, 1), some (.goto 1743, 3)] = true := by decide +kernel
theorem mDr353_25 : mDc1 code 800 [none, none, some (.aload_n 1, 1), some (.aload_n 0, 1), some (.iload 4, 2), none, some (.iconst 1, 1), some (.iadd, 1), some (.iaload, 1), some (.aload_n 3, 1), some (.invokestatic 165, 3), none, none, some (.istore 5, 2), none, some (.aload_n 2, 1), some (.aload_n 0, 1), some (.iload 4, 2), none, some (.iconst 1, 1), some (.iadd, 1), some (.iaload, 1), some (.invokevirtual 167, 3), none, none, some (.istore 6, 2), none, some (.aload_n 2, 1), some (.invokevirtual 135, 3), none, none, some (.iload 5, 2)] = true := by decide +kernel
theorem mDr353_26 : mDc1 code 832 [none, some (.if_icmp .eq 5, 3), none, none, some (.iconst 0, 1), some (.ireturn, 1), some (.iload 5, 2), none, some (.ifCond .ne 15, 3), none, none, some (.aload_n 3, 1), some (.iconst 0, 1), some (.laload, 1), some (.iload 6, 2), none, some (.i2l, 1), some (.lcmp, 1), some (.ifCond .eq 5, 3), none, none, some (.iconst 0, 1), some (.ireturn, 1), some (.goto 1687, 3), none, none, some (.aload_n 1, 1), some (.aload_n 0, 1), some (.iload 4, 2), none, some (.iconst 1, 1), some (.iadd, 1)] = true := by decide +kernel
theorem mDr353_27 : mDc1 code 864 [some (.iaload, 1), some (.aload_n 0, 1), some (.iload 4, 2), none, some (.iconst 2, 1), some (.iadd, 1), some (.iaload, 1), some (.aload_n 3, 1), some (.invokestatic 168, 3), none, none, some (.istore 5, 2), none, some (.aload_n 2, 1), some (.aload_n 0, 1), some (.iload 4, 2), none, some (.iconst 1, 1), some (.iadd, 1), some (.iaload, 1), some (.aload_n 0, 1), some (.iload 4, 2), none, some (.iconst 2, 1), some (.iadd, 1), some (.iaload, 1), some (.invokevirtual 170, 3), none, none, some (.istore 6, 2), none, some (.aload_n 2, 1)] = true := by decide +kernel
theorem mDr353_28 : mDc1 code 896 [some (.invokevirtual 135, 3), none, none, some (.iload 5, 2), none, some (.if_icmp .eq 5, 3), none, none, some (.iconst 0, 1), some (.ireturn, 1), some (.iload 5, 2), none, some (.ifCond .ne 15, 3), none, none, some (.aload_n 3, 1), some (.iconst 0, 1), some (.laload, 1), some (.iload 6, 2), none, some (.i2l, 1), some (.lcmp, 1), some (.ifCond .eq 5, 3), none, none, some (.iconst 0, 1), some (.ireturn, 1), some (.goto 1619, 3), none, none, some (.aload_n 1, 1), some (.aload_n 0, 1)] = true := by decide +kernel
theorem mDr353_29 : mDc1 code 928 [some (.iload 4, 2), none, some (.iconst 1, 1), some (.iadd, 1), some (.iaload, 1), some (.aload_n 3, 1), some (.invokestatic 171, 3), none, none, some (.istore 5, 2), none, some (.aload_n 2, 1), some (.aload_n 0, 1), some (.iload 4, 2), none, some (.iconst 1, 1), some (.iadd, 1), some (.iaload, 1), some (.invokevirtual 173, 3), none, none, some (.istore 6, 2), none, some (.aload_n 2, 1), some (.invokevirtual 135, 3), none, none, some (.iload 5, 2), none, some (.if_icmp .eq 5, 3)] = true := by decide +kernel
theorem mDr353_30 : mDc1 code 960 [some (.iconst 0, 1), some (.ireturn, 1), some (.iload 5, 2), none, some (.ifCond .ne 15, 3), none, none, some (.aload_n 3, 1), some (.iconst 0, 1), some (.laload, 1), some (.iload 6, 2), none, some (.i2l, 1), some (.lcmp, 1), some (.ifCond .eq 5, 3), none, none, some (.iconst 0, 1), some (.ireturn, 1), some (.goto 1563, 3), none, none, some (.aload_n 1, 1), some (.aload_n 0, 1), some (.iload 4, 2), none, some (.iconst 1, 1), some (.iadd, 1), some (.iaload, 1), some (.aload_n 3, 1), some (.invokestatic 174, 3)] = true := by decide +kernel
theorem mDr353_31 : mDc1 code 992 [none, some (.istore 5, 2), none, some (.aload_n 2, 1), some (.aload_n 0, 1), some (.iload 4, 2), none, some (.iconst 1, 1), some (.iadd, 1), some (.iaload, 1), some (.invokevirtual 176, 3), none, none, some (.istore 6, 2), none, some (.aload_n 2, 1), some (.invokevirtual 135, 3), none, none, some (.iload 5, 2), none, some (.if_icmp .eq 5, 3), none, none, some (.iconst 0, 1), some (.ireturn, 1), some (.iload 5, 2), none, some (.ifCond .ne 15, 3), none, none, some (.aload_n 3, 1)] = true := by decide +kernel
theorem mDr353_32 : mDc1 code 1024 [some (.iconst 0, 1), some (.laload, 1), some (.iload 6, 2), none, some (.i2l, 1), some (.lcmp, 1), some (.ifCond .eq 5, 3), none, none, some (.iconst 0, 1), some (.ireturn, 1), some (.goto 1507, 3), none, none, some (.aload_n 1, 1), some (.aload_n 0, 1), some (.iload 4, 2), none, some (.iconst 1, 1), some (.iadd, 1), some (.iaload, 1), some (.aload_n 3, 1), some (.invokestatic 177, 3), none, none, some (.istore 5, 2), none, some (.aload_n 2, 1), some (.aload_n 0, 1), some (.iload 4, 2), none, some (.iconst 1, 1)] = true := by decide +kernel
theorem mDr353_33 : mDc1 code 1056 [some (.iadd, 1), some (.iaload, 1), some (.invokevirtual 179, 3), none, none, some (.istore 6, 2), none, some (.aload_n 2, 1), some (.invokevirtual 135, 3), none, none, some (.iload 5, 2), none, some (.if_icmp .eq 5, 3), none, none, some (.iconst 0, 1), some (.ireturn, 1), some (.iload 5, 2), none, some (.ifCond .ne 15, 3), none, none, some (.aload_n 3, 1), some (.iconst 0, 1), some (.laload, 1), some (.iload 6, 2), none, some (.i2l, 1), some (.lcmp, 1), some (.ifCond .eq 5, 3)] = true := by decide +kernel
theorem mDr353_34 : mDc1 code 1088 [none, some (.iconst 0, 1), some (.ireturn, 1), some (.goto 1451, 3), none, none, some (.aload_n 1, 1), some (.aload_n 0, 1), some (.iload 4, 2), none, some (.iconst 1, 1), some (.iadd, 1), some (.iaload, 1), some (.aload_n 3, 1), some (.invokestatic 180, 3), none, none, some (.istore 5, 2), none, some (.aload_n 2, 1), some (.aload_n 0, 1), some (.iload 4, 2), none, some (.iconst 1, 1), some (.iadd, 1), some (.iaload, 1), some (.invokevirtual 182, 3), none, none, some (.istore 6, 2), none, some (.aload_n 2, 1)] = true := by decide +kernel
theorem mDr353_35 : mDc1 code 1120 [some (.invokevirtual 135, 3), none, none, some (.iload 5, 2), none, some (.if_icmp .eq 5, 3), none, none, some (.iconst 0, 1), some (.ireturn, 1), some (.iload 5, 2), none, some (.ifCond .ne 15, 3), none, none, some (.aload_n 3, 1), some (.iconst 0, 1), some (.laload, 1), some (.iload 6, 2), none, some (.i2l, 1), some (.lcmp, 1), some (.ifCond .eq 5, 3), none, none, some (.iconst 0, 1), some (.ireturn, 1), some (.goto 1395, 3), none, none, some (.aload_n 1, 1), some (.aload_n 0, 1)] = true := by decide +kernel
theorem mDr353_36 : mDc1 code 1152 [some (.iload 4, 2), none, some (.iconst 1, 1), some (.iadd, 1), some (.iaload, 1), some (.aload_n 3, 1), some (.invokestatic 183, 3), none, none, some (.istore 5, 2), none, some (.aload_n 2, 1), some (.aload_n 0, 1), some (.iload 4, 2), none, some (.iconst 1, 1), some (.iadd, 1), some (.iaload, 1), some (.invokevirtual 185, 3), none, none, some (.istore 6, 2), none, some (.aload_n 2, 1), some (.invokevirtual 135, 3), none, none, some (.iload 5, 2), none, some (.if_icmp .eq 5, 3)] = true := by decide +kernel
theorem mDr353_37 : mDc1 code 1184 [some (.iconst 0, 1), some (.ireturn, 1), some (.iload 5, 2), none, some (.ifCond .ne 15, 3), none, none, some (.aload_n 3, 1), some (.iconst 0, 1), some (.laload, 1), some (.iload 6, 2), none, some (.i2l, 1), some (.lcmp, 1), some (.ifCond .eq 5, 3), none, none, some (.iconst 0, 1), some (.ireturn, 1), some (.goto 1339, 3), none, none, some (.aload_n 1, 1), some (.invokevirtual 186, 3), none, none, some (.aload_n 2, 1), some (.invokevirtual 189, 3), none, none, some (.if_icmp .eq 1328, 3)] = true := by decide +kernel
theorem mDr353_38 : mDc1 code 1216 [none, some (.iconst 0, 1), some (.ireturn, 1), some (.aload_n 1, 1), some (.invokevirtual 190, 3), none, none, some (.aload_n 2, 1), some (.invokevirtual 193, 3), none, none, some (.if_icmp .eq 1315, 3), none, none, some (.iconst 0, 1), some (.ireturn, 1), some (.aload_n 1, 1), some (.aload_n 0, 1), some (.iload 4, 2), none, some (.iconst 1, 1), some (.iadd, 1), some (.iaload, 1), some (.aload_n 0, 1), some (.iload 4, 2), none, some (.iconst 2, 1), some (.iadd, 1), some (.iaload, 1), some (.ifCond .eq 7, 3)] = true := by decide +kernel
theorem mDr353_39 : mDc1 code 1248 [some (.iconst 1, 1), some (.goto 4, 3), none, none, some (.iconst 0, 1), some (.aload_n 3, 1), some (.invokestatic 194, 3), none, none, some (.istore 5, 2), none, some (.aload_n 2, 1), some (.aload_n 0, 1), some (.iload 4, 2), none, some (.iconst 1, 1), some (.iadd, 1), some (.iaload, 1), some (.aload_n 0, 1), some (.iload 4, 2), none, some (.iconst 2, 1), some (.iadd, 1), some (.iaload, 1), some (.ifCond .eq 7, 3), none, none, some (.iconst 1, 1), some (.goto 4, 3), none, none, some (.iconst 0, 1)] = true := by decide +kernel
theorem mDr353_40 : mDc1 code 1280 [some (.invokevirtual 197, 3), none, none, some (.istore 6, 2), none, some (.aload_n 2, 1), some (.invokevirtual 135, 3), none, none, some (.iload 5, 2), none, some (.if_icmp .eq 5, 3), none, none, some (.iconst 0, 1), some (.ireturn, 1), some (.iload 5, 2), none, some (.ifCond .ne 22, 3), none, none, some (.aload_n 3, 1), some (.iconst 0, 1), some (.laload, 1), some (.iload 6, 2), none, some (.ifCond .eq 7, 3), none, none, some (.lconst 1, 1), some (.goto 4, 3)] = true := by decide +kernel
theorem mDr353_41 : mDc1 code 1312 [none, some (.lconst 0, 1), some (.lcmp, 1), some (.ifCond .eq 5, 3), none, none, some (.iconst 0, 1), some (.ireturn, 1), some (.goto 1222, 3), none, none, some (.aload_n 1, 1), some (.aload_n 0, 1), some (.iload 4, 2), none, some (.iconst 1, 1), some (.iadd, 1), some (.iaload, 1), some (.aload_n 0, 1), some (.iload 4, 2), none, some (.iconst 2, 1), some (.iadd, 1), some (.iaload, 1), some (.aload_n 3, 1), some (.invokestatic 198, 3), none, none, some (.istore 5, 2), none, some (.aload_n 2, 1), some (.aload_n 0, 1)] = true := by decide +kernel
theorem mDr353_42 : mDc1 code 1344 [some (.iload 4, 2), none, some (.iconst 1, 1), some (.iadd, 1), some (.iaload, 1), some (.aload_n 0, 1), some (.iload 4, 2), none, some (.iconst 2, 1), some (.iadd, 1), some (.iaload, 1), some (.invokevirtual 200, 3), none, none, some (.istore 6, 2), none, some (.aload_n 2, 1), some (.invokevirtual 135, 3), none, none, some (.iload 5, 2), none, some (.if_icmp .eq 5, 3), none, none, some (.iconst 0, 1), some (.ireturn, 1), some (.iload 5, 2), none, some (.ifCond .ne 15, 3)] = true := by decide +kernel
theorem mDr353_43 : mDc1 code 1376 [some (.aload_n 3, 1), some (.iconst 0, 1), some (.laload, 1), some (.iload 6, 2), none, some (.i2l, 1), some (.lcmp, 1), some (.ifCond .eq 5, 3), none, none, some (.iconst 0, 1), some (.ireturn, 1), some (.goto 1154, 3), none, none, some (.aload_n 1, 1), some (.aload_n 0, 1), some (.iload 4, 2), none, some (.iconst 1, 1), some (.iadd, 1), some (.iaload, 1), some (.aload_n 0, 1), some (.iload 4, 2), none, some (.iconst 2, 1), some (.iadd, 1), some (.iaload, 1), some (.aload_n 3, 1), some (.invokestatic 201, 3)] = true := by decide +kernel
theorem mDr353_44 : mDc1 code 1408 [some (.istore 5, 2), none, some (.aload_n 2, 1), some (.aload_n 0, 1), some (.iload 4, 2), none, some (.iconst 1, 1), some (.iadd, 1), some (.iaload, 1), some (.aload_n 0, 1), some (.iload 4, 2), none, some (.iconst 2, 1), some (.iadd, 1), some (.iaload, 1), some (.invokevirtual 203, 3), none, none, some (.istore 6, 2), none, some (.aload_n 2, 1), some (.invokevirtual 135, 3), none, none, some (.iload 5, 2), none, some (.if_icmp .eq 5, 3), none, none, some (.iconst 0, 1), some (.ireturn, 1), some (.iload 5, 2)] = true := by decide +kernel
theorem mDr353_45 : mDc1 code 1440 [none, some (.ifCond .ne 15, 3), none, none, some (.aload_n 3, 1), some (.iconst 0, 1), some (.laload, 1), some (.iload 6, 2), none, some (.i2l, 1), some (.lcmp, 1), some (.ifCond .eq 5, 3), none, none, some (.iconst 0, 1), some (.ireturn, 1), some (.goto 1086, 3), none, none, some (.aload_n 1, 1), some (.aload_n 0, 1), some (.iload 4, 2), none, some (.iconst 1, 1), some (.iadd, 1), some (.iaload, 1), some (.aload_n 0, 1), some (.iload 4, 2), none, some (.iconst 2, 1), some (.iadd, 1), some (.iaload, 1)] = true := by decide +kernel
theorem mDr353_46 : mDc1 code 1472 [some (.aload_n 3, 1), some (.invokestatic 204, 3), none, none, some (.istore 5, 2), none, some (.aload_n 2, 1), some (.aload_n 0, 1), some (.iload 4, 2), none, some (.iconst 1, 1), some (.iadd, 1), some (.iaload, 1), some (.aload_n 0, 1), some (.iload 4, 2), none, some (.iconst 2, 1), some (.iadd, 1), some (.iaload, 1), some (.invokevirtual 206, 3), none, none, some (.istore 6, 2), none, some (.aload_n 2, 1), some (.invokevirtual 135, 3), none, none, some (.iload 5, 2), none, some (.if_icmp .eq 5, 3)] = true := by decide +kernel
theorem mDr353_47 : mDc1 code 1504 [none, some (.iconst 0, 1), some (.ireturn, 1), some (.iload 5, 2), none, some (.ifCond .ne 15, 3), none, none, some (.aload_n 3, 1), some (.iconst 0, 1), some (.laload, 1), some (.iload 6, 2), none, some (.i2l, 1), some (.lcmp, 1), some (.ifCond .eq 5, 3), none, none, some (.iconst 0, 1), some (.ireturn, 1), some (.goto 1018, 3), none, none, some (.aload_n 1, 1), some (.aload_n 0, 1), some (.iload 4, 2), none, some (.iconst 1, 1), some (.iadd, 1), some (.iaload, 1), some (.aload_n 3, 1), some (.invokestatic 207, 3)] = true := by decide +kernel
theorem mDr353_48 : mDc1 code 1536 [none, none, some (.istore 5, 2), none, some (.aload_n 2, 1), some (.aload_n 0, 1), some (.iload 4, 2), none, some (.iconst 1, 1), some (.iadd, 1), some (.iaload, 1), some (.invokevirtual 209, 3), none, none, some (.istore 6, 2), none, some (.aload_n 2, 1), some (.invokevirtual 135, 3), none, none, some (.iload 5, 2), none, some (.if_icmp .eq 5, 3), none, none, some (.iconst 0, 1), some (.ireturn, 1), some (.iload 5, 2), none, some (.ifCond .ne 15, 3)] = true := by decide +kernel
theorem mDr353_49 : mDc1 code 1568 [some (.aload_n 3, 1), some (.iconst 0, 1), some (.laload, 1), some (.iload 6, 2), none, some (.i2l, 1), some (.lcmp, 1), some (.ifCond .eq 5, 3), none, none, some (.iconst 0, 1), some (.ireturn, 1), some (.goto 962, 3), none, none, some (.aload_n 1, 1), some (.aload_n 0, 1), some (.iload 4, 2), none, some (.iconst 1, 1), some (.iadd, 1), some (.iaload, 1), some (.aload_n 3, 1), some (.invokestatic 210, 3), none, none, some (.istore 5, 2), none, some (.aload_n 2, 1), some (.aload_n 0, 1), some (.iload 4, 2)] = true := by decide +kernel
theorem mDr353_50 : mDc1 code 1600 [some (.iconst 1, 1), some (.iadd, 1), some (.iaload, 1), some (.invokevirtual 212, 3), none, none, some (.istore 6, 2), none, some (.aload_n 2, 1), some (.invokevirtual 135, 3), none, none, some (.iload 5, 2), none, some (.if_icmp .eq 5, 3), none, none, some (.iconst 0, 1), some (.ireturn, 1), some (.iload 5, 2), none, some (.ifCond .ne 15, 3), none, none, some (.aload_n 3, 1), some (.iconst 0, 1), some (.laload, 1), some (.iload 6, 2), none, some (.i2l, 1), some (.lcmp, 1), some (.ifCond .eq 5, 3)] = true := by decide +kernel
theorem mDr353_51 : mDc1 code 1632 [none, none, some (.iconst 0, 1), some (.ireturn, 1), some (.goto 906, 3), none, none, some (.aload_n 1, 1), some (.invokevirtual 213, 3), none, none, some (.aload_n 2, 1), some (.invokevirtual 217, 3), none, none, some (.lcmp, 1), some (.ifCond .eq 894, 3), none, none, some (.iconst 0, 1), some (.ireturn, 1), some (.aload_n 1, 1), some (.aload_n 0, 1), some (.iload 4, 2), none, some (.iconst 1, 1), some (.iadd, 1), some (.iaload, 1), some (.aload_n 3, 1), some (.invokestatic 218, 3)] = true := by decide +kernel
theorem mDr353_52 : mDc1 code 1664 [some (.istore 5, 2), none, some (.aload_n 2, 1), some (.aload_n 0, 1), some (.iload 4, 2), none, some (.iconst 1, 1), some (.iadd, 1), some (.iaload, 1), some (.invokevirtual 220, 3), none, none, some (.istore 6, 2), none, some (.aload_n 2, 1), some (.invokevirtual 135, 3), none, none, some (.iload 5, 2), none, some (.if_icmp .eq 5, 3), none, none, some (.iconst 0, 1), some (.ireturn, 1), some (.iload 5, 2), none, some (.ifCond .ne 15, 3), none, none, some (.aload_n 3, 1), some (.iconst 0, 1)] = true := by decide +kernel
theorem mDr353_53 : mDc1 code 1696 [some (.laload, 1), some (.iload 6, 2), none, some (.i2l, 1), some (.lcmp, 1), some (.ifCond .eq 5, 3), none, none, some (.iconst 0, 1), some (.ireturn, 1), some (.goto 836, 3), none, none, some (.aload_n 1, 1), some (.invokevirtual 221, 3), none, none, some (.aload_n 2, 1), some (.invokevirtual 224, 3), none, none, some (.if_icmp .eq 825, 3), none, none, some (.iconst 0, 1), some (.ireturn, 1), some (.aload_n 1, 1), some (.aload_n 0, 1), some (.iload 4, 2), none, some (.iconst 1, 1), some (.iadd, 1)] = true := by decide +kernel
theorem mDr353_54 : mDc1 code 1728 [some (.iaload, 1), some (.aload_n 0, 1), some (.iload 4, 2), none, some (.iconst 2, 1), some (.iadd, 1), some (.iaload, 1), some (.aload_n 0, 1), some (.iload 4, 2), none, some (.iconst 3, 1), some (.iadd, 1), some (.iaload, 1), some (.aload_n 3, 1), some (.invokestatic 225, 3), none, none, some (.istore 5, 2), none, some (.aload_n 2, 1), some (.aload_n 0, 1), some (.iload 4, 2), none, some (.iconst 1, 1), some (.iadd, 1), some (.iaload, 1), some (.aload_n 0, 1), some (.iload 4, 2), none, some (.iconst 2, 1), some (.iadd, 1), some (.iaload, 1)] = true := by decide +kernel
theorem mDr353_55 : mDc1 code 1760 [some (.aload_n 0, 1), some (.iload 4, 2), none, some (.iconst 3, 1), some (.iadd, 1), some (.iaload, 1), some (.invokevirtual 228, 3), none, none, some (.istore 6, 2), none, some (.aload_n 2, 1), some (.invokevirtual 135, 3), none, none, some (.iload 5, 2), none, some (.if_icmp .eq 5, 3), none, none, some (.iconst 0, 1), some (.ireturn, 1), some (.iload 5, 2), none, some (.ifCond .ne 15, 3), none, none, some (.aload_n 3, 1), some (.iconst 0, 1), some (.laload, 1), some (.iload 6, 2)] = true := by decide +kernel
theorem mDr353_56 : mDc1 code 1792 [some (.i2l, 1), some (.lcmp, 1), some (.ifCond .eq 5, 3), none, none, some (.iconst 0, 1), some (.ireturn, 1), some (.goto 743, 3), none, none, some (.aload_n 1, 1), some (.aload_n 0, 1), some (.iload 4, 2), none, some (.iconst 1, 1), some (.iadd, 1), some (.iaload, 1), some (.aload_n 3, 1), some (.invokestatic 229, 3), none, none, some (.istore 5, 2), none, some (.aload_n 2, 1), some (.aload_n 0, 1), some (.iload 4, 2), none, some (.iconst 1, 1), some (.iadd, 1), some (.iaload, 1), some (.invokevirtual 231, 3)] = true := by decide +kernel
theorem mDr353_57 : mDc1 code 1824 [none, some (.istore 6, 2), none, some (.aload_n 2, 1), some (.invokevirtual 135, 3), none, none, some (.iload 5, 2), none, some (.if_icmp .eq 5, 3), none, none, some (.iconst 0, 1), some (.ireturn, 1), some (.iload 5, 2), none, some (.ifCond .ne 22, 3), none, none, some (.aload_n 3, 1), some (.iconst 0, 1), some (.laload, 1), some (.iload 6, 2), none, some (.ifCond .eq 7, 3), none, none, some (.lconst 1, 1), some (.goto 4, 3), none, none, some (.lconst 0, 1)] = true := by decide +kernel
theorem mDr353_58 : mDc1 code 1856 [some (.lcmp, 1), some (.ifCond .eq 5, 3), none, none, some (.iconst 0, 1), some (.ireturn, 1), some (.goto 680, 3), none, none, some (.aload_n 1, 1), some (.aload_n 0, 1), some (.iload 4, 2), none, some (.iconst 1, 1), some (.iadd, 1), some (.iaload, 1), some (.aload_n 0, 1), some (.iload 4, 2), none, some (.iconst 2, 1), some (.iadd, 1), some (.iaload, 1), some (.aload_n 3, 1), some (.invokestatic 232, 3), none, none, some (.istore 5, 2), none, some (.aload_n 2, 1), some (.aload_n 0, 1), some (.iload 4, 2)] = true := by decide +kernel
theorem mDr353_59 : mDc1 code 1888 [some (.iconst 1, 1), some (.iadd, 1), some (.iaload, 1), some (.aload_n 0, 1), some (.iload 4, 2), none, some (.iconst 2, 1), some (.iadd, 1), some (.iaload, 1), some (.invokevirtual 234, 3), none, none, some (.istore 6, 2), none, some (.aload_n 2, 1), some (.invokevirtual 135, 3), none, none, some (.iload 5, 2), none, some (.if_icmp .eq 5, 3), none, none, some (.iconst 0, 1), some (.ireturn, 1), some (.iload 5, 2), none, some (.ifCond .ne 15, 3), none, none, some (.aload_n 3, 1), some (.iconst 0, 1)] = true := by decide +kernel
theorem mDr353_60 : mDc1 code 1920 [some (.laload, 1), some (.iload 6, 2), none, some (.i2l, 1), some (.lcmp, 1), some (.ifCond .eq 5, 3), none, none, some (.iconst 0, 1), some (.ireturn, 1), some (.goto 612, 3), none, none, some (.aload_n 1, 1), some (.aload_n 0, 1), some (.iload 4, 2), none, some (.iconst 1, 1), some (.iadd, 1), some (.iaload, 1), some (.aload_n 0, 1), some (.iload 4, 2), none, some (.iconst 2, 1), some (.iadd, 1), some (.iaload, 1), some (.aload_n 0, 1), some (.iload 4, 2), none, some (.iconst 3, 1), some (.iadd, 1), some (.iaload, 1)] = true := by decide +kernel
theorem mDr353_61 : mDc1 code 1952 [some (.aload_n 0, 1), some (.iload 4, 2), none, some (.iconst 4, 1), some (.iadd, 1), some (.iaload, 1), some (.aload_n 3, 1), some (.invokestatic 235, 3), none, none, some (.istore 5, 2), none, some (.aload_n 2, 1), some (.aload_n 0, 1), some (.iload 4, 2), none, some (.iconst 1, 1), some (.iadd, 1), some (.iaload, 1), some (.aload_n 0, 1), some (.iload 4, 2), none, some (.iconst 2, 1), some (.iadd, 1), some (.iaload, 1), some (.aload_n 0, 1), some (.iload 4, 2), none, some (.iconst 3, 1), some (.iadd, 1), some (.iaload, 1), some (.aload_n 0, 1)] = true := by decide +kernel
theorem mDr353_62 : mDc1 code 1984 [some (.iload 4, 2), none, some (.iconst 4, 1), some (.iadd, 1), some (.iaload, 1), some (.invokevirtual 238, 3), none, none, some (.istore 6, 2), none, some (.aload_n 2, 1), some (.invokevirtual 135, 3), none, none, some (.iload 5, 2), none, some (.if_icmp .eq 5, 3), none, none, some (.iconst 0, 1), some (.ireturn, 1), some (.iload 5, 2), none, some (.ifCond .ne 15, 3), none, none, some (.aload_n 3, 1), some (.iconst 0, 1), some (.laload, 1), some (.iload 6, 2), none, some (.i2l, 1)] = true := by decide +kernel
theorem mDr353_63 : mDc1 code 2016 [some (.lcmp, 1), some (.ifCond .eq 5, 3), none, none, some (.iconst 0, 1), some (.ireturn, 1), some (.goto 520, 3), none, none, some (.aload_n 1, 1), some (.aload_n 0, 1), some (.iload 4, 2), none, some (.iconst 1, 1), some (.iadd, 1), some (.iaload, 1), some (.aload_n 0, 1), some (.iload 4, 2), none, some (.iconst 2, 1), some (.iadd, 1), some (.iaload, 1), some (.aload_n 3, 1), some (.invokestatic 239, 3), none, none, some (.istore 5, 2), none, some (.aload_n 2, 1), some (.aload_n 0, 1), some (.iload 4, 2)] = true := by decide +kernel
theorem mDr353_64 : mDc1 code 2048 [some (.iconst 1, 1), some (.iadd, 1), some (.iaload, 1), some (.aload_n 0, 1), some (.iload 4, 2), none, some (.iconst 2, 1), some (.iadd, 1), some (.iaload, 1), some (.invokevirtual 241, 3), none, none, some (.istore 6, 2), none, some (.aload_n 2, 1), some (.invokevirtual 135, 3), none, none, some (.iload 5, 2), none, some (.if_icmp .eq 5, 3), none, none, some (.iconst 0, 1), some (.ireturn, 1), some (.iload 5, 2), none, some (.ifCond .ne 22, 3), none, none, some (.aload_n 3, 1), some (.iconst 0, 1)] = true := by decide +kernel
theorem mDr353_65 : mDc1 code 2080 [some (.laload, 1), some (.iload 6, 2), none, some (.ifCond .eq 7, 3), none, none, some (.lconst 1, 1), some (.goto 4, 3), none, none, some (.lconst 0, 1), some (.lcmp, 1), some (.ifCond .eq 5, 3), none, none, some (.iconst 0, 1), some (.ireturn, 1), some (.goto 445, 3), none, none, some (.aload_n 1, 1), some (.invokevirtual 242, 3), none, none, some (.aload_n 2, 1), some (.invokevirtual 245, 3), none, none, some (.if_icmp .eq 434, 3), none, none, some (.iconst 0, 1)] = true := by decide +kernel
theorem mDr353_66 : mDc1 code 2112 [some (.ireturn, 1), some (.aload_n 1, 1), some (.invokevirtual 246, 3), none, none, some (.aload_n 2, 1), some (.invokevirtual 249, 3), none, none, some (.if_icmp .eq 421, 3), none, none, some (.iconst 0, 1), some (.ireturn, 1), some (.aload_n 1, 1), some (.aload_n 0, 1), some (.iload 4, 2), none, some (.iconst 1, 1), some (.iadd, 1), some (.iaload, 1), some (.aload_n 0, 1), some (.iload 4, 2), none, some (.iconst 2, 1), some (.iadd, 1), some (.iaload, 1), some (.aload_n 3, 1), some (.invokestatic 250, 3), none, none, some (.istore 5, 2)] = true := by decide +kernel
theorem mDr353_67 : mDc1 code 2144 [none, some (.aload_n 2, 1), some (.aload_n 0, 1), some (.iload 4, 2), none, some (.iconst 1, 1), some (.iadd, 1), some (.iaload, 1), some (.aload_n 0, 1), some (.iload 4, 2), none, some (.iconst 2, 1), some (.iadd, 1), some (.iaload, 1), some (.invokevirtual 252, 3), none, none, some (.istore 6, 2), none, some (.aload_n 2, 1), some (.invokevirtual 135, 3), none, none, some (.iload 5, 2), none, some (.if_icmp .eq 5, 3), none, none, some (.iconst 0, 1), some (.ireturn, 1), some (.iload 5, 2)] = true := by decide +kernel
theorem mDr353_68 : mDc1 code 2176 [some (.ifCond .ne 15, 3), none, none, some (.aload_n 3, 1), some (.iconst 0, 1), some (.laload, 1), some (.iload 6, 2), none, some (.i2l, 1), some (.lcmp, 1), some (.ifCond .eq 5, 3), none, none, some (.iconst 0, 1), some (.ireturn, 1), some (.goto 351, 3), none, none, some (.aload_n 1, 1), some (.aload_n 0, 1), some (.iload 4, 2), none, some (.iconst 1, 1), some (.iadd, 1), some (.iaload, 1), some (.aload_n 0, 1), some (.iload 4, 2), none, some (.iconst 2, 1), some (.iadd, 1), some (.iaload, 1), some (.aload_n 3, 1)] = true := by decide +kernel
theorem mDr353_69 : mDc1 code 2208 [some (.invokestatic 253, 3), none, none, some (.istore 5, 2), none, some (.aload_n 2, 1), some (.aload_n 0, 1), some (.iload 4, 2), none, some (.iconst 1, 1), some (.iadd, 1), some (.iaload, 1), some (.aload_n 0, 1), some (.iload 4, 2), none, some (.iconst 2, 1), some (.iadd, 1), some (.iaload, 1), some (.invokevirtual 255, 3), none, none, some (.istore 6, 2), none, some (.aload_n 2, 1), some (.invokevirtual 135, 3), none, none, some (.iload 5, 2), none, some (.if_icmp .eq 5, 3)] = true := by decide +kernel
theorem mDr353_70 : mDc1 code 2240 [some (.iconst 0, 1), some (.ireturn, 1), some (.iload 5, 2), none, some (.ifCond .ne 15, 3), none, none, some (.aload_n 3, 1), some (.iconst 0, 1), some (.laload, 1), some (.iload 6, 2), none, some (.i2l, 1), some (.lcmp, 1), some (.ifCond .eq 5, 3), none, none, some (.iconst 0, 1), some (.ireturn, 1), some (.goto 283, 3), none, none, some (.aload_n 1, 1), some (.aload_n 0, 1), some (.iload 4, 2), none, some (.iconst 1, 1), some (.iadd, 1), some (.iaload, 1), some (.aload_n 0, 1), some (.iload 4, 2)] = true := by decide +kernel
theorem mDr353_71 : mDc1 code 2272 [some (.iconst 2, 1), some (.iadd, 1), some (.iaload, 1), some (.aload_n 3, 1), some (.invokestatic 256, 3), none, none, some (.istore 5, 2), none, some (.aload_n 2, 1), some (.aload_n 0, 1), some (.iload 4, 2), none, some (.iconst 1, 1), some (.iadd, 1), some (.iaload, 1), some (.aload_n 0, 1), some (.iload 4, 2), none, some (.iconst 2, 1), some (.iadd, 1), some (.iaload, 1), some (.invokevirtual 258, 3), none, none, some (.istore 6, 2), none, some (.aload_n 2, 1), some (.invokevirtual 135, 3), none, none, some (.iload 5, 2)] = true := by decide +kernel
theorem mDr353_72 : mDc1 code 2304 [none, some (.if_icmp .eq 5, 3), none, none, some (.iconst 0, 1), some (.ireturn, 1), some (.iload 5, 2), none, some (.ifCond .ne 15, 3), none, none, some (.aload_n 3, 1), some (.iconst 0, 1), some (.laload, 1), some (.iload 6, 2), none, some (.i2l, 1), some (.lcmp, 1), some (.ifCond .eq 5, 3), none, none, some (.iconst 0, 1), some (.ireturn, 1), some (.goto 215, 3), none, none, some (.aload_n 1, 1), some (.aload_n 0, 1), some (.iload 4, 2), none, some (.iconst 1, 1), some (.iadd, 1)] = true := by decide +kernel
theorem mDr353_73 : mDc1 code 2336 [some (.iaload, 1), some (.aload_n 0, 1), some (.iload 4, 2), none, some (.iconst 2, 1), some (.iadd, 1), some (.iaload, 1), some (.aload_n 3, 1), some (.invokestatic 259, 3), none, none, some (.istore 5, 2), none, some (.aload_n 2, 1), some (.aload_n 0, 1), some (.iload 4, 2), none, some (.iconst 1, 1), some (.iadd, 1), some (.iaload, 1), some (.aload_n 0, 1), some (.iload 4, 2), none, some (.iconst 2, 1), some (.iadd, 1), some (.iaload, 1), some (.invokevirtual 261, 3), none, none, some (.istore 6, 2), none, some (.aload_n 2, 1)] = true := by decide +kernel
theorem mDr353_74 : mDc1 code 2368 [some (.invokevirtual 135, 3), none, none, some (.iload 5, 2), none, some (.if_icmp .eq 5, 3), none, none, some (.iconst 0, 1), some (.ireturn, 1), some (.iload 5, 2), none, some (.ifCond .ne 15, 3), none, none, some (.aload_n 3, 1), some (.iconst 0, 1), some (.laload, 1), some (.iload 6, 2), none, some (.i2l, 1), some (.lcmp, 1), some (.ifCond .eq 5, 3), none, none, some (.iconst 0, 1), some (.ireturn, 1), some (.goto 147, 3), none, none, some (.aload_n 1, 1), some (.aload_n 0, 1)] = true := by decide +kernel
theorem mDr353_75 : mDc1 code 2400 [some (.iload 4, 2), none, some (.iconst 1, 1), some (.iadd, 1), some (.iaload, 1), some (.invokevirtual 262, 3), none, none, some (.aload_n 2, 1), some (.aload_n 0, 1), some (.iload 4, 2), none, some (.iconst 1, 1), some (.iadd, 1), some (.iaload, 1), some (.invokevirtual 265, 3), none, none, some (.if_icmp .eq 124, 3), none, none, some (.iconst 0, 1), some (.ireturn, 1), some (.aload_n 1, 1), some (.aload_n 0, 1), some (.iload 4, 2), none, some (.iconst 1, 1), some (.iadd, 1), some (.iaload, 1), some (.aload_n 0, 1), some (.iload 4, 2)] = true := by decide +kernel
theorem mDr353_76 : mDc1 code 2432 [none, some (.iconst 2, 1), some (.iadd, 1), some (.iaload, 1), some (.aload_n 3, 1), some (.invokestatic 266, 3), none, none, some (.istore 5, 2), none, some (.aload_n 2, 1), some (.aload_n 0, 1), some (.iload 4, 2), none, some (.iconst 1, 1), some (.iadd, 1), some (.iaload, 1), some (.aload_n 0, 1), some (.iload 4, 2), none, some (.iconst 2, 1), some (.iadd, 1), some (.iaload, 1), some (.invokevirtual 268, 3), none, none, some (.istore 6, 2), none, some (.aload_n 2, 1), some (.invokevirtual 135, 3)] = true := by decide +kernel
theorem mDr353_77 : mDc1 code 2464 [some (.iload 5, 2), none, some (.if_icmp .eq 5, 3), none, none, some (.iconst 0, 1), some (.ireturn, 1), some (.iload 5, 2), none, some (.ifCond .ne 15, 3), none, none, some (.aload_n 3, 1), some (.iconst 0, 1), some (.laload, 1), some (.iload 6, 2), none, some (.i2l, 1), some (.lcmp, 1), some (.ifCond .eq 5, 3), none, none, some (.iconst 0, 1), some (.ireturn, 1), some (.goto 54, 3), none, none, some (.aload_n 1, 1), some (.invokevirtual 269, 3), none, none, some (.aload_n 2, 1)] = true := by decide +kernel
theorem mDr353_78 : mDc1 code 2496 [some (.invokevirtual 272, 3), none, none, some (.if_icmp .eq 43, 3), none, none, some (.iconst 0, 1), some (.ireturn, 1), some (.aload_n 1, 1), some (.invokevirtual 273, 3), none, none, some (.aload_n 2, 1), some (.invokevirtual 276, 3), none, none, some (.if_icmp .eq 30, 3), none, none, some (.iconst 0, 1), some (.ireturn, 1), some (.aload_n 1, 1), some (.aload_n 0, 1), some (.iload 4, 2), none, some (.iconst 1, 1), some (.iadd, 1), some (.iaload, 1), some (.invokevirtual 277, 3), none, none, some (.aload_n 2, 1)] = true := by decide +kernel
theorem mDr353_79 : mDc1 code 2528 [some (.aload_n 0, 1), some (.iload 4, 2), none, some (.iconst 1, 1), some (.iadd, 1), some (.iaload, 1), some (.invokevirtual 280, 3), none, none, some (.if_icmp .eq 5, 3), none, none, some (.iconst 0, 1), some (.ireturn, 1), some (.iinc 4 6, 3), none, none, some (.goto (-2522), 3), none, none, some (.iconst 1, 1), some (.ireturn, 1)] = true := by decide +kernel
theorem mDt353 : mDcP code mct353 := by
  intro j c h
  unfold mct353 at h
  match j, h with
  | 0, h => cases h; exact mDr353_0
  | 1, h => cases h; exact mDr353_1
  | 2, h => cases h; exact mDr353_2
  | 3, h => cases h; exact mDr353_3
  | 4, h => cases h; exact mDr353_4
  | 5, h => cases h; exact mDr353_5
  | 6, h => cases h; exact mDr353_6
  | 7, h => cases h; exact mDr353_7
  | 8, h => cases h; exact mDr353_8
  | 9, h => cases h; exact mDr353_9
  | 10, h => cases h; exact mDr353_10
  | 11, h => cases h; exact mDr353_11
  | 12, h => cases h; exact mDr353_12
  | 13, h => cases h; exact mDr353_13
  | 14, h => cases h; exact mDr353_14
  | 15, h => cases h; exact mDr353_15
  | 16, h => cases h; exact mDr353_16
  | 17, h => cases h; exact mDr353_17
  | 18, h => cases h; exact mDr353_18
  | 19, h => cases h; exact mDr353_19
  | 20, h => cases h; exact mDr353_20
  | 21, h => cases h; exact mDr353_21
  | 22, h => cases h; exact mDr353_22
  | 23, h => cases h; exact mDr353_23
  | 24, h => cases h; exact mDr353_24
  | 25, h => cases h; exact mDr353_25
  | 26, h => cases h; exact mDr353_26
  | 27, h => cases h; exact mDr353_27
  | 28, h => cases h; exact mDr353_28
  | 29, h => cases h; exact mDr353_29
  | 30, h => cases h; exact mDr353_30
  | 31, h => cases h; exact mDr353_31
  | 32, h => cases h; exact mDr353_32
  | 33, h => cases h; exact mDr353_33
  | 34, h => cases h; exact mDr353_34
  | 35, h => cases h; exact mDr353_35
  | 36, h => cases h; exact mDr353_36
  | 37, h => cases h; exact mDr353_37
  | 38, h => cases h; exact mDr353_38
  | 39, h => cases h; exact mDr353_39
  | 40, h => cases h; exact mDr353_40
  | 41, h => cases h; exact mDr353_41
  | 42, h => cases h; exact mDr353_42
  | 43, h => cases h; exact mDr353_43
  | 44, h => cases h; exact mDr353_44
  | 45, h => cases h; exact mDr353_45
  | 46, h => cases h; exact mDr353_46
  | 47, h => cases h; exact mDr353_47
  | 48, h => cases h; exact mDr353_48
  | 49, h => cases h; exact mDr353_49
  | 50, h => cases h; exact mDr353_50
  | 51, h => cases h; exact mDr353_51
  | 52, h => cases h; exact mDr353_52
  | 53, h => cases h; exact mDr353_53
  | 54, h => cases h; exact mDr353_54
  | 55, h => cases h; exact mDr353_55
  | 56, h => cases h; exact mDr353_56
  | 57, h => cases h; exact mDr353_57
  | 58, h => cases h; exact mDr353_58
  | 59, h => cases h; exact mDr353_59
  | 60, h => cases h; exact mDr353_60
  | 61, h => cases h; exact mDr353_61
  | 62, h => cases h; exact mDr353_62
  | 63, h => cases h; exact mDr353_63
  | 64, h => cases h; exact mDr353_64
  | 65, h => cases h; exact mDr353_65
  | 66, h => cases h; exact mDr353_66
  | 67, h => cases h; exact mDr353_67
  | 68, h => cases h; exact mDr353_68
  | 69, h => cases h; exact mDr353_69
  | 70, h => cases h; exact mDr353_70
  | 71, h => cases h; exact mDr353_71
  | 72, h => cases h; exact mDr353_72
  | 73, h => cases h; exact mDr353_73
  | 74, h => cases h; exact mDr353_74
  | 75, h => cases h; exact mDr353_75
  | 76, h => cases h; exact mDr353_76
  | 77, h => cases h; exact mDr353_77
  | 78, h => cases h; exact mDr353_78
  | 79, h => cases h; exact mDr353_79
  | n + 80, h => simp at h
