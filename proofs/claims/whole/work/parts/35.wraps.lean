/-! the law's wrappers: words and instructions (printed by wip/whole/tools/gen_law.py) -/
def mOkW (k : Nat) : Prop := Cond.codeWith (mprog k).1 (mprog k).2.1 (mprog k).2.2.1 (mprog k).2.2.2.1 (m_tabs k) ∈ mTbl ∧ mDcP (mprog k).2.1 (mprog k).2.2.2.2.2 ∧ plainName (mprog k).1.cls = true ∧ (mprog k).2.2.1 ≤ 40 ∧ (mprog k).1.cls = mOw (mprog k).2.2.2.2.1 ∧ (mprog k).2.2.2.1 = some .int
theorem mDr321_0 : mDc1 method_26_code 0 [some (.aload_n 2, 1), some (.iconst 0, 1), some (.aload_n 0, 1), some (.iload_n 1, 1), some (.invokevirtual 90, 3), none, none, some (.ifCond .eq 7, 3), none, none, some (.lconst 1, 1), some (.goto 4, 3), none, none, some (.lconst 0, 1), some (.lastore, 1), some (.goto 6, 3), none, none, some (.astore_n 3, 1), some (.iconst 1, 1), some (.ireturn, 1), some (.iconst 0, 1), some (.ireturn, 1)] = true := by decide +kernel
theorem mDt321 : mDcP method_26_code mct321 := by
  intro j c h
  unfold mct321 at h
  match j, h with
  | 0, h => cases h; exact mDr321_0
  | n + 1, h => simp at h
theorem mOk321 : mOkW 321 := ⟨List.mem_filter.mpr ⟨mWt_sub (j := 7) (List.mem_of_getElem? (i := 169) rfl), rfl⟩, mDt321, by decide +kernel, by decide +kernel, by decide +kernel, rfl⟩
theorem mDr322_0 : mDc1 method_15_code 0 [some (.aload_n 2, 1), some (.iconst 0, 1), some (.aload_n 0, 1), some (.iload_n 1, 1), some (.invokevirtual 55, 3), none, none, some (.i2l, 1), some (.lastore, 1), some (.goto 6, 3), none, none, some (.astore_n 3, 1), some (.iconst 1, 1), some (.ireturn, 1), some (.iconst 0, 1), some (.ireturn, 1)] = true := by decide +kernel
theorem mDt322 : mDcP method_15_code mct322 := by
  intro j c h
  unfold mct322 at h
  match j, h with
  | 0, h => cases h; exact mDr322_0
  | n + 1, h => simp at h
theorem mOk322 : mOkW 322 := ⟨List.mem_filter.mpr ⟨mWt_sub (j := 7) (List.mem_of_getElem? (i := 42) rfl), rfl⟩, mDt322, by decide +kernel, by decide +kernel, by decide +kernel, rfl⟩
theorem mDr323_0 : mDc1 method_29_code 0 [some (.aload_n 3, 1), some (.iconst 0, 1), some (.aload_n 0, 1), some (.iload_n 1, 1), some (.iload_n 2, 1), some (.invokevirtual 101, 3), none, none, some (.ifCond .eq 7, 3), none, none, some (.lconst 1, 1), some (.goto 4, 3), none, none, some (.lconst 0, 1), some (.lastore, 1), some (.goto 7, 3), none, none, some (.astore 4, 2), none, some (.iconst 1, 1), some (.ireturn, 1), some (.iconst 0, 1), some (.ireturn, 1)] = true := by decide +kernel
theorem mDt323 : mDcP method_29_code mct323 := by
  intro j c h
  unfold mct323 at h
  match j, h with
  | 0, h => cases h; exact mDr323_0
  | n + 1, h => simp at h
theorem mOk323 : mOkW 323 := ⟨List.mem_filter.mpr ⟨mWt_sub (j := 7) (List.mem_of_getElem? (i := 210) rfl), rfl⟩, mDt323, by decide +kernel, by decide +kernel, by decide +kernel, rfl⟩
theorem mDr324_0 : mDc1 method_17_code 0 [some (.aload_n 2, 1), some (.iconst 0, 1), some (.aload_n 0, 1), some (.iload_n 1, 1), some (.invokevirtual 61, 3), none, none, some (.i2l, 1), some (.lastore, 1), some (.goto 6, 3), none, none, some (.astore_n 3, 1), some (.iconst 1, 1), some (.ireturn, 1), some (.iconst 0, 1), some (.ireturn, 1)] = true := by decide +kernel
theorem mDt324 : mDcP method_17_code mct324 := by
  intro j c h
  unfold mct324 at h
  match j, h with
  | 0, h => cases h; exact mDr324_0
  | n + 1, h => simp at h
theorem mOk324 : mOkW 324 := ⟨List.mem_filter.mpr ⟨mWt_sub (j := 7) (List.mem_of_getElem? (i := 78) rfl), rfl⟩, mDt324, by decide +kernel, by decide +kernel, by decide +kernel, rfl⟩
theorem mDr325_0 : mDc1 method_24_code 0 [some (.aload_n 2, 1), some (.iconst 0, 1), some (.aload_n 0, 1), some (.iload_n 1, 1), some (.invokevirtual 83, 3), none, none, some (.i2l, 1), some (.lastore, 1), some (.goto 9, 3), none, none, some (.astore_n 3, 1), some (.iconst 1, 1), some (.ireturn, 1), some (.astore_n 3, 1), some (.iconst 2, 1), some (.ireturn, 1), some (.iconst 0, 1), some (.ireturn, 1)] = true := by decide +kernel
theorem mDt325 : mDcP method_24_code mct325 := by
  intro j c h
  unfold mct325 at h
  match j, h with
  | 0, h => cases h; exact mDr325_0
  | n + 1, h => simp at h
theorem mOk325 : mOkW 325 := ⟨List.mem_filter.mpr ⟨mWt_sub (j := 7) (List.mem_of_getElem? (i := 147) rfl), rfl⟩, mDt325, by decide +kernel, by decide +kernel, by decide +kernel, rfl⟩
theorem mDr326_0 : mDc1 method_11_code 0 [some (.aload_n 2, 1), some (.iconst 0, 1), some (.aload_n 0, 1), some (.iload_n 1, 1), some (.invokevirtual 43, 3), none, none, some (.i2l, 1), some (.lastore, 1), some (.goto 6, 3), none, none, some (.astore_n 3, 1), some (.iconst 1, 1), some (.ireturn, 1), some (.iconst 0, 1), some (.ireturn, 1)] = true := by decide +kernel
theorem mDt326 : mDcP method_11_code mct326 := by
  intro j c h
  unfold mct326 at h
  match j, h with
  | 0, h => cases h; exact mDr326_0
  | n + 1, h => simp at h
theorem mOk326 : mOkW 326 := ⟨List.mem_filter.mpr ⟨mWt_sub (j := 6) (List.mem_of_getElem? (i := 219) rfl), rfl⟩, mDt326, by decide +kernel, by decide +kernel, by decide +kernel, rfl⟩
theorem mDr327_0 : mDc1 method_32_code 0 [some (.aload_n 3, 1), some (.iconst 0, 1), some (.aload_n 0, 1), some (.iload_n 1, 1), some (.iload_n 2, 1), some (.invokevirtual 111, 3), none, none, some (.i2l, 1), some (.lastore, 1), some (.goto 11, 3), none, none, some (.astore 4, 2), none, some (.iconst 1, 1), some (.ireturn, 1), some (.astore 4, 2), none, some (.iconst 2, 1), some (.ireturn, 1), some (.iconst 0, 1), some (.ireturn, 1)] = true := by decide +kernel
theorem mDt327 : mDcP method_32_code mct327 := by
  intro j c h
  unfold mct327 at h
  match j, h with
  | 0, h => cases h; exact mDr327_0
  | n + 1, h => simp at h
theorem mOk327 : mOkW 327 := ⟨List.mem_filter.mpr ⟨mWt_sub (j := 8) (List.mem_of_getElem? (i := 18) rfl), rfl⟩, mDt327, by decide +kernel, by decide +kernel, by decide +kernel, rfl⟩
theorem mDr328_0 : mDc1 method_31_code 0 [some (.aload_n 3, 1), some (.iconst 0, 1), some (.aload_n 0, 1), some (.iload_n 1, 1), some (.iload_n 2, 1), some (.invokevirtual 108, 3), none, none, some (.i2l, 1), some (.lastore, 1), some (.goto 7, 3), none, none, some (.astore 4, 2), none, some (.iconst 1, 1), some (.ireturn, 1), some (.iconst 0, 1), some (.ireturn, 1)] = true := by decide +kernel
theorem mDt328 : mDcP method_31_code mct328 := by
  intro j c h
  unfold mct328 at h
  match j, h with
  | 0, h => cases h; exact mDr328_0
  | n + 1, h => simp at h
theorem mOk328 : mOkW 328 := ⟨List.mem_filter.mpr ⟨mWt_sub (j := 8) (List.mem_of_getElem? (i := 10) rfl), rfl⟩, mDt328, by decide +kernel, by decide +kernel, by decide +kernel, rfl⟩
theorem mDr329_0 : mDc1 method_14_code 0 [some (.aload_n 2, 1), some (.iconst 0, 1), some (.aload_n 0, 1), some (.iload_n 1, 1), some (.invokevirtual 52, 3), none, none, some (.i2l, 1), some (.lastore, 1), some (.goto 6, 3), none, none, some (.astore_n 3, 1), some (.iconst 1, 1), some (.ireturn, 1), some (.iconst 0, 1), some (.ireturn, 1)] = true := by decide +kernel
theorem mDt329 : mDcP method_14_code mct329 := by
  intro j c h
  unfold mct329 at h
  match j, h with
  | 0, h => cases h; exact mDr329_0
  | n + 1, h => simp at h
theorem mOk329 : mOkW 329 := ⟨List.mem_filter.mpr ⟨mWt_sub (j := 7) (List.mem_of_getElem? (i := 35) rfl), rfl⟩, mDt329, by decide +kernel, by decide +kernel, by decide +kernel, rfl⟩
theorem mDr330_0 : mDc1 method_13_code 0 [some (.aload_n 2, 1), some (.iconst 0, 1), some (.aload_n 0, 1), some (.iload_n 1, 1), some (.invokevirtual 49, 3), none, none, some (.i2l, 1), some (.lastore, 1), some (.goto 6, 3), none, none, some (.astore_n 3, 1), some (.iconst 1, 1), some (.ireturn, 1), some (.iconst 0, 1), some (.ireturn, 1)] = true := by decide +kernel
theorem mDt330 : mDcP method_13_code mct330 := by
  intro j c h
  unfold mct330 at h
  match j, h with
  | 0, h => cases h; exact mDr330_0
  | n + 1, h => simp at h
theorem mOk330 : mOkW 330 := ⟨List.mem_filter.mpr ⟨mWt_sub (j := 6) (List.mem_of_getElem? (i := 233) rfl), rfl⟩, mDt330, by decide +kernel, by decide +kernel, by decide +kernel, rfl⟩
theorem mDr331_0 : mDc1 method_19_code 0 [some (.aload_n 3, 1), some (.iconst 0, 1), some (.aload_n 0, 1), some (.iload_n 1, 1), some (.iload_n 2, 1), some (.invokevirtual 68, 3), none, none, some (.i2l, 1), some (.lastore, 1), some (.goto 7, 3), none, none, some (.astore 4, 2), none, some (.iconst 1, 1), some (.ireturn, 1), some (.iconst 0, 1), some (.ireturn, 1)] = true := by decide +kernel
theorem mDt331 : mDcP method_19_code mct331 := by
  intro j c h
  unfold mct331 at h
  match j, h with
  | 0, h => cases h; exact mDr331_0
  | n + 1, h => simp at h
theorem mOk331 : mOkW 331 := ⟨List.mem_filter.mpr ⟨mWt_sub (j := 7) (List.mem_of_getElem? (i := 98) rfl), rfl⟩, mDt331, by decide +kernel, by decide +kernel, by decide +kernel, rfl⟩
theorem mDr332_0 : mDc1 method_7_code 0 [some (.aload_n 3, 1), some (.iconst 0, 1), some (.aload_n 0, 1), some (.iload_n 1, 1), some (.iload_n 2, 1), some (.invokevirtual 27, 3), none, none, some (.i2l, 1), some (.lastore, 1), some (.goto 7, 3), none, none, some (.astore 4, 2), none, some (.iconst 1, 1), some (.ireturn, 1), some (.iconst 0, 1), some (.ireturn, 1)] = true := by decide +kernel
theorem mDt332 : mDcP method_7_code mct332 := by
  intro j c h
  unfold mct332 at h
  match j, h with
  | 0, h => cases h; exact mDr332_0
  | n + 1, h => simp at h
theorem mOk332 : mOkW 332 := ⟨List.mem_filter.mpr ⟨mWt_sub (j := 6) (List.mem_of_getElem? (i := 142) rfl), rfl⟩, mDt332, by decide +kernel, by decide +kernel, by decide +kernel, rfl⟩
theorem mDr333_0 : mDc1 method_23_code 0 [some (.aload_n 2, 1), some (.iconst 0, 1), some (.aload_n 0, 1), some (.iload_n 1, 1), some (.invokevirtual 80, 3), none, none, some (.i2l, 1), some (.lastore, 1), some (.goto 6, 3), none, none, some (.astore_n 3, 1), some (.iconst 1, 1), some (.ireturn, 1), some (.iconst 0, 1), some (.ireturn, 1)] = true := by decide +kernel
theorem mDt333 : mDcP method_23_code mct333 := by
  intro j c h
  unfold mct333 at h
  match j, h with
  | 0, h => cases h; exact mDr333_0
  | n + 1, h => simp at h
theorem mOk333 : mOkW 333 := ⟨List.mem_filter.mpr ⟨mWt_sub (j := 7) (List.mem_of_getElem? (i := 139) rfl), rfl⟩, mDt333, by decide +kernel, by decide +kernel, by decide +kernel, rfl⟩
theorem mDr334_0 : mDc1 method_20_code 0 [some (.aload_n 3, 1), some (.iconst 0, 1), some (.aload_n 0, 1), some (.iload_n 1, 1), some (.iload_n 2, 1), some (.invokevirtual 71, 3), none, none, some (.i2l, 1), some (.lastore, 1), some (.goto 11, 3), none, none, some (.astore 4, 2), none, some (.iconst 1, 1), some (.ireturn, 1), some (.astore 4, 2), none, some (.iconst 2, 1), some (.ireturn, 1), some (.iconst 0, 1), some (.ireturn, 1)] = true := by decide +kernel
theorem mDt334 : mDcP method_20_code mct334 := by
  intro j c h
  unfold mct334 at h
  match j, h with
  | 0, h => cases h; exact mDr334_0
  | n + 1, h => simp at h
theorem mOk334 : mOkW 334 := ⟨List.mem_filter.mpr ⟨mWt_sub (j := 7) (List.mem_of_getElem? (i := 105) rfl), rfl⟩, mDt334, by decide +kernel, by decide +kernel, by decide +kernel, rfl⟩
theorem mDr335_0 : mDc1 method_28_code 0 [some (.aload 5, 2), none, some (.iconst 0, 1), some (.aload_n 0, 1), some (.iload_n 1, 1), some (.iload_n 2, 1), some (.iload_n 3, 1), some (.iload 4, 2), none, some (.invokevirtual 97, 3), none, none, some (.i2l, 1), some (.lastore, 1), some (.goto 11, 3), none, none, some (.astore 6, 2), none, some (.iconst 1, 1), some (.ireturn, 1), some (.astore 6, 2), none, some (.iconst 2, 1), some (.ireturn, 1), some (.iconst 0, 1), some (.ireturn, 1)] = true := by decide +kernel
theorem mDt335 : mDcP method_28_code mct335 := by
  intro j c h
  unfold mct335 at h
  match j, h with
  | 0, h => cases h; exact mDr335_0
  | n + 1, h => simp at h
theorem mOk335 : mOkW 335 := ⟨List.mem_filter.mpr ⟨mWt_sub (j := 7) (List.mem_of_getElem? (i := 197) rfl), rfl⟩, mDt335, by decide +kernel, by decide +kernel, by decide +kernel, rfl⟩
theorem mDr336_0 : mDc1 method_3_code 0 [some (.aload_n 2, 1), some (.iconst 0, 1), some (.aload_n 0, 1), some (.iload_n 1, 1), some (.invokevirtual 7, 3), none, none, some (.i2l, 1), some (.lastore, 1), some (.goto 6, 3), none, none, some (.astore_n 3, 1), some (.iconst 1, 1), some (.ireturn, 1), some (.iconst 0, 1), some (.ireturn, 1)] = true := by decide +kernel
theorem mDt336 : mDcP method_3_code mct336 := by
  intro j c h
  unfold mct336 at h
  match j, h with
  | 0, h => cases h; exact mDr336_0
  | n + 1, h => simp at h
theorem mOk336 : mOkW 336 := ⟨List.mem_filter.mpr ⟨mWt_sub (j := 5) (List.mem_of_getElem? (i := 91) rfl), rfl⟩, mDt336, by decide +kernel, by decide +kernel, by decide +kernel, rfl⟩
theorem mDr337_0 : mDc1 method_30_code 0 [some (.aload_n 3, 1), some (.iconst 0, 1), some (.aload_n 0, 1), some (.iload_n 1, 1), some (.iload_n 2, 1), some (.invokevirtual 105, 3), none, none, some (.i2l, 1), some (.lastore, 1), some (.goto 7, 3), none, none, some (.astore 4, 2), none, some (.iconst 1, 1), some (.ireturn, 1), some (.iconst 0, 1), some (.ireturn, 1)] = true := by decide +kernel
theorem mDt337 : mDcP method_30_code mct337 := by
  intro j c h
  unfold mct337 at h
  match j, h with
  | 0, h => cases h; exact mDr337_0
  | n + 1, h => simp at h
theorem mOk337 : mOkW 337 := ⟨List.mem_filter.mpr ⟨mWt_sub (j := 7) (List.mem_of_getElem? (i := 223) rfl), rfl⟩, mDt337, by decide +kernel, by decide +kernel, by decide +kernel, rfl⟩
theorem mDr338_0 : mDc1 method_6_code 0 [some (.aload_n 2, 1), some (.iconst 0, 1), some (.aload_n 0, 1), some (.iload_n 1, 1), some (.invokevirtual 24, 3), none, none, some (.i2l, 1), some (.lastore, 1), some (.goto 6, 3), none, none, some (.astore_n 3, 1), some (.iconst 1, 1), some (.ireturn, 1), some (.iconst 0, 1), some (.ireturn, 1)] = true := by decide +kernel
theorem mDt338 : mDcP method_6_code mct338 := by
  intro j c h
  unfold mct338 at h
  match j, h with
  | 0, h => cases h; exact mDr338_0
  | n + 1, h => simp at h
theorem mOk338 : mOkW 338 := ⟨List.mem_filter.mpr ⟨mWt_sub (j := 6) (List.mem_of_getElem? (i := 122) rfl), rfl⟩, mDt338, by decide +kernel, by decide +kernel, by decide +kernel, rfl⟩
theorem mDr339_0 : mDc1 method_9_code 0 [some (.aload_n 3, 1), some (.iconst 0, 1), some (.aload_n 0, 1), some (.iload_n 1, 1), some (.iload_n 2, 1), some (.invokevirtual 35, 3), none, none, some (.i2l, 1), some (.lastore, 1), some (.goto 11, 3), none, none, some (.astore 4, 2), none, some (.iconst 1, 1), some (.ireturn, 1), some (.astore 4, 2), none, some (.iconst 2, 1), some (.ireturn, 1), some (.iconst 0, 1), some (.ireturn, 1)] = true := by decide +kernel
theorem mDt339 : mDcP method_9_code mct339 := by
  intro j c h
  unfold mct339 at h
  match j, h with
  | 0, h => cases h; exact mDr339_0
  | n + 1, h => simp at h
theorem mOk339 : mOkW 339 := ⟨List.mem_filter.mpr ⟨mWt_sub (j := 6) (List.mem_of_getElem? (i := 178) rfl), rfl⟩, mDt339, by decide +kernel, by decide +kernel, by decide +kernel, rfl⟩
theorem mDr340_0 : mDc1 method_21_code 0 [some (.aload_n 3, 1), some (.iconst 0, 1), some (.aload_n 0, 1), some (.iload_n 1, 1), some (.iload_n 2, 1), some (.invokevirtual 74, 3), none, none, some (.i2l, 1), some (.lastore, 1), some (.goto 7, 3), none, none, some (.astore 4, 2), none, some (.iconst 1, 1), some (.ireturn, 1), some (.iconst 0, 1), some (.ireturn, 1)] = true := by decide +kernel
theorem mDt340 : mDcP method_21_code mct340 := by
  intro j c h
  unfold mct340 at h
  match j, h with
  | 0, h => cases h; exact mDr340_0
  | n + 1, h => simp at h
theorem mOk340 : mOkW 340 := ⟨List.mem_filter.mpr ⟨mWt_sub (j := 7) (List.mem_of_getElem? (i := 113) rfl), rfl⟩, mDt340, by decide +kernel, by decide +kernel, by decide +kernel, rfl⟩
theorem mDr341_0 : mDc1 method_12_code 0 [some (.aload_n 3, 1), some (.iconst 0, 1), some (.aload_n 0, 1), some (.iload_n 1, 1), some (.iload_n 2, 1), some (.invokevirtual 46, 3), none, none, some (.i2l, 1), some (.lastore, 1), some (.goto 7, 3), none, none, some (.astore 4, 2), none, some (.iconst 1, 1), some (.ireturn, 1), some (.iconst 0, 1), some (.ireturn, 1)] = true := by decide +kernel
theorem mDt341 : mDcP method_12_code mct341 := by
  intro j c h
  unfold mct341 at h
  match j, h with
  | 0, h => cases h; exact mDr341_0
  | n + 1, h => simp at h
theorem mOk341 : mOkW 341 := ⟨List.mem_filter.mpr ⟨mWt_sub (j := 6) (List.mem_of_getElem? (i := 226) rfl), rfl⟩, mDt341, by decide +kernel, by decide +kernel, by decide +kernel, rfl⟩
theorem mDr342_0 : mDc1 method_22_code 0 [some (.aload_n 2, 1), some (.iconst 0, 1), some (.aload_n 0, 1), some (.iload_n 1, 1), some (.invokevirtual 77, 3), none, none, some (.i2l, 1), some (.lastore, 1), some (.goto 6, 3), none, none, some (.astore_n 3, 1), some (.iconst 1, 1), some (.ireturn, 1), some (.iconst 0, 1), some (.ireturn, 1)] = true := by decide +kernel
theorem mDt342 : mDcP method_22_code mct342 := by
  intro j c h
  unfold mct342 at h
  match j, h with
  | 0, h => cases h; exact mDr342_0
  | n + 1, h => simp at h
theorem mOk342 : mOkW 342 := ⟨List.mem_filter.mpr ⟨mWt_sub (j := 7) (List.mem_of_getElem? (i := 128) rfl), rfl⟩, mDt342, by decide +kernel, by decide +kernel, by decide +kernel, rfl⟩
theorem mDr343_0 : mDc1 method_34_code 0 [some (.aload_n 3, 1), some (.iconst 0, 1), some (.aload_n 0, 1), some (.iload_n 1, 1), some (.iload_n 2, 1), some (.invokevirtual 117, 3), none, none, some (.i2l, 1), some (.lastore, 1), some (.goto 7, 3), none, none, some (.astore 4, 2), none, some (.iconst 1, 1), some (.ireturn, 1), some (.iconst 0, 1), some (.ireturn, 1)] = true := by decide +kernel
theorem mDt343 : mDcP method_34_code mct343 := by
  intro j c h
  unfold mct343 at h
  match j, h with
  | 0, h => cases h; exact mDr343_0
  | n + 1, h => simp at h
theorem mOk343 : mOkW 343 := ⟨List.mem_filter.mpr ⟨mWt_sub (j := 8) (List.mem_of_getElem? (i := 54) rfl), rfl⟩, mDt343, by decide +kernel, by decide +kernel, by decide +kernel, rfl⟩
theorem mDr344_0 : mDc1 method_18_code 0 [some (.aload_n 3, 1), some (.iconst 0, 1), some (.aload_n 0, 1), some (.iload_n 1, 1), some (.iload_n 2, 1), some (.invokevirtual 64, 3), none, none, some (.ifCond .eq 7, 3), none, none, some (.lconst 1, 1), some (.goto 4, 3), none, none, some (.lconst 0, 1), some (.lastore, 1), some (.goto 11, 3), none, none, some (.astore 4, 2), none, some (.iconst 1, 1), some (.ireturn, 1), some (.astore 4, 2), none, some (.iconst 2, 1), some (.ireturn, 1), some (.iconst 0, 1), some (.ireturn, 1)] = true := by decide +kernel
theorem mDt344 : mDcP method_18_code mct344 := by
  intro j c h
  unfold mct344 at h
  match j, h with
  | 0, h => cases h; exact mDr344_0
  | n + 1, h => simp at h
theorem mOk344 : mOkW 344 := ⟨List.mem_filter.mpr ⟨mWt_sub (j := 7) (List.mem_of_getElem? (i := 85) rfl), rfl⟩, mDt344, by decide +kernel, by decide +kernel, by decide +kernel, rfl⟩
theorem mDr345_0 : mDc1 method_10_code 0 [some (.aload_n 2, 1), some (.iconst 0, 1), some (.aload_n 0, 1), some (.iload_n 1, 1), some (.invokevirtual 40, 3), none, none, some (.i2l, 1), some (.lastore, 1), some (.goto 6, 3), none, none, some (.astore_n 3, 1), some (.iconst 1, 1), some (.ireturn, 1), some (.iconst 0, 1), some (.ireturn, 1)] = true := by decide +kernel
theorem mDt345 : mDcP method_10_code mct345 := by
  intro j c h
  unfold mct345 at h
  match j, h with
  | 0, h => cases h; exact mDr345_0
  | n + 1, h => simp at h
theorem mOk345 : mOkW 345 := ⟨List.mem_filter.mpr ⟨mWt_sub (j := 6) (List.mem_of_getElem? (i := 211) rfl), rfl⟩, mDt345, by decide +kernel, by decide +kernel, by decide +kernel, rfl⟩
theorem mDr346_0 : mDc1 method_25_code 0 [some (.aload 4, 2), none, some (.iconst 0, 1), some (.aload_n 0, 1), some (.iload_n 1, 1), some (.iload_n 2, 1), some (.iload_n 3, 1), some (.invokevirtual 86, 3), none, none, some (.i2l, 1), some (.lastore, 1), some (.goto 7, 3), none, none, some (.astore 5, 2), none, some (.iconst 1, 1), some (.ireturn, 1), some (.iconst 0, 1), some (.ireturn, 1)] = true := by decide +kernel
theorem mDt346 : mDcP method_25_code mct346 := by
  intro j c h
  unfold mct346 at h
  match j, h with
  | 0, h => cases h; exact mDr346_0
  | n + 1, h => simp at h
theorem mOk346 : mOkW 346 := ⟨List.mem_filter.mpr ⟨mWt_sub (j := 7) (List.mem_of_getElem? (i := 154) rfl), rfl⟩, mDt346, by decide +kernel, by decide +kernel, by decide +kernel, rfl⟩
theorem mDr347_0 : mDc1 method_4_code 0 [some (.aload_n 2, 1), some (.iconst 0, 1), some (.aload_n 0, 1), some (.iload_n 1, 1), some (.invokevirtual 15, 3), none, none, some (.i2l, 1), some (.lastore, 1), some (.goto 6, 3), none, none, some (.astore_n 3, 1), some (.iconst 1, 1), some (.ireturn, 1), some (.iconst 0, 1), some (.ireturn, 1)] = true := by decide +kernel
theorem mDt347 : mDcP method_4_code mct347 := by
  intro j c h
  unfold mct347 at h
  match j, h with
  | 0, h => cases h; exact mDr347_0
  | n + 1, h => simp at h
theorem mOk347 : mOkW 347 := ⟨List.mem_filter.mpr ⟨mWt_sub (j := 6) (List.mem_of_getElem? (i := 79) rfl), rfl⟩, mDt347, by decide +kernel, by decide +kernel, by decide +kernel, rfl⟩
theorem mDr348_0 : mDc1 method_8_code 0 [some (.aload_n 2, 1), some (.iconst 0, 1), some (.aload_n 0, 1), some (.iload_n 1, 1), some (.invokevirtual 30, 3), none, none, some (.i2l, 1), some (.lastore, 1), some (.goto 9, 3), none, none, some (.astore_n 3, 1), some (.iconst 1, 1), some (.ireturn, 1), some (.astore_n 3, 1), some (.iconst 2, 1), some (.ireturn, 1), some (.iconst 0, 1), some (.ireturn, 1)] = true := by decide +kernel
theorem mDt348 : mDcP method_8_code mct348 := by
  intro j c h
  unfold mct348 at h
  match j, h with
  | 0, h => cases h; exact mDr348_0
  | n + 1, h => simp at h
theorem mOk348 : mOkW 348 := ⟨List.mem_filter.mpr ⟨mWt_sub (j := 6) (List.mem_of_getElem? (i := 149) rfl), rfl⟩, mDt348, by decide +kernel, by decide +kernel, by decide +kernel, rfl⟩
theorem mDr349_0 : mDc1 method_5_code 0 [some (.aload_n 3, 1), some (.iconst 0, 1), some (.aload_n 0, 1), some (.iload_n 1, 1), some (.iload_n 2, 1), some (.invokevirtual 18, 3), none, none, some (.i2l, 1), some (.lastore, 1), some (.goto 7, 3), none, none, some (.astore 4, 2), none, some (.iconst 1, 1), some (.ireturn, 1), some (.iconst 0, 1), some (.ireturn, 1)] = true := by decide +kernel
theorem mDt349 : mDcP method_5_code mct349 := by
  intro j c h
  unfold mct349 at h
  match j, h with
  | 0, h => cases h; exact mDr349_0
  | n + 1, h => simp at h
theorem mOk349 : mOkW 349 := ⟨List.mem_filter.mpr ⟨mWt_sub (j := 6) (List.mem_of_getElem? (i := 89) rfl), rfl⟩, mDt349, by decide +kernel, by decide +kernel, by decide +kernel, rfl⟩
theorem mDr350_0 : mDc1 method_33_code 0 [some (.aload_n 3, 1), some (.iconst 0, 1), some (.aload_n 0, 1), some (.iload_n 1, 1), some (.iload_n 2, 1), some (.invokevirtual 114, 3), none, none, some (.i2l, 1), some (.lastore, 1), some (.goto 11, 3), none, none, some (.astore 4, 2), none, some (.iconst 1, 1), some (.ireturn, 1), some (.astore 4, 2), none, some (.iconst 2, 1), some (.ireturn, 1), some (.iconst 0, 1), some (.ireturn, 1)] = true := by decide +kernel
theorem mDt350 : mDcP method_33_code mct350 := by
  intro j c h
  unfold mct350 at h
  match j, h with
  | 0, h => cases h; exact mDr350_0
  | n + 1, h => simp at h
theorem mOk350 : mOkW 350 := ⟨List.mem_filter.mpr ⟨mWt_sub (j := 8) (List.mem_of_getElem? (i := 38) rfl), rfl⟩, mDt350, by decide +kernel, by decide +kernel, by decide +kernel, rfl⟩
theorem mDr351_0 : mDc1 method_16_code 0 [some (.aload_n 2, 1), some (.iconst 0, 1), some (.aload_n 0, 1), some (.iload_n 1, 1), some (.invokevirtual 58, 3), none, none, some (.i2l, 1), some (.lastore, 1), some (.goto 6, 3), none, none, some (.astore_n 3, 1), some (.iconst 1, 1), some (.ireturn, 1), some (.iconst 0, 1), some (.ireturn, 1)] = true := by decide +kernel
theorem mDt351 : mDcP method_16_code mct351 := by
  intro j c h
  unfold mct351 at h
  match j, h with
  | 0, h => cases h; exact mDr351_0
  | n + 1, h => simp at h
theorem mOk351 : mOkW 351 := ⟨List.mem_filter.mpr ⟨mWt_sub (j := 7) (List.mem_of_getElem? (i := 49) rfl), rfl⟩, mDt351, by decide +kernel, by decide +kernel, by decide +kernel, rfl⟩
theorem mDr352_0 : mDc1 method_27_code 0 [some (.aload_n 3, 1), some (.iconst 0, 1), some (.aload_n 0, 1), some (.iload_n 1, 1), some (.iload_n 2, 1), some (.invokevirtual 94, 3), none, none, some (.i2l, 1), some (.lastore, 1), some (.goto 11, 3), none, none, some (.astore 4, 2), none, some (.iconst 1, 1), some (.ireturn, 1), some (.astore 4, 2), none, some (.iconst 2, 1), some (.ireturn, 1), some (.iconst 0, 1), some (.ireturn, 1)] = true := by decide +kernel
theorem mDt352 : mDcP method_27_code mct352 := by
  intro j c h
  unfold mct352 at h
  match j, h with
  | 0, h => cases h; exact mDr352_0
  | n + 1, h => simp at h
theorem mOk352 : mOkW 352 := ⟨List.mem_filter.mpr ⟨mWt_sub (j := 7) (List.mem_of_getElem? (i := 180) rfl), rfl⟩, mDt352, by decide +kernel, by decide +kernel, by decide +kernel, rfl⟩
theorem mOkWr {k : Nat} (h1 : 321 ≤ k) (h2 : k < 353) : mOkW k := by
  obtain rfl | rfl | rfl | rfl | rfl | rfl | rfl | rfl | rfl | rfl | rfl | rfl | rfl | rfl | rfl | rfl | rfl | rfl | rfl | rfl | rfl | rfl | rfl | rfl | rfl | rfl | rfl | rfl | rfl | rfl | rfl | rfl : k = 321 ∨ k = 322 ∨ k = 323 ∨ k = 324 ∨ k = 325 ∨ k = 326 ∨ k = 327 ∨ k = 328 ∨ k = 329 ∨ k = 330 ∨ k = 331 ∨ k = 332 ∨ k = 333 ∨ k = 334 ∨ k = 335 ∨ k = 336 ∨ k = 337 ∨ k = 338 ∨ k = 339 ∨ k = 340 ∨ k = 341 ∨ k = 342 ∨ k = 343 ∨ k = 344 ∨ k = 345 ∨ k = 346 ∨ k = 347 ∨ k = 348 ∨ k = 349 ∨ k = 350 ∨ k = 351 ∨ k = 352 := by omega
  · exact mOk321
  · exact mOk322
  · exact mOk323
  · exact mOk324
  · exact mOk325
  · exact mOk326
  · exact mOk327
  · exact mOk328
  · exact mOk329
  · exact mOk330
  · exact mOk331
  · exact mOk332
  · exact mOk333
  · exact mOk334
  · exact mOk335
  · exact mOk336
  · exact mOk337
  · exact mOk338
  · exact mOk339
  · exact mOk340
  · exact mOk341
  · exact mOk342
  · exact mOk343
  · exact mOk344
  · exact mOk345
  · exact mOk346
  · exact mOk347
  · exact mOk348
  · exact mOk349
  · exact mOk350
  · exact mOk351
  · exact mOk352
