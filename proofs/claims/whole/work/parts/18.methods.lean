/-! every method: its word, its instructions (printed by wip/whole/tools/gen_code.py) -/
def mOkP (k : Nat) : Prop := Cond.code (mprog k).1 (mprog k).2.1 (mprog k).2.2.1 (mprog k).2.2.2.1 ∈ mTbl ∧ mDcP (mprog k).2.1 (mprog k).2.2.2.2.2 ∧ plainName (mprog k).1.cls = true ∧ (mprog k).2.2.1 ≤ 40 ∧ (mprog k).1.cls = mOw (mprog k).2.2.2.2.1
theorem mOk0 : mOkP 0 := ⟨List.mem_filter.mpr ⟨mWt_sub (j := 3) (List.mem_of_getElem? (i := 28) rfl), rfl⟩, mDt0, by decide +kernel, by decide +kernel, by decide +kernel⟩
theorem mOk1 : mOkP 1 := ⟨List.mem_filter.mpr ⟨mWt_sub (j := 4) (List.mem_of_getElem? (i := 187) rfl), rfl⟩, mDt1, by decide +kernel, by decide +kernel, by decide +kernel⟩
theorem mOk2 : mOkP 2 := ⟨List.mem_filter.mpr ⟨mWt_sub (j := 5) (List.mem_of_getElem? (i := 3) rfl), rfl⟩, mDt2, by decide +kernel, by decide +kernel, by decide +kernel⟩
theorem mOk3 : mOkP 3 := ⟨List.mem_filter.mpr ⟨mWt_sub (j := 4) (List.mem_of_getElem? (i := 199) rfl), rfl⟩, mDt3, by decide +kernel, by decide +kernel, by decide +kernel⟩
theorem mOk4 : mOkP 4 := ⟨List.mem_filter.mpr ⟨mWt_sub (j := 4) (List.mem_of_getElem? (i := 211) rfl), rfl⟩, mDt4, by decide +kernel, by decide +kernel, by decide +kernel⟩
theorem mOk5 : mOkP 5 := ⟨List.mem_filter.mpr ⟨mWt_sub (j := 3) (List.mem_of_getElem? (i := 22) rfl), rfl⟩, mDt5, by decide +kernel, by decide +kernel, by decide +kernel⟩
theorem mOk6 : mOkP 6 := ⟨List.mem_filter.mpr ⟨mWt_sub (j := 4) (List.mem_of_getElem? (i := 239) rfl), rfl⟩, mDt6, by decide +kernel, by decide +kernel, by decide +kernel⟩
theorem mOk7 : mOkP 7 := ⟨List.mem_filter.mpr ⟨mWt_sub (j := 4) (List.mem_of_getElem? (i := 232) rfl), rfl⟩, mDt7, by decide +kernel, by decide +kernel, by decide +kernel⟩
theorem mOk8 : mOkP 8 := ⟨List.mem_filter.mpr ⟨mWt_sub (j := 7) (List.mem_of_getElem? (i := 177) rfl), rfl⟩, mDt8, by decide +kernel, by decide +kernel, by decide +kernel⟩
theorem mOk9 : mOkP 9 := ⟨List.mem_filter.mpr ⟨mWt_sub (j := 4) (List.mem_of_getElem? (i := 175) rfl), rfl⟩, mDt9, by decide +kernel, by decide +kernel, by decide +kernel⟩
theorem mOk10 : mOkP 10 := ⟨List.mem_filter.mpr ⟨mWt_sub (j := 5) (List.mem_of_getElem? (i := 60) rfl), rfl⟩, mDt10, by decide +kernel, by decide +kernel, by decide +kernel⟩
theorem mOk11 : mOkP 11 := ⟨List.mem_filter.mpr ⟨mWt_sub (j := 4) (List.mem_of_getElem? (i := 195) rfl), rfl⟩, mDt11, by decide +kernel, by decide +kernel, by decide +kernel⟩
theorem mOk12 : mOkP 12 := ⟨List.mem_filter.mpr ⟨mWt_sub (j := 4) (List.mem_of_getElem? (i := 223) rfl), rfl⟩, mDt12, by decide +kernel, by decide +kernel, by decide +kernel⟩
theorem mOk13 : mOkP 13 := ⟨List.mem_filter.mpr ⟨mWt_sub (j := 5) (List.mem_of_getElem? (i := 56) rfl), rfl⟩, mDt13, by decide +kernel, by decide +kernel, by decide +kernel⟩
theorem mOk14 : mOkP 14 := ⟨List.mem_filter.mpr ⟨mWt_sub (j := 4) (List.mem_of_getElem? (i := 162) rfl), rfl⟩, mDt14, by decide +kernel, by decide +kernel, by decide +kernel⟩
theorem mOk15 : mOkP 15 := ⟨List.mem_filter.mpr ⟨mWt_sub (j := 4) (List.mem_of_getElem? (i := 207) rfl), rfl⟩, mDt15, by decide +kernel, by decide +kernel, by decide +kernel⟩
theorem mOk16 : mOkP 16 := ⟨List.mem_filter.mpr ⟨mWt_sub (j := 4) (List.mem_of_getElem? (i := 203) rfl), rfl⟩, mDt16, by decide +kernel, by decide +kernel, by decide +kernel⟩
theorem mOk17 : mOkP 17 := ⟨List.mem_filter.mpr ⟨mWt_sub (j := 4) (List.mem_of_getElem? (i := 215) rfl), rfl⟩, mDt17, by decide +kernel, by decide +kernel, by decide +kernel⟩
theorem mOk18 : mOkP 18 := ⟨List.mem_filter.mpr ⟨mWt_sub (j := 4) (List.mem_of_getElem? (i := 153) rfl), rfl⟩, mDt18, by decide +kernel, by decide +kernel, by decide +kernel⟩
theorem mOk19 : mOkP 19 := ⟨List.mem_filter.mpr ⟨mWt_sub (j := 7) (List.mem_of_getElem? (i := 121) rfl), rfl⟩, mDt19, by decide +kernel, by decide +kernel, by decide +kernel⟩
theorem mOk20 : mOkP 20 := ⟨List.mem_filter.mpr ⟨mWt_sub (j := 4) (List.mem_of_getElem? (i := 157) rfl), rfl⟩, mDt20, by decide +kernel, by decide +kernel, by decide +kernel⟩
theorem mOk21 : mOkP 21 := ⟨List.mem_filter.mpr ⟨mWt_sub (j := 7) (List.mem_of_getElem? (i := 125) rfl), rfl⟩, mDt21, by decide +kernel, by decide +kernel, by decide +kernel⟩
theorem mOk22 : mOkP 22 := ⟨List.mem_filter.mpr ⟨mWt_sub (j := 7) (List.mem_of_getElem? (i := 136) rfl), rfl⟩, mDt22, by decide +kernel, by decide +kernel, by decide +kernel⟩
theorem mOk23 : mOkP 23 := ⟨List.mem_filter.mpr ⟨mWt_sub (j := 4) (List.mem_of_getElem? (i := 179) rfl), rfl⟩, mDt23, by decide +kernel, by decide +kernel, by decide +kernel⟩
theorem mOk24 : mOkP 24 := ⟨List.mem_filter.mpr ⟨mWt_sub (j := 4) (List.mem_of_getElem? (i := 183) rfl), rfl⟩, mDt24, by decide +kernel, by decide +kernel, by decide +kernel⟩
theorem mOk25 : mOkP 25 := ⟨List.mem_filter.mpr ⟨mWt_sub (j := 7) (List.mem_of_getElem? (i := 164) rfl), rfl⟩, mDt25, by decide +kernel, by decide +kernel, by decide +kernel⟩
theorem mOk26 : mOkP 26 := ⟨List.mem_filter.mpr ⟨mWt_sub (j := 5) (List.mem_of_getElem? (i := 8) rfl), rfl⟩, mDt26, by decide +kernel, by decide +kernel, by decide +kernel⟩
theorem mOk27 : mOkP 27 := ⟨List.mem_filter.mpr ⟨mWt_sub (j := 4) (List.mem_of_getElem? (i := 191) rfl), rfl⟩, mDt27, by decide +kernel, by decide +kernel, by decide +kernel⟩
theorem mOk28 : mOkP 28 := ⟨List.mem_filter.mpr ⟨mWt_sub (j := 4) (List.mem_of_getElem? (i := 219) rfl), rfl⟩, mDt28, by decide +kernel, by decide +kernel, by decide +kernel⟩
theorem mOk29 : mOkP 29 := ⟨List.mem_filter.mpr ⟨mWt_sub (j := 2) (List.mem_of_getElem? (i := 192) rfl), rfl⟩, mDt29, by decide +kernel, by decide +kernel, by decide +kernel⟩
theorem mOk30 : mOkP 30 := ⟨List.mem_filter.mpr ⟨mWt_sub (j := 4) (List.mem_of_getElem? (i := 91) rfl), rfl⟩, mDt30, by decide +kernel, by decide +kernel, by decide +kernel⟩
theorem mOk31 : mOkP 31 := ⟨List.mem_filter.mpr ⟨mWt_sub (j := 4) (List.mem_of_getElem? (i := 127) rfl), rfl⟩, mDt31, by decide +kernel, by decide +kernel, by decide +kernel⟩
theorem mOk32 : mOkP 32 := ⟨List.mem_filter.mpr ⟨mWt_sub (j := 4) (List.mem_of_getElem? (i := 113) rfl), rfl⟩, mDt32, by decide +kernel, by decide +kernel, by decide +kernel⟩
theorem mOk33 : mOkP 33 := ⟨List.mem_filter.mpr ⟨mWt_sub (j := 3) (List.mem_of_getElem? (i := 220) rfl), rfl⟩, mDt33, by decide +kernel, by decide +kernel, by decide +kernel⟩
theorem mOk34 : mOkP 34 := ⟨List.mem_filter.mpr ⟨mWt_sub (j := 6) (List.mem_of_getElem? (i := 76) rfl), rfl⟩, mDt34, by decide +kernel, by decide +kernel, by decide +kernel⟩
theorem mOk35 : mOkP 35 := ⟨List.mem_filter.mpr ⟨mWt_sub (j := 5) (List.mem_of_getElem? (i := 78) rfl), rfl⟩, mDt35, by decide +kernel, by decide +kernel, by decide +kernel⟩
theorem mOk36 : mOkP 36 := ⟨List.mem_filter.mpr ⟨mWt_sub (j := 4) (List.mem_of_getElem? (i := 121) rfl), rfl⟩, mDt36, by decide +kernel, by decide +kernel, by decide +kernel⟩
theorem mOk37 : mOkP 37 := ⟨List.mem_filter.mpr ⟨mWt_sub (j := 4) (List.mem_of_getElem? (i := 109) rfl), rfl⟩, mDt37, by decide +kernel, by decide +kernel, by decide +kernel⟩
theorem mOk38 : mOkP 38 := ⟨List.mem_filter.mpr ⟨mWt_sub (j := 4) (List.mem_of_getElem? (i := 66) rfl), rfl⟩, mDt38, by decide +kernel, by decide +kernel, by decide +kernel⟩
theorem mOk39 : mOkP 39 := ⟨List.mem_filter.mpr ⟨mWt_sub (j := 4) (List.mem_of_getElem? (i := 50) rfl), rfl⟩, mDt39, by decide +kernel, by decide +kernel, by decide +kernel⟩
theorem mOk40 : mOkP 40 := ⟨List.mem_filter.mpr ⟨mWt_sub (j := 3) (List.mem_of_getElem? (i := 228) rfl), rfl⟩, mDt40, by decide +kernel, by decide +kernel, by decide +kernel⟩
theorem mOk41 : mOkP 41 := ⟨List.mem_filter.mpr ⟨mWt_sub (j := 4) (List.mem_of_getElem? (i := 79) rfl), rfl⟩, mDt41, by decide +kernel, by decide +kernel, by decide +kernel⟩
theorem mOk42 : mOkP 42 := ⟨List.mem_filter.mpr ⟨mWt_sub (j := 4) (List.mem_of_getElem? (i := 105) rfl), rfl⟩, mDt42, by decide +kernel, by decide +kernel, by decide +kernel⟩
theorem mOk43 : mOkP 43 := ⟨List.mem_filter.mpr ⟨mWt_sub (j := 2) (List.mem_of_getElem? (i := 158) rfl), rfl⟩, mDt43, by decide +kernel, by decide +kernel, by decide +kernel⟩
theorem mOk44 : mOkP 44 := ⟨List.mem_filter.mpr ⟨mWt_sub (j := 7) (List.mem_of_getElem? (i := 12) rfl), rfl⟩, mDt44, by decide +kernel, by decide +kernel, by decide +kernel⟩
theorem mOk45 : mOkP 45 := ⟨List.mem_filter.mpr ⟨mWt_sub (j := 7) (List.mem_of_getElem? (i := 32) rfl), rfl⟩, mDt45, by decide +kernel, by decide +kernel, by decide +kernel⟩
theorem mOk46 : mOkP 46 := ⟨List.mem_filter.mpr ⟨mWt_sub (j := 7) (List.mem_of_getElem? (i := 1) rfl), rfl⟩, mDt46, by decide +kernel, by decide +kernel, by decide +kernel⟩
theorem mOk47 : mOkP 47 := ⟨List.mem_filter.mpr ⟨mWt_sub (j := 7) (List.mem_of_getElem? (i := 6) rfl), rfl⟩, mDt47, by decide +kernel, by decide +kernel, by decide +kernel⟩
theorem mOk48 : mOkP 48 := ⟨List.mem_filter.mpr ⟨mWt_sub (j := 7) (List.mem_of_getElem? (i := 70) rfl), rfl⟩, mDt48, by decide +kernel, by decide +kernel, by decide +kernel⟩
theorem mOk49 : mOkP 49 := ⟨List.mem_filter.mpr ⟨mWt_sub (j := 7) (List.mem_of_getElem? (i := 25) rfl), rfl⟩, mDt49, by decide +kernel, by decide +kernel, by decide +kernel⟩
theorem mOk50 : mOkP 50 := ⟨List.mem_filter.mpr ⟨mWt_sub (j := 7) (List.mem_of_getElem? (i := 21) rfl), rfl⟩, mDt50, by decide +kernel, by decide +kernel, by decide +kernel⟩
theorem mOk51 : mOkP 51 := ⟨List.mem_filter.mpr ⟨mWt_sub (j := 7) (List.mem_of_getElem? (i := 66) rfl), rfl⟩, mDt51, by decide +kernel, by decide +kernel, by decide +kernel⟩
theorem mOk52 : mOkP 52 := ⟨List.mem_filter.mpr ⟨mWt_sub (j := 7) (List.mem_of_getElem? (i := 62) rfl), rfl⟩, mDt52, by decide +kernel, by decide +kernel, by decide +kernel⟩
theorem mOk53 : mOkP 53 := ⟨List.mem_filter.mpr ⟨mWt_sub (j := 7) (List.mem_of_getElem? (i := 58) rfl), rfl⟩, mDt53, by decide +kernel, by decide +kernel, by decide +kernel⟩
theorem mOk54 : mOkP 54 := ⟨List.mem_filter.mpr ⟨mWt_sub (j := 1) (List.mem_of_getElem? (i := 47) rfl), rfl⟩, mDt54, by decide +kernel, by decide +kernel, by decide +kernel⟩
theorem mOk55 : mOkP 55 := ⟨List.mem_filter.mpr ⟨mWt_sub (j := 3) (List.mem_of_getElem? (i := 224) rfl), rfl⟩, mDt55, by decide +kernel, by decide +kernel, by decide +kernel⟩
theorem mOk56 : mOkP 56 := ⟨List.mem_filter.mpr ⟨mWt_sub (j := 6) (List.mem_of_getElem? (i := 54) rfl), rfl⟩, mDt56, by decide +kernel, by decide +kernel, by decide +kernel⟩
theorem mOk57 : mOkP 57 := ⟨List.mem_filter.mpr ⟨mWt_sub (j := 5) (List.mem_of_getElem? (i := 172) rfl), rfl⟩, mDt57, by decide +kernel, by decide +kernel, by decide +kernel⟩
theorem mOk58 : mOkP 58 := ⟨List.mem_filter.mpr ⟨mWt_sub (j := 4) (List.mem_of_getElem? (i := 95) rfl), rfl⟩, mDt58, by decide +kernel, by decide +kernel, by decide +kernel⟩
theorem mOk59 : mOkP 59 := ⟨List.mem_filter.mpr ⟨mWt_sub (j := 4) (List.mem_of_getElem? (i := 117) rfl), rfl⟩, mDt59, by decide +kernel, by decide +kernel, by decide +kernel⟩
theorem mOk60 : mOkP 60 := ⟨List.mem_filter.mpr ⟨mWt_sub (j := 3) (List.mem_of_getElem? (i := 203) rfl), rfl⟩, mDt60, by decide +kernel, by decide +kernel, by decide +kernel⟩
theorem mOk61 : mOkP 61 := ⟨List.mem_filter.mpr ⟨mWt_sub (j := 6) (List.mem_of_getElem? (i := 102) rfl), rfl⟩, mDt61, by decide +kernel, by decide +kernel, by decide +kernel⟩
theorem mOk62 : mOkP 62 := ⟨List.mem_filter.mpr ⟨mWt_sub (j := 4) (List.mem_of_getElem? (i := 99) rfl), rfl⟩, mDt62, by decide +kernel, by decide +kernel, by decide +kernel⟩
theorem mOk63 : mOkP 63 := ⟨List.mem_filter.mpr ⟨mWt_sub (j := 7) (List.mem_of_getElem? (i := 189) rfl), rfl⟩, mDt63, by decide +kernel, by decide +kernel, by decide +kernel⟩
theorem mOk64 : mOkP 64 := ⟨List.mem_filter.mpr ⟨mWt_sub (j := 2) (List.mem_of_getElem? (i := 71) rfl), rfl⟩, mDt64, by decide +kernel, by decide +kernel, by decide +kernel⟩
theorem mOk65 : mOkP 65 := ⟨List.mem_filter.mpr ⟨mWt_sub (j := 6) (List.mem_of_getElem? (i := 139) rfl), rfl⟩, mDt65, by decide +kernel, by decide +kernel, by decide +kernel⟩
theorem mOk66 : mOkP 66 := ⟨List.mem_filter.mpr ⟨mWt_sub (j := 3) (List.mem_of_getElem? (i := 236) rfl), rfl⟩, mDt66, by decide +kernel, by decide +kernel, by decide +kernel⟩
theorem mOk67 : mOkP 67 := ⟨List.mem_filter.mpr ⟨mWt_sub (j := 3) (List.mem_of_getElem? (i := 232) rfl), rfl⟩, mDt67, by decide +kernel, by decide +kernel, by decide +kernel⟩
theorem mOk68 : mOkP 68 := ⟨List.mem_filter.mpr ⟨mWt_sub (j := 4) (List.mem_of_getElem? (i := 12) rfl), rfl⟩, mDt68, by decide +kernel, by decide +kernel, by decide +kernel⟩
theorem mOk69 : mOkP 69 := ⟨List.mem_filter.mpr ⟨mWt_sub (j := 4) (List.mem_of_getElem? (i := 8) rfl), rfl⟩, mDt69, by decide +kernel, by decide +kernel, by decide +kernel⟩
theorem mOk70 : mOkP 70 := ⟨List.mem_filter.mpr ⟨mWt_sub (j := 6) (List.mem_of_getElem? (i := 135) rfl), rfl⟩, mDt70, by decide +kernel, by decide +kernel, by decide +kernel⟩
theorem mOk71 : mOkP 71 := ⟨List.mem_filter.mpr ⟨mWt_sub (j := 4) (List.mem_of_getElem? (i := 0) rfl), rfl⟩, mDt71, by decide +kernel, by decide +kernel, by decide +kernel⟩
theorem mOk72 : mOkP 72 := ⟨List.mem_filter.mpr ⟨mWt_sub (j := 4) (List.mem_of_getElem? (i := 4) rfl), rfl⟩, mDt72, by decide +kernel, by decide +kernel, by decide +kernel⟩
theorem mOk73 : mOkP 73 := ⟨List.mem_filter.mpr ⟨mWt_sub (j := 4) (List.mem_of_getElem? (i := 22) rfl), rfl⟩, mDt73, by decide +kernel, by decide +kernel, by decide +kernel⟩
theorem mOk74 : mOkP 74 := ⟨List.mem_filter.mpr ⟨mWt_sub (j := 1) (List.mem_of_getElem? (i := 228) rfl), rfl⟩, mDt74, by decide +kernel, by decide +kernel, by decide +kernel⟩
theorem mOk75 : mOkP 75 := ⟨List.mem_filter.mpr ⟨mWt_sub (j := 7) (List.mem_of_getElem? (i := 207) rfl), rfl⟩, mDt75, by decide +kernel, by decide +kernel, by decide +kernel⟩
theorem mOk76 : mOkP 76 := ⟨List.mem_filter.mpr ⟨mWt_sub (j := 6) (List.mem_of_getElem? (i := 175) rfl), rfl⟩, mDt76, by decide +kernel, by decide +kernel, by decide +kernel⟩
theorem mOk77 : mOkP 77 := ⟨List.mem_filter.mpr ⟨mWt_sub (j := 4) (List.mem_of_getElem? (i := 140) rfl), rfl⟩, mDt77, by decide +kernel, by decide +kernel, by decide +kernel⟩
theorem mOk78 : mOkP 78 := ⟨List.mem_filter.mpr ⟨mWt_sub (j := 1) (List.mem_of_getElem? (i := 233) rfl), rfl⟩, mDt78, by decide +kernel, by decide +kernel, by decide +kernel⟩
theorem mOk79 : mOkP 79 := ⟨List.mem_filter.mpr ⟨mWt_sub (j := 5) (List.mem_of_getElem? (i := 69) rfl), rfl⟩, mDt79, by decide +kernel, by decide +kernel, by decide +kernel⟩
theorem mOk80 : mOkP 80 := ⟨List.mem_filter.mpr ⟨mWt_sub (j := 4) (List.mem_of_getElem? (i := 136) rfl), rfl⟩, mDt80, by decide +kernel, by decide +kernel, by decide +kernel⟩
theorem mOk81 : mOkP 81 := ⟨List.mem_filter.mpr ⟨mWt_sub (j := 4) (List.mem_of_getElem? (i := 167) rfl), rfl⟩, mDt81, by decide +kernel, by decide +kernel, by decide +kernel⟩
theorem mOk82 : mOkP 82 := ⟨List.mem_filter.mpr ⟨mWt_sub (j := 4) (List.mem_of_getElem? (i := 144) rfl), rfl⟩, mDt82, by decide +kernel, by decide +kernel, by decide +kernel⟩
theorem mOk83 : mOkP 83 := ⟨List.mem_filter.mpr ⟨mWt_sub (j := 5) (List.mem_of_getElem? (i := 87) rfl), rfl⟩, mDt83, by decide +kernel, by decide +kernel, by decide +kernel⟩
theorem mOk84 : mOkP 84 := ⟨List.mem_filter.mpr ⟨mWt_sub (j := 8) (List.mem_of_getElem? (i := 27) rfl), rfl⟩, mDt84, by decide +kernel, by decide +kernel, by decide +kernel⟩
theorem mOk85 : mOkP 85 := ⟨List.mem_filter.mpr ⟨mWt_sub (j := 1) (List.mem_of_getElem? (i := 41) rfl), rfl⟩, mDt85, by decide +kernel, by decide +kernel, by decide +kernel⟩
theorem mOk86 : mOkP 86 := ⟨List.mem_filter.mpr ⟨mWt_sub (j := 6) (List.mem_of_getElem? (i := 2) rfl), rfl⟩, mDt86, by decide +kernel, by decide +kernel, by decide +kernel⟩
theorem mOk87 : mOkP 87 := ⟨List.mem_filter.mpr ⟨mWt_sub (j := 6) (List.mem_of_getElem? (i := 12) rfl), rfl⟩, mDt87, by decide +kernel, by decide +kernel, by decide +kernel⟩
theorem mOk88 : mOkP 88 := ⟨List.mem_filter.mpr ⟨mWt_sub (j := 5) (List.mem_of_getElem? (i := 190) rfl), rfl⟩, mDt88, by decide +kernel, by decide +kernel, by decide +kernel⟩
theorem mOk89 : mOkP 89 := ⟨List.mem_filter.mpr ⟨mWt_sub (j := 5) (List.mem_of_getElem? (i := 168) rfl), rfl⟩, mDt89, by decide +kernel, by decide +kernel, by decide +kernel⟩
theorem mOk90 : mOkP 90 := ⟨List.mem_filter.mpr ⟨mWt_sub (j := 6) (List.mem_of_getElem? (i := 16) rfl), rfl⟩, mDt90, by decide +kernel, by decide +kernel, by decide +kernel⟩
theorem mOk91 : mOkP 91 := ⟨List.mem_filter.mpr ⟨mWt_sub (j := 6) (List.mem_of_getElem? (i := 45) rfl), rfl⟩, mDt91, by decide +kernel, by decide +kernel, by decide +kernel⟩
theorem mOk92 : mOkP 92 := ⟨List.mem_filter.mpr ⟨mWt_sub (j := 6) (List.mem_of_getElem? (i := 30) rfl), rfl⟩, mDt92, by decide +kernel, by decide +kernel, by decide +kernel⟩
theorem mOk93 : mOkP 93 := ⟨List.mem_filter.mpr ⟨mWt_sub (j := 6) (List.mem_of_getElem? (i := 40) rfl), rfl⟩, mDt93, by decide +kernel, by decide +kernel, by decide +kernel⟩
theorem mOk94 : mOkP 94 := ⟨List.mem_filter.mpr ⟨mWt_sub (j := 6) (List.mem_of_getElem? (i := 6) rfl), rfl⟩, mDt94, by decide +kernel, by decide +kernel, by decide +kernel⟩
theorem mOk95 : mOkP 95 := ⟨List.mem_filter.mpr ⟨mWt_sub (j := 6) (List.mem_of_getElem? (i := 21) rfl), rfl⟩, mDt95, by decide +kernel, by decide +kernel, by decide +kernel⟩
theorem mOk96 : mOkP 96 := ⟨List.mem_filter.mpr ⟨mWt_sub (j := 6) (List.mem_of_getElem? (i := 35) rfl), rfl⟩, mDt96, by decide +kernel, by decide +kernel, by decide +kernel⟩
theorem mOk97 : mOkP 97 := ⟨List.mem_filter.mpr ⟨mWt_sub (j := 5) (List.mem_of_getElem? (i := 177) rfl), rfl⟩, mDt97, by decide +kernel, by decide +kernel, by decide +kernel⟩
theorem mOk98 : mOkP 98 := ⟨List.mem_filter.mpr ⟨mWt_sub (j := 6) (List.mem_of_getElem? (i := 50) rfl), rfl⟩, mDt98, by decide +kernel, by decide +kernel, by decide +kernel⟩
theorem mOk99 : mOkP 99 := ⟨List.mem_filter.mpr ⟨mWt_sub (j := 5) (List.mem_of_getElem? (i := 181) rfl), rfl⟩, mDt99, by decide +kernel, by decide +kernel, by decide +kernel⟩
theorem mOk100 : mOkP 100 := ⟨List.mem_filter.mpr ⟨mWt_sub (j := 6) (List.mem_of_getElem? (i := 25) rfl), rfl⟩, mDt100, by decide +kernel, by decide +kernel, by decide +kernel⟩
theorem mOk101 : mOkP 101 := ⟨List.mem_filter.mpr ⟨mWt_sub (j := 5) (List.mem_of_getElem? (i := 185) rfl), rfl⟩, mDt101, by decide +kernel, by decide +kernel, by decide +kernel⟩
theorem mOk102 : mOkP 102 := ⟨List.mem_filter.mpr ⟨mWt_sub (j := 3) (List.mem_of_getElem? (i := 100) rfl), rfl⟩, mDt102, by decide +kernel, by decide +kernel, by decide +kernel⟩
theorem mOk103 : mOkP 103 := ⟨List.mem_filter.mpr ⟨mWt_sub (j := 5) (List.mem_of_getElem? (i := 30) rfl), rfl⟩, mDt103, by decide +kernel, by decide +kernel, by decide +kernel⟩
theorem mOk104 : mOkP 104 := ⟨List.mem_filter.mpr ⟨mWt_sub (j := 5) (List.mem_of_getElem? (i := 25) rfl), rfl⟩, mDt104, by decide +kernel, by decide +kernel, by decide +kernel⟩
theorem mOk105 : mOkP 105 := ⟨List.mem_filter.mpr ⟨mWt_sub (j := 5) (List.mem_of_getElem? (i := 34) rfl), rfl⟩, mDt105, by decide +kernel, by decide +kernel, by decide +kernel⟩
theorem mOk106 : mOkP 106 := ⟨List.mem_filter.mpr ⟨mWt_sub (j := 5) (List.mem_of_getElem? (i := 16) rfl), rfl⟩, mDt106, by decide +kernel, by decide +kernel, by decide +kernel⟩
theorem mOk107 : mOkP 107 := ⟨List.mem_filter.mpr ⟨mWt_sub (j := 7) (List.mem_of_getElem? (i := 233) rfl), rfl⟩, mDt107, by decide +kernel, by decide +kernel, by decide +kernel⟩
theorem mOk108 : mOkP 108 := ⟨List.mem_filter.mpr ⟨mWt_sub (j := 5) (List.mem_of_getElem? (i := 38) rfl), rfl⟩, mDt108, by decide +kernel, by decide +kernel, by decide +kernel⟩
theorem mOk109 : mOkP 109 := ⟨List.mem_filter.mpr ⟨mWt_sub (j := 5) (List.mem_of_getElem? (i := 20) rfl), rfl⟩, mDt109, by decide +kernel, by decide +kernel, by decide +kernel⟩
theorem mOk110 : mOkP 110 := ⟨List.mem_filter.mpr ⟨mWt_sub (j := 8) (List.mem_of_getElem? (i := 3) rfl), rfl⟩, mDt110, by decide +kernel, by decide +kernel, by decide +kernel⟩
theorem mOk111 : mOkP 111 := ⟨List.mem_filter.mpr ⟨mWt_sub (j := 8) (List.mem_of_getElem? (i := 7) rfl), rfl⟩, mDt111, by decide +kernel, by decide +kernel, by decide +kernel⟩
theorem mOk112 : mOkP 112 := ⟨List.mem_filter.mpr ⟨mWt_sub (j := 5) (List.mem_of_getElem? (i := 47) rfl), rfl⟩, mDt112, by decide +kernel, by decide +kernel, by decide +kernel⟩
theorem mOk113 : mOkP 113 := ⟨List.mem_filter.mpr ⟨mWt_sub (j := 7) (List.mem_of_getElem? (i := 237) rfl), rfl⟩, mDt113, by decide +kernel, by decide +kernel, by decide +kernel⟩
theorem mOk114 : mOkP 114 := ⟨List.mem_filter.mpr ⟨mWt_sub (j := 1) (List.mem_of_getElem? (i := 192) rfl), rfl⟩, mDt114, by decide +kernel, by decide +kernel, by decide +kernel⟩
theorem mOk115 : mOkP 115 := ⟨List.mem_filter.mpr ⟨mWt_sub (j := 6) (List.mem_of_getElem? (i := 71) rfl), rfl⟩, mDt115, by decide +kernel, by decide +kernel, by decide +kernel⟩
theorem mOk116 : mOkP 116 := ⟨List.mem_filter.mpr ⟨mWt_sub (j := 6) (List.mem_of_getElem? (i := 59) rfl), rfl⟩, mDt116, by decide +kernel, by decide +kernel, by decide +kernel⟩
theorem mOk117 : mOkP 117 := ⟨List.mem_filter.mpr ⟨mWt_sub (j := 6) (List.mem_of_getElem? (i := 67) rfl), rfl⟩, mDt117, by decide +kernel, by decide +kernel, by decide +kernel⟩
theorem mOk118 : mOkP 118 := ⟨List.mem_filter.mpr ⟨mWt_sub (j := 6) (List.mem_of_getElem? (i := 63) rfl), rfl⟩, mDt118, by decide +kernel, by decide +kernel, by decide +kernel⟩
theorem mOk119 : mOkP 119 := ⟨List.mem_filter.mpr ⟨mWt_sub (j := 4) (List.mem_of_getElem? (i := 87) rfl), rfl⟩, mDt119, by decide +kernel, by decide +kernel, by decide +kernel⟩
theorem mOk120 : mOkP 120 := ⟨List.mem_filter.mpr ⟨mWt_sub (j := 4) (List.mem_of_getElem? (i := 83) rfl), rfl⟩, mDt120, by decide +kernel, by decide +kernel, by decide +kernel⟩
theorem mOk121 : mOkP 121 := ⟨List.mem_filter.mpr ⟨mWt_sub (j := 4) (List.mem_of_getElem? (i := 171) rfl), rfl⟩, mDt121, by decide +kernel, by decide +kernel, by decide +kernel⟩
theorem mOk122 : mOkP 122 := ⟨List.mem_filter.mpr ⟨mWt_sub (j := 4) (List.mem_of_getElem? (i := 46) rfl), rfl⟩, mDt122, by decide +kernel, by decide +kernel, by decide +kernel⟩
theorem mOk123 : mOkP 123 := ⟨List.mem_filter.mpr ⟨mWt_sub (j := 2) (List.mem_of_getElem? (i := 90) rfl), rfl⟩, mDt123, by decide +kernel, by decide +kernel, by decide +kernel⟩
theorem mOk124 : mOkP 124 := ⟨List.mem_filter.mpr ⟨mWt_sub (j := 4) (List.mem_of_getElem? (i := 58) rfl), rfl⟩, mDt124, by decide +kernel, by decide +kernel, by decide +kernel⟩
theorem mOk125 : mOkP 125 := ⟨List.mem_filter.mpr ⟨mWt_sub (j := 4) (List.mem_of_getElem? (i := 38) rfl), rfl⟩, mDt125, by decide +kernel, by decide +kernel, by decide +kernel⟩
theorem mOk126 : mOkP 126 := ⟨List.mem_filter.mpr ⟨mWt_sub (j := 4) (List.mem_of_getElem? (i := 62) rfl), rfl⟩, mDt126, by decide +kernel, by decide +kernel, by decide +kernel⟩
theorem mOk127 : mOkP 127 := ⟨List.mem_filter.mpr ⟨mWt_sub (j := 8) (List.mem_of_getElem? (i := 31) rfl), rfl⟩, mDt127, by decide +kernel, by decide +kernel, by decide +kernel⟩
theorem mOk128 : mOkP 128 := ⟨List.mem_filter.mpr ⟨mWt_sub (j := 4) (List.mem_of_getElem? (i := 74) rfl), rfl⟩, mDt128, by decide +kernel, by decide +kernel, by decide +kernel⟩
theorem mOk129 : mOkP 129 := ⟨List.mem_filter.mpr ⟨mWt_sub (j := 4) (List.mem_of_getElem? (i := 27) rfl), rfl⟩, mDt129, by decide +kernel, by decide +kernel, by decide +kernel⟩
theorem mOk130 : mOkP 130 := ⟨List.mem_filter.mpr ⟨mWt_sub (j := 4) (List.mem_of_getElem? (i := 54) rfl), rfl⟩, mDt130, by decide +kernel, by decide +kernel, by decide +kernel⟩
theorem mOk131 : mOkP 131 := ⟨List.mem_filter.mpr ⟨mWt_sub (j := 4) (List.mem_of_getElem? (i := 70) rfl), rfl⟩, mDt131, by decide +kernel, by decide +kernel, by decide +kernel⟩
theorem mOk132 : mOkP 132 := ⟨List.mem_filter.mpr ⟨mWt_sub (j := 8) (List.mem_of_getElem? (i := 47) rfl), rfl⟩, mDt132, by decide +kernel, by decide +kernel, by decide +kernel⟩
theorem mOk133 : mOkP 133 := ⟨List.mem_filter.mpr ⟨mWt_sub (j := 8) (List.mem_of_getElem? (i := 51) rfl), rfl⟩, mDt133, by decide +kernel, by decide +kernel, by decide +kernel⟩
theorem mOk134 : mOkP 134 := ⟨List.mem_filter.mpr ⟨mWt_sub (j := 4) (List.mem_of_getElem? (i := 34) rfl), rfl⟩, mDt134, by decide +kernel, by decide +kernel, by decide +kernel⟩
theorem mOk135 : mOkP 135 := ⟨List.mem_filter.mpr ⟨mWt_sub (j := 4) (List.mem_of_getElem? (i := 42) rfl), rfl⟩, mDt135, by decide +kernel, by decide +kernel, by decide +kernel⟩
theorem mOk136 : mOkP 136 := ⟨List.mem_filter.mpr ⟨mWt_sub (j := 1) (List.mem_of_getElem? (i := 33) rfl), rfl⟩, mDt136, by decide +kernel, by decide +kernel, by decide +kernel⟩
theorem mOk137 : mOkP 137 := ⟨List.mem_filter.mpr ⟨mWt_sub (j := 7) (List.mem_of_getElem? (i := 173) rfl), rfl⟩, mDt137, by decide +kernel, by decide +kernel, by decide +kernel⟩
theorem mOk138 : mOkP 138 := ⟨List.mem_filter.mpr ⟨mWt_sub (j := 7) (List.mem_of_getElem? (i := 46) rfl), rfl⟩, mDt138, by decide +kernel, by decide +kernel, by decide +kernel⟩
theorem mOk139 : mOkP 139 := ⟨List.mem_filter.mpr ⟨mWt_sub (j := 7) (List.mem_of_getElem? (i := 214) rfl), rfl⟩, mDt139, by decide +kernel, by decide +kernel, by decide +kernel⟩
theorem mOk140 : mOkP 140 := ⟨List.mem_filter.mpr ⟨mWt_sub (j := 7) (List.mem_of_getElem? (i := 82) rfl), rfl⟩, mDt140, by decide +kernel, by decide +kernel, by decide +kernel⟩
theorem mOk141 : mOkP 141 := ⟨List.mem_filter.mpr ⟨mWt_sub (j := 7) (List.mem_of_getElem? (i := 151) rfl), rfl⟩, mDt141, by decide +kernel, by decide +kernel, by decide +kernel⟩
theorem mOk142 : mOkP 142 := ⟨List.mem_filter.mpr ⟨mWt_sub (j := 3) (List.mem_of_getElem? (i := 199) rfl), rfl⟩, mDt142, by decide +kernel, by decide +kernel, by decide +kernel⟩
theorem mOk143 : mOkP 143 := ⟨List.mem_filter.mpr ⟨mWt_sub (j := 7) (List.mem_of_getElem? (i := 193) rfl), rfl⟩, mDt143, by decide +kernel, by decide +kernel, by decide +kernel⟩
theorem mOk144 : mOkP 144 := ⟨List.mem_filter.mpr ⟨mWt_sub (j := 6) (List.mem_of_getElem? (i := 223) rfl), rfl⟩, mDt144, by decide +kernel, by decide +kernel, by decide +kernel⟩
theorem mOk145 : mOkP 145 := ⟨List.mem_filter.mpr ⟨mWt_sub (j := 5) (List.mem_of_getElem? (i := 83) rfl), rfl⟩, mDt145, by decide +kernel, by decide +kernel, by decide +kernel⟩
theorem mOk146 : mOkP 146 := ⟨List.mem_filter.mpr ⟨mWt_sub (j := 8) (List.mem_of_getElem? (i := 22) rfl), rfl⟩, mDt146, by decide +kernel, by decide +kernel, by decide +kernel⟩
theorem mOk147 : mOkP 147 := ⟨List.mem_filter.mpr ⟨mWt_sub (j := 5) (List.mem_of_getElem? (i := 52) rfl), rfl⟩, mDt147, by decide +kernel, by decide +kernel, by decide +kernel⟩
theorem mOk148 : mOkP 148 := ⟨List.mem_filter.mpr ⟨mWt_sub (j := 8) (List.mem_of_getElem? (i := 14) rfl), rfl⟩, mDt148, by decide +kernel, by decide +kernel, by decide +kernel⟩
theorem mOk149 : mOkP 149 := ⟨List.mem_filter.mpr ⟨mWt_sub (j := 7) (List.mem_of_getElem? (i := 39) rfl), rfl⟩, mDt149, by decide +kernel, by decide +kernel, by decide +kernel⟩
theorem mOk150 : mOkP 150 := ⟨List.mem_filter.mpr ⟨mWt_sub (j := 6) (List.mem_of_getElem? (i := 237) rfl), rfl⟩, mDt150, by decide +kernel, by decide +kernel, by decide +kernel⟩
theorem mOk151 : mOkP 151 := ⟨List.mem_filter.mpr ⟨mWt_sub (j := 7) (List.mem_of_getElem? (i := 102) rfl), rfl⟩, mDt151, by decide +kernel, by decide +kernel, by decide +kernel⟩
theorem mOk152 : mOkP 152 := ⟨List.mem_filter.mpr ⟨mWt_sub (j := 3) (List.mem_of_getElem? (i := 195) rfl), rfl⟩, mDt152, by decide +kernel, by decide +kernel, by decide +kernel⟩
theorem mOk153 : mOkP 153 := ⟨List.mem_filter.mpr ⟨mWt_sub (j := 3) (List.mem_of_getElem? (i := 187) rfl), rfl⟩, mDt153, by decide +kernel, by decide +kernel, by decide +kernel⟩
theorem mOk154 : mOkP 154 := ⟨List.mem_filter.mpr ⟨mWt_sub (j := 5) (List.mem_of_getElem? (i := 12) rfl), rfl⟩, mDt154, by decide +kernel, by decide +kernel, by decide +kernel⟩
theorem mOk155 : mOkP 155 := ⟨List.mem_filter.mpr ⟨mWt_sub (j := 6) (List.mem_of_getElem? (i := 146) rfl), rfl⟩, mDt155, by decide +kernel, by decide +kernel, by decide +kernel⟩
theorem mOk156 : mOkP 156 := ⟨List.mem_filter.mpr ⟨mWt_sub (j := 3) (List.mem_of_getElem? (i := 216) rfl), rfl⟩, mDt156, by decide +kernel, by decide +kernel, by decide +kernel⟩
theorem mOk157 : mOkP 157 := ⟨List.mem_filter.mpr ⟨mWt_sub (j := 7) (List.mem_of_getElem? (i := 143) rfl), rfl⟩, mDt157, by decide +kernel, by decide +kernel, by decide +kernel⟩
theorem mOk158 : mOkP 158 := ⟨List.mem_filter.mpr ⟨mWt_sub (j := 7) (List.mem_of_getElem? (i := 109) rfl), rfl⟩, mDt158, by decide +kernel, by decide +kernel, by decide +kernel⟩
theorem mOk159 : mOkP 159 := ⟨List.mem_filter.mpr ⟨mWt_sub (j := 5) (List.mem_of_getElem? (i := 65) rfl), rfl⟩, mDt159, by decide +kernel, by decide +kernel, by decide +kernel⟩
theorem mOk160 : mOkP 160 := ⟨List.mem_filter.mpr ⟨mWt_sub (j := 7) (List.mem_of_getElem? (i := 201) rfl), rfl⟩, mDt160, by decide +kernel, by decide +kernel, by decide +kernel⟩
theorem mOk161 : mOkP 161 := ⟨List.mem_filter.mpr ⟨mWt_sub (j := 5) (List.mem_of_getElem? (i := 96) rfl), rfl⟩, mDt161, by decide +kernel, by decide +kernel, by decide +kernel⟩
theorem mOk162 : mOkP 162 := ⟨List.mem_filter.mpr ⟨mWt_sub (j := 7) (List.mem_of_getElem? (i := 227) rfl), rfl⟩, mDt162, by decide +kernel, by decide +kernel, by decide +kernel⟩
theorem mOk163 : mOkP 163 := ⟨List.mem_filter.mpr ⟨mWt_sub (j := 4) (List.mem_of_getElem? (i := 149) rfl), rfl⟩, mDt163, by decide +kernel, by decide +kernel, by decide +kernel⟩
theorem mOk164 : mOkP 164 := ⟨List.mem_filter.mpr ⟨mWt_sub (j := 7) (List.mem_of_getElem? (i := 93) rfl), rfl⟩, mDt164, by decide +kernel, by decide +kernel, by decide +kernel⟩
theorem mOk165 : mOkP 165 := ⟨List.mem_filter.mpr ⟨mWt_sub (j := 7) (List.mem_of_getElem? (i := 218) rfl), rfl⟩, mDt165, by decide +kernel, by decide +kernel, by decide +kernel⟩
theorem mOk166 : mOkP 166 := ⟨List.mem_filter.mpr ⟨mWt_sub (j := 6) (List.mem_of_getElem? (i := 98) rfl), rfl⟩, mDt166, by decide +kernel, by decide +kernel, by decide +kernel⟩
theorem mOk167 : mOkP 167 := ⟨List.mem_filter.mpr ⟨mWt_sub (j := 6) (List.mem_of_getElem? (i := 207) rfl), rfl⟩, mDt167, by decide +kernel, by decide +kernel, by decide +kernel⟩
theorem mOk168 : mOkP 168 := ⟨List.mem_filter.mpr ⟨mWt_sub (j := 6) (List.mem_of_getElem? (i := 130) rfl), rfl⟩, mDt168, by decide +kernel, by decide +kernel, by decide +kernel⟩
theorem mOk169 : mOkP 169 := ⟨List.mem_filter.mpr ⟨mWt_sub (j := 6) (List.mem_of_getElem? (i := 187) rfl), rfl⟩, mDt169, by decide +kernel, by decide +kernel, by decide +kernel⟩
theorem mOk170 : mOkP 170 := ⟨List.mem_filter.mpr ⟨mWt_sub (j := 6) (List.mem_of_getElem? (i := 126) rfl), rfl⟩, mDt170, by decide +kernel, by decide +kernel, by decide +kernel⟩
theorem mOk171 : mOkP 171 := ⟨List.mem_filter.mpr ⟨mWt_sub (j := 5) (List.mem_of_getElem? (i := 43) rfl), rfl⟩, mDt171, by decide +kernel, by decide +kernel, by decide +kernel⟩
theorem mOk172 : mOkP 172 := ⟨List.mem_filter.mpr ⟨mWt_sub (j := 6) (List.mem_of_getElem? (i := 183) rfl), rfl⟩, mDt172, by decide +kernel, by decide +kernel, by decide +kernel⟩
theorem mOk173 : mOkP 173 := ⟨List.mem_filter.mpr ⟨mWt_sub (j := 4) (List.mem_of_getElem? (i := 132) rfl), rfl⟩, mDt173, by decide +kernel, by decide +kernel, by decide +kernel⟩
theorem mOk174 : mOkP 174 := ⟨List.mem_filter.mpr ⟨mWt_sub (j := 7) (List.mem_of_getElem? (i := 117) rfl), rfl⟩, mDt174, by decide +kernel, by decide +kernel, by decide +kernel⟩
theorem mOk175 : mOkP 175 := ⟨List.mem_filter.mpr ⟨mWt_sub (j := 5) (List.mem_of_getElem? (i := 74) rfl), rfl⟩, mDt175, by decide +kernel, by decide +kernel, by decide +kernel⟩
theorem mOk176 : mOkP 176 := ⟨List.mem_filter.mpr ⟨mWt_sub (j := 6) (List.mem_of_getElem? (i := 230) rfl), rfl⟩, mDt176, by decide +kernel, by decide +kernel, by decide +kernel⟩
theorem mOk177 : mOkP 177 := ⟨List.mem_filter.mpr ⟨mWt_sub (j := 7) (List.mem_of_getElem? (i := 132) rfl), rfl⟩, mDt177, by decide +kernel, by decide +kernel, by decide +kernel⟩
theorem mOk178 : mOkP 178 := ⟨List.mem_filter.mpr ⟨mWt_sub (j := 8) (List.mem_of_getElem? (i := 58) rfl), rfl⟩, mDt178, by decide +kernel, by decide +kernel, by decide +kernel⟩
theorem mOk179 : mOkP 179 := ⟨List.mem_filter.mpr ⟨mWt_sub (j := 4) (List.mem_of_getElem? (i := 227) rfl), rfl⟩, mDt179, by decide +kernel, by decide +kernel, by decide +kernel⟩
theorem mOk180 : mOkP 180 := ⟨List.mem_filter.mpr ⟨mWt_sub (j := 7) (List.mem_of_getElem? (i := 89) rfl), rfl⟩, mDt180, by decide +kernel, by decide +kernel, by decide +kernel⟩
theorem mOk181 : mOkP 181 := ⟨List.mem_filter.mpr ⟨mWt_sub (j := 6) (List.mem_of_getElem? (i := 215) rfl), rfl⟩, mDt181, by decide +kernel, by decide +kernel, by decide +kernel⟩
theorem mOk182 : mOkP 182 := ⟨List.mem_filter.mpr ⟨mWt_sub (j := 7) (List.mem_of_getElem? (i := 158) rfl), rfl⟩, mDt182, by decide +kernel, by decide +kernel, by decide +kernel⟩
theorem mOk183 : mOkP 183 := ⟨List.mem_filter.mpr ⟨mWt_sub (j := 3) (List.mem_of_getElem? (i := 191) rfl), rfl⟩, mDt183, by decide +kernel, by decide +kernel, by decide +kernel⟩
theorem mOk184 : mOkP 184 := ⟨List.mem_filter.mpr ⟨mWt_sub (j := 6) (List.mem_of_getElem? (i := 83) rfl), rfl⟩, mDt184, by decide +kernel, by decide +kernel, by decide +kernel⟩
theorem mOk185 : mOkP 185 := ⟨List.mem_filter.mpr ⟨mWt_sub (j := 6) (List.mem_of_getElem? (i := 154) rfl), rfl⟩, mDt185, by decide +kernel, by decide +kernel, by decide +kernel⟩
theorem mOk186 : mOkP 186 := ⟨List.mem_filter.mpr ⟨mWt_sub (j := 6) (List.mem_of_getElem? (i := 94) rfl), rfl⟩, mDt186, by decide +kernel, by decide +kernel, by decide +kernel⟩
theorem mOk187 : mOkP 187 := ⟨List.mem_filter.mpr ⟨mWt_sub (j := 8) (List.mem_of_getElem? (i := 42) rfl), rfl⟩, mDt187, by decide +kernel, by decide +kernel, by decide +kernel⟩
theorem mOk188 : mOkP 188 := ⟨List.mem_filter.mpr ⟨mWt_sub (j := 7) (List.mem_of_getElem? (i := 53) rfl), rfl⟩, mDt188, by decide +kernel, by decide +kernel, by decide +kernel⟩
theorem mOk189 : mOkP 189 := ⟨List.mem_filter.mpr ⟨mWt_sub (j := 7) (List.mem_of_getElem? (i := 184) rfl), rfl⟩, mDt189, by decide +kernel, by decide +kernel, by decide +kernel⟩
theorem mOk190 : mOkP 190 := ⟨List.mem_filter.mpr ⟨mWt_sub (j := 8) (List.mem_of_getElem? (i := 64) rfl), rfl⟩, mDt190, by decide +kernel, by decide +kernel, by decide +kernel⟩
theorem mOk191 : mOkP 191 := ⟨List.mem_filter.mpr ⟨mWt_sub (j := 10) (List.mem_of_getElem? (i := 137) rfl), rfl⟩, mDt191, by decide +kernel, by decide +kernel, by decide +kernel⟩
theorem mOk192 : mOkP 192 := ⟨List.mem_filter.mpr ⟨mWt_sub (j := 10) (List.mem_of_getElem? (i := 6) rfl), rfl⟩, mDt192, by decide +kernel, by decide +kernel, by decide +kernel⟩
theorem mOk193 : mOkP 193 := ⟨List.mem_filter.mpr ⟨mWt_sub (j := 9) (List.mem_of_getElem? (i := 108) rfl), rfl⟩, mDt193, by decide +kernel, by decide +kernel, by decide +kernel⟩
theorem mOk194 : mOkP 194 := ⟨List.mem_filter.mpr ⟨mWt_sub (j := 9) (List.mem_of_getElem? (i := 227) rfl), rfl⟩, mDt194, by decide +kernel, by decide +kernel, by decide +kernel⟩
theorem mOk195 : mOkP 195 := ⟨List.mem_filter.mpr ⟨mWt_sub (j := 9) (List.mem_of_getElem? (i := 10) rfl), rfl⟩, mDt195, by decide +kernel, by decide +kernel, by decide +kernel⟩
theorem mOk196 : mOkP 196 := ⟨List.mem_filter.mpr ⟨mWt_sub (j := 10) (List.mem_of_getElem? (i := 53) rfl), rfl⟩, mDt196, by decide +kernel, by decide +kernel, by decide +kernel⟩
theorem mOk197 : mOkP 197 := ⟨List.mem_filter.mpr ⟨mWt_sub (j := 10) (List.mem_of_getElem? (i := 154) rfl), rfl⟩, mDt197, by decide +kernel, by decide +kernel, by decide +kernel⟩
theorem mOk198 : mOkP 198 := ⟨List.mem_filter.mpr ⟨mWt_sub (j := 10) (List.mem_of_getElem? (i := 21) rfl), rfl⟩, mDt198, by decide +kernel, by decide +kernel, by decide +kernel⟩
theorem mOk199 : mOkP 199 := ⟨List.mem_filter.mpr ⟨mWt_sub (j := 10) (List.mem_of_getElem? (i := 121) rfl), rfl⟩, mDt199, by decide +kernel, by decide +kernel, by decide +kernel⟩
theorem mOk200 : mOkP 200 := ⟨List.mem_filter.mpr ⟨mWt_sub (j := 10) (List.mem_of_getElem? (i := 125) rfl), rfl⟩, mDt200, by decide +kernel, by decide +kernel, by decide +kernel⟩
theorem mOk201 : mOkP 201 := ⟨List.mem_filter.mpr ⟨mWt_sub (j := 9) (List.mem_of_getElem? (i := 171) rfl), rfl⟩, mDt201, by decide +kernel, by decide +kernel, by decide +kernel⟩
theorem mOk202 : mOkP 202 := ⟨List.mem_filter.mpr ⟨mWt_sub (j := 9) (List.mem_of_getElem? (i := 26) rfl), rfl⟩, mDt202, by decide +kernel, by decide +kernel, by decide +kernel⟩
theorem mOk203 : mOkP 203 := ⟨List.mem_filter.mpr ⟨mWt_sub (j := 10) (List.mem_of_getElem? (i := 41) rfl), rfl⟩, mDt203, by decide +kernel, by decide +kernel, by decide +kernel⟩
theorem mOk204 : mOkP 204 := ⟨List.mem_filter.mpr ⟨mWt_sub (j := 9) (List.mem_of_getElem? (i := 30) rfl), rfl⟩, mDt204, by decide +kernel, by decide +kernel, by decide +kernel⟩
theorem mOk205 : mOkP 205 := ⟨List.mem_filter.mpr ⟨mWt_sub (j := 9) (List.mem_of_getElem? (i := 84) rfl), rfl⟩, mDt205, by decide +kernel, by decide +kernel, by decide +kernel⟩
theorem mOk206 : mOkP 206 := ⟨List.mem_filter.mpr ⟨mWt_sub (j := 9) (List.mem_of_getElem? (i := 60) rfl), rfl⟩, mDt206, by decide +kernel, by decide +kernel, by decide +kernel⟩
theorem mOk207 : mOkP 207 := ⟨List.mem_filter.mpr ⟨mWt_sub (j := 9) (List.mem_of_getElem? (i := 179) rfl), rfl⟩, mDt207, by decide +kernel, by decide +kernel, by decide +kernel⟩
theorem mOk208 : mOkP 208 := ⟨List.mem_filter.mpr ⟨mWt_sub (j := 11) (List.mem_of_getElem? (i := 5) rfl), rfl⟩, mDt208, by decide +kernel, by decide +kernel, by decide +kernel⟩
theorem mOk209 : mOkP 209 := ⟨List.mem_filter.mpr ⟨mWt_sub (j := 10) (List.mem_of_getElem? (i := 200) rfl), rfl⟩, mDt209, by decide +kernel, by decide +kernel, by decide +kernel⟩
theorem mOk210 : mOkP 210 := ⟨List.mem_filter.mpr ⟨mWt_sub (j := 9) (List.mem_of_getElem? (i := 211) rfl), rfl⟩, mDt210, by decide +kernel, by decide +kernel, by decide +kernel⟩
theorem mOk211 : mOkP 211 := ⟨List.mem_filter.mpr ⟨mWt_sub (j := 10) (List.mem_of_getElem? (i := 204) rfl), rfl⟩, mDt211, by decide +kernel, by decide +kernel, by decide +kernel⟩
theorem mOk212 : mOkP 212 := ⟨List.mem_filter.mpr ⟨mWt_sub (j := 10) (List.mem_of_getElem? (i := 212) rfl), rfl⟩, mDt212, by decide +kernel, by decide +kernel, by decide +kernel⟩
theorem mOk213 : mOkP 213 := ⟨List.mem_filter.mpr ⟨mWt_sub (j := 10) (List.mem_of_getElem? (i := 216) rfl), rfl⟩, mDt213, by decide +kernel, by decide +kernel, by decide +kernel⟩
theorem mOk214 : mOkP 214 := ⟨List.mem_filter.mpr ⟨mWt_sub (j := 10) (List.mem_of_getElem? (i := 196) rfl), rfl⟩, mDt214, by decide +kernel, by decide +kernel, by decide +kernel⟩
theorem mOk215 : mOkP 215 := ⟨List.mem_filter.mpr ⟨mWt_sub (j := 9) (List.mem_of_getElem? (i := 100) rfl), rfl⟩, mDt215, by decide +kernel, by decide +kernel, by decide +kernel⟩
theorem mOk216 : mOkP 216 := ⟨List.mem_filter.mpr ⟨mWt_sub (j := 9) (List.mem_of_getElem? (i := 215) rfl), rfl⟩, mDt216, by decide +kernel, by decide +kernel, by decide +kernel⟩
theorem mOk217 : mOkP 217 := ⟨List.mem_filter.mpr ⟨mWt_sub (j := 9) (List.mem_of_getElem? (i := 223) rfl), rfl⟩, mDt217, by decide +kernel, by decide +kernel, by decide +kernel⟩
theorem mOk218 : mOkP 218 := ⟨List.mem_filter.mpr ⟨mWt_sub (j := 9) (List.mem_of_getElem? (i := 187) rfl), rfl⟩, mDt218, by decide +kernel, by decide +kernel, by decide +kernel⟩
theorem mOk219 : mOkP 219 := ⟨List.mem_filter.mpr ⟨mWt_sub (j := 10) (List.mem_of_getElem? (i := 57) rfl), rfl⟩, mDt219, by decide +kernel, by decide +kernel, by decide +kernel⟩
theorem mOk220 : mOkP 220 := ⟨List.mem_filter.mpr ⟨mWt_sub (j := 9) (List.mem_of_getElem? (i := 72) rfl), rfl⟩, mDt220, by decide +kernel, by decide +kernel, by decide +kernel⟩
theorem mOk221 : mOkP 221 := ⟨List.mem_filter.mpr ⟨mWt_sub (j := 8) (List.mem_of_getElem? (i := 239) rfl), rfl⟩, mDt221, by decide +kernel, by decide +kernel, by decide +kernel⟩
theorem mOk222 : mOkP 222 := ⟨List.mem_filter.mpr ⟨mWt_sub (j := 10) (List.mem_of_getElem? (i := 166) rfl), rfl⟩, mDt222, by decide +kernel, by decide +kernel, by decide +kernel⟩
theorem mOk223 : mOkP 223 := ⟨List.mem_filter.mpr ⟨mWt_sub (j := 10) (List.mem_of_getElem? (i := 25) rfl), rfl⟩, mDt223, by decide +kernel, by decide +kernel, by decide +kernel⟩
theorem mOk224 : mOkP 224 := ⟨List.mem_filter.mpr ⟨mWt_sub (j := 10) (List.mem_of_getElem? (i := 81) rfl), rfl⟩, mDt224, by decide +kernel, by decide +kernel, by decide +kernel⟩
theorem mOk225 : mOkP 225 := ⟨List.mem_filter.mpr ⟨mWt_sub (j := 10) (List.mem_of_getElem? (i := 29) rfl), rfl⟩, mDt225, by decide +kernel, by decide +kernel, by decide +kernel⟩
theorem mOk226 : mOkP 226 := ⟨List.mem_filter.mpr ⟨mWt_sub (j := 9) (List.mem_of_getElem? (i := 124) rfl), rfl⟩, mDt226, by decide +kernel, by decide +kernel, by decide +kernel⟩
theorem mOk227 : mOkP 227 := ⟨List.mem_filter.mpr ⟨mWt_sub (j := 9) (List.mem_of_getElem? (i := 175) rfl), rfl⟩, mDt227, by decide +kernel, by decide +kernel, by decide +kernel⟩
theorem mOk228 : mOkP 228 := ⟨List.mem_filter.mpr ⟨mWt_sub (j := 10) (List.mem_of_getElem? (i := 73) rfl), rfl⟩, mDt228, by decide +kernel, by decide +kernel, by decide +kernel⟩
theorem mOk229 : mOkP 229 := ⟨List.mem_filter.mpr ⟨mWt_sub (j := 10) (List.mem_of_getElem? (i := 69) rfl), rfl⟩, mDt229, by decide +kernel, by decide +kernel, by decide +kernel⟩
theorem mOk230 : mOkP 230 := ⟨List.mem_filter.mpr ⟨mWt_sub (j := 10) (List.mem_of_getElem? (i := 77) rfl), rfl⟩, mDt230, by decide +kernel, by decide +kernel, by decide +kernel⟩
theorem mOk231 : mOkP 231 := ⟨List.mem_filter.mpr ⟨mWt_sub (j := 10) (List.mem_of_getElem? (i := 45) rfl), rfl⟩, mDt231, by decide +kernel, by decide +kernel, by decide +kernel⟩
theorem mOk232 : mOkP 232 := ⟨List.mem_filter.mpr ⟨mWt_sub (j := 9) (List.mem_of_getElem? (i := 116) rfl), rfl⟩, mDt232, by decide +kernel, by decide +kernel, by decide +kernel⟩
theorem mOk233 : mOkP 233 := ⟨List.mem_filter.mpr ⟨mWt_sub (j := 10) (List.mem_of_getElem? (i := 93) rfl), rfl⟩, mDt233, by decide +kernel, by decide +kernel, by decide +kernel⟩
theorem mOk234 : mOkP 234 := ⟨List.mem_filter.mpr ⟨mWt_sub (j := 10) (List.mem_of_getElem? (i := 33) rfl), rfl⟩, mDt234, by decide +kernel, by decide +kernel, by decide +kernel⟩
theorem mOk235 : mOkP 235 := ⟨List.mem_filter.mpr ⟨mWt_sub (j := 10) (List.mem_of_getElem? (i := 105) rfl), rfl⟩, mDt235, by decide +kernel, by decide +kernel, by decide +kernel⟩
theorem mOk236 : mOkP 236 := ⟨List.mem_filter.mpr ⟨mWt_sub (j := 10) (List.mem_of_getElem? (i := 109) rfl), rfl⟩, mDt236, by decide +kernel, by decide +kernel, by decide +kernel⟩
theorem mOk237 : mOkP 237 := ⟨List.mem_filter.mpr ⟨mWt_sub (j := 9) (List.mem_of_getElem? (i := 136) rfl), rfl⟩, mDt237, by decide +kernel, by decide +kernel, by decide +kernel⟩
theorem mOk238 : mOkP 238 := ⟨List.mem_filter.mpr ⟨mWt_sub (j := 10) (List.mem_of_getElem? (i := 61) rfl), rfl⟩, mDt238, by decide +kernel, by decide +kernel, by decide +kernel⟩
theorem mOk239 : mOkP 239 := ⟨List.mem_filter.mpr ⟨mWt_sub (j := 10) (List.mem_of_getElem? (i := 225) rfl), rfl⟩, mDt239, by decide +kernel, by decide +kernel, by decide +kernel⟩
theorem mOk240 : mOkP 240 := ⟨List.mem_filter.mpr ⟨mWt_sub (j := 9) (List.mem_of_getElem? (i := 6) rfl), rfl⟩, mDt240, by decide +kernel, by decide +kernel, by decide +kernel⟩
theorem mOk241 : mOkP 241 := ⟨List.mem_filter.mpr ⟨mWt_sub (j := 10) (List.mem_of_getElem? (i := 85) rfl), rfl⟩, mDt241, by decide +kernel, by decide +kernel, by decide +kernel⟩
theorem mOk242 : mOkP 242 := ⟨List.mem_filter.mpr ⟨mWt_sub (j := 10) (List.mem_of_getElem? (i := 177) rfl), rfl⟩, mDt242, by decide +kernel, by decide +kernel, by decide +kernel⟩
theorem mOk243 : mOkP 243 := ⟨List.mem_filter.mpr ⟨mWt_sub (j := 10) (List.mem_of_getElem? (i := 162) rfl), rfl⟩, mDt243, by decide +kernel, by decide +kernel, by decide +kernel⟩
theorem mOk244 : mOkP 244 := ⟨List.mem_filter.mpr ⟨mWt_sub (j := 9) (List.mem_of_getElem? (i := 51) rfl), rfl⟩, mDt244, by decide +kernel, by decide +kernel, by decide +kernel⟩
theorem mOk245 : mOkP 245 := ⟨List.mem_filter.mpr ⟨mWt_sub (j := 9) (List.mem_of_getElem? (i := 80) rfl), rfl⟩, mDt245, by decide +kernel, by decide +kernel, by decide +kernel⟩
theorem mOk246 : mOkP 246 := ⟨List.mem_filter.mpr ⟨mWt_sub (j := 10) (List.mem_of_getElem? (i := 158) rfl), rfl⟩, mDt246, by decide +kernel, by decide +kernel, by decide +kernel⟩
theorem mOk247 : mOkP 247 := ⟨List.mem_filter.mpr ⟨mWt_sub (j := 9) (List.mem_of_getElem? (i := 120) rfl), rfl⟩, mDt247, by decide +kernel, by decide +kernel, by decide +kernel⟩
theorem mOk248 : mOkP 248 := ⟨List.mem_filter.mpr ⟨mWt_sub (j := 9) (List.mem_of_getElem? (i := 92) rfl), rfl⟩, mDt248, by decide +kernel, by decide +kernel, by decide +kernel⟩
theorem mOk249 : mOkP 249 := ⟨List.mem_filter.mpr ⟨mWt_sub (j := 9) (List.mem_of_getElem? (i := 159) rfl), rfl⟩, mDt249, by decide +kernel, by decide +kernel, by decide +kernel⟩
theorem mOk250 : mOkP 250 := ⟨List.mem_filter.mpr ⟨mWt_sub (j := 10) (List.mem_of_getElem? (i := 192) rfl), rfl⟩, mDt250, by decide +kernel, by decide +kernel, by decide +kernel⟩
theorem mOk251 : mOkP 251 := ⟨List.mem_filter.mpr ⟨mWt_sub (j := 9) (List.mem_of_getElem? (i := 203) rfl), rfl⟩, mDt251, by decide +kernel, by decide +kernel, by decide +kernel⟩
theorem mOk252 : mOkP 252 := ⟨List.mem_filter.mpr ⟨mWt_sub (j := 9) (List.mem_of_getElem? (i := 155) rfl), rfl⟩, mDt252, by decide +kernel, by decide +kernel, by decide +kernel⟩
theorem mOk253 : mOkP 253 := ⟨List.mem_filter.mpr ⟨mWt_sub (j := 9) (List.mem_of_getElem? (i := 18) rfl), rfl⟩, mDt253, by decide +kernel, by decide +kernel, by decide +kernel⟩
theorem mOk254 : mOkP 254 := ⟨List.mem_filter.mpr ⟨mWt_sub (j := 10) (List.mem_of_getElem? (i := 150) rfl), rfl⟩, mDt254, by decide +kernel, by decide +kernel, by decide +kernel⟩
theorem mOk255 : mOkP 255 := ⟨List.mem_filter.mpr ⟨mWt_sub (j := 9) (List.mem_of_getElem? (i := 191) rfl), rfl⟩, mDt255, by decide +kernel, by decide +kernel, by decide +kernel⟩
theorem mOk256 : mOkP 256 := ⟨List.mem_filter.mpr ⟨mWt_sub (j := 9) (List.mem_of_getElem? (i := 195) rfl), rfl⟩, mDt256, by decide +kernel, by decide +kernel, by decide +kernel⟩
theorem mOk257 : mOkP 257 := ⟨List.mem_filter.mpr ⟨mWt_sub (j := 9) (List.mem_of_getElem? (i := 64) rfl), rfl⟩, mDt257, by decide +kernel, by decide +kernel, by decide +kernel⟩
theorem mOk258 : mOkP 258 := ⟨List.mem_filter.mpr ⟨mWt_sub (j := 9) (List.mem_of_getElem? (i := 3) rfl), rfl⟩, mDt258, by decide +kernel, by decide +kernel, by decide +kernel⟩
theorem mOk259 : mOkP 259 := ⟨List.mem_filter.mpr ⟨mWt_sub (j := 10) (List.mem_of_getElem? (i := 89) rfl), rfl⟩, mDt259, by decide +kernel, by decide +kernel, by decide +kernel⟩
theorem mOk260 : mOkP 260 := ⟨List.mem_filter.mpr ⟨mWt_sub (j := 9) (List.mem_of_getElem? (i := 199) rfl), rfl⟩, mDt260, by decide +kernel, by decide +kernel, by decide +kernel⟩
theorem mOk261 : mOkP 261 := ⟨List.mem_filter.mpr ⟨mWt_sub (j := 9) (List.mem_of_getElem? (i := 139) rfl), rfl⟩, mDt261, by decide +kernel, by decide +kernel, by decide +kernel⟩
theorem mOk262 : mOkP 262 := ⟨List.mem_filter.mpr ⟨mWt_sub (j := 10) (List.mem_of_getElem? (i := 185) rfl), rfl⟩, mDt262, by decide +kernel, by decide +kernel, by decide +kernel⟩
theorem mOk263 : mOkP 263 := ⟨List.mem_filter.mpr ⟨mWt_sub (j := 10) (List.mem_of_getElem? (i := 189) rfl), rfl⟩, mDt263, by decide +kernel, by decide +kernel, by decide +kernel⟩
theorem mOk264 : mOkP 264 := ⟨List.mem_filter.mpr ⟨mWt_sub (j := 9) (List.mem_of_getElem? (i := 132) rfl), rfl⟩, mDt264, by decide +kernel, by decide +kernel, by decide +kernel⟩
theorem mOk265 : mOkP 265 := ⟨List.mem_filter.mpr ⟨mWt_sub (j := 9) (List.mem_of_getElem? (i := 128) rfl), rfl⟩, mDt265, by decide +kernel, by decide +kernel, by decide +kernel⟩
theorem mOk266 : mOkP 266 := ⟨List.mem_filter.mpr ⟨mWt_sub (j := 10) (List.mem_of_getElem? (i := 113) rfl), rfl⟩, mDt266, by decide +kernel, by decide +kernel, by decide +kernel⟩
theorem mOk267 : mOkP 267 := ⟨List.mem_filter.mpr ⟨mWt_sub (j := 10) (List.mem_of_getElem? (i := 117) rfl), rfl⟩, mDt267, by decide +kernel, by decide +kernel, by decide +kernel⟩
theorem mOk268 : mOkP 268 := ⟨List.mem_filter.mpr ⟨mWt_sub (j := 10) (List.mem_of_getElem? (i := 17) rfl), rfl⟩, mDt268, by decide +kernel, by decide +kernel, by decide +kernel⟩
theorem mOk269 : mOkP 269 := ⟨List.mem_filter.mpr ⟨mWt_sub (j := 10) (List.mem_of_getElem? (i := 233) rfl), rfl⟩, mDt269, by decide +kernel, by decide +kernel, by decide +kernel⟩
theorem mOk270 : mOkP 270 := ⟨List.mem_filter.mpr ⟨mWt_sub (j := 10) (List.mem_of_getElem? (i := 229) rfl), rfl⟩, mDt270, by decide +kernel, by decide +kernel, by decide +kernel⟩
theorem mOk271 : mOkP 271 := ⟨List.mem_filter.mpr ⟨mWt_sub (j := 10) (List.mem_of_getElem? (i := 237) rfl), rfl⟩, mDt271, by decide +kernel, by decide +kernel, by decide +kernel⟩
theorem mOk272 : mOkP 272 := ⟨List.mem_filter.mpr ⟨mWt_sub (j := 9) (List.mem_of_getElem? (i := 207) rfl), rfl⟩, mDt272, by decide +kernel, by decide +kernel, by decide +kernel⟩
theorem mOk273 : mOkP 273 := ⟨List.mem_filter.mpr ⟨mWt_sub (j := 9) (List.mem_of_getElem? (i := 48) rfl), rfl⟩, mDt273, by decide +kernel, by decide +kernel, by decide +kernel⟩
theorem mOk274 : mOkP 274 := ⟨List.mem_filter.mpr ⟨mWt_sub (j := 10) (List.mem_of_getElem? (i := 173) rfl), rfl⟩, mDt274, by decide +kernel, by decide +kernel, by decide +kernel⟩
theorem mOk275 : mOkP 275 := ⟨List.mem_filter.mpr ⟨mWt_sub (j := 9) (List.mem_of_getElem? (i := 104) rfl), rfl⟩, mDt275, by decide +kernel, by decide +kernel, by decide +kernel⟩
theorem mOk276 : mOkP 276 := ⟨List.mem_filter.mpr ⟨mWt_sub (j := 9) (List.mem_of_getElem? (i := 112) rfl), rfl⟩, mDt276, by decide +kernel, by decide +kernel, by decide +kernel⟩
theorem mOk277 : mOkP 277 := ⟨List.mem_filter.mpr ⟨mWt_sub (j := 10) (List.mem_of_getElem? (i := 145) rfl), rfl⟩, mDt277, by decide +kernel, by decide +kernel, by decide +kernel⟩
theorem mOk278 : mOkP 278 := ⟨List.mem_filter.mpr ⟨mWt_sub (j := 10) (List.mem_of_getElem? (i := 181) rfl), rfl⟩, mDt278, by decide +kernel, by decide +kernel, by decide +kernel⟩
theorem mOk279 : mOkP 279 := ⟨List.mem_filter.mpr ⟨mWt_sub (j := 10) (List.mem_of_getElem? (i := 170) rfl), rfl⟩, mDt279, by decide +kernel, by decide +kernel, by decide +kernel⟩
theorem mOk280 : mOkP 280 := ⟨List.mem_filter.mpr ⟨mWt_sub (j := 9) (List.mem_of_getElem? (i := 151) rfl), rfl⟩, mDt280, by decide +kernel, by decide +kernel, by decide +kernel⟩
theorem mOk281 : mOkP 281 := ⟨List.mem_filter.mpr ⟨mWt_sub (j := 10) (List.mem_of_getElem? (i := 65) rfl), rfl⟩, mDt281, by decide +kernel, by decide +kernel, by decide +kernel⟩
theorem mOk282 : mOkP 282 := ⟨List.mem_filter.mpr ⟨mWt_sub (j := 11) (List.mem_of_getElem? (i := 1) rfl), rfl⟩, mDt282, by decide +kernel, by decide +kernel, by decide +kernel⟩
theorem mOk283 : mOkP 283 := ⟨List.mem_filter.mpr ⟨mWt_sub (j := 9) (List.mem_of_getElem? (i := 14) rfl), rfl⟩, mDt283, by decide +kernel, by decide +kernel, by decide +kernel⟩
theorem mOk284 : mOkP 284 := ⟨List.mem_filter.mpr ⟨mWt_sub (j := 9) (List.mem_of_getElem? (i := 183) rfl), rfl⟩, mDt284, by decide +kernel, by decide +kernel, by decide +kernel⟩
theorem mOk285 : mOkP 285 := ⟨List.mem_filter.mpr ⟨mWt_sub (j := 10) (List.mem_of_getElem? (i := 97) rfl), rfl⟩, mDt285, by decide +kernel, by decide +kernel, by decide +kernel⟩
theorem mOk286 : mOkP 286 := ⟨List.mem_filter.mpr ⟨mWt_sub (j := 10) (List.mem_of_getElem? (i := 101) rfl), rfl⟩, mDt286, by decide +kernel, by decide +kernel, by decide +kernel⟩
theorem mOk287 : mOkP 287 := ⟨List.mem_filter.mpr ⟨mWt_sub (j := 10) (List.mem_of_getElem? (i := 221) rfl), rfl⟩, mDt287, by decide +kernel, by decide +kernel, by decide +kernel⟩
theorem mOk288 : mOkP 288 := ⟨List.mem_filter.mpr ⟨mWt_sub (j := 10) (List.mem_of_getElem? (i := 10) rfl), rfl⟩, mDt288, by decide +kernel, by decide +kernel, by decide +kernel⟩
theorem mOk289 : mOkP 289 := ⟨List.mem_filter.mpr ⟨mWt_sub (j := 10) (List.mem_of_getElem? (i := 14) rfl), rfl⟩, mDt289, by decide +kernel, by decide +kernel, by decide +kernel⟩
theorem mOk290 : mOkP 290 := ⟨List.mem_filter.mpr ⟨mWt_sub (j := 10) (List.mem_of_getElem? (i := 129) rfl), rfl⟩, mDt290, by decide +kernel, by decide +kernel, by decide +kernel⟩
theorem mOk291 : mOkP 291 := ⟨List.mem_filter.mpr ⟨mWt_sub (j := 10) (List.mem_of_getElem? (i := 49) rfl), rfl⟩, mDt291, by decide +kernel, by decide +kernel, by decide +kernel⟩
theorem mOk292 : mOkP 292 := ⟨List.mem_filter.mpr ⟨mWt_sub (j := 9) (List.mem_of_getElem? (i := 56) rfl), rfl⟩, mDt292, by decide +kernel, by decide +kernel, by decide +kernel⟩
theorem mOk293 : mOkP 293 := ⟨List.mem_filter.mpr ⟨mWt_sub (j := 9) (List.mem_of_getElem? (i := 44) rfl), rfl⟩, mDt293, by decide +kernel, by decide +kernel, by decide +kernel⟩
theorem mOk294 : mOkP 294 := ⟨List.mem_filter.mpr ⟨mWt_sub (j := 9) (List.mem_of_getElem? (i := 167) rfl), rfl⟩, mDt294, by decide +kernel, by decide +kernel, by decide +kernel⟩
theorem mOk295 : mOkP 295 := ⟨List.mem_filter.mpr ⟨mWt_sub (j := 10) (List.mem_of_getElem? (i := 133) rfl), rfl⟩, mDt295, by decide +kernel, by decide +kernel, by decide +kernel⟩
theorem mOk296 : mOkP 296 := ⟨List.mem_filter.mpr ⟨mWt_sub (j := 9) (List.mem_of_getElem? (i := 219) rfl), rfl⟩, mDt296, by decide +kernel, by decide +kernel, by decide +kernel⟩
theorem mOk297 : mOkP 297 := ⟨List.mem_filter.mpr ⟨mWt_sub (j := 9) (List.mem_of_getElem? (i := 68) rfl), rfl⟩, mDt297, by decide +kernel, by decide +kernel, by decide +kernel⟩
theorem mOk298 : mOkP 298 := ⟨List.mem_filter.mpr ⟨mWt_sub (j := 8) (List.mem_of_getElem? (i := 235) rfl), rfl⟩, mDt298, by decide +kernel, by decide +kernel, by decide +kernel⟩
theorem mOk299 : mOkP 299 := ⟨List.mem_filter.mpr ⟨mWt_sub (j := 9) (List.mem_of_getElem? (i := 76) rfl), rfl⟩, mDt299, by decide +kernel, by decide +kernel, by decide +kernel⟩
theorem mOk300 : mOkP 300 := ⟨List.mem_filter.mpr ⟨mWt_sub (j := 9) (List.mem_of_getElem? (i := 143) rfl), rfl⟩, mDt300, by decide +kernel, by decide +kernel, by decide +kernel⟩
theorem mOk301 : mOkP 301 := ⟨List.mem_filter.mpr ⟨mWt_sub (j := 9) (List.mem_of_getElem? (i := 147) rfl), rfl⟩, mDt301, by decide +kernel, by decide +kernel, by decide +kernel⟩
theorem mOk302 : mOkP 302 := ⟨List.mem_filter.mpr ⟨mWt_sub (j := 9) (List.mem_of_getElem? (i := 163) rfl), rfl⟩, mDt302, by decide +kernel, by decide +kernel, by decide +kernel⟩
theorem mOk303 : mOkP 303 := ⟨List.mem_filter.mpr ⟨mWt_sub (j := 9) (List.mem_of_getElem? (i := 88) rfl), rfl⟩, mDt303, by decide +kernel, by decide +kernel, by decide +kernel⟩
theorem mOk304 : mOkP 304 := ⟨List.mem_filter.mpr ⟨mWt_sub (j := 9) (List.mem_of_getElem? (i := 96) rfl), rfl⟩, mDt304, by decide +kernel, by decide +kernel, by decide +kernel⟩
theorem mOk305 : mOkP 305 := ⟨List.mem_filter.mpr ⟨mWt_sub (j := 10) (List.mem_of_getElem? (i := 208) rfl), rfl⟩, mDt305, by decide +kernel, by decide +kernel, by decide +kernel⟩
theorem mOk306 : mOkP 306 := ⟨List.mem_filter.mpr ⟨mWt_sub (j := 9) (List.mem_of_getElem? (i := 36) rfl), rfl⟩, mDt306, by decide +kernel, by decide +kernel, by decide +kernel⟩
theorem mOk307 : mOkP 307 := ⟨List.mem_filter.mpr ⟨mWt_sub (j := 9) (List.mem_of_getElem? (i := 22) rfl), rfl⟩, mDt307, by decide +kernel, by decide +kernel, by decide +kernel⟩
theorem mOk308 : mOkP 308 := ⟨List.mem_filter.mpr ⟨mWt_sub (j := 9) (List.mem_of_getElem? (i := 231) rfl), rfl⟩, mDt308, by decide +kernel, by decide +kernel, by decide +kernel⟩
theorem mOk309 : mOkP 309 := ⟨List.mem_filter.mpr ⟨mWt_sub (j := 9) (List.mem_of_getElem? (i := 235) rfl), rfl⟩, mDt309, by decide +kernel, by decide +kernel, by decide +kernel⟩
theorem mOk310 : mOkP 310 := ⟨List.mem_filter.mpr ⟨mWt_sub (j := 10) (List.mem_of_getElem? (i := 37) rfl), rfl⟩, mDt310, by decide +kernel, by decide +kernel, by decide +kernel⟩
theorem mOk311 : mOkP 311 := ⟨List.mem_filter.mpr ⟨mWt_sub (j := 10) (List.mem_of_getElem? (i := 3) rfl), rfl⟩, mDt311, by decide +kernel, by decide +kernel, by decide +kernel⟩
theorem mOk312 : mOkP 312 := ⟨List.mem_filter.mpr ⟨mWt_sub (j := 9) (List.mem_of_getElem? (i := 239) rfl), rfl⟩, mDt312, by decide +kernel, by decide +kernel, by decide +kernel⟩
theorem mOk313 : mOkP 313 := ⟨List.mem_filter.mpr ⟨mWt_sub (j := 10) (List.mem_of_getElem? (i := 141) rfl), rfl⟩, mDt313, by decide +kernel, by decide +kernel, by decide +kernel⟩
theorem mOk314 : mOkP 314 := ⟨List.mem_filter.mpr ⟨mWt_sub (j := 9) (List.mem_of_getElem? (i := 40) rfl), rfl⟩, mDt314, by decide +kernel, by decide +kernel, by decide +kernel⟩
theorem mOk315 : mOkP 315 := ⟨List.mem_filter.mpr ⟨mWt_sub (j := 1) (List.mem_of_getElem? (i := 236) rfl), rfl⟩, mDt315, by decide +kernel, by decide +kernel, by decide +kernel⟩
theorem mOk316 : mOkP 316 := ⟨List.mem_filter.mpr ⟨mWt_sub (j := 4) (List.mem_of_getElem? (i := 235) rfl), rfl⟩, mDt316, by decide +kernel, by decide +kernel, by decide +kernel⟩
theorem mOk317 : mOkP 317 := ⟨List.mem_filter.mpr ⟨mWt_sub (j := 4) (List.mem_of_getElem? (i := 15) rfl), rfl⟩, mDt317, by decide +kernel, by decide +kernel, by decide +kernel⟩
theorem mOkG0 {k : Nat} (h1 : 0 ≤ k) (h2 : k < 20) : mOkP k := by
  obtain rfl | rfl | rfl | rfl | rfl | rfl | rfl | rfl | rfl | rfl | rfl | rfl | rfl | rfl | rfl | rfl | rfl | rfl | rfl | rfl : k = 0 ∨ k = 1 ∨ k = 2 ∨ k = 3 ∨ k = 4 ∨ k = 5 ∨ k = 6 ∨ k = 7 ∨ k = 8 ∨ k = 9 ∨ k = 10 ∨ k = 11 ∨ k = 12 ∨ k = 13 ∨ k = 14 ∨ k = 15 ∨ k = 16 ∨ k = 17 ∨ k = 18 ∨ k = 19 := by omega
  · exact mOk0
  · exact mOk1
  · exact mOk2
  · exact mOk3
  · exact mOk4
  · exact mOk5
  · exact mOk6
  · exact mOk7
  · exact mOk8
  · exact mOk9
  · exact mOk10
  · exact mOk11
  · exact mOk12
  · exact mOk13
  · exact mOk14
  · exact mOk15
  · exact mOk16
  · exact mOk17
  · exact mOk18
  · exact mOk19
theorem mOkG1 {k : Nat} (h1 : 20 ≤ k) (h2 : k < 40) : mOkP k := by
  obtain rfl | rfl | rfl | rfl | rfl | rfl | rfl | rfl | rfl | rfl | rfl | rfl | rfl | rfl | rfl | rfl | rfl | rfl | rfl | rfl : k = 20 ∨ k = 21 ∨ k = 22 ∨ k = 23 ∨ k = 24 ∨ k = 25 ∨ k = 26 ∨ k = 27 ∨ k = 28 ∨ k = 29 ∨ k = 30 ∨ k = 31 ∨ k = 32 ∨ k = 33 ∨ k = 34 ∨ k = 35 ∨ k = 36 ∨ k = 37 ∨ k = 38 ∨ k = 39 := by omega
  · exact mOk20
  · exact mOk21
  · exact mOk22
  · exact mOk23
  · exact mOk24
  · exact mOk25
  · exact mOk26
  · exact mOk27
  · exact mOk28
  · exact mOk29
  · exact mOk30
  · exact mOk31
  · exact mOk32
  · exact mOk33
  · exact mOk34
  · exact mOk35
  · exact mOk36
  · exact mOk37
  · exact mOk38
  · exact mOk39
theorem mOkG2 {k : Nat} (h1 : 40 ≤ k) (h2 : k < 60) : mOkP k := by
  obtain rfl | rfl | rfl | rfl | rfl | rfl | rfl | rfl | rfl | rfl | rfl | rfl | rfl | rfl | rfl | rfl | rfl | rfl | rfl | rfl : k = 40 ∨ k = 41 ∨ k = 42 ∨ k = 43 ∨ k = 44 ∨ k = 45 ∨ k = 46 ∨ k = 47 ∨ k = 48 ∨ k = 49 ∨ k = 50 ∨ k = 51 ∨ k = 52 ∨ k = 53 ∨ k = 54 ∨ k = 55 ∨ k = 56 ∨ k = 57 ∨ k = 58 ∨ k = 59 := by omega
  · exact mOk40
  · exact mOk41
  · exact mOk42
  · exact mOk43
  · exact mOk44
  · exact mOk45
  · exact mOk46
  · exact mOk47
  · exact mOk48
  · exact mOk49
  · exact mOk50
  · exact mOk51
  · exact mOk52
  · exact mOk53
  · exact mOk54
  · exact mOk55
  · exact mOk56
  · exact mOk57
  · exact mOk58
  · exact mOk59
theorem mOkG3 {k : Nat} (h1 : 60 ≤ k) (h2 : k < 80) : mOkP k := by
  obtain rfl | rfl | rfl | rfl | rfl | rfl | rfl | rfl | rfl | rfl | rfl | rfl | rfl | rfl | rfl | rfl | rfl | rfl | rfl | rfl : k = 60 ∨ k = 61 ∨ k = 62 ∨ k = 63 ∨ k = 64 ∨ k = 65 ∨ k = 66 ∨ k = 67 ∨ k = 68 ∨ k = 69 ∨ k = 70 ∨ k = 71 ∨ k = 72 ∨ k = 73 ∨ k = 74 ∨ k = 75 ∨ k = 76 ∨ k = 77 ∨ k = 78 ∨ k = 79 := by omega
  · exact mOk60
  · exact mOk61
  · exact mOk62
  · exact mOk63
  · exact mOk64
  · exact mOk65
  · exact mOk66
  · exact mOk67
  · exact mOk68
  · exact mOk69
  · exact mOk70
  · exact mOk71
  · exact mOk72
  · exact mOk73
  · exact mOk74
  · exact mOk75
  · exact mOk76
  · exact mOk77
  · exact mOk78
  · exact mOk79
theorem mOkG4 {k : Nat} (h1 : 80 ≤ k) (h2 : k < 100) : mOkP k := by
  obtain rfl | rfl | rfl | rfl | rfl | rfl | rfl | rfl | rfl | rfl | rfl | rfl | rfl | rfl | rfl | rfl | rfl | rfl | rfl | rfl : k = 80 ∨ k = 81 ∨ k = 82 ∨ k = 83 ∨ k = 84 ∨ k = 85 ∨ k = 86 ∨ k = 87 ∨ k = 88 ∨ k = 89 ∨ k = 90 ∨ k = 91 ∨ k = 92 ∨ k = 93 ∨ k = 94 ∨ k = 95 ∨ k = 96 ∨ k = 97 ∨ k = 98 ∨ k = 99 := by omega
  · exact mOk80
  · exact mOk81
  · exact mOk82
  · exact mOk83
  · exact mOk84
  · exact mOk85
  · exact mOk86
  · exact mOk87
  · exact mOk88
  · exact mOk89
  · exact mOk90
  · exact mOk91
  · exact mOk92
  · exact mOk93
  · exact mOk94
  · exact mOk95
  · exact mOk96
  · exact mOk97
  · exact mOk98
  · exact mOk99
theorem mOkG5 {k : Nat} (h1 : 100 ≤ k) (h2 : k < 120) : mOkP k := by
  obtain rfl | rfl | rfl | rfl | rfl | rfl | rfl | rfl | rfl | rfl | rfl | rfl | rfl | rfl | rfl | rfl | rfl | rfl | rfl | rfl : k = 100 ∨ k = 101 ∨ k = 102 ∨ k = 103 ∨ k = 104 ∨ k = 105 ∨ k = 106 ∨ k = 107 ∨ k = 108 ∨ k = 109 ∨ k = 110 ∨ k = 111 ∨ k = 112 ∨ k = 113 ∨ k = 114 ∨ k = 115 ∨ k = 116 ∨ k = 117 ∨ k = 118 ∨ k = 119 := by omega
  · exact mOk100
  · exact mOk101
  · exact mOk102
  · exact mOk103
  · exact mOk104
  · exact mOk105
  · exact mOk106
  · exact mOk107
  · exact mOk108
  · exact mOk109
  · exact mOk110
  · exact mOk111
  · exact mOk112
  · exact mOk113
  · exact mOk114
  · exact mOk115
  · exact mOk116
  · exact mOk117
  · exact mOk118
  · exact mOk119
theorem mOkG6 {k : Nat} (h1 : 120 ≤ k) (h2 : k < 140) : mOkP k := by
  obtain rfl | rfl | rfl | rfl | rfl | rfl | rfl | rfl | rfl | rfl | rfl | rfl | rfl | rfl | rfl | rfl | rfl | rfl | rfl | rfl : k = 120 ∨ k = 121 ∨ k = 122 ∨ k = 123 ∨ k = 124 ∨ k = 125 ∨ k = 126 ∨ k = 127 ∨ k = 128 ∨ k = 129 ∨ k = 130 ∨ k = 131 ∨ k = 132 ∨ k = 133 ∨ k = 134 ∨ k = 135 ∨ k = 136 ∨ k = 137 ∨ k = 138 ∨ k = 139 := by omega
  · exact mOk120
  · exact mOk121
  · exact mOk122
  · exact mOk123
  · exact mOk124
  · exact mOk125
  · exact mOk126
  · exact mOk127
  · exact mOk128
  · exact mOk129
  · exact mOk130
  · exact mOk131
  · exact mOk132
  · exact mOk133
  · exact mOk134
  · exact mOk135
  · exact mOk136
  · exact mOk137
  · exact mOk138
  · exact mOk139
theorem mOkG7 {k : Nat} (h1 : 140 ≤ k) (h2 : k < 160) : mOkP k := by
  obtain rfl | rfl | rfl | rfl | rfl | rfl | rfl | rfl | rfl | rfl | rfl | rfl | rfl | rfl | rfl | rfl | rfl | rfl | rfl | rfl : k = 140 ∨ k = 141 ∨ k = 142 ∨ k = 143 ∨ k = 144 ∨ k = 145 ∨ k = 146 ∨ k = 147 ∨ k = 148 ∨ k = 149 ∨ k = 150 ∨ k = 151 ∨ k = 152 ∨ k = 153 ∨ k = 154 ∨ k = 155 ∨ k = 156 ∨ k = 157 ∨ k = 158 ∨ k = 159 := by omega
  · exact mOk140
  · exact mOk141
  · exact mOk142
  · exact mOk143
  · exact mOk144
  · exact mOk145
  · exact mOk146
  · exact mOk147
  · exact mOk148
  · exact mOk149
  · exact mOk150
  · exact mOk151
  · exact mOk152
  · exact mOk153
  · exact mOk154
  · exact mOk155
  · exact mOk156
  · exact mOk157
  · exact mOk158
  · exact mOk159
theorem mOkG8 {k : Nat} (h1 : 160 ≤ k) (h2 : k < 180) : mOkP k := by
  obtain rfl | rfl | rfl | rfl | rfl | rfl | rfl | rfl | rfl | rfl | rfl | rfl | rfl | rfl | rfl | rfl | rfl | rfl | rfl | rfl : k = 160 ∨ k = 161 ∨ k = 162 ∨ k = 163 ∨ k = 164 ∨ k = 165 ∨ k = 166 ∨ k = 167 ∨ k = 168 ∨ k = 169 ∨ k = 170 ∨ k = 171 ∨ k = 172 ∨ k = 173 ∨ k = 174 ∨ k = 175 ∨ k = 176 ∨ k = 177 ∨ k = 178 ∨ k = 179 := by omega
  · exact mOk160
  · exact mOk161
  · exact mOk162
  · exact mOk163
  · exact mOk164
  · exact mOk165
  · exact mOk166
  · exact mOk167
  · exact mOk168
  · exact mOk169
  · exact mOk170
  · exact mOk171
  · exact mOk172
  · exact mOk173
  · exact mOk174
  · exact mOk175
  · exact mOk176
  · exact mOk177
  · exact mOk178
  · exact mOk179
theorem mOkG9 {k : Nat} (h1 : 180 ≤ k) (h2 : k < 200) : mOkP k := by
  obtain rfl | rfl | rfl | rfl | rfl | rfl | rfl | rfl | rfl | rfl | rfl | rfl | rfl | rfl | rfl | rfl | rfl | rfl | rfl | rfl : k = 180 ∨ k = 181 ∨ k = 182 ∨ k = 183 ∨ k = 184 ∨ k = 185 ∨ k = 186 ∨ k = 187 ∨ k = 188 ∨ k = 189 ∨ k = 190 ∨ k = 191 ∨ k = 192 ∨ k = 193 ∨ k = 194 ∨ k = 195 ∨ k = 196 ∨ k = 197 ∨ k = 198 ∨ k = 199 := by omega
  · exact mOk180
  · exact mOk181
  · exact mOk182
  · exact mOk183
  · exact mOk184
  · exact mOk185
  · exact mOk186
  · exact mOk187
  · exact mOk188
  · exact mOk189
  · exact mOk190
  · exact mOk191
  · exact mOk192
  · exact mOk193
  · exact mOk194
  · exact mOk195
  · exact mOk196
  · exact mOk197
  · exact mOk198
  · exact mOk199
theorem mOkG10 {k : Nat} (h1 : 200 ≤ k) (h2 : k < 220) : mOkP k := by
  obtain rfl | rfl | rfl | rfl | rfl | rfl | rfl | rfl | rfl | rfl | rfl | rfl | rfl | rfl | rfl | rfl | rfl | rfl | rfl | rfl : k = 200 ∨ k = 201 ∨ k = 202 ∨ k = 203 ∨ k = 204 ∨ k = 205 ∨ k = 206 ∨ k = 207 ∨ k = 208 ∨ k = 209 ∨ k = 210 ∨ k = 211 ∨ k = 212 ∨ k = 213 ∨ k = 214 ∨ k = 215 ∨ k = 216 ∨ k = 217 ∨ k = 218 ∨ k = 219 := by omega
  · exact mOk200
  · exact mOk201
  · exact mOk202
  · exact mOk203
  · exact mOk204
  · exact mOk205
  · exact mOk206
  · exact mOk207
  · exact mOk208
  · exact mOk209
  · exact mOk210
  · exact mOk211
  · exact mOk212
  · exact mOk213
  · exact mOk214
  · exact mOk215
  · exact mOk216
  · exact mOk217
  · exact mOk218
  · exact mOk219
theorem mOkG11 {k : Nat} (h1 : 220 ≤ k) (h2 : k < 240) : mOkP k := by
  obtain rfl | rfl | rfl | rfl | rfl | rfl | rfl | rfl | rfl | rfl | rfl | rfl | rfl | rfl | rfl | rfl | rfl | rfl | rfl | rfl : k = 220 ∨ k = 221 ∨ k = 222 ∨ k = 223 ∨ k = 224 ∨ k = 225 ∨ k = 226 ∨ k = 227 ∨ k = 228 ∨ k = 229 ∨ k = 230 ∨ k = 231 ∨ k = 232 ∨ k = 233 ∨ k = 234 ∨ k = 235 ∨ k = 236 ∨ k = 237 ∨ k = 238 ∨ k = 239 := by omega
  · exact mOk220
  · exact mOk221
  · exact mOk222
  · exact mOk223
  · exact mOk224
  · exact mOk225
  · exact mOk226
  · exact mOk227
  · exact mOk228
  · exact mOk229
  · exact mOk230
  · exact mOk231
  · exact mOk232
  · exact mOk233
  · exact mOk234
  · exact mOk235
  · exact mOk236
  · exact mOk237
  · exact mOk238
  · exact mOk239
theorem mOkG12 {k : Nat} (h1 : 240 ≤ k) (h2 : k < 260) : mOkP k := by
  obtain rfl | rfl | rfl | rfl | rfl | rfl | rfl | rfl | rfl | rfl | rfl | rfl | rfl | rfl | rfl | rfl | rfl | rfl | rfl | rfl : k = 240 ∨ k = 241 ∨ k = 242 ∨ k = 243 ∨ k = 244 ∨ k = 245 ∨ k = 246 ∨ k = 247 ∨ k = 248 ∨ k = 249 ∨ k = 250 ∨ k = 251 ∨ k = 252 ∨ k = 253 ∨ k = 254 ∨ k = 255 ∨ k = 256 ∨ k = 257 ∨ k = 258 ∨ k = 259 := by omega
  · exact mOk240
  · exact mOk241
  · exact mOk242
  · exact mOk243
  · exact mOk244
  · exact mOk245
  · exact mOk246
  · exact mOk247
  · exact mOk248
  · exact mOk249
  · exact mOk250
  · exact mOk251
  · exact mOk252
  · exact mOk253
  · exact mOk254
  · exact mOk255
  · exact mOk256
  · exact mOk257
  · exact mOk258
  · exact mOk259
theorem mOkG13 {k : Nat} (h1 : 260 ≤ k) (h2 : k < 280) : mOkP k := by
  obtain rfl | rfl | rfl | rfl | rfl | rfl | rfl | rfl | rfl | rfl | rfl | rfl | rfl | rfl | rfl | rfl | rfl | rfl | rfl | rfl : k = 260 ∨ k = 261 ∨ k = 262 ∨ k = 263 ∨ k = 264 ∨ k = 265 ∨ k = 266 ∨ k = 267 ∨ k = 268 ∨ k = 269 ∨ k = 270 ∨ k = 271 ∨ k = 272 ∨ k = 273 ∨ k = 274 ∨ k = 275 ∨ k = 276 ∨ k = 277 ∨ k = 278 ∨ k = 279 := by omega
  · exact mOk260
  · exact mOk261
  · exact mOk262
  · exact mOk263
  · exact mOk264
  · exact mOk265
  · exact mOk266
  · exact mOk267
  · exact mOk268
  · exact mOk269
  · exact mOk270
  · exact mOk271
  · exact mOk272
  · exact mOk273
  · exact mOk274
  · exact mOk275
  · exact mOk276
  · exact mOk277
  · exact mOk278
  · exact mOk279
theorem mOkG14 {k : Nat} (h1 : 280 ≤ k) (h2 : k < 300) : mOkP k := by
  obtain rfl | rfl | rfl | rfl | rfl | rfl | rfl | rfl | rfl | rfl | rfl | rfl | rfl | rfl | rfl | rfl | rfl | rfl | rfl | rfl : k = 280 ∨ k = 281 ∨ k = 282 ∨ k = 283 ∨ k = 284 ∨ k = 285 ∨ k = 286 ∨ k = 287 ∨ k = 288 ∨ k = 289 ∨ k = 290 ∨ k = 291 ∨ k = 292 ∨ k = 293 ∨ k = 294 ∨ k = 295 ∨ k = 296 ∨ k = 297 ∨ k = 298 ∨ k = 299 := by omega
  · exact mOk280
  · exact mOk281
  · exact mOk282
  · exact mOk283
  · exact mOk284
  · exact mOk285
  · exact mOk286
  · exact mOk287
  · exact mOk288
  · exact mOk289
  · exact mOk290
  · exact mOk291
  · exact mOk292
  · exact mOk293
  · exact mOk294
  · exact mOk295
  · exact mOk296
  · exact mOk297
  · exact mOk298
  · exact mOk299
theorem mOkG15 {k : Nat} (h1 : 300 ≤ k) (h2 : k < 318) : mOkP k := by
  obtain rfl | rfl | rfl | rfl | rfl | rfl | rfl | rfl | rfl | rfl | rfl | rfl | rfl | rfl | rfl | rfl | rfl | rfl : k = 300 ∨ k = 301 ∨ k = 302 ∨ k = 303 ∨ k = 304 ∨ k = 305 ∨ k = 306 ∨ k = 307 ∨ k = 308 ∨ k = 309 ∨ k = 310 ∨ k = 311 ∨ k = 312 ∨ k = 313 ∨ k = 314 ∨ k = 315 ∨ k = 316 ∨ k = 317 := by omega
  · exact mOk300
  · exact mOk301
  · exact mOk302
  · exact mOk303
  · exact mOk304
  · exact mOk305
  · exact mOk306
  · exact mOk307
  · exact mOk308
  · exact mOk309
  · exact mOk310
  · exact mOk311
  · exact mOk312
  · exact mOk313
  · exact mOk314
  · exact mOk315
  · exact mOk316
  · exact mOk317
theorem mOk {k : Nat} (h : k < 318) : mOkP k := by
  by_cases h0 : k < 20
  · exact mOkG0 (by omega) h0
  by_cases h1 : k < 40
  · exact mOkG1 (by omega) h1
  by_cases h2 : k < 60
  · exact mOkG2 (by omega) h2
  by_cases h3 : k < 80
  · exact mOkG3 (by omega) h3
  by_cases h4 : k < 100
  · exact mOkG4 (by omega) h4
  by_cases h5 : k < 120
  · exact mOkG5 (by omega) h5
  by_cases h6 : k < 140
  · exact mOkG6 (by omega) h6
  by_cases h7 : k < 160
  · exact mOkG7 (by omega) h7
  by_cases h8 : k < 180
  · exact mOkG8 (by omega) h8
  by_cases h9 : k < 200
  · exact mOkG9 (by omega) h9
  by_cases h10 : k < 220
  · exact mOkG10 (by omega) h10
  by_cases h11 : k < 240
  · exact mOkG11 (by omega) h11
  by_cases h12 : k < 260
  · exact mOkG12 (by omega) h12
  by_cases h13 : k < 280
  · exact mOkG13 (by omega) h13
  by_cases h14 : k < 300
  · exact mOkG14 (by omega) h14
  exact mOkG15 (by omega) h
