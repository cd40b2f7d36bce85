/-! the links: each by the words of the tables (places printed by wip/whole/tools/gen_hints.py) -/
def mOw (o : Nat) : String := match mOwn[o]? with
  | some s => s
  | none => ""
def mWt (j : Nat) : List Cond := match j with
  | 1 => tables_1_1
  | 2 => tables_1_2
  | 3 => tables_1_3
  | 4 => tables_1_4
  | 5 => tables_1_5
  | 6 => tables_1_6
  | 7 => tables_1_7
  | 8 => tables_1_8
  | 9 => tables_1_9
  | 10 => tables_1_10
  | 11 => tables_1_11
  | 12 => k2_sels lw_privs_1
  | 13 => k2_sels lw_privs_2
  | 14 => k2_sels lw_privs_3
  | 15 => k2_sels lw_privs_4
  | 16 => k2_sels lw_privs_5
  | 17 => k2_sels lw_privs_6
  | _ => []
theorem mWt_sub {j : Nat} {w : Cond} (h : w ∈ mWt j) : w ∈ lw_tbl := by
  have kt : w ∈ tables_1 → w ∈ lw_tbl := fun q => List.mem_append_right _ q
  have kp : w ∈ k2_sels lw_privs → w ∈ lw_tbl := fun q => List.mem_append_left _ q
  have km : ∀ {a b : List (MethodName × Nat)}, w ∈ k2_sels a ∨ w ∈ k2_sels b → w ∈ k2_sels (a ++ b) := fun q => by
    unfold k2_sels at q ⊢
    rw [List.map_append]
    exact List.mem_append.mpr q
  unfold tables_1 at kt
  unfold lw_privs at kp
  match j, h with
  | 1, h => exact kt (List.mem_append_left _ h)
  | 2, h => exact kt (List.mem_append_right _ (List.mem_append_left _ h))
  | 3, h => exact kt (List.mem_append_right _ (List.mem_append_right _ (List.mem_append_left _ h)))
  | 4, h => exact kt (List.mem_append_right _ (List.mem_append_right _ (List.mem_append_right _ (List.mem_append_left _ h))))
  | 5, h => exact kt (List.mem_append_right _ (List.mem_append_right _ (List.mem_append_right _ (List.mem_append_right _ (List.mem_append_left _ h)))))
  | 6, h => exact kt (List.mem_append_right _ (List.mem_append_right _ (List.mem_append_right _ (List.mem_append_right _ (List.mem_append_right _ (List.mem_append_left _ h))))))
  | 7, h => exact kt (List.mem_append_right _ (List.mem_append_right _ (List.mem_append_right _ (List.mem_append_right _ (List.mem_append_right _ (List.mem_append_right _ (List.mem_append_left _ h)))))))
  | 8, h => exact kt (List.mem_append_right _ (List.mem_append_right _ (List.mem_append_right _ (List.mem_append_right _ (List.mem_append_right _ (List.mem_append_right _ (List.mem_append_right _ (List.mem_append_left _ h))))))))
  | 9, h => exact kt (List.mem_append_right _ (List.mem_append_right _ (List.mem_append_right _ (List.mem_append_right _ (List.mem_append_right _ (List.mem_append_right _ (List.mem_append_right _ (List.mem_append_right _ (List.mem_append_left _ h)))))))))
  | 10, h => exact kt (List.mem_append_right _ (List.mem_append_right _ (List.mem_append_right _ (List.mem_append_right _ (List.mem_append_right _ (List.mem_append_right _ (List.mem_append_right _ (List.mem_append_right _ (List.mem_append_right _ (List.mem_append_left _ h))))))))))
  | 11, h => exact kt (List.mem_append_right _ (List.mem_append_right _ (List.mem_append_right _ (List.mem_append_right _ (List.mem_append_right _ (List.mem_append_right _ (List.mem_append_right _ (List.mem_append_right _ (List.mem_append_right _ (List.mem_append_right _ h))))))))))
  | 12, h => exact kp (km (Or.inl h))
  | 13, h => exact kp (km (Or.inr (km (Or.inl h))))
  | 14, h => exact kp (km (Or.inr (km (Or.inr (km (Or.inl h))))))
  | 15, h => exact kp (km (Or.inr (km (Or.inr (km (Or.inr (km (Or.inl h))))))))
  | 16, h => exact kp (km (Or.inr (km (Or.inr (km (Or.inr (km (Or.inr (km (Or.inl h))))))))))
  | 17, h => exact kp (km (Or.inr (km (Or.inr (km (Or.inr (km (Or.inr (km (Or.inr h))))))))))
  | 0, h => exact absurd h List.not_mem_nil
  | n + 18, h => exact absurd h List.not_mem_nil
def mAt (i : Nat) (w : Cond) : Bool := decide ((mWt (i / 1000))[i % 1000]? = some w) && mGood w
theorem mAt_ok {i : Nat} {w : Cond} (h : mAt i w = true) : w ∈ mTbl := by
  unfold mAt at h
  simp only [Bool.and_eq_true, decide_eq_true_eq] at h
  exact List.mem_filter.mpr ⟨mWt_sub (List.mem_of_getElem? h.1), h.2⟩
def mExc : List String := ["java/lang/IllegalArgumentException", "java/lang/IndexOutOfBoundsException", "java/lang/IllegalStateException", "java/util/NoSuchElementException"]
def mEx (i : Nat) : String := match mExc[i]? with
  | some s => s
  | none => ""
def mH (h : List Nat) (k : Nat) : Nat := match h[k]? with
  | some i => i
  | none => 0
def mNpar (y : MethodName) : Option Nat := (parseMethodDescriptor y.desc).map (fun d => d.parameters.length)
def mYok (y : MethodName) (b : Nat) : Bool := decide (y.cls ≠ "java/lang/invoke/MethodHandle") && decide (y.cls ≠ "java/lang/invoke/VarHandle") && decide (mNpar y = some b)
/-- what an entry stands for, and the words that bear it -/
def mCp1 (o i : Nat) (e : Nat × Nat × Nat) (h : List Nat) : Bool := match e with
  | (0, ci, k) => (match mcl[ci]? with
    | some r => Nat.blt k r.2.2 && mAt (mH h 0) (.fieldLink (mOw o) i (r.2.1 k).1 (r.2.1 k).2.1 (r.2.1 k).2.2.1)
    | none => false)
  | (1, a, b) => Nat.blt a mNP && mYok (mprog a).1 b && decide ((mprog a).1.cls = mOw (mprog a).2.2.2.2.1) && mAt (mH h 0) (.methodLink (mOw o) i (mprog a).1) && mAt (mH h 1) (.instanceMethod (mprog a).1) && mAt (mH h 2) (.selects (mprog a).1.cls (mprog a).1 (mprog a).1) && mAt (mH h 3) (.initialized (mprog a).1.cls)
  | (2, a, b) => Nat.blt a mNP && mYok (mprog a).1 b && mAt (mH h 0) (.methodLink (mOw o) i (mprog a).1) && mAt (mH h 1) (.static (mprog a).1) && mAt (mH h 2) (.initialized (mprog a).1.cls)
  | (3, a, b) => Nat.blt a mNP && mYok (mprog a).1 b && decide ((mprog a).1.name = "<init>") && mAt (mH h 0) (.methodLink (mOw o) i (mprog a).1) && mAt (mH h 1) (.instanceMethod (mprog a).1) && mAt (mH h 2) (.initialized (mprog a).1.cls)
  | (4, a, b) => Nat.blt a mNP && mYok (mprog a).1 b && decide ((mprog a).1.name = "<init>") && mAt (mH h 0) (.methodLinkNest (mOw o) i (mprog a).1 "PartingTrains") && mAt (mH h 1) (.instanceMethod (mprog a).1) && mAt (mH h 2) (.initialized (mprog a).1.cls)
  | (5, _, _) => mAt (mH h 0) (.methodLink (mOw o) i objectInit)
  | (6, ci, N) => (match mcl[ci]? with
    | some r => decide (N = r.2.2) && mAt (mH h 0) (.classLink (mOw o) i r.1)
    | none => false)
  | (7, _, _) => mAt (mH h 0) (.classLink (mOw o) i "[[I")
  | (9, v, _) => mAt (mH h 0) (.constant (mOw o) i (Int32.ofNat v))
  | (10, v, _) => mAt (mH h 0) (.constantLong (mOw o) i (Int64.ofNat v))
  | (11, t, _) => (match mStrs[t]? with
    | some q => decide (q.1 = mOw o) && decide (q.2.1 = i)
    | none => false)
  | (12, _, _) => mAt (mH h 0) (.methodLink (mOw o) i arraycopyName)
  | (13, _, _) => mAt (mH h 0) (.methodLink (mOw o) i ⟨"java/lang/String", "length", "()I"⟩)
  | (14, _, _) => mAt (mH h 0) (.methodLink (mOw o) i ⟨"java/lang/String", "charAt", "(I)C"⟩)
  | (15, a, _) => Nat.blt a 4 && mAt (mH h 0) (.classLink (mOw o) i (mEx a)) && mAt (mH h 1) (.initialized (mEx a))
  | (16, a, _) => Nat.blt a 4
  | (17, a, b) => Nat.blt a mNW && !(Nat.blt a mNP) && mYok (mprog a).1 b && mAt (mH h 0) (.methodLink (mOw o) i (mprog a).1) && mAt (mH h 1) (.static (mprog a).1) && mAt (mH h 2) (.initialized (mprog a).1.cls)
  | _ => false
def mCk1 (o : Nat) : Nat → List (Option (Nat × Nat × Nat)) → List (List Nat) → Bool
  | _, [], _ => true
  | i, x :: xs, [] => (match x with
    | none => true
    | some e => mCp1 o i e []) && mCk1 o (i + 1) xs []
  | i, x :: xs, h :: hs => (match x with
    | none => true
    | some e => mCp1 o i e h) && mCk1 o (i + 1) xs hs
theorem mCk1_ok {o : Nat} : ∀ (l : List (Option (Nat × Nat × Nat))) (i : Nat) (hs : List (List Nat)), mCk1 o i l hs = true → ∀ (j : Nat) (e : Nat × Nat × Nat), l[j]? = some (some e) → ∃ h, mCp1 o (i + j) e h = true
  | [], _, _, _, j, e, he => by simp at he
  | x :: xs, i, [], hc, 0, e, he => by
    cases he
    simp only [mCk1, Bool.and_eq_true] at hc
    exact ⟨_, hc.1⟩
  | x :: xs, i, h :: hs, hc, 0, e, he => by
    cases he
    simp only [mCk1, Bool.and_eq_true] at hc
    exact ⟨_, hc.1⟩
  | x :: xs, i, [], hc, j + 1, e, he => by
    simp only [mCk1, Bool.and_eq_true] at hc
    obtain ⟨h, q⟩ := mCk1_ok xs (i + 1) [] hc.2 j e (by simpa using he)
    exact ⟨h, by rw [show i + (j + 1) = i + 1 + j by omega]; exact q⟩
  | x :: xs, i, h :: hs, hc, j + 1, e, he => by
    simp only [mCk1, Bool.and_eq_true] at hc
    obtain ⟨h, q⟩ := mCk1_ok xs (i + 1) hs hc.2 j e (by simpa using he)
    exact ⟨h, by rw [show i + (j + 1) = i + 1 + j by omega]; exact q⟩
theorem mCpT0_0 : mCk1 0 0 mcp0_0 [[], [], [], [3029], [], [], [], [], [], [3030], [], [], [], [], [], [3032]] = true := by decide +kernel
theorem mCpT0_1 : mCk1 0 16 mcp0_1 [[], [], [3034], [], [], [3036], [], [], [3037], [], [], [5004]] = true := by decide +kernel
theorem mCpT0 {j : Nat} {c : List (Option (Nat × Nat × Nat))} (h : mcp0[j]? = some c) : ∃ h, mCk1 0 (16 * j) c h = true := by
  unfold mcp0 at h
  match j, h with
  | 0, h => cases h; exact ⟨_, mCpT0_0⟩
  | 1, h => cases h; exact ⟨_, mCpT0_1⟩
  | n + 2, h => simp at h
theorem mCpT1_0 : mCk1 1 0 mcp1_0 [[], [], [], [3023], [], [], [], [], [], [3053], [], [], [], [], [], [3055]] = true := by decide +kernel
theorem mCpT1_1 : mCk1 1 16 mcp1_1 [[], [], [3056], [], [], [3024], [], [3026, 3027, 1012], [3057], [], [], [], [3058], [], [], [3059]] = true := by decide +kernel
theorem mCpT1_2 : mCk1 1 32 mcp1_2 [[], [], [3062], [], [], [], [3063], [], [], [3050], [], [], [], [3051]] = true := by decide +kernel
theorem mCpT1_3 : mCk1 1 48 mcp1_3 [[], [3052], [], [], [], [2030], [], [], [4158], [], [], [], [], [], [3054]] = true := by decide +kernel
theorem mCpT1_4 : mCk1 1 64 mcp1_4 [[], [], [1052], [], [], [], [], [1058], [], [], [4159, 4160, 4161, 1011], [], [], [], [1201]] = true := by decide +kernel
theorem mCpT1_5 : mCk1 1 80 mcp1_5 [[], [], [], [4163, 4097, 4098, 1003], [], [], [4164, 4165, 4166, 1005], [], [], [3061], [], [], [1078], [], [], [1092]] = true := by decide +kernel
theorem mCpT1_6 : mCk1 1 96 mcp1_6 [[], [], [2035], [], [], [1084], [], [], [4168, 4169, 4170, 1004], [], [], [], [1099], [], [], [4184, 4185, 4186, 1012]] = true := by decide +kernel
theorem mCpT1_7 : mCk1 1 112 mcp1_7 [[], [], [], [4192, 4193, 4194, 1011], [], [], [], [4200, 4201, 4202, 1011], [], [], [4212, 4213, 4214, 1011], [], [], [4154, 4155, 4156, 1011]] = true := by decide +kernel
theorem mCpT1_8 : mCk1 1 128 mcp1_8 [[4176, 4177, 4178, 1011], [], [], [4180, 4181, 4182, 1011], [], [], [4188, 4189, 4190, 1011], [], [], [], [3060], [], [], [3031]] = true := by decide +kernel
theorem mCpT1_9 : mCk1 1 144 mcp1_9 [[4196, 4197, 4198, 1012], [], [], [], [4204, 4205, 4206, 1011], [], [], [3033], [], [], [1208], [], [], [3035]] = true := by decide +kernel
theorem mCpT1_10 : mCk1 1 160 mcp1_10 [[1069], [], [], [4208, 4209, 4210, 1012], [], [], [1074], [], [], [1096], [], [], [4172, 4173, 4174, 1011]] = true := by decide +kernel
theorem mCpT1_11 : mCk1 1 176 mcp1_11 [[4216, 4217, 4218, 1011], [], [], [], [4220, 4221, 4222, 1011], [], [], [4233, 4234, 1006], [], [], [], [], [], [4236, 4237, 4238, 1011]] = true := by decide +kernel
theorem mCpT1_12 : mCk1 1 192 mcp1_12 [[], [5000, 5001, 5002, 1012], [], [], [], [5005, 5006, 5007, 1011], [], [], [], [7165, 7119, 7120, 1011], [], [], [7166, 7123, 7124, 1011], [], [], [2008]] = true := by decide +kernel
theorem mCpT1_13 : mCk1 1 208 mcp1_13 [[], [], [2012], [], [], [3038], [], [], [3064], [], [], [5057, 5058, 5059, 1011], [], [], [5061]] = true := by decide +kernel
theorem mCpT1 {j : Nat} {c : List (Option (Nat × Nat × Nat))} (h : mcp1[j]? = some c) : ∃ h, mCk1 1 (16 * j) c h = true := by
  unfold mcp1 at h
  match j, h with
  | 0, h => cases h; exact ⟨_, mCpT1_0⟩
  | 1, h => cases h; exact ⟨_, mCpT1_1⟩
  | 2, h => cases h; exact ⟨_, mCpT1_2⟩
  | 3, h => cases h; exact ⟨_, mCpT1_3⟩
  | 4, h => cases h; exact ⟨_, mCpT1_4⟩
  | 5, h => cases h; exact ⟨_, mCpT1_5⟩
  | 6, h => cases h; exact ⟨_, mCpT1_6⟩
  | 7, h => cases h; exact ⟨_, mCpT1_7⟩
  | 8, h => cases h; exact ⟨_, mCpT1_8⟩
  | 9, h => cases h; exact ⟨_, mCpT1_9⟩
  | 10, h => cases h; exact ⟨_, mCpT1_10⟩
  | 11, h => cases h; exact ⟨_, mCpT1_11⟩
  | 12, h => cases h; exact ⟨_, mCpT1_12⟩
  | 13, h => cases h; exact ⟨_, mCpT1_13⟩
  | n + 14, h => simp at h
theorem mCpT2_0 : mCk1 2 0 mcp2_0 [[], [], [], [2193], [], [], [], [], [], [2200], [], [], [], [], [], [2201]] = true := by decide +kernel
theorem mCpT2_1 : mCk1 2 16 mcp2_1 [[], [], [2202], [], [], [2203], [], [], [2204], [], [], [2205], [], [], [2206]] = true := by decide +kernel
theorem mCpT2_2 : mCk1 2 32 mcp2_2 [[], [], [2209], [], [], [2213], [], [], [2214], [], [], [2215], [], [], [2194]] = true := by decide +kernel
theorem mCpT2_3 : mCk1 2 48 mcp2_3 [[], [], [2195], [], [], [], [2196], [], [], [], [2197], [], [], [], [2198]] = true := by decide +kernel
theorem mCpT2_4 : mCk1 2 64 mcp2_4 [[], [], [2199], [], [], [], [5079, 3208, 1023], [], [], [], [], [], [3221, 3222, 3223, 1003]] = true := by decide +kernel
theorem mCpT2_5 : mCk1 2 80 mcp2_5 [[], [], [3225, 3226, 3227, 1010], [], [], [], [4088, 4089, 4090, 1010], [], [], [4102, 4103, 4104, 1010], [], [], [2207], [], [], [3229, 3230, 3231, 1007]] = true := by decide +kernel
theorem mCpT2_6 : mCk1 2 96 mcp2_6 [[], [], [], [], [], [4023, 4014, 1025], [], [], [], [], [], [4024, 4025, 4026, 1008]] = true := by decide +kernel
theorem mCpT2_7 : mCk1 2 112 mcp2_7 [[], [4035, 4036, 4037, 1008], [], [], [], [4039, 4040, 4041, 1008], [], [], [2104], [], [], [4047, 4048, 4049, 1010], [], [], [4071, 4072, 4073, 1008]] = true := by decide +kernel
theorem mCpT2_8 : mCk1 2 128 mcp2_8 [[], [4076, 4077, 4078, 1010], [], [], [], [4051, 4052, 4053, 1008], [], [], [1067], [], [], [4059, 4060, 4061, 1008], [], [], [4063, 4064, 4065, 1010]] = true := by decide +kernel
theorem mCpT2_9 : mCk1 2 144 mcp2_9 [[], [2114], [], [], [4067, 4068, 4069, 1008], [], [], [1113], [], [], [1116], [], [], [4080, 4081, 4082, 1004]] = true := by decide +kernel
theorem mCpT2_10 : mCk1 2 160 mcp2_10 [[], [], [], [4084, 4085, 4086, 1004], [], [], [4092, 4093, 4094, 1003], [], [], [2027], [], [], [], [], [2211]] = true := by decide +kernel
theorem mCpT2_11 : mCk1 2 176 mcp2_11 [[], [2212], [], [], [], [1103], [], [], [1106], [], [], [4100, 1235, 1006]] = true := by decide +kernel
theorem mCpT2_12 : mCk1 2 192 mcp2_12 [[], [1239], [], [], [2003], [], [], [4101, 3201, 3202, 1003], [], [], [1080], [], [], [4106, 4107, 4108, 1010]] = true := by decide +kernel
theorem mCpT2_13 : mCk1 2 208 mcp2_13 [[4124, 4125, 4126, 1010], [], [], [4118, 4119, 4120, 1010], [], [], [4128], [], [4110, 4111, 4112, 1010], [], [], [4123]] = true := by decide +kernel
theorem mCpT2_14 : mCk1 2 224 mcp2_14 [[], [4114, 4115, 4116, 1003], [], [], [], [4122, 3211, 1023]] = true := by decide +kernel
theorem mCpT2 {j : Nat} {c : List (Option (Nat × Nat × Nat))} (h : mcp2[j]? = some c) : ∃ h, mCk1 2 (16 * j) c h = true := by
  unfold mcp2 at h
  match j, h with
  | 0, h => cases h; exact ⟨_, mCpT2_0⟩
  | 1, h => cases h; exact ⟨_, mCpT2_1⟩
  | 2, h => cases h; exact ⟨_, mCpT2_2⟩
  | 3, h => cases h; exact ⟨_, mCpT2_3⟩
  | 4, h => cases h; exact ⟨_, mCpT2_4⟩
  | 5, h => cases h; exact ⟨_, mCpT2_5⟩
  | 6, h => cases h; exact ⟨_, mCpT2_6⟩
  | 7, h => cases h; exact ⟨_, mCpT2_7⟩
  | 8, h => cases h; exact ⟨_, mCpT2_8⟩
  | 9, h => cases h; exact ⟨_, mCpT2_9⟩
  | 10, h => cases h; exact ⟨_, mCpT2_10⟩
  | 11, h => cases h; exact ⟨_, mCpT2_11⟩
  | 12, h => cases h; exact ⟨_, mCpT2_12⟩
  | 13, h => cases h; exact ⟨_, mCpT2_13⟩
  | 14, h => cases h; exact ⟨_, mCpT2_14⟩
  | n + 15, h => simp at h
theorem mCpT3_0 : mCk1 3 0 mcp3_0 [[], [], [], [2159], [], [], [], [], [], [2164], [], [], [], [], [], [2166]] = true := by decide +kernel
theorem mCpT3_1 : mCk1 3 16 mcp3_1 [[], [], [2168], [], [], [2160], [], [], [], [2161], [], [], [], [2162]] = true := by decide +kernel
theorem mCpT3_2 : mCk1 3 32 mcp3_2 [[], [2163], [], [], [], [2170], [], [], [], [7002, 1235, 1006], [], [], [], [], [], [1238]] = true := by decide +kernel
theorem mCpT3_3 : mCk1 3 48 mcp3_3 [[], [], [], [], [7003, 7004, 7005, 1009], [], [], [], [7029, 7030, 7031, 1009], [], [], [], [2010], [], [], [2006]] = true := by decide +kernel
theorem mCpT3_4 : mCk1 3 64 mcp3_4 [[], [], [2002], [], [], [7007, 4025, 4026, 1008], [], [], [], [], [], [7008, 4036, 4037, 1008], [], [], [], [7009, 7010, 7011, 1009]] = true := by decide +kernel
theorem mCpT3_5 : mCk1 3 80 mcp3_5 [[], [], [], [2102], [], [], [2116], [], [], [2112], [], [], [2106], [], [], [2095]] = true := by decide +kernel
theorem mCpT3_6 : mCk1 3 96 mcp3_6 [[2108], [], [2110], [], [], [7028, 4072, 4073, 1008], [], [], [7013, 4052, 4053, 1008], [], [], [1066]] = true := by decide +kernel
theorem mCpT3_7 : mCk1 3 112 mcp3_7 [[7014, 4040, 4041, 1008], [], [], [7015, 4097, 4098, 1003], [], [], [], [7016, 4165, 4166, 1005], [], [], [7017, 4060, 4061, 1008], [], [], [7018, 7019, 7020, 1009]] = true := by decide +kernel
theorem mCpT3_8 : mCk1 3 128 mcp3_8 [[7022, 7023, 7024, 1009], [], [], [], [2118], [], [], [7027, 4068, 4069, 1008], [], [], [7026, 4115, 4116, 1003], [], [], [], [1112]] = true := by decide +kernel
theorem mCpT3_9 : mCk1 3 144 mcp3_9 [[], [7059, 7060, 7061, 1009], [], [], [7063, 7064, 7065, 1009], [], [], [7074, 3211, 1023], [], [], [], [], [7067, 7068, 7069, 1009], [], [], [7071, 3201, 3202, 1003]] = true := by decide +kernel
theorem mCpT3_10 : mCk1 3 160 mcp3_10 [[], [], [1117], [], [], [7072, 4081, 4082, 1004], [], [], [], [], [], [7073, 4085, 4086, 1004], [], [], [1198]] = true := by decide +kernel
theorem mCpT3_11 : mCk1 3 176 mcp3_11 [[], [1087]] = true := by decide +kernel
theorem mCpT3 {j : Nat} {c : List (Option (Nat × Nat × Nat))} (h : mcp3[j]? = some c) : ∃ h, mCk1 3 (16 * j) c h = true := by
  unfold mcp3 at h
  match j, h with
  | 0, h => cases h; exact ⟨_, mCpT3_0⟩
  | 1, h => cases h; exact ⟨_, mCpT3_1⟩
  | 2, h => cases h; exact ⟨_, mCpT3_2⟩
  | 3, h => cases h; exact ⟨_, mCpT3_3⟩
  | 4, h => cases h; exact ⟨_, mCpT3_4⟩
  | 5, h => cases h; exact ⟨_, mCpT3_5⟩
  | 6, h => cases h; exact ⟨_, mCpT3_6⟩
  | 7, h => cases h; exact ⟨_, mCpT3_7⟩
  | 8, h => cases h; exact ⟨_, mCpT3_8⟩
  | 9, h => cases h; exact ⟨_, mCpT3_9⟩
  | 10, h => cases h; exact ⟨_, mCpT3_10⟩
  | 11, h => cases h; exact ⟨_, mCpT3_11⟩
  | n + 12, h => simp at h
theorem mCpT4_0 : mCk1 4 0 mcp4_0 [[], [], [], [1048], [], [], [], [], [], [1056], [], [], [], [], [], [1061]] = true := by decide +kernel
theorem mCpT4_1 : mCk1 4 16 mcp4_1 [[], [], [1065], [], [], [1070], [], [], [1073], [], [], [1083], [], [], [1090]] = true := by decide +kernel
theorem mCpT4_2 : mCk1 4 32 mcp4_2 [[], [1095], [], [], [1098], [], [], [1105], [], [], [1108], [], [], [1115]] = true := by decide +kernel
theorem mCpT4_3 : mCk1 4 48 mcp4_3 [[1119], [], [], [1121], [], [], [1049], [], [], [], [1076], [], [], [1101]] = true := by decide +kernel
theorem mCpT4_4 : mCk1 4 64 mcp4_4 [[1110], [], [], [5173, 1235, 1006], [], [], [], [], [], [6055], [], [], [], [], [], [4096, 4097, 4098, 1003]] = true := by decide +kernel
theorem mCpT4_5 : mCk1 4 80 mcp4_5 [[], [], [], [3204, 3205, 1023], [], [], [], [], [], [3207, 3208, 1023]] = true := by decide +kernel
theorem mCpT4 {j : Nat} {c : List (Option (Nat × Nat × Nat))} (h : mcp4[j]? = some c) : ∃ h, mCk1 4 (16 * j) c h = true := by
  unfold mcp4 at h
  match j, h with
  | 0, h => cases h; exact ⟨_, mCpT4_0⟩
  | 1, h => cases h; exact ⟨_, mCpT4_1⟩
  | 2, h => cases h; exact ⟨_, mCpT4_2⟩
  | 3, h => cases h; exact ⟨_, mCpT4_3⟩
  | 4, h => cases h; exact ⟨_, mCpT4_4⟩
  | 5, h => cases h; exact ⟨_, mCpT4_5⟩
  | n + 6, h => simp at h
theorem mCpT5_0 : mCk1 5 0 mcp5_0 [[], [], [], [2072], [], [], [], [], [], [2075], [], [], [], [], [], [2076]] = true := by decide +kernel
theorem mCpT5_1 : mCk1 5 16 mcp5_1 [[], [], [2073], [], [], [], [2074], [], [], [], [1050]] = true := by decide +kernel
theorem mCpT5_2 : mCk1 5 32 mcp5_2 [[1204], [], [], [], [], [4013, 4014, 1025], [], [], [], [], [], [6136, 6137, 6138, 1007], [], [], [4005, 4006, 4007, 1007]] = true := by decide +kernel
theorem mCpT5_3 : mCk1 5 48 mcp5_3 [[], [], [1059], [], [], [1202], [], [], [3233, 3234, 3235, 1007], [], [], [], [4001, 4002, 4003, 1007], [], [], [4019, 4020, 4021, 1007]] = true := by decide +kernel
theorem mCpT5_4 : mCk1 5 64 mcp5_4 [[], [], [], [3237, 3238, 3239, 1007], [], [], [4009, 4010, 4011, 1007], [], [], [1081]] = true := by decide +kernel
theorem mCpT5 {j : Nat} {c : List (Option (Nat × Nat × Nat))} (h : mcp5[j]? = some c) : ∃ h, mCk1 5 (16 * j) c h = true := by
  unfold mcp5 at h
  match j, h with
  | 0, h => cases h; exact ⟨_, mCpT5_0⟩
  | 1, h => cases h; exact ⟨_, mCpT5_1⟩
  | 2, h => cases h; exact ⟨_, mCpT5_2⟩
  | 3, h => cases h; exact ⟨_, mCpT5_3⟩
  | 4, h => cases h; exact ⟨_, mCpT5_4⟩
  | n + 5, h => simp at h
theorem mCpT6_0 : mCk1 6 0 mcp6_0 [[], [], [], [1229], [], [], [], [], [], [2001], [], [], [], [], [], [2005]] = true := by decide +kernel
theorem mCpT6_1 : mCk1 6 16 mcp6_1 [[], [], [2009], [], [], [2013], [], [], [2018], [], [], [2020], [], [], [2022]] = true := by decide +kernel
theorem mCpT6_2 : mCk1 6 32 mcp6_2 [[], [2024], [], [], [2029], [], [], [2032], [], [], [2034], [], [], [1230, 1231, 1232, 1005]] = true := by decide +kernel
theorem mCpT6_3 : mCk1 6 48 mcp6_3 [[1237], [], [], [], [2015], [], [], [2026], [], [], [1234, 1235, 1006]] = true := by decide +kernel
theorem mCpT6_4 : mCk1 6 64 mcp6_4 [[5070]] = true := by decide +kernel
theorem mCpT6 {j : Nat} {c : List (Option (Nat × Nat × Nat))} (h : mcp6[j]? = some c) : ∃ h, mCk1 6 (16 * j) c h = true := by
  unfold mcp6 at h
  match j, h with
  | 0, h => cases h; exact ⟨_, mCpT6_0⟩
  | 1, h => cases h; exact ⟨_, mCpT6_1⟩
  | 2, h => cases h; exact ⟨_, mCpT6_2⟩
  | 3, h => cases h; exact ⟨_, mCpT6_3⟩
  | 4, h => cases h; exact ⟨_, mCpT6_4⟩
  | n + 5, h => simp at h
theorem mCpT7_0 : mCk1 7 0 mcp7_0 [[], [], [], [1042], [], [], [], [], [], [1043], [], [1045, 1046, 1003], [1162]] = true := by decide +kernel
theorem mCpT7_1 : mCk1 7 16 mcp7_1 [[], [], [1164], [], [], [], [1169], [], [], [], [1165], [], [], [1166]] = true := by decide +kernel
theorem mCpT7_2 : mCk1 7 32 mcp7_2 [[1168], [], [], [5169, 5170, 5171, 1003], [], [], [5174, 5175, 5176, 1002], [], [], [5182, 5183, 5184, 1002], [], [], [6013, 6014, 6015, 1002]] = true := by decide +kernel
theorem mCpT7_3 : mCk1 7 48 mcp7_3 [[1167], [], [], [5191], [], [], [], [], [5201], [], [], [], [6007], [6008, 3208, 1023]] = true := by decide +kernel
theorem mCpT7_4 : mCk1 7 64 mcp7_4 [[], [], [], [5239, 6000, 6001, 1002], [], [], [], [5178, 5179, 5180, 1002], [], [], [], [], [5187, 5188, 5189, 1002]] = true := by decide +kernel
theorem mCpT7_5 : mCk1 7 80 mcp7_5 [[6003, 6004, 6005, 1002], [], [], [6009, 6010, 6011, 1002], [], [], [], [1068], [], [], [], [1060], [], [], [1063]] = true := by decide +kernel
theorem mCpT7_6 : mCk1 7 96 mcp7_6 [[], [1054], [], [], [], [], [6018, 6019, 6020, 1002], [], [], [], [], [6027, 6028, 6029, 1002]] = true := by decide +kernel
theorem mCpT7_7 : mCk1 7 112 mcp7_7 [[1082], [], [], [6032, 6033, 6034, 1002], [], [], [], [], [6037, 6038, 6039, 1002], [], [], [], [], [1104]] = true := by decide +kernel
theorem mCpT7_8 : mCk1 7 128 mcp7_8 [[6042, 6043, 6044, 1002], [], [], [], [], [1114], [], [], [6047, 6048, 6049, 1002], [], [], [6022, 6023, 6024, 1002], [], [], [1072]] = true := by decide +kernel
theorem mCpT7_9 : mCk1 7 144 mcp7_9 [[], [1075], [], [], [1088], [], [], [1093], [], [], [1097], [], [], [1100]] = true := by decide +kernel
theorem mCpT7_10 : mCk1 7 160 mcp7_10 [[1107], [], [], [1109], [], [], [1118], [], [], [1120], [], [], [1122]] = true := by decide +kernel
theorem mCpT7 {j : Nat} {c : List (Option (Nat × Nat × Nat))} (h : mcp7[j]? = some c) : ∃ h, mCk1 7 (16 * j) c h = true := by
  unfold mcp7 at h
  match j, h with
  | 0, h => cases h; exact ⟨_, mCpT7_0⟩
  | 1, h => cases h; exact ⟨_, mCpT7_1⟩
  | 2, h => cases h; exact ⟨_, mCpT7_2⟩
  | 3, h => cases h; exact ⟨_, mCpT7_3⟩
  | 4, h => cases h; exact ⟨_, mCpT7_4⟩
  | 5, h => cases h; exact ⟨_, mCpT7_5⟩
  | 6, h => cases h; exact ⟨_, mCpT7_6⟩
  | 7, h => cases h; exact ⟨_, mCpT7_7⟩
  | 8, h => cases h; exact ⟨_, mCpT7_8⟩
  | 9, h => cases h; exact ⟨_, mCpT7_9⟩
  | 10, h => cases h; exact ⟨_, mCpT7_10⟩
  | n + 11, h => simp at h
theorem mCpT8_0 : mCk1 8 0 mcp8_0 [[], [], [], [3101], [], [], [], [], [], [3105], [], [], [], [], [], [3106]] = true := by decide +kernel
theorem mCpT8_1 : mCk1 8 16 mcp8_1 [[], [], [3107], [], [], [3109], [], [], [3102], [], [], [], [3103]] = true := by decide +kernel
theorem mCpT8_2 : mCk1 8 32 mcp8_2 [[3104], [], [], [], [2025], [], [], [], [], [2023], [], [], [2019], [], [], [5026, 4169, 4170, 1004]] = true := by decide +kernel
theorem mCpT8_3 : mCk1 8 48 mcp8_3 [[], [], [], [], [], [2021], [], [], [5021, 1235, 1006], [], [], [], [], [], [2016]] = true := by decide +kernel
theorem mCpT8_4 : mCk1 8 64 mcp8_4 [[], [], [5022, 5023, 5024, 1013], [], [], [], [5017, 5018, 5019, 1013], [], [], [5027, 5028, 5029, 1013], [], [], [], [5031, 5032, 5033, 1013]] = true := by decide +kernel
theorem mCpT8_5 : mCk1 8 80 mcp8_5 [[], [3108], [], [], [5035, 5036, 5037, 1013], [], [], [], [5039, 4014, 1025], [], [], [], [], [5048, 5014, 5015, 1013]] = true := by decide +kernel
theorem mCpT8_6 : mCk1 8 96 mcp8_6 [[7234, 7235, 7236, 1013], [], [], [3110], [], [], [8000, 8001, 8002, 1013], [], [], [3112], [], [], [8004, 8005, 8006, 1013]] = true := by decide +kernel
theorem mCpT8_7 : mCk1 8 112 mcp8_7 [[1055], [], [], [], [], [7238, 4097, 4098, 1003], [], [], [7239, 3208, 1023]] = true := by decide +kernel
theorem mCpT8 {j : Nat} {c : List (Option (Nat × Nat × Nat))} (h : mcp8[j]? = some c) : ∃ h, mCk1 8 (16 * j) c h = true := by
  unfold mcp8 at h
  match j, h with
  | 0, h => cases h; exact ⟨_, mCpT8_0⟩
  | 1, h => cases h; exact ⟨_, mCpT8_1⟩
  | 2, h => cases h; exact ⟨_, mCpT8_2⟩
  | 3, h => cases h; exact ⟨_, mCpT8_3⟩
  | 4, h => cases h; exact ⟨_, mCpT8_4⟩
  | 5, h => cases h; exact ⟨_, mCpT8_5⟩
  | 6, h => cases h; exact ⟨_, mCpT8_6⟩
  | 7, h => cases h; exact ⟨_, mCpT8_7⟩
  | n + 8, h => simp at h
theorem mCpT9_0 : mCk1 9 0 mcp9_0 [[], [], [], [1193], [], [], [], [], [], [1195], [], [], [], [], [], [1196]] = true := by decide +kernel
theorem mCpT9_1 : mCk1 9 16 mcp9_1 [[], [], [1197], [], [], [1200], [], [], [1203], [], [], [1205], [], [], [1194]] = true := by decide +kernel
theorem mCpT9_2 : mCk1 9 32 mcp9_2 [[], [], [1051], [], [], [], [], [], [1057], [], [], [6060, 6061, 6062, 1004], [], [], [], [6064, 6065, 6066, 1004]] = true := by decide +kernel
theorem mCpT9_3 : mCk1 9 48 mcp9_3 [[], [], [6068, 6069, 6070, 1004], [], [], [1077], [], [], [1091], [], [], [1062], [], [], [1085]] = true := by decide +kernel
theorem mCpT9 {j : Nat} {c : List (Option (Nat × Nat × Nat))} (h : mcp9[j]? = some c) : ∃ h, mCk1 9 (16 * j) c h = true := by
  unfold mcp9 at h
  match j, h with
  | 0, h => cases h; exact ⟨_, mCpT9_0⟩
  | 1, h => cases h; exact ⟨_, mCpT9_1⟩
  | 2, h => cases h; exact ⟨_, mCpT9_2⟩
  | 3, h => cases h; exact ⟨_, mCpT9_3⟩
  | n + 4, h => simp at h
theorem mCpT10_0 : mCk1 10 0 mcp10_0 [[], [], [], [2091], [], [], [], [], [], [2094], [], [], [], [], [], [2097]] = true := by decide +kernel
theorem mCpT10_1 : mCk1 10 16 mcp10_1 [[], [], [2098], [], [], [2099], [], [], [2100], [], [], [2101], [], [], [2115]] = true := by decide +kernel
theorem mCpT10_2 : mCk1 10 32 mcp10_2 [[], [2117], [], [], [2092], [], [], [], [2093], [], [], [], [4028]] = true := by decide +kernel
theorem mCpT10_3 : mCk1 10 48 mcp10_3 [[], [], [2096], [], [], [], [4031, 4032, 4033, 1008], [], [], [], [2103], [], [], [2105]] = true := by decide +kernel
theorem mCpT10_4 : mCk1 10 64 mcp10_4 [[2107], [], [], [2109], [], [], [2111], [], [], [2113], [], [], [1086]] = true := by decide +kernel
theorem mCpT10_5 : mCk1 10 80 mcp10_5 [[], [4043, 4044, 4045, 1004], [], [], [], [], [], [1207], [], [], [4055, 4056, 4057, 1008], [], [], [4075, 4060, 4061, 1008]] = true := by decide +kernel
theorem mCpT10_6 : mCk1 10 96 mcp10_6 [[], [1071], [], [], [1064], [], [], [8032, 4025, 4026, 1008], [], [], [], [8033, 4036, 4037, 1008], [], [], [], [8034, 4040, 4041, 1008]] = true := by decide +kernel
theorem mCpT10_7 : mCk1 10 112 mcp10_7 [[], [], [8035, 4072, 4073, 1008], [], [], [8048, 8049, 8050, 1008], [], [], [1199]] = true := by decide +kernel
theorem mCpT10 {j : Nat} {c : List (Option (Nat × Nat × Nat))} (h : mcp10[j]? = some c) : ∃ h, mCk1 10 (16 * j) c h = true := by
  unfold mcp10 at h
  match j, h with
  | 0, h => cases h; exact ⟨_, mCpT10_0⟩
  | 1, h => cases h; exact ⟨_, mCpT10_1⟩
  | 2, h => cases h; exact ⟨_, mCpT10_2⟩
  | 3, h => cases h; exact ⟨_, mCpT10_3⟩
  | 4, h => cases h; exact ⟨_, mCpT10_4⟩
  | 5, h => cases h; exact ⟨_, mCpT10_5⟩
  | 6, h => cases h; exact ⟨_, mCpT10_6⟩
  | 7, h => cases h; exact ⟨_, mCpT10_7⟩
  | n + 8, h => simp at h
theorem mCpT11_0 : mCk1 11 0 mcp11_0 [[], [], [], [1034], [], [], [], [], [], [3135], [], [], [], [3136]] = true := by decide +kernel
theorem mCpT11_1 : mCk1 11 16 mcp11_1 [[], [3137], [], [], [1037], [], [1039, 1040, 1002], [], [], [3138], [], [], [], [1186], [], [1187, 1046, 1003]] = true := by decide +kernel
theorem mCpT11_2 : mCk1 11 32 mcp11_2 [[3139], [], [], [], [1188], [], [1190, 1191, 1004], [], [], [3140], [], [], [], [1224], [], [1226, 1227, 1005]] = true := by decide +kernel
theorem mCpT11_3 : mCk1 11 48 mcp11_3 [[3141], [], [], [], [3142], [], [], [], [3143], [], [], [2067], [], [2069, 2070, 1007]] = true := by decide +kernel
theorem mCpT11_4 : mCk1 11 64 mcp11_4 [[3144], [], [], [], [2086], [], [2088, 2089, 1008], [3145], [], [], [], [2154], [], [2156, 2157, 1009]] = true := by decide +kernel
theorem mCpT11_5 : mCk1 11 80 mcp11_5 [[3146], [], [], [], [2188], [], [2190, 2191, 1010], [], [], [3147], [], [], [], [3018], [], [3020, 3021, 1011]] = true := by decide +kernel
theorem mCpT11_6 : mCk1 11 96 mcp11_6 [[], [], [3148], [], [], [], [3096], [], [3098, 3099, 1013], [3149], [], [], [], [3150]] = true := by decide +kernel
theorem mCpT11_7 : mCk1 11 112 mcp11_7 [[], [3188, 3190, 12000, 1001], [], [], [], [5097, 1018], [], [], [], [], [], [], [5165, 5166, 5167, 1002]] = true := by decide +kernel
theorem mCpT11_8 : mCk1 11 128 mcp11_8 [[1170], [1163], [], [], [6051, 6052, 6053, 1003], [], [], [6056, 6057, 6058, 1004], [], [], [6072, 1231, 1232, 1005], [], [], [6073, 6074, 6075, 1010]] = true := by decide +kernel
theorem mCpT11_9 : mCk1 11 144 mcp11_9 [[1053], [], [], [1079], [], [], [1102], [], [], [1111], [], [], [6084, 4093, 4094, 1003]] = true := by decide +kernel
theorem mCpT11_10 : mCk1 11 160 mcp11_10 [[5088, 4014, 1025], [], [], [], [], [1206], [], [], [6085, 3222, 3223, 1003], [], [], [], [], [6095, 6097, 12003, 1001]] = true := by decide +kernel
theorem mCpT11_11 : mCk1 11 176 mcp11_11 [[6119, 4169, 4170, 1004], [], [], [], [6127, 6129, 12004, 1001], [], [], [6132, 6133, 6134, 1007], [], [], [4145, 3230, 3231, 1007]] = true := by decide +kernel
theorem mCpT11_12 : mCk1 11 192 mcp11_12 [[6156, 1027], [], [], [], [], [2000], [], [], [5075, 5076, 5077, 1010], [], [], [6172, 6173, 6174, 1005], [], [], [6184, 6186, 12005, 1001]] = true := by decide +kernel
theorem mCpT11_13 : mCk1 11 208 mcp11_13 [[], [6204, 6206, 12006, 1001], [], [], [2014], [], [], [4137, 4138, 4139, 1005], [], [], [], [2007], [], [], [2011]] = true := by decide +kernel
theorem mCpT11_14 : mCk1 11 224 mcp11_14 [[], [6216], [], [], [], [], [], [4141, 4142, 4143, 1005], [], [], [4133, 4134, 4135, 1005], [], [], [6238, 6239, 7000, 1009]] = true := by decide +kernel
theorem mCpT11_15 : mCk1 11 240 mcp11_15 [[2165], [], [], [2167], [], [2169], [], [], [], [], [7055, 7056, 7057, 1009], [], [], [7075, 7060, 7061, 1009]] = true := by decide +kernel
theorem mCpT11_16 : mCk1 11 256 mcp11_16 [[3217, 3218, 3219, 1010], [], [], [], [2208], [], [], [2210], [], [], [2004], [], [], [3200, 3201, 3202, 1003]] = true := by decide +kernel
theorem mCpT11_17 : mCk1 11 272 mcp11_17 [[3210, 3211, 1023], [], [], [], [], [4129, 4131, 12001, 1001], [], [], [7090, 7092, 12007, 1001], [], [], [7095, 4165, 4166, 1005], [], [], [], [2028]] = true := by decide +kernel
theorem mCpT11_18 : mCk1 11 288 mcp11_18 [[], [], [2036], [], [], [], [], [2031], [], [], [7118, 7119, 7120, 1011], [], [], [7122, 7123, 7124, 1011]] = true := by decide +kernel
theorem mCpT11_19 : mCk1 11 304 mcp11_19 [[7133, 7134, 7135, 1011], [], [], [7144, 4221, 4222, 1011], [], [], [4150, 4151, 4152, 1011], [], [], [], [4229, 4230, 4231, 1011], [], [], [4228, 4097, 4098, 1003]] = true := by decide +kernel
theorem mCpT11_20 : mCk1 11 320 mcp11_20 [[], [], [], [], [7161, 7162, 7163, 1011], [], [], [], [7174, 7175, 7176, 1011], [], [], [], [], [1089]] = true := by decide +kernel
theorem mCpT11_21 : mCk1 11 336 mcp11_21 [[7186, 7187, 7188, 1003], [], [], [7190, 7192, 12008, 1001], [], [], [7194], [], [1094], [], [], [], [], [], [], [2017]] = true := by decide +kernel
theorem mCpT11_22 : mCk1 11 352 mcp11_22 [[], [], [7204, 7205, 7206, 1005], [], [], [], [7215, 7217, 12009, 1001], [], [], [7220, 5023, 5024, 1013], [], [], [], [5013, 5014, 5015, 1013]] = true := by decide +kernel
theorem mCpT11_23 : mCk1 11 368 mcp11_23 [[5044, 5045, 5046, 1013], [], [], [], [], [], [], [7230, 7231, 7232, 1013], [], [], [3111], [], [], [3113]] = true := by decide +kernel
theorem mCpT11_24 : mCk1 11 384 mcp11_24 [[], [], [2033], [], [], [], [], [8024, 8025, 8026, 1005], [], [], [], [8028, 8029, 8030, 1008], [], [], [], [8043, 4025, 4026, 1008]] = true := by decide +kernel
theorem mCpT11_25 : mCk1 11 400 mcp11_25 [[], [], [], [8044, 8045, 8046, 1008], [], [], [5053, 5054, 5055, 1011], [], [], [], [], [5066, 5067, 5068, 1005], [], [], [5084, 5085, 5086, 1005]] = true := by decide +kernel
theorem mCpT11_26 : mCk1 11 416 mcp11_26 [[], [6099, 6100, 6101, 1003], [], [], [6103, 1026], [], [], [], [], [], [], [], [], [], [], [6188, 1028]] = true := by decide +kernel
theorem mCpT11_27 : mCk1 11 432 mcp11_27 [] = true := by decide +kernel
theorem mCpT11 {j : Nat} {c : List (Option (Nat × Nat × Nat))} (h : mcp11[j]? = some c) : ∃ h, mCk1 11 (16 * j) c h = true := by
  unfold mcp11 at h
  match j, h with
  | 0, h => cases h; exact ⟨_, mCpT11_0⟩
  | 1, h => cases h; exact ⟨_, mCpT11_1⟩
  | 2, h => cases h; exact ⟨_, mCpT11_2⟩
  | 3, h => cases h; exact ⟨_, mCpT11_3⟩
  | 4, h => cases h; exact ⟨_, mCpT11_4⟩
  | 5, h => cases h; exact ⟨_, mCpT11_5⟩
  | 6, h => cases h; exact ⟨_, mCpT11_6⟩
  | 7, h => cases h; exact ⟨_, mCpT11_7⟩
  | 8, h => cases h; exact ⟨_, mCpT11_8⟩
  | 9, h => cases h; exact ⟨_, mCpT11_9⟩
  | 10, h => cases h; exact ⟨_, mCpT11_10⟩
  | 11, h => cases h; exact ⟨_, mCpT11_11⟩
  | 12, h => cases h; exact ⟨_, mCpT11_12⟩
  | 13, h => cases h; exact ⟨_, mCpT11_13⟩
  | 14, h => cases h; exact ⟨_, mCpT11_14⟩
  | 15, h => cases h; exact ⟨_, mCpT11_15⟩
  | 16, h => cases h; exact ⟨_, mCpT11_16⟩
  | 17, h => cases h; exact ⟨_, mCpT11_17⟩
  | 18, h => cases h; exact ⟨_, mCpT11_18⟩
  | 19, h => cases h; exact ⟨_, mCpT11_19⟩
  | 20, h => cases h; exact ⟨_, mCpT11_20⟩
  | 21, h => cases h; exact ⟨_, mCpT11_21⟩
  | 22, h => cases h; exact ⟨_, mCpT11_22⟩
  | 23, h => cases h; exact ⟨_, mCpT11_23⟩
  | 24, h => cases h; exact ⟨_, mCpT11_24⟩
  | 25, h => cases h; exact ⟨_, mCpT11_25⟩
  | 26, h => cases h; exact ⟨_, mCpT11_26⟩
  | 27, h => cases h; exact ⟨_, mCpT11_27⟩
  | n + 28, h => simp at h
theorem mCpT12_0 : mCk1 12 0 mcp12_0 [[], [8065], [], [], [], [], [], [], [], [8071], [], [], [], [8076]] = true := by decide +kernel
theorem mCpT12_1 : mCk1 12 16 mcp12_1 [[], [8077], [], [], [8066], [], [8078], [], [], [8079], [], [], [8080], [], [], [8081]] = true := by decide +kernel
theorem mCpT12_2 : mCk1 12 32 mcp12_2 [[], [], [8086], [], [], [8087], [], [], [8088], [], [], [8089], [], [], [8090]] = true := by decide +kernel
theorem mCpT12_3 : mCk1 12 48 mcp12_3 [[], [8091], [], [], [8092], [], [], [8093], [], [], [8094], [], [], [8095]] = true := by decide +kernel
theorem mCpT12_4 : mCk1 12 64 mcp12_4 [[8096], [], [], [8097], [], [], [], [8098], [], [], [8099], [], [], [8100]] = true := by decide +kernel
theorem mCpT12_5 : mCk1 12 80 mcp12_5 [[8101], [], [], [8102], [], [], [8103], [], [], [8104], [], [], [8106], [], [], [8107]] = true := by decide +kernel
theorem mCpT12_6 : mCk1 12 96 mcp12_6 [[], [], [8108], [], [], [8109], [], [], [8110], [], [], [8111], [], [], [8112]] = true := by decide +kernel
theorem mCpT12_7 : mCk1 12 112 mcp12_7 [[], [8113], [], [], [8114], [], [], [8115], [], [], [8116], [], [], [8119]] = true := by decide +kernel
theorem mCpT12_8 : mCk1 12 128 mcp12_8 [[8068], [], [], [8069], [], [], [8070], [], [], [8072], [], [], [9027, 9029, 12015, 1014]] = true := by decide +kernel
theorem mCpT12_9 : mCk1 12 144 mcp12_9 [[8073], [], [], [8074], [], [], [9023, 9025, 12014, 1014], [], [], [9049, 9050, 1014], [], [], [], [9037, 9039, 13000, 1014]] = true := by decide +kernel
theorem mCpT12_10 : mCk1 12 160 mcp12_10 [[], [9052], [9004, 9005, 1014], [], [], [], [9031], [], [9032], [], [9033], [], [9019, 9021, 12013, 1014]] = true := by decide +kernel
theorem mCpT12_11 : mCk1 12 176 mcp12_11 [[9034, 9035, 1014], [], [], [], [9015, 9017, 12012, 1014], [], [], [], [9041, 9043, 13001, 1014], [], [], [9045, 9047, 13002, 1014], [], [], [], [9053, 9055, 13003, 1014]] = true := by decide +kernel
theorem mCpT12_12 : mCk1 12 192 mcp12_12 [[], [], [], [8075], [], [], [9061, 9063, 13005, 1014], [], [], [], [9065, 9067, 13006, 1014], [], [], [9007, 9009, 12010, 1014]] = true := by decide +kernel
theorem mCpT12_13 : mCk1 12 208 mcp12_13 [[], [9011, 9013, 12011, 1014], [], [], [9057, 9059, 13004, 1014], [], [], [8082], [], [], [], [8083], [], [], [8084]] = true := by decide +kernel
theorem mCpT12_14 : mCk1 12 224 mcp12_14 [[], [8085], [], [], [9077, 9079, 13007, 1014], [], [], [9081, 9083, 13008, 1014], [], [], [9097, 9099, 13011, 1014], [], [], [9089, 9091, 13009, 1014]] = true := by decide +kernel
theorem mCpT12_15 : mCk1 12 240 mcp12_15 [[9093, 9095, 13010, 1014], [], [], [9117, 9119, 13015, 1014], [], [], [], [9113, 9115, 13014, 1014], [], [], [9109, 9111, 13013, 1014], [], [], [9105, 9107, 13012, 1014]] = true := by decide +kernel
theorem mCpT12_16 : mCk1 12 256 mcp12_16 [[9133, 9135, 14002, 1014], [], [], [9137, 9138, 1014], [], [], [9140, 9142, 14003, 1014], [], [], [9129, 9131, 14001, 1014], [], [], [8105], [], [], [9125, 9127, 14000, 1014]] = true := by decide +kernel
theorem mCpT12_17 : mCk1 12 272 mcp12_17 [[], [], [9152, 9154, 14004, 1014], [], [], [9156, 9158, 14005, 1014], [], [], [9160, 9162, 14006, 1014], [], [], [9168, 9170, 14007, 1014], [], [], [9172, 9174, 14008, 1014]] = true := by decide +kernel
theorem mCpT12_18 : mCk1 12 288 mcp12_18 [[], [9204, 9206, 14013, 1014], [], [], [9212, 9214, 14015, 1014], [], [], [], [9196, 9198, 14011, 1014], [], [], [], [9200, 9202, 14012, 1014]] = true := by decide +kernel
theorem mCpT12_19 : mCk1 12 304 mcp12_19 [[9208, 9210, 14014, 1014], [], [], [9216, 9218, 15000, 1014], [], [], [9192, 9194, 14010, 1014], [], [], [], [9188, 9190, 14009, 1014], [], [], [10007, 10009, 15004, 1014]] = true := by decide +kernel
theorem mCpT12_20 : mCk1 12 320 mcp12_20 [[10004, 10005, 1014], [], [], [10000, 10002, 15003, 1014], [], [], [10011, 10013, 15005, 1014], [], [], [10015, 10016, 1014], [], [], [9236, 9238, 15002, 1014], [], [], [9232, 9234, 15001, 1014]] = true := by decide +kernel
theorem mCpT12_21 : mCk1 12 336 mcp12_21 [[], [], [10026, 10028, 15007, 1014], [], [], [10030, 10032, 15008, 1014], [], [], [10034, 10036, 15009, 1014], [], [], [], [10022, 10024, 15006, 1014], [], [], [10050, 10052, 15010, 1014]] = true := by decide +kernel
theorem mCpT12_22 : mCk1 12 352 mcp12_22 [[], [], [10086, 10088, 16000, 1014], [], [], [8118], [], [], [8117], [], [], [10082, 10084, 15015, 1014], [], [], [10078, 10080, 15014, 1014]] = true := by decide +kernel
theorem mCpT12_23 : mCk1 12 368 mcp12_23 [[], [10090, 10092, 16001, 1014], [], [], [10074, 10076, 15013, 1014], [], [], [10070, 10072, 15012, 1014], [], [], [10066, 10068, 15011, 1014], [], [], [10098, 10100, 16002, 1014]] = true := by decide +kernel
theorem mCpT12_24 : mCk1 12 384 mcp12_24 [[10106, 10108, 16003, 1014], [], [], [10114, 10116, 16004, 1014], [], [], [10122, 10124, 16005, 1014], [], [], [10142, 10144, 16006, 1014], [], [], [10146], [], [10155, 10157, 16007, 1014]] = true := by decide +kernel
theorem mCpT12_25 : mCk1 12 400 mcp12_25 [[], [10159, 10161, 16008, 1014], [], [], [10171, 10172, 1014], [], [], [10174, 10176, 16010, 1014], [], [], [10167, 10169, 16009, 1014], [], [], [10186, 10188, 16011, 1014]] = true := by decide +kernel
theorem mCpT12_26 : mCk1 12 416 mcp12_26 [[10190, 10191, 1014], [], [], [10201, 10203, 16012, 1014], [], [], [8121], [], [], [10217], [10213, 10215, 16013, 1014], [], [], [8120]] = true := by decide +kernel
theorem mCpT12_27 : mCk1 12 432 mcp12_27 [[10230, 10232, 16015, 1014], [], [], [], [10234, 10236, 17000, 1014], [], [], [], [10226, 10228, 16014, 1014]] = true := by decide +kernel
theorem mCpT12 {j : Nat} {c : List (Option (Nat × Nat × Nat))} (h : mcp12[j]? = some c) : ∃ h, mCk1 12 (16 * j) c h = true := by
  unfold mcp12 at h
  match j, h with
  | 0, h => cases h; exact ⟨_, mCpT12_0⟩
  | 1, h => cases h; exact ⟨_, mCpT12_1⟩
  | 2, h => cases h; exact ⟨_, mCpT12_2⟩
  | 3, h => cases h; exact ⟨_, mCpT12_3⟩
  | 4, h => cases h; exact ⟨_, mCpT12_4⟩
  | 5, h => cases h; exact ⟨_, mCpT12_5⟩
  | 6, h => cases h; exact ⟨_, mCpT12_6⟩
  | 7, h => cases h; exact ⟨_, mCpT12_7⟩
  | 8, h => cases h; exact ⟨_, mCpT12_8⟩
  | 9, h => cases h; exact ⟨_, mCpT12_9⟩
  | 10, h => cases h; exact ⟨_, mCpT12_10⟩
  | 11, h => cases h; exact ⟨_, mCpT12_11⟩
  | 12, h => cases h; exact ⟨_, mCpT12_12⟩
  | 13, h => cases h; exact ⟨_, mCpT12_13⟩
  | 14, h => cases h; exact ⟨_, mCpT12_14⟩
  | 15, h => cases h; exact ⟨_, mCpT12_15⟩
  | 16, h => cases h; exact ⟨_, mCpT12_16⟩
  | 17, h => cases h; exact ⟨_, mCpT12_17⟩
  | 18, h => cases h; exact ⟨_, mCpT12_18⟩
  | 19, h => cases h; exact ⟨_, mCpT12_19⟩
  | 20, h => cases h; exact ⟨_, mCpT12_20⟩
  | 21, h => cases h; exact ⟨_, mCpT12_21⟩
  | 22, h => cases h; exact ⟨_, mCpT12_22⟩
  | 23, h => cases h; exact ⟨_, mCpT12_23⟩
  | 24, h => cases h; exact ⟨_, mCpT12_24⟩
  | 25, h => cases h; exact ⟨_, mCpT12_25⟩
  | 26, h => cases h; exact ⟨_, mCpT12_26⟩
  | 27, h => cases h; exact ⟨_, mCpT12_27⟩
  | n + 28, h => simp at h
theorem mCpT13_0 : mCk1 13 0 mcp13_0 [[], [], [], [], [], [], [], [5093, 5094, 5095, 1001], [1029], [], [], [], [], [5092, 1018], [], [6080, 6081, 6082, 1001]] = true := by decide +kernel
theorem mCpT13_1 : mCk1 13 16 mcp13_1 [[], [], [6091, 6092, 6093, 1001], [], [], [], [6090, 1026], [], [6123, 6124, 6125, 1001], [], [], [6143, 6144, 6145, 1001], [], [], [6151, 6152, 6153, 1001]] = true := by decide +kernel
theorem mCpT13_2 : mCk1 13 32 mcp13_2 [[], [6150, 1027], [], [6180, 6181, 6182, 1001], [], [], [6179, 1028], [], [6212, 6213, 6214, 1001], [], [], [6220, 6221, 6222, 1001], [], [], [6227, 6228, 6229, 1001]] = true := by decide +kernel
theorem mCpT13_3 : mCk1 13 48 mcp13_3 [[], [6234, 6235, 6236, 1001], [], [], [7036, 7037, 7038, 1001], [], [], [7043, 7044, 7045, 1001], [], [], [7050, 7051, 7052, 1001], [], [], [7079, 7080, 7081, 1001]] = true := by decide +kernel
theorem mCpT13_4 : mCk1 13 64 mcp13_4 [[7086, 7087, 7088, 1001], [], [], [], [7099, 7100, 7101, 1001], [], [], [7106, 7107, 7108, 1001], [], [], [7114, 7115, 7116, 1001], [], [], [7129, 7130, 7131, 1001]] = true := by decide +kernel
theorem mCpT13_5 : mCk1 13 80 mcp13_5 [[7140, 7141, 7142, 1001], [], [], [7148, 7149, 7150, 1001], [], [], [7155, 7156, 7157, 1001], [], [], [], [7170, 7171, 7172, 1001], [], [], [], [7181, 7182, 7183, 1001]] = true := by decide +kernel
theorem mCpT13_6 : mCk1 13 96 mcp13_6 [[], [7198, 7199, 7200, 1001], [], [], [], [7211, 7212, 7213, 1001], [], [], [], [7224, 7225, 7226, 1001], [], [], [8011, 8012, 8013, 1001], [], [], [8019, 8020, 8021, 1001]] = true := by decide +kernel
theorem mCpT13_7 : mCk1 13 112 mcp13_7 [[], [], [8039, 8040, 8041, 1001], [], [], [8055, 8056, 8057, 1001], [], [], [1031, 1032, 1001], [8060], [], [8062, 8063, 1014], [3184, 3185, 3186, 1001]] = true := by decide +kernel
theorem mCpT13_8 : mCk1 13 128 mcp13_8 [[8236, 8237, 8238, 1014], [5089, 5090, 1000], [], [], [], [], [9000, 9001, 9002, 1014], [8232, 8233, 8234, 1014], [], [], [], [3192, 3193, 3194, 1001], [], [], [9069, 9070, 9071, 1014], [6077, 6078, 1000]] = true := by decide +kernel
theorem mCpT13_9 : mCk1 13 144 mcp13_9 [[], [9073, 9074, 9075, 1014], [6087, 6088, 1000], [], [], [9085, 9086, 9087, 1014], [6120, 6121, 1000], [], [9101, 9102, 9103, 1014], [6140, 6141, 1000], [], [9121, 9122, 9123, 1014], [6147, 6148, 1000], [], [9144, 9145, 9146, 1014], [6176, 6177, 1000]] = true := by decide +kernel
theorem mCpT13_10 : mCk1 13 160 mcp13_10 [[], [9148, 9149, 9150, 1014], [6209, 6210, 1000], [], [9164, 9165, 9166, 1014], [6217, 6218, 1000], [], [9176, 9177, 9178, 1014], [6224, 6225, 1000], [], [9180, 9181, 9182, 1014], [6231, 6232, 1000], [], [9184, 9185, 9186, 1014], [7033, 7034, 1000]] = true := by decide +kernel
theorem mCpT13_11 : mCk1 13 176 mcp13_11 [[9220, 9221, 9222, 1014], [7040, 7041, 1000], [], [9224, 9225, 9226, 1014], [7047, 7048, 1000], [], [9228, 9229, 9230, 1014], [7076, 7077, 1000], [], [10018, 10019, 10020, 1014], [3196, 3197, 3198, 1001], [], [], [10038, 10039, 10040, 1014], [3213, 3214, 3215, 1001]] = true := by decide +kernel
theorem mCpT13_12 : mCk1 13 192 mcp13_12 [[], [10042, 10043, 10044, 1014], [7083, 7084, 1000], [], [], [10046, 10047, 10048, 1014], [7096, 7097, 1000], [], [10054, 10055, 10056, 1014], [7103, 7104, 1000], [], [10058, 10059, 10060, 1014], [7111, 7112, 1000], [], [10062, 10063, 10064, 1014], [7126, 7127, 1000]] = true := by decide +kernel
theorem mCpT13_13 : mCk1 13 208 mcp13_13 [[], [10094, 10095, 10096, 1014], [7137, 7138, 1000], [], [10102, 10103, 10104, 1014], [4146, 4147, 4148, 1001], [], [], [], [10110, 10111, 10112, 1014], [7145, 7146, 1000], [], [10118, 10119, 10120, 1014], [4224, 4225, 4226, 1001]] = true := by decide +kernel
theorem mCpT13_14 : mCk1 13 224 mcp13_14 [[10126, 10127, 10128, 1014], [7152, 7153, 1000], [], [], [10130, 10131, 10132, 1014], [7167, 7168, 1000], [], [10134, 10135, 10136, 1014], [7178, 7179, 1000], [], [10138, 10139, 10140, 1014], [7195, 7196, 1000], [], [], [10147, 10148, 10149, 1014], [7208, 7209, 1000]] = true := by decide +kernel
theorem mCpT13_15 : mCk1 13 240 mcp13_15 [[], [10151, 10152, 10153, 1014], [5009, 5010, 5011, 1001], [], [], [10163, 10164, 10165, 1014], [5040, 5041, 5042, 1001], [], [], [10178, 10179, 10180, 1014], [7221, 7222, 1000], [], [10182, 10183, 10184, 1014], [8008, 8009, 1000], [], [10193, 10194, 10195, 1014]] = true := by decide +kernel
theorem mCpT13_16 : mCk1 13 256 mcp13_16 [[8016, 8017, 1000], [], [10197, 10198, 10199, 1014], [8036, 8037, 1000], [], [10205, 10206, 10207, 1014], [5049, 5050, 5051, 1001], [], [], [10209, 10210, 10211, 1014], [8052, 8053, 1000], [], [10218, 10219, 10220, 1014], [5062, 5063, 5064, 1001]] = true := by decide +kernel
theorem mCpT13_17 : mCk1 13 272 mcp13_17 [[10222, 10223, 10224, 1014], [5071, 5072, 5073, 1001], [], [], [10238, 10239, 11000, 1014], [5080, 5081, 5082, 1001], [], [], [11002, 11003, 11004, 1014]] = true := by decide +kernel
theorem mCpT13 {j : Nat} {c : List (Option (Nat × Nat × Nat))} (h : mcp13[j]? = some c) : ∃ h, mCk1 13 (16 * j) c h = true := by
  unfold mcp13 at h
  match j, h with
  | 0, h => cases h; exact ⟨_, mCpT13_0⟩
  | 1, h => cases h; exact ⟨_, mCpT13_1⟩
  | 2, h => cases h; exact ⟨_, mCpT13_2⟩
  | 3, h => cases h; exact ⟨_, mCpT13_3⟩
  | 4, h => cases h; exact ⟨_, mCpT13_4⟩
  | 5, h => cases h; exact ⟨_, mCpT13_5⟩
  | 6, h => cases h; exact ⟨_, mCpT13_6⟩
  | 7, h => cases h; exact ⟨_, mCpT13_7⟩
  | 8, h => cases h; exact ⟨_, mCpT13_8⟩
  | 9, h => cases h; exact ⟨_, mCpT13_9⟩
  | 10, h => cases h; exact ⟨_, mCpT13_10⟩
  | 11, h => cases h; exact ⟨_, mCpT13_11⟩
  | 12, h => cases h; exact ⟨_, mCpT13_12⟩
  | 13, h => cases h; exact ⟨_, mCpT13_13⟩
  | 14, h => cases h; exact ⟨_, mCpT13_14⟩
  | 15, h => cases h; exact ⟨_, mCpT13_15⟩
  | 16, h => cases h; exact ⟨_, mCpT13_16⟩
  | 17, h => cases h; exact ⟨_, mCpT13_17⟩
  | n + 18, h => simp at h
theorem mCpT14 {j : Nat} {c : List (Option (Nat × Nat × Nat))} (h : mcp14[j]? = some c) : ∃ h, mCk1 14 (16 * j) c h = true := by
  unfold mcp14 at h
  match j, h with
  | n + 0, h => simp at h
theorem mCpT15_16 : mCk1 15 256 mcp15_16 [[], [], [], [], [], [], [], [], [], [4016], [4017], [4018]] = true := by decide +kernel
theorem mCpT15 {j : Nat} {c : List (Option (Nat × Nat × Nat))} (h : mcp15[j]? = some c) : ∃ h, mCk1 15 (16 * j) c h = true := by
  unfold mcp15 at h
  match j, h with
  | 0, h => cases h; exact ⟨[], rfl⟩
  | 1, h => cases h; exact ⟨[], rfl⟩
  | 2, h => cases h; exact ⟨[], rfl⟩
  | 3, h => cases h; exact ⟨[], rfl⟩
  | 4, h => cases h; exact ⟨[], rfl⟩
  | 5, h => cases h; exact ⟨[], rfl⟩
  | 6, h => cases h; exact ⟨[], rfl⟩
  | 7, h => cases h; exact ⟨[], rfl⟩
  | 8, h => cases h; exact ⟨[], rfl⟩
  | 9, h => cases h; exact ⟨[], rfl⟩
  | 10, h => cases h; exact ⟨[], rfl⟩
  | 11, h => cases h; exact ⟨[], rfl⟩
  | 12, h => cases h; exact ⟨[], rfl⟩
  | 13, h => cases h; exact ⟨[], rfl⟩
  | 14, h => cases h; exact ⟨[], rfl⟩
  | 15, h => cases h; exact ⟨[], rfl⟩
  | 16, h => cases h; exact ⟨_, mCpT15_16⟩
  | n + 17, h => simp at h
theorem mCpT16 {j : Nat} {c : List (Option (Nat × Nat × Nat))} (h : mcp16[j]? = some c) : ∃ h, mCk1 16 (16 * j) c h = true := by
  unfold mcp16 at h
  match j, h with
  | n + 0, h => simp at h
theorem mcp_ok {o i : Nat} {e : Nat × Nat × Nat} (h : mcp o i = some e) : ∃ hs, mCp1 o i e hs = true := by
  have key : ∀ (t : List (List (Option (Nat × Nat × Nat)))), (∀ (j : Nat) (c : List (Option (Nat × Nat × Nat))), t[j]? = some c → ∃ h, mCk1 o (16 * j) c h = true) → (match t[i / 16]? with
    | some c => (match c[i % 16]? with
      | some x => x
      | none => none)
    | none => none) = some e → ∃ hs, mCp1 o i e hs = true := by
    intro t hh he
    split at he
    · next c hcc =>
      split at he
      · next x hx =>
        obtain ⟨h1, q1⟩ := hh _ c hcc
        obtain ⟨h2, q2⟩ := mCk1_ok c _ h1 q1 _ e (by rw [hx, he])
        exact ⟨h2, by rw [show i = 16 * (i / 16) + i % 16 by omega]; exact q2⟩
      · cases he
    · cases he
  unfold mcp at h
  split at h
  · next t ht =>
    unfold mCps at ht
    match o, ht with
    | 0, ht => cases ht; exact key _ (fun _ _ q => mCpT0 q) h
    | 1, ht => cases ht; exact key _ (fun _ _ q => mCpT1 q) h
    | 2, ht => cases ht; exact key _ (fun _ _ q => mCpT2 q) h
    | 3, ht => cases ht; exact key _ (fun _ _ q => mCpT3 q) h
    | 4, ht => cases ht; exact key _ (fun _ _ q => mCpT4 q) h
    | 5, ht => cases ht; exact key _ (fun _ _ q => mCpT5 q) h
    | 6, ht => cases ht; exact key _ (fun _ _ q => mCpT6 q) h
    | 7, ht => cases ht; exact key _ (fun _ _ q => mCpT7 q) h
    | 8, ht => cases ht; exact key _ (fun _ _ q => mCpT8 q) h
    | 9, ht => cases ht; exact key _ (fun _ _ q => mCpT9 q) h
    | 10, ht => cases ht; exact key _ (fun _ _ q => mCpT10 q) h
    | 11, ht => cases ht; exact key _ (fun _ _ q => mCpT11 q) h
    | 12, ht => cases ht; exact key _ (fun _ _ q => mCpT12 q) h
    | 13, ht => cases ht; exact key _ (fun _ _ q => mCpT13 q) h
    | 14, ht => cases ht; exact key _ (fun _ _ q => mCpT14 q) h
    | 15, ht => cases ht; exact key _ (fun _ _ q => mCpT15 q) h
    | 16, ht => cases ht; exact key _ (fun _ _ q => mCpT16 q) h
    | n + 17, ht => simp at ht
  · cases h
