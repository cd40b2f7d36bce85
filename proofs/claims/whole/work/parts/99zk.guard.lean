/-! ENGINES COUNTED: five bits for each place -/
def eac (s : zJ) (tk q : Int) : Int := cnt (fun e => bt tk e && decide (s 28 0 e = q)) (s 18 0 11).toNat
def ena (s : zJ) (q : Int) : Int := cnt (fun e => decide (s 28 0 e = q)) (s 18 0 11).toNat
theorem eac_le (s : zJ) (tk q : Int) : eac s tk q ≤ ena s q := cnt_mono fun e _ _ he => by
  rw [Bool.and_eq_true] at he
  exact he.2
theorem ena_rng {s : zJ} (h : LW s) (q : Int) : 0 ≤ ena s q ∧ ena s q ≤ 8 := by
  have hn := lw_n h
  have := cnt_rng (fun e => decide (s 28 0 e = q)) (s 18 0 11).toNat
  unfold ena
  omega
theorem enQ_ct {s : zJ} (h : LW s) (q : Int) : ∀ (l : List (Int × Int)) (tk t2 : Int), 0 ≤ tk → tk < 256 → enQ s l tk = some t2 → eac s t2 q = eac s tk q + tct q l
  | [], tk, t2, t0, t1, he => by
    have e : t2 = tk := (Option.some.inj he).symm
    rw [e, tct, Int.add_zero]
  | e :: l, tk, t2, t0, t1, he => by
    have hn := lw_n h
    rw [enQ] at he
    by_cases z : frE s e.1 e.2 tk = -1
    · rw [if_pos z] at he
      cases he
    · rw [if_neg z] at he
      have hf := (frE_rng h e.1 e.2 tk).resolve_left z
      obtain ⟨ht, hb⟩ := tke_ok t0 t1 hf.1 hf.2
      rw [enQ_ct h q l _ t2 ht.1 ht.2 he, tct]
      rcases fnd_is (fun k => decide (s 28 0 k = e.1) && !bt tk k && decide (e.2 ≤ s 29 0 k)) (s 18 0 11).toNat with ⟨z1, _⟩ | ⟨z1, z2, z3, _⟩
      · exact absurd z1 z
      · have z1' : 0 ≤ frE s e.1 e.2 tk := z1
        have z2' : frE s e.1 e.2 tk < ((s 18 0 11).toNat : Int) := z2
        have z3' : (decide (s 28 0 (frE s e.1 e.2 tk) = e.1) && !bt tk (frE s e.1 e.2 tk) && decide (e.2 ≤ s 29 0 (frE s e.1 e.2 tk))) = true := z3
        rw [Bool.and_eq_true, Bool.and_eq_true, decide_eq_true_iff, Bool.not_eq_true'] at z3'
        obtain ⟨⟨w1, w2⟩, _⟩ := z3'
        generalize frE s e.1 e.2 tk = f at *
        have hstep : eac s (tke tk f) q = eac s tk q + zb (decide (e.1 = q)) := by
          unfold eac
          by_cases eq : e.1 = q
          · rw [decide_eq_true eq, cnt_del (R := fun k => bt (tke tk f) k && decide (s 28 0 k = q)) z1' z2' (by rw [hb f z1', decide_eq_true rfl, Bool.or_true, decide_eq_true (by rw [w1, eq])]; rfl)]
            have : cnt (fun x => bt (tke tk f) x && decide (s 28 0 x = q) && decide (x ≠ f)) (s 18 0 11).toNat = cnt (fun x => bt tk x && decide (s 28 0 x = q)) (s 18 0 11).toNat := cnt_cong fun k k0 k1 => by
              rw [hb k k0]
              by_cases ek : f = k
              · rw [← ek, w2, decide_eq_false (p := f ≠ f) (fun y => y rfl), Bool.and_false, Bool.false_and]
              · rw [decide_eq_false ek, decide_eq_true (p := k ≠ f) (fun y => ek y.symm), Bool.or_false, Bool.and_true]
            rw [this]
            rfl
          · rw [decide_eq_false eq]
            have : cnt (fun x => bt (tke tk f) x && decide (s 28 0 x = q)) (s 18 0 11).toNat = cnt (fun x => bt tk x && decide (s 28 0 x = q)) (s 18 0 11).toNat := cnt_cong fun k k0 k1 => by
              rw [hb k k0]
              by_cases ek : f = k
              · rw [← ek, decide_eq_false (p := s 28 0 f = q) (by rw [w1]; exact eq), Bool.and_false, Bool.and_false]
              · rw [decide_eq_false ek, Bool.or_false]
            rw [this]
            exact (Int.add_zero _).symm
        rw [hstep]
        omega
/-- numbers of places -/
def dgs (d : Int → Int) : Int := sm (fun q => d q * 2 ^ (5 * q).toNat) 12
theorem dgs_add (d d' : Int → Int) : dgs (fun q => d q + d' q) = dgs d + dgs d' := by
  unfold dgs
  rw [← sm_add]
  exact sm_cong fun q _ _ => Int.add_mul _ _ _
theorem dgs_sub (d d' : Int → Int) : dgs (fun q => d q - d' q) = dgs d - dgs d' := by
  have := dgs_add (fun q => d q - d' q) d'
  have e : (fun q => d q - d' q + d' q) = d := by
    funext q
    omega
  rw [e] at this
  omega
theorem dgs_one {p : Int} (p0 : 0 ≤ p) (p1 : p < 12) : dgs (fun q => zb (decide (p = q))) = 2 ^ (5 * p).toNat := by
  unfold dgs
  rw [sm_one (k := p) p0 (by omega) fun i _ _ hi => by
    show zb (decide (p = i)) * _ = 0
    rw [decide_eq_false (fun z => hi z.symm)]
    exact Int.zero_mul _]
  show zb (decide (p = p)) * _ = _
  rw [decide_eq_true rfl]
  exact Int.one_mul _
theorem dgs_cong {d d' : Int → Int} (h : ∀ q : Int, 0 ≤ q → q < 12 → d q = d' q) : dgs d = dgs d' := sm_cong fun q q0 q1 => by rw [h q q0 (by omega)]
theorem ndx_dgs : ∀ (l : List (Int × Int)), (∀ e ∈ l, 0 ≤ e.1 ∧ e.1 < 12) → ndx l = dgs (fun q => tct q l)
  | [], _ => (sm_zero fun i _ _ => Int.zero_mul _).symm
  | e :: l, hh => by
    have h1 := hh e List.mem_cons_self
    rw [ndx, ndx_dgs l fun x hx => hh x (List.mem_cons_of_mem _ hx), ← dgs_one h1.1 h1.2, ← dgs_add]
    rfl
theorem eng_dgs {s : zJ} (h : LW s) : ∀ n : Nat, (n : Int) ≤ s 18 0 11 → sm (fun e => 2 ^ (5 * s 28 0 e).toNat) n = dgs (fun q => cnt (fun e => decide (s 28 0 e = q)) n)
  | 0, _ => (sm_zero fun i _ _ => Int.zero_mul _).symm
  | n + 1, hh => by
    have hn := lw_n h
    have he := lw_e h (e := n) (by omega) (by omega)
    have e1 : sm (fun e => 2 ^ (5 * s 28 0 e).toNat) (n + 1) = sm (fun e => 2 ^ (5 * s 28 0 e).toNat) n + 2 ^ (5 * s 28 0 n).toNat := rfl
    rw [e1, eng_dgs h n (by omega), ← dgs_one (p := s 28 0 n) (by omega) (by omega), ← dgs_add]
    rfl
theorem zandL_n {x y : Nat} (hx : x < 9223372036854775808) : zandL (x : Int) (y : Int) = ((x &&& y : Nat) : Int) := by
  unfold zandL
  have h1 : Int64.ofInt (x : Int) = Int64.ofNat x := rfl
  have h2 : Int64.ofInt (y : Int) = Int64.ofNat y := rfl
  have h3 : Int64.ofNat x &&& Int64.ofNat y = Int64.ofNat (x &&& y) := by
    apply Int64.toBitVec_inj.mp
    apply BitVec.eq_of_getLsbD_eq
    intro i hi
    simp [hi]
  rw [h1, h2, h3]
  have h4 : Int64.ofNat (x &&& y) = Int64.ofInt ((x &&& y : Nat) : Int) := rfl
  have : x &&& y ≤ x := Nat.and_le_left
  rw [h4]
  exact zin64_e ⟨by omega, by omega⟩
def grd : Bool := (List.range 60).all fun i => (Nat.testBit 595056260442243600 i) == decide (i % 5 = 4)
theorem grd_ok : grd = true := by decide +kernel
theorem grd_at {i : Nat} (h : Nat.testBit 595056260442243600 i = true) : i < 60 ∧ i % 5 = 4 := by
  have h60 : i < 60 := by
    refine Nat.lt_of_not_le fun hge => ?_
    have h1 : (595056260442243600 : Nat) < 2 ^ i := Nat.lt_of_lt_of_le (by decide : (595056260442243600 : Nat) < 2 ^ 60) (Nat.pow_le_pow_right (by decide) hge)
    rw [Nat.testBit_lt_two_pow h1] at h
    cases h
  have := grd_ok
  unfold grd at this
  rw [List.all_eq_true] at this
  have := this i (List.mem_range.mpr h60)
  rw [h, beq_iff_eq] at this
  exact ⟨h60, of_decide_eq_true this.symm⟩
theorem grd_d (d0 d1 d2 d3 d4 d5 d6 d7 d8 d9 d10 d11 X : Nat) (h0 : d0 ≤ 15) (h1 : d1 ≤ 15) (h2 : d2 ≤ 15) (h3 : d3 ≤ 15) (h4 : d4 ≤ 15) (h5 : d5 ≤ 15) (h6 : d6 ≤ 15) (h7 : d7 ≤ 15) (h8 : d8 ≤ 15) (h9 : d9 ≤ 15) (h10 : d10 ≤ 15) (h11 : d11 ≤ 15) (hX : X = d0 + d1 * 32 + d2 * 1024 + d3 * 32768 + d4 * 1048576 + d5 * 33554432 + d6 * 1073741824 + d7 * 34359738368 + d8 * 1099511627776 + d9 * 35184372088832 + d10 * 1125899906842624 + d11 * 36028797018963968 + 595056260442243600) : X < 9223372036854775808 ∧ X &&& 595056260442243600 = 595056260442243600 := by
  refine ⟨by omega, Nat.eq_of_testBit_eq fun i => ?_⟩
  rw [Nat.testBit_and]
  cases hg : Nat.testBit 595056260442243600 i with
  | false => rw [Bool.and_false]
  | true =>
    rw [Bool.and_true]
    obtain ⟨g1, g2⟩ := grd_at hg
    have hi : i = 4 ∨ i = 9 ∨ i = 14 ∨ i = 19 ∨ i = 24 ∨ i = 29 ∨ i = 34 ∨ i = 39 ∨ i = 44 ∨ i = 49 ∨ i = 54 ∨ i = 59 := by omega
    rw [Nat.testBit_eq_decide_div_mod_eq, decide_eq_true_iff]
    rcases hi with e | e | e | e | e | e | e | e | e | e | e | e <;> rw [e]
    · show X / 16 % 2 = 1
      omega
    · show X / 512 % 2 = 1
      omega
    · show X / 16384 % 2 = 1
      omega
    · show X / 524288 % 2 = 1
      omega
    · show X / 16777216 % 2 = 1
      omega
    · show X / 536870912 % 2 = 1
      omega
    · show X / 17179869184 % 2 = 1
      omega
    · show X / 549755813888 % 2 = 1
      omega
    · show X / 17592186044416 % 2 = 1
      omega
    · show X / 562949953421312 % 2 = 1
      omega
    · show X / 18014398509481984 % 2 = 1
      omega
    · show X / 576460752303423488 % 2 = 1
      omega
theorem grd_test {d : Int → Int} (hd : ∀ q : Int, 0 ≤ q → q < 12 → 0 ≤ d q ∧ d q ≤ 15) : zcmp (zandL (dgs d + 595056260442243600) 595056260442243600) 595056260442243600 = 0 := by
  have e : dgs d = d 0 + d 1 * 32 + d 2 * 1024 + d 3 * 32768 + d 4 * 1048576 + d 5 * 33554432 + d 6 * 1073741824 + d 7 * 34359738368 + d 8 * 1099511627776 + d 9 * 35184372088832 + d 10 * 1125899906842624 + d 11 * 36028797018963968 := by
    show 0 + d 0 * 1 + d 1 * 32 + d 2 * 1024 + d 3 * 32768 + d 4 * 1048576 + d 5 * 33554432 + d 6 * 1073741824 + d 7 * 34359738368 + d 8 * 1099511627776 + d 9 * 35184372088832 + d 10 * 1125899906842624 + d 11 * 36028797018963968 = _
    omega
  have N : ∀ q : Int, 0 ≤ q → q < 12 → ∃ m : Nat, d q = m ∧ m ≤ 15 := fun q q0 q1 => by
    have := hd q q0 q1
    exact ⟨(d q).toNat, by omega, by omega⟩
  obtain ⟨m0, e0, l0⟩ := N 0 (by decide) (by decide)
  obtain ⟨m1, e1, l1⟩ := N 1 (by decide) (by decide)
  obtain ⟨m2, e2, l2⟩ := N 2 (by decide) (by decide)
  obtain ⟨m3, e3, l3⟩ := N 3 (by decide) (by decide)
  obtain ⟨m4, e4, l4⟩ := N 4 (by decide) (by decide)
  obtain ⟨m5, e5, l5⟩ := N 5 (by decide) (by decide)
  obtain ⟨m6, e6, l6⟩ := N 6 (by decide) (by decide)
  obtain ⟨m7, e7, l7⟩ := N 7 (by decide) (by decide)
  obtain ⟨m8, e8, l8⟩ := N 8 (by decide) (by decide)
  obtain ⟨m9, e9, l9⟩ := N 9 (by decide) (by decide)
  obtain ⟨m10, e10, l10⟩ := N 10 (by decide) (by decide)
  obtain ⟨m11, e11, l11⟩ := N 11 (by decide) (by decide)
  have this := grd_d m0 m1 m2 m3 m4 m5 m6 m7 m8 m9 m10 m11 _ l0 l1 l2 l3 l4 l5 l6 l7 l8 l9 l10 l11 rfl
  have ex : dgs d + 595056260442243600 = ((m0 + m1 * 32 + m2 * 1024 + m3 * 32768 + m4 * 1048576 + m5 * 33554432 + m6 * 1073741824 + m7 * 34359738368 + m8 * 1099511627776 + m9 * 35184372088832 + m10 * 1125899906842624 + m11 * 36028797018963968 + 595056260442243600 : Nat) : Int) := by
    rw [e, e0, e1, e2, e3, e4, e5, e6, e7, e8, e9, e10, e11]
    clear this e e0 e1 e2 e3 e4 e5 e6 e7 e8 e9 e10 e11 N hd l0 l1 l2 l3 l4 l5 l6 l7 l8 l9 l10 l11
    omega
  have ez := zandL_n (y := 595056260442243600) this.1
  rw [this.2] at ez
  rw [ex]
  have eg : ((595056260442243600 : Nat) : Int) = 595056260442243600 := rfl
  rw [eg] at ez
  rw [ez]
  exact zcmp_self _
