/-! THE BEGINNING: the constructors run to their ends, whatever the script -/
def m_cst (d o : Nat) (ini : Bool) (i : Instr) (pc : Nat) (ls : mLS) (st : List Value) (M : mMM) : Option mMC := match i with
  | .iaload => none
  | .baload => none
  | .laload => none
  | .aaload => none
  | .arraylength => (match st with
    | .ref a :: r => if a = 1000000 then none else m_len pc ls (.ref a :: r) M 0
    | _ => none)
  | i => mstep d o ini 0 (fun _ => 0) i pc ls st M
theorem m_cst_ok {L : Nat} {xs : Nat → Int32} {d o : Nat} {ini : Bool} {i : Instr} {pc : Nat} {ls : mLS} {st : List Value} {M : mMM} {y : mMC} (h : m_cst d o ini i pc ls st M = some y) : mstep d o ini L xs i pc ls st M = some y := by
  cases i
  case arraylength =>
    unfold m_cst at h
    simp only at h
    split at h
    · next a r =>
      split at h
      · cases h
      · next ha =>
        show m_len pc ls (.ref a :: r) M L = some y
        unfold m_len at h ⊢
        simp only at h ⊢
        rw [if_neg ha] at h ⊢
        exact h
    · cases h
  all_goals first
    | exact h
    | (cases h; done)
def mxC : Nat → Nat → Nat → Nat → mLS → List Value → mMM → Option (mRes × mMM)
  | 0, _, _, _, _, _, _ => none
  | n + 1, d, k, pc, ls, st, M => match mins (mprog k).2.2.2.2.2 pc with
    | none => none
    | some q => (match m_ret (mprog k).2.2.2.1 q.1 st with
      | some v => some (.inl v, M)
      | none => (match m_inv (mprog k).2.2.2.2.1 q.1 with
        | some e => (match e with
          | (5, _, _) => (match st with
            | .ref _ :: r => if m_small r = true ∧ 1 ≤ d then mxC n d k (pc + 3) ls r M else none
            | _ => none)
          | (12, _, _) => none
          | (13, _, _) => none
          | (14, _, _) => none
          | (t, a, b) => bif (Nat.beq t 2 && Nat.ble 318 a) then none
            else bif (Nat.blt a 318 || Nat.beq t 17) then (match m_args t a b st M with
            | some y => (match d with
              | 0 => none
              | d' + 1 => (match mxC n d' a 0 (m_enter y.1 (mprog a).2.2.1) [] M with
                | some z => (match z.1 with
                  | .inl none => mxC n (d' + 1) k (pc + 3) ls y.2 z.2
                  | .inl (some v) => mxC n (d' + 1) k (pc + 3) ls (v :: y.2) z.2
                  | .inr _ => none)
                | none => none))
            | none => none) else none)
        | none => (match m_thr (mprog k).2.2.2.2.1 (mprog k).2.2.2.2.2 pc with
          | some _ => none
          | none => (match m_cst d (mprog k).2.2.2.2.1 (m_ini k) q.1 pc ls st M with
            | some y => mxC n d k y.1 y.2.1 y.2.2.1 y.2.2.2
            | none => none))))
set_option maxRecDepth 100000 in
theorem mxC_ok {L : Nat} {xs : Nat → Int32} : ∀ (n d k pc : Nat) (ls : mLS) (st : List Value) (M : mMM) (r : mRes × mMM), mxC n d k pc ls st M = some r → mx L xs n d k pc ls st M = some r := by
  intro n
  induction n with
  | zero =>
    intro d k pc ls st M r h
    simp only [mxC] at h
    cases h
  | succ n ih =>
    intro d k pc ls st M r h
    simp only [mxC] at h
    simp only [mx]
    cases hq : mins (mprog k).2.2.2.2.2 pc with
    | none => rw [hq] at h; cases h
    | some q =>
    rw [hq] at h
    simp only at h ⊢
    cases hr : m_ret (mprog k).2.2.2.1 q.1 st with
    | some v => rw [hr] at h; exact h
    | none =>
    rw [hr] at h
    simp only at h ⊢
    cases he : m_inv (mprog k).2.2.2.2.1 q.1 with
    | none =>
      rw [he] at h
      simp only at h ⊢
      cases ht : m_thr (mprog k).2.2.2.2.1 (mprog k).2.2.2.2.2 pc with
      | some w => rw [ht] at h; cases h
      | none =>
        rw [ht] at h
        simp only at h ⊢
        cases hs : m_cst d (mprog k).2.2.2.2.1 (m_ini k) q.1 pc ls st M with
        | none => rw [hs] at h; cases h
        | some y =>
          rw [hs] at h
          rw [m_cst_ok hs]
          simp only at h ⊢
          exact ih _ _ _ _ _ _ _ h
    | some e =>
      rw [he] at h
      simp only at h ⊢
      obtain ⟨t, a, b⟩ := e
      split at h
      · next h0 =>
        simp only [Prod.mk.injEq] at h0
        obtain ⟨rfl, rfl, rfl⟩ := h0
        split at h
        · split at h
          · next hc =>
            simp only
            rw [if_pos hc]
            exact ih _ _ _ _ _ _ _ h
          · cases h
        · cases h
      · cases h
      · cases h
      · cases h
      · next t' a' b' n5 n12 n13 n14 h0 =>
        simp only [Prod.mk.injEq] at h0
        obtain ⟨rfl, rfl, rfl⟩ := h0
        cases hb : (Nat.beq t 2 && Nat.ble 318 a) with
        | true => rw [hb] at h; cases h
        | false =>
          rw [hb] at h
          simp only [cond_false] at h ⊢
          cases hb2 : (Nat.blt a 318 || Nat.beq t 17) with
          | false => rw [hb2] at h; cases h
          | true =>
            rw [hb2] at h
            simp only [cond_true] at h ⊢
            cases hm : m_args t a b st M with
            | none => rw [hm] at h; cases h
            | some y =>
              rw [hm] at h
              simp only at h ⊢
              cases d with
              | zero => cases h
              | succ d' =>
                simp only at h ⊢
                cases hx : mxC n d' a 0 (m_enter y.1 (mprog a).2.2.1) [] M with
                | none => rw [hx] at h; cases h
                | some z =>
                  rw [hx] at h
                  rw [ih _ _ _ _ _ _ _ hx]
                  simp only at h ⊢
                  obtain ⟨z1, z2⟩ := z
                  cases z1 with
                  | inl o =>
                    cases o with
                    | none =>
                      rw [hb]
                      exact ih _ _ _ _ _ _ _ h
                    | some v =>
                      rw [hb]
                      exact ih _ _ _ _ _ _ _ h
                  | inr E => cases h
theorem mx_st {L : Nat} {xs : Nat → Int32} {n d k pc : Nat} {ls : mLS} {st : List Value} {M : mMM} {i : Instr} {len : Nat} {y : mMC} {r : mRes × mMM} (hq : mins (mprog k).2.2.2.2.2 pc = some (i, len)) (hr : m_ret (mprog k).2.2.2.1 i st = none) (hi : m_inv (mprog k).2.2.2.2.1 i = none) (ht : m_thr (mprog k).2.2.2.2.1 (mprog k).2.2.2.2.2 pc = none) (hs : mstep d (mprog k).2.2.2.2.1 (m_ini k) L xs i pc ls st M = some y) (h : mx L xs n d k y.1 y.2.1 y.2.2.1 y.2.2.2 = some r) : mx L xs (n + 1) d k pc ls st M = some r := by
  simp only [mx, hq, hr, hi, ht, hs]
  exact h
theorem mx_cl {L : Nat} {xs : Nat → Int32} {n d k pc : Nat} {ls : mLS} {st : List Value} {M M2 : mMM} {i : Instr} {len a : Nat} {y : List Value × List Value} {r : mRes × mMM} (hq : mins (mprog k).2.2.2.2.2 pc = some (i, len)) (hr : m_ret (mprog k).2.2.2.1 i st = none) (hi : m_inv (mprog k).2.2.2.2.1 i = some (3, a, 0)) (ha : Nat.blt a 318 = true) (hy : m_args 3 a 0 st M = some y) (hc : mx L xs n d a 0 (m_enter y.1 (mprog a).2.2.1) [] M = some (.inl none, M2)) (h : mx L xs n (d + 1) k (pc + 3) ls y.2 M2 = some r) : mx L xs (n + 1) (d + 1) k pc ls st M = some r := by
  simp only [mx, hq, hr, hi]
  rw [ha, show (Nat.beq 3 2 && Nat.ble 318 a) = false from rfl]
  simp only [cond_false, Bool.true_or, cond_true, hy, hc]
  exact h
def sb_1 : mMM := m_new m_0 17 16 (List.replicate 16 none) 16
def sb_vals : List (Nat × Nat × Int) := [(18, 0, 0), (18, 6, 0), (18, 11, 0), (18, 14, 0), (39, 0, 0), (40, 0, 0), (40, 5, 0), (40, 10, 0), (142, 1, 0), (142, 14, 0), (142, 15, 0), (142, 16, 0), (142, 17, 0), (142, 3, -1), (0, 1, 0), (0, 2, -1), (0, 8, 0), (105, 5, 0), (144, 0, 0), (144, 1, 0), (144, 2, 0), (144, 3, 0)] ++ ((List.range 12).map fun p => (49, p, 0)) ++ ((List.range 12).map fun p => (236, p, 0)) ++ ((List.range 12).map fun p => (237, p, 0)) ++ ((List.range 7).map fun p => (50, p, 127)) ++ ((List.range 7).map fun p => (51, p, 1080)) ++ ((List.range 7).map fun p => (44, p, -1))
def sb_chk (M : mMM) : Bool := decide (M.1 = zS) && Nat.beq M.2.1 0 && Nat.beq M.2.2.1 0 && Nat.beq M.2.2.2.1 9614 && (sb_vals.all fun q => decide (mI M q.1 q.2.1 = Int32.ofInt q.2.2))
def sb_2 : Option mMM := match mxC 5000 901 136 0 (m_enter [.ref 0] (mprog 136).2.2.1) [] sb_1 with
  | some (.inl none, M) => bif Nat.beq M.2.1 0 && Nat.beq M.1.length 142 then some M else none
  | _ => none
def sb_3 : Option mMM := match sb_2 with
  | some M => (match mxC 5000 901 190 0 (m_enter [.ref 142] (mprog 190).2.2.1) [] (m_new M 18 54 (List.replicate 54 none) 54) with
    | some (.inl none, M) => bif Nat.beq M.2.1 0 && Nat.beq M.1.length 561 then some M else none
    | _ => none)
  | none => none
def sb_4 : Bool := match sb_3 with
  | some M => sb_chk (m_new M 3 1 [] 1)
  | none => false
set_option maxRecDepth 1000000 in
theorem sb_ok : sb_4 = true := by decide +kernel
set_option maxRecDepth 100000 in
theorem sb_q8 : mins (mprog 353).2.2.2.2.2 8 = some (.new 121, 3) := rfl
theorem sb_t8 : m_thr (mprog 353).2.2.2.2.1 (mprog 353).2.2.2.2.2 8 = none := by decide +kernel
def sb_ls : mLS := [some (.ref 1000000), some (.ref 0), some (.ref 142), some (.ref 561), some (.int 0), none, none]
theorem sb_bb {b : Bool} {M N : mMM} (h : (bif b then some M else none) = some N) : b = true ∧ M = N := by
  cases b with
  | true => exact ⟨rfl, Option.some.inj h⟩
  | false => cases h
set_option maxRecDepth 100000 in
theorem sb_pre (L : Nat) (xs : Nat → Int32) : ∃ M : mMM, sb_chk M = true ∧ ∀ (n : Nat) (r : mRes × mMM), mx L xs n 902 353 23 sb_ls [] M = some r → ∃ n', mx L xs n' 902 353 0 (m_enter [.ref 1000000] 7) [] m_0 = some r := by
  have h4 := sb_ok
  unfold sb_4 at h4
  split at h4
  · next M3 h3 =>
    unfold sb_3 at h3
    split at h3
    · next M2 h2 =>
      unfold sb_2 at h2
      split at h2
      · next M1 hx1 =>
        obtain ⟨c1, rfl⟩ := sb_bb h2
        split at h3
        · next M5 hx2 =>
          obtain ⟨c2, rfl⟩ := sb_bb h3
          rw [Bool.and_eq_true] at c1 c2
          have a1 : M1.2.1 = 0 := Nat.eq_of_beq_eq_true c1.1
          have a2 : M1.1.length = 142 := Nat.eq_of_beq_eq_true c1.2
          have b1 : M5.2.1 = 0 := Nat.eq_of_beq_eq_true c2.1
          have b2 : M5.1.length = 561 := Nat.eq_of_beq_eq_true c2.2
          refine ⟨_, h4, fun n r hrun => ⟨max n 5000 + 13, ?_⟩⟩
          have hrun' : mx L xs (max n 5000) 902 353 23 sb_ls [] (m_new M5 3 1 [] 1) = some r := mx_fuel hrun (Nat.le_max_left _ _)
          refine mx_st (pc := 0) (i := .new 8) (len := 3) rfl rfl rfl rfl (y := (3, m_enter [.ref 1000000] 7, [.ref 0], sb_1)) rfl ?_
          refine mx_st (pc := 3) (i := .dup) (len := 1) rfl rfl rfl rfl (y := (4, m_enter [.ref 1000000] 7, [.ref 0, .ref 0], sb_1)) rfl ?_
          refine mx_cl (pc := 4) (i := .invokespecial 120) (len := 3) (a := 136) (y := ([.ref 0], [.ref 0])) (M2 := M1) rfl rfl rfl rfl rfl (mx_fuel (mxC_ok _ _ _ _ _ _ _ _ hx1) (by omega)) ?_
          refine mx_st (pc := 7) (i := .astore_n 1) (len := 1) rfl rfl rfl rfl (y := (8, [some (.ref 1000000), some (.ref 0), none, none, none, none, none], [], M1)) rfl ?_
          refine mx_st (pc := 8) (i := .new 121) (len := 3) sb_q8 rfl rfl sb_t8 (y := (11, [some (.ref 1000000), some (.ref 0), none, none, none, none, none], [.ref 142], m_new M1 18 54 (List.replicate 54 none) 54)) ?_ ?_
          · show m_new1 8 3 _ [] M1 18 54 54 (List.replicate 54 none) = _
            unfold m_new1
            rw [if_pos ⟨a1, by omega, by omega⟩, a2]
          refine mx_st (pc := 11) (i := .dup) (len := 1) rfl rfl rfl rfl (y := (12, [some (.ref 1000000), some (.ref 0), none, none, none, none, none], [.ref 142, .ref 142], m_new M1 18 54 (List.replicate 54 none) 54)) rfl ?_
          refine mx_cl (pc := 12) (i := .invokespecial 123) (len := 3) (a := 190) (y := ([.ref 142], [.ref 142])) (M2 := M5) rfl rfl rfl rfl rfl (mx_fuel (mxC_ok _ _ _ _ _ _ _ _ hx2) (by omega)) ?_
          refine mx_st (pc := 15) (i := .astore_n 2) (len := 1) rfl rfl rfl rfl (y := (16, [some (.ref 1000000), some (.ref 0), some (.ref 142), none, none, none, none], [], M5)) rfl ?_
          refine mx_st (pc := 16) (i := .iconst 1) (len := 1) rfl rfl rfl rfl (y := (17, [some (.ref 1000000), some (.ref 0), some (.ref 142), none, none, none, none], [.int 1], M5)) rfl ?_
          refine mx_st (pc := 17) (i := .newarray .long) (len := 2) rfl rfl rfl rfl (y := (19, [some (.ref 1000000), some (.ref 0), some (.ref 142), none, none, none, none], [.ref 561], m_new M5 3 1 [] 1)) ?_ ?_
          · show m_new1 17 2 _ [] M5 3 1 1 [] = _
            unfold m_new1
            rw [if_pos ⟨b1, by omega, by omega⟩, b2]
          refine mx_st (pc := 19) (i := .astore_n 3) (len := 1) rfl rfl rfl rfl (y := (20, [some (.ref 1000000), some (.ref 0), some (.ref 142), some (.ref 561), none, none, none], [], m_new M5 3 1 [] 1)) rfl ?_
          refine mx_st (pc := 20) (i := .iconst 0) (len := 1) rfl rfl rfl rfl (y := (21, [some (.ref 1000000), some (.ref 0), some (.ref 142), some (.ref 561), none, none, none], [.int 0], m_new M5 3 1 [] 1)) rfl ?_
          refine mx_st (pc := 21) (i := .istore 4) (len := 2) rfl rfl rfl rfl (y := (23, sb_ls, [], m_new M5 3 1 [] 1)) rfl ?_
          exact hrun'
        · cases h3
      · cases h2
    · cases h3
  · cases h4
/-- the memory behind the constructors, told by integers -/
theorem sb_mem {M : mMM} (h : M.1 = zS) : ∃ (J : zJ) (K : zK), M = zmem (M.2.1, M.2.2.1, M.2.2.2.1) J K ∧ ∀ b k : Nat, zrow b = (b, 0) → J b 0 k = (mI M b k).toInt := by
  refine ⟨fun a i k => (mI M (zad (a, i)) k.toNat).toInt, fun a k => (mL M a k.toNat).toInt, ?_, ?_⟩
  · obtain ⟨a, b, c, d, f, g⟩ := M
    simp only at h
    subst h
    have e1 : zIf (fun a i k => (f (zad (a, i)) k.toNat).toInt) = f := by
      funext b k
      show Int32.ofInt ((f (zad ((zrow b).1, (zrow b).2)) ((k : Nat) : Int).toNat).toInt) = f b k
      rw [Int.toNat_natCast, Int32.ofInt_toInt]
      have : zad ((zrow b).1, (zrow b).2) = b := zad_zrow b
      rw [this]
    have e2 : zLf (fun a k => (g a k.toNat).toInt) = g := by
      funext b k
      show Int64.ofInt ((g b ((k : Nat) : Int).toNat).toInt) = g b k
      rw [Int.toNat_natCast, Int64.ofInt_toInt]
    show _ = (zS, b, c, d, zIf (fun a i k => (f (zad (a, i)) k.toNat).toInt), zLf (fun a k => (g a k.toNat).toInt))
    rw [e1, e2]
  · intro b k hb
    show (mI M (zad (b, 0)) (k : Int).toNat).toInt = _
    rw [Int.toNat_natCast]
    have : zad (b, (0 : Int)) = b := by
      have := zad_zrow b
      rw [hb] at this
      exact this
    rw [this]
/-- what the memory holds behind the constructors -/
def St0 (J : zJ) : Prop := ∀ q ∈ sb_vals, J q.1 0 (q.2.1 : Int) = q.2.2
def sb_rows : Bool := sb_vals.all fun q => decide (zrow q.1 = (q.1, 0)) && decide ((Int32.ofInt q.2.2).toInt = q.2.2)
theorem sb_rows_ok : sb_rows = true := by decide +kernel
/-- THE WHOLE, out of the law's loop from a beginning like that -/
theorem sb_goal (h : ∀ (L : Nat) (xs : Nat → Int32), L ≤ 3072 → ∀ (J : zJ) (K : zK), St0 J → zGo L xs 902 353 23 [some (zr 1000000), some (zr 0), some (zr 142), some (zr 561), some (zi 0), none, none] [] J K fun r e _ _ => r = .inl (some (zi 1)) ∧ e ≤ 3072) : mGoal := by
  intro L xs hL
  obtain ⟨M, hc, hpre⟩ := sb_pre L xs
  unfold sb_chk at hc
  simp only [Bool.and_eq_true, decide_eq_true_eq] at hc
  obtain ⟨⟨⟨⟨c1, c2⟩, c3⟩, c4⟩, c5⟩ := hc
  obtain ⟨J, K, hM, hJ⟩ := sb_mem c1
  have hS : St0 J := by
    intro q hq
    have h1 := sb_rows_ok
    unfold sb_rows at h1
    rw [List.all_eq_true] at h1 c5
    have h2 := h1 q hq
    have h3 := c5 q hq
    simp only [Bool.and_eq_true, decide_eq_true_eq] at h2 h3
    rw [hJ q.1 q.2.1 h2.1, h3, h2.2]
  have hz : zsub [some (zr 1000000), some (zr 0), some (zr 142), some (zr 561), some (zi 0), none, none] sb_ls := zsub_refl _
  obtain ⟨n, r, e, lo, J', K', hrun, rfl, he⟩ := h L xs hL J K hS sb_ls hz (M.2.1, M.2.2.1, M.2.2.2.1)
  have hrun' : mx L xs n 902 353 23 sb_ls [] M = some (zre (.inl (some (zi 1))), zmem (lo, M.2.2.1 + e, M.2.2.2.1 + 6 * e) J' K') := by
    conv => lhs; rw [hM]
    exact hrun
  obtain ⟨n', hn'⟩ := hpre _ _ hrun'
  have e3 := Nat.eq_of_beq_eq_true c3
  have e4 := Nat.eq_of_beq_eq_true c4
  refine ⟨n', 902, _, by decide, hn', ?_, ?_⟩
  · show zS.length + (M.2.2.1 + e) ≤ 601024
    have : zS.length = 562 := by decide +kernel
    omega
  · show M.2.2.2.1 + 6 * e ≤ 7293034
    omega
