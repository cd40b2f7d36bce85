/-! what a step of the small machine has met -/
section INV
variable {pc pc' d i t idx o : Nat} {ls ls' : mLS} {st st' : List Value} {M M' : mMM}
theorem m_push_inv {v : Option Value} (h : m_push d pc ls st M v = some (pc', ls', st', M')) : ∃ w, v = some w ∧ pc' = pc + d ∧ ls' = ls ∧ st' = w :: st ∧ M' = M := by
  cases v with
  | none => simp [m_push] at h
  | some w =>
    simp only [m_push, Option.some.injEq, Prod.mk.injEq] at h
    obtain ⟨rfl, rfl, rfl, rfl⟩ := h
    exact ⟨w, rfl, rfl, rfl, rfl, rfl⟩
theorem m_ld0 {v : Value} (h : m_ld ls i 0 = some v) : ∃ x, v = .int x ∧ ls[i]? = some (some (.int x)) := by
  unfold m_ld at h
  split at h
  · next w hw =>
    cases w <;> simp at h
    · subst h; exact ⟨_, rfl, hw⟩
  · cases h
theorem m_ld1 {v : Value} (h : m_ld ls i 1 = some v) : ∃ x, v = .long x ∧ ls[i]? = some (some (.long x)) := by
  unfold m_ld at h
  split at h
  · next w hw =>
    cases w <;> simp at h
    · subst h; exact ⟨_, rfl, hw⟩
  · cases h
theorem m_ld2 {v : Value} (h : m_ld ls i 2 = some v) : ∃ x, v = .ref x ∧ ls[i]? = some (some (.ref x)) := by
  unfold m_ld at h
  split at h
  · next w hw =>
    cases w <;> simp at h
    · subst h; exact ⟨_, rfl, hw⟩
  · cases h
theorem m_i2_inv {f : Int32 → Int32 → Option Value} (h : m_i2 pc ls st M f = some (pc', ls', st', M')) : ∃ x y r w, st = .int y :: .int x :: r ∧ f x y = some w ∧ pc' = pc + 1 ∧ ls' = ls ∧ st' = w :: r ∧ M' = M := by
  unfold m_i2 at h
  split at h
  · next y x r =>
    obtain ⟨w, h1, h2, h3, h4, h5⟩ := m_push_inv h
    exact ⟨x, y, r, w, rfl, h1, h2, h3, h4, h5⟩
  · cases h
theorem m_l2_inv {f : Int64 → Int64 → Option Value} (h : m_l2 pc ls st M f = some (pc', ls', st', M')) : ∃ x y r w, st = .long y :: .long x :: r ∧ f x y = some w ∧ pc' = pc + 1 ∧ ls' = ls ∧ st' = w :: r ∧ M' = M := by
  unfold m_l2 at h
  split at h
  · next y x r =>
    obtain ⟨w, h1, h2, h3, h4, h5⟩ := m_push_inv h
    exact ⟨x, y, r, w, rfl, h1, h2, h3, h4, h5⟩
  · cases h
theorem m_i1_inv {f : Int32 → Option Value} (h : m_i1 pc ls st M f = some (pc', ls', st', M')) : ∃ x r w, st = .int x :: r ∧ f x = some w ∧ pc' = pc + 1 ∧ ls' = ls ∧ st' = w :: r ∧ M' = M := by
  unfold m_i1 at h
  split at h
  · next x r =>
    obtain ⟨w, h1, h2, h3, h4, h5⟩ := m_push_inv h
    exact ⟨x, r, w, rfl, h1, h2, h3, h4, h5⟩
  · cases h
theorem m_sto0 (h : m_sto d pc ls st M i 0 = some (pc', ls', st', M')) : ∃ x r, st = .int x :: r ∧ i < ls.length ∧ pc' = pc + d ∧ ls' = m_st1 ls i (.int x) ∧ st' = r ∧ M' = M := by
  unfold m_sto at h
  split at h
  · next v r =>
    cases v <;> simp at h
    · next x => exact ⟨x, r, rfl, h.1, h.2.1.symm, h.2.2.1.symm, h.2.2.2.1.symm, h.2.2.2.2.symm⟩
  · cases h
theorem m_sto1 (h : m_sto d pc ls st M i 1 = some (pc', ls', st', M')) : ∃ x r, st = .long x :: r ∧ i + 1 < ls.length ∧ pc' = pc + d ∧ ls' = m_st2 ls i (.long x) ∧ st' = r ∧ M' = M := by
  unfold m_sto at h
  split at h
  · next v r =>
    cases v <;> simp at h
    · next x => exact ⟨x, r, rfl, h.1, h.2.1.symm, h.2.2.1.symm, h.2.2.2.1.symm, h.2.2.2.2.symm⟩
  · cases h
theorem m_sto2 (h : m_sto d pc ls st M i 2 = some (pc', ls', st', M')) : ∃ x r, st = .ref x :: r ∧ i < ls.length ∧ pc' = pc + d ∧ ls' = m_st1 ls i (.ref x) ∧ st' = r ∧ M' = M := by
  unfold m_sto at h
  split at h
  · next v r =>
    cases v <;> simp at h
    · next x => exact ⟨x, r, rfl, h.1, h.2.1.symm, h.2.2.1.symm, h.2.2.2.1.symm, h.2.2.2.2.symm⟩
  · cases h
theorem m_iinc_inv {n : Int} (h : m_iinc pc ls st M i n = some (pc', ls', st', M')) : ∃ x, ls[i]? = some (some (.int x)) ∧ pc' = pc + 3 ∧ ls' = m_st1 ls i (.int (x + Int32.ofInt n)) ∧ st' = st ∧ M' = M := by
  unfold m_iinc at h
  split at h
  · next v hv =>
    cases v <;> simp at h
    · next x => exact ⟨x, hv, h.1.symm, h.2.1.symm, h.2.2.1.symm, h.2.2.2.symm⟩
  · cases h
theorem m_jmp_inv {off : Int} {tg : Nat} (h : m_jmp pc off = some tg) : (pc : Int) + off = (tg : Int) := by
  unfold m_jmp at h
  split at h
  · next h0 =>
    cases h
    omega
  · cases h
theorem m_br_inv {b : Bool} {off : Int} (h : m_br b pc off ls st M = some (pc', ls', st', M')) : ∃ tg : Nat, (pc : Int) + off = (tg : Int) ∧ pc' = (bif b then tg else pc + 3) ∧ ls' = ls ∧ st' = st ∧ M' = M := by
  unfold m_br at h
  split at h
  · next tg ht =>
    simp only [Option.some.injEq, Prod.mk.injEq] at h
    exact ⟨tg, m_jmp_inv ht, h.1.symm, h.2.1.symm, h.2.2.1.symm, h.2.2.2.symm⟩
  · cases h
theorem m_arr_inv {a : Nat} {j : Int32} {c : mCe} (h : m_arr M a j = some c) : M.1[a]? = some c ∧ vp_in j c.2.1 := by
  unfold m_arr at h
  split at h
  · next c' hc =>
    split at h
    · next hi =>
      cases h
      exact ⟨hc, m_in_ok hi⟩
    · cases h
  · cases h
theorem m_new1_inv {t n z : Nat} {rs : List (Option Nat)} (h : m_new1 pc d ls st M t n z rs = some (pc', ls', st', M')) : M.2.1 = 0 ∧ M.1.length + 1 < 1000000 ∧ n ≤ 1000 ∧ pc' = pc + d ∧ ls' = ls ∧ st' = .ref M.1.length :: st ∧ M' = m_new M t n rs z := by
  unfold m_new1 at h
  split at h
  · next q =>
    simp only [Option.some.injEq, Prod.mk.injEq] at h
    exact ⟨q.1, q.2.1, q.2.2, h.1.symm, h.2.1.symm, h.2.2.1.symm, h.2.2.2.symm⟩
  · cases h
theorem m_get_inv (h : m_get o pc ls st M idx = some (pc', ls', st', M')) : ∃ a r ci k c, st = .ref a :: r ∧ mcp o idx = some (0, ci, k) ∧ M.1[a]? = some c ∧ c.1 = 6 + ci ∧ k < c.2.1 ∧ pc' = pc + 3 ∧ ls' = ls ∧ st' = m_fld M a ci k c.2.2 :: r ∧ M' = M := by
  unfold m_get at h
  split at h
  · next a r =>
    split at h
    · next ci k hm =>
      split at h
      · next c hc =>
        split at h
        · next q =>
          simp only [Option.some.injEq, Prod.mk.injEq] at h
          exact ⟨a, r, ci, k, c, rfl, hm, hc, q.1, q.2, h.1.symm, h.2.1.symm, h.2.2.1.symm, h.2.2.2.symm⟩
        · cases h
      · cases h
    · cases h
  · cases h
theorem m_put_inv {ini : Bool} (h : m_put o ini pc ls st M idx = some (pc', ls', st', M')) : ∃ v a r ci k c, st = v :: .ref a :: r ∧ mcp o idx = some (0, ci, k) ∧ M.1[a]? = some c ∧ c.1 = 6 + ci ∧ k < c.2.1 ∧ pc' = pc + 3 ∧ ls' = ls ∧ st' = r ∧
    ((m_kind ci k = 0 ∧ ∃ x, v = .int x ∧ M' = m_setI M a k x) ∨ (m_kind ci k = 1 ∧ ∃ x, v = .long x ∧ M' = m_setL M a k x) ∨ (m_kind ci k = 2 ∧ ini = true ∧ o = ci ∧ ∃ x, v = .ref x ∧ M' = m_setR M a k x) ∨ (m_kind ci k = 3 ∧ ∃ x, v = .int x ∧ (x = 0 ∨ x = 1) ∧ M' = m_setI M a k x)) := by
  unfold m_put at h
  split at h
  · next v a r =>
    split at h
    · next ci k hm =>
      split at h
      · next c hc =>
        split at h
        · next q =>
          refine ⟨v, a, r, ci, k, c, rfl, hm, hc, q.1, q.2, ?_⟩
          split at h
          · next hk =>
            cases v <;> simp at h
            · next x => exact ⟨h.1.symm, h.2.1.symm, h.2.2.1.symm, Or.inl ⟨hk, x, rfl, h.2.2.2.symm⟩⟩
          · next hk =>
            cases v <;> simp at h
            · next x => exact ⟨h.1.symm, h.2.1.symm, h.2.2.1.symm, Or.inr (Or.inl ⟨hk, x, rfl, h.2.2.2.symm⟩)⟩
          · next hk =>
            cases v <;> simp at h
            · next x => exact ⟨h.2.1.symm, h.2.2.1.symm, h.2.2.2.1.symm, Or.inr (Or.inr (Or.inl ⟨hk, h.1.1, h.1.2, x, rfl, h.2.2.2.2.symm⟩))⟩
          · next hk =>
            cases v <;> simp at h
            · next x => exact ⟨h.2.1.symm, h.2.2.1.symm, h.2.2.2.1.symm, Or.inr (Or.inr (Or.inr ⟨hk, x, rfl, h.1, h.2.2.2.2.symm⟩))⟩
          · cases h
        · cases h
      · cases h
    · cases h
  · cases h
theorem m_ald_inv {L : Nat} {xs : Nat → Int32} (h : m_ald pc ls st M L xs t = some (pc', ls', st', M')) : ∃ (j : Int32) (a : Nat) (r : List Value), st = .int j :: .ref a :: r ∧ pc' = pc + 1 ∧ ls' = ls ∧ M' = M ∧
    ((a = 1000000 ∧ t = 0 ∧ vp_in j L ∧ st' = .int (xs j.toNatClampNeg) :: r) ∨ ∃ c : mCe, M.1[a]? = some c ∧ vp_in j c.2.1 ∧ ((t = 0 ∧ c.1 = 0 ∧ st' = .int (mI M a j.toNatClampNeg) :: r) ∨ (t = 1 ∧ (c.1 = 1 ∨ c.1 = 2) ∧ st' = .int (mI M a j.toNatClampNeg) :: r) ∨ (t = 3 ∧ c.1 = 3 ∧ st' = .long (mL M a j.toNatClampNeg) :: r) ∨ (t = 4 ∧ (c.1 = 4 ∨ c.1 = 5) ∧ ∃ q, m_rf c.2.2 j.toNatClampNeg = some q ∧ st' = .ref q :: r))) := by
  unfold m_ald at h
  split at h
  · next j a r =>
    refine ⟨j, a, r, rfl, ?_⟩
    split at h
    · next ha =>
      split at h
      · next q =>
        simp only [Option.some.injEq, Prod.mk.injEq] at h
        exact ⟨h.1.symm, h.2.1.symm, h.2.2.2.symm, Or.inl ⟨ha, q.1, m_in_ok q.2, h.2.2.1.symm⟩⟩
      · cases h
    · split at h
      · next c hc =>
        obtain ⟨h1, h2⟩ := m_arr_inv hc
        split at h
        · next q =>
          simp only [Option.some.injEq, Prod.mk.injEq] at h
          exact ⟨h.1.symm, h.2.1.symm, h.2.2.2.symm, Or.inr ⟨c, h1, h2, Or.inl ⟨q.1, q.2, h.2.2.1.symm⟩⟩⟩
        · split at h
          · next q =>
            simp only [Option.some.injEq, Prod.mk.injEq] at h
            exact ⟨h.1.symm, h.2.1.symm, h.2.2.2.symm, Or.inr ⟨c, h1, h2, Or.inr (Or.inl ⟨q.1, q.2, h.2.2.1.symm⟩)⟩⟩
          · split at h
            · next q =>
              simp only [Option.some.injEq, Prod.mk.injEq] at h
              exact ⟨h.1.symm, h.2.1.symm, h.2.2.2.symm, Or.inr ⟨c, h1, h2, Or.inr (Or.inr (Or.inl ⟨q.1, q.2, h.2.2.1.symm⟩))⟩⟩
            · split at h
              · next q =>
                split at h
                · next w hw =>
                  simp only [Option.some.injEq, Prod.mk.injEq] at h
                  exact ⟨h.1.symm, h.2.1.symm, h.2.2.2.symm, Or.inr ⟨c, h1, h2, Or.inr (Or.inr (Or.inr ⟨q.1, q.2, w, hw, h.2.2.1.symm⟩))⟩⟩
                · cases h
              · cases h
      · cases h
  · cases h
theorem m_ast_inv (h : m_ast pc ls st M t = some (pc', ls', st', M')) : ∃ (v : Value) (j : Int32) (a : Nat) (c : mCe), st = v :: .int j :: .ref a :: st' ∧ M.1[a]? = some c ∧ vp_in j c.2.1 ∧ pc' = pc + 1 ∧ ls' = ls ∧
    ((∃ x, v = .int x ∧ t = 0 ∧ c.1 = 0 ∧ M' = m_setI M a j.toNatClampNeg x) ∨ (∃ x, v = .int x ∧ t = 1 ∧ c.1 = 1 ∧ M' = m_setI M a j.toNatClampNeg (vp_nar .byte x)) ∨ (∃ x, v = .int x ∧ t = 1 ∧ c.1 = 2 ∧ M' = m_setI M a j.toNatClampNeg (vp_nar .boolean x)) ∨ (∃ x, v = .long x ∧ t = 3 ∧ c.1 = 3 ∧ M' = m_setL M a j.toNatClampNeg x) ∨ (∃ q cq, v = .ref q ∧ t = 4 ∧ c.1 = 5 ∧ M.1[q]? = some cq ∧ cq.1 = 12 ∧ M' = m_setR M a j.toNatClampNeg q)) := by
  unfold m_ast at h
  split at h
  · next v j a r =>
    split at h
    · next c hc =>
      obtain ⟨h1, h2⟩ := m_arr_inv hc
      split at h
      · next x =>
        split at h
        · next q =>
          simp only [Option.some.injEq, Prod.mk.injEq] at h
          obtain ⟨e1, e2, rfl, e4⟩ := h
          exact ⟨_, j, a, c, rfl, h1, h2, e1.symm, e2.symm, Or.inl ⟨x, rfl, q.1, q.2, e4.symm⟩⟩
        · split at h
          · next q =>
            simp only [Option.some.injEq, Prod.mk.injEq] at h
            obtain ⟨e1, e2, rfl, e4⟩ := h
            exact ⟨_, j, a, c, rfl, h1, h2, e1.symm, e2.symm, Or.inr (Or.inl ⟨x, rfl, q.1, q.2, e4.symm⟩)⟩
          · split at h
            · next q =>
              simp only [Option.some.injEq, Prod.mk.injEq] at h
              obtain ⟨e1, e2, rfl, e4⟩ := h
              exact ⟨_, j, a, c, rfl, h1, h2, e1.symm, e2.symm, Or.inr (Or.inr (Or.inl ⟨x, rfl, q.1, q.2, e4.symm⟩))⟩
            · cases h
      · next x =>
        split at h
        · next q =>
          simp only [Option.some.injEq, Prod.mk.injEq] at h
          obtain ⟨e1, e2, rfl, e4⟩ := h
          exact ⟨_, j, a, c, rfl, h1, h2, e1.symm, e2.symm, Or.inr (Or.inr (Or.inr (Or.inl ⟨x, rfl, q.1, q.2, e4.symm⟩)))⟩
        · cases h
      · next w =>
        split at h
        · next q =>
          split at h
          · next cq hcq =>
            split at h
            · next z =>
              simp only [Option.some.injEq, Prod.mk.injEq] at h
              obtain ⟨e1, e2, rfl, e4⟩ := h
              exact ⟨_, j, a, c, rfl, h1, h2, e1.symm, e2.symm, Or.inr (Or.inr (Or.inr (Or.inr ⟨w, cq, rfl, q.1, q.2, hcq, z, e4.symm⟩)))⟩
            · cases h
          · cases h
        · cases h
      · cases h
    · cases h
  · cases h
theorem m_len_inv {L : Nat} (h : m_len pc ls st M L = some (pc', ls', st', M')) : ∃ (a : Nat) (r : List Value), st = .ref a :: r ∧ pc' = pc + 1 ∧ ls' = ls ∧ M' = M ∧ ((a = 1000000 ∧ st' = .int (Int32.ofNat L) :: r) ∨ ∃ c : mCe, M.1[a]? = some c ∧ c.1 < 6 ∧ st' = .int (Int32.ofNat c.2.1) :: r) := by
  unfold m_len at h
  split at h
  · next a r =>
    split at h
    · next ha =>
      simp only [Option.some.injEq, Prod.mk.injEq] at h
      exact ⟨a, r, rfl, h.1.symm, h.2.1.symm, h.2.2.2.symm, Or.inl ⟨ha, h.2.2.1.symm⟩⟩
    · split at h
      · next c hc =>
        split at h
        · next q =>
          simp only [Option.some.injEq, Prod.mk.injEq] at h
          exact ⟨a, r, rfl, h.1.symm, h.2.1.symm, h.2.2.2.symm, Or.inr ⟨c, hc, q, h.2.2.1.symm⟩⟩
        · cases h
      · cases h
  · cases h
theorem m_copy_inv (h : m_copy d pc ls st M = some (pc', ls', st', M')) : ∃ (n dp sp : Int32) (a b : Nat) (ca cb : mCe), st = .int n :: .int dp :: .ref b :: .int sp :: .ref a :: st' ∧ M.1[a]? = some ca ∧ M.1[b]? = some cb ∧ ca.1 = 0 ∧ cb.1 = 0 ∧ ¬ sp < 0 ∧ ¬ dp < 0 ∧ ¬ n < 0 ∧ sp.toNatClampNeg + n.toNatClampNeg ≤ ca.2.1 ∧ dp.toNatClampNeg + n.toNatClampNeg ≤ cb.2.1 ∧ 1 ≤ d ∧ (st'.map fun v => v.category).sum ≤ 8 ∧ pc' = pc + 3 ∧ ls' = ls ∧
    M' = m_loose M (m_cpy (mI M) a b sp.toNatClampNeg dp.toNatClampNeg n.toNatClampNeg) := by
  unfold m_copy at h
  split at h
  · next n dp b sp a r =>
    split at h
    · next ca ha =>
      split at h
      · next cb hb =>
        split at h
        · next q =>
          simp only [Option.some.injEq, Prod.mk.injEq] at h
          obtain ⟨e1, e2, rfl, e4⟩ := h
          exact ⟨n, dp, sp, a, b, ca, cb, rfl, ha, hb, q.1, q.2.1, q.2.2.1, q.2.2.2.1, q.2.2.2.2.1, q.2.2.2.2.2.1, q.2.2.2.2.2.2.1, q.2.2.2.2.2.2.2.1, q.2.2.2.2.2.2.2.2, e1.symm, e2.symm, e4.symm⟩
        · cases h
      · cases h
    · cases h
  · cases h
theorem m_newa_inv {ty : ArrayType} (h : m_newa pc ls st M ty = some (pc', ls', st', M')) : ∃ (n : Int32) (r : List Value) (q : Nat), st = .int n :: r ∧ m_akind ty = some q ∧ ¬ n < 0 ∧ m_new1 pc 2 ls r M q n.toNatClampNeg n.toNatClampNeg [] = some (pc', ls', st', M') := by
  unfold m_newa at h
  split at h
  · next n r =>
    split at h
    · next q hq =>
      split at h
      · cases h
      · next hn => exact ⟨n, r, q, rfl, hq, hn, h⟩
    · cases h
  · cases h
theorem m_cast_inv (h : m_cast o pc ls st M idx = some (pc', ls', st', M')) : ∃ (n : Int32) (r : List Value) (z : Nat), st = .int n :: r ∧ mcp o idx = some (6, 6, z) ∧ ¬ n < 0 ∧ m_new1 pc 3 ls r M 5 n.toNatClampNeg n.toNatClampNeg (List.replicate n.toNatClampNeg none) = some (pc', ls', st', M') := by
  unfold m_cast at h
  split at h
  · next n r =>
    split at h
    · next z hq =>
      split at h
      · cases h
      · next hn => exact ⟨n, r, z, rfl, hq, hn, h⟩
    · cases h
  · cases h
theorem m_obj_inv (h : m_obj o pc ls st M idx = some (pc', ls', st', M')) : ∃ ci N, mcp o idx = some (6, ci, N) ∧ m_new1 pc 3 ls st M (6 + ci) N N (List.replicate N none) = some (pc', ls', st', M') := by
  unfold m_obj at h
  split at h
  · next ci N hq => exact ⟨ci, N, hq, h⟩
  · cases h
theorem m_mna_inv {dim : Nat} (h : m_mna o pc ls st M idx dim = some (pc', ls', st', M')) : ∃ (k n : Int32) (r : List Value) (z1 z2 : Nat), st = .int k :: .int n :: r ∧ mcp o idx = some (7, z1, z2) ∧ dim = 2 ∧ ¬ n < 0 ∧ ¬ k < 0 ∧ M.2.1 = 0 ∧ M.1.length + 2000 < 1000000 ∧ n.toNatClampNeg ≤ 1000 ∧ k.toNatClampNeg ≤ 1000 ∧ pc' = pc + 4 ∧ ls' = ls ∧ st' = .ref M.1.length :: r ∧
    M' = m_rows n.toNatClampNeg (m_new M 4 n.toNatClampNeg ((List.range n.toNatClampNeg).map (fun i => some (M.1.length + 1 + i))) n.toNatClampNeg) k.toNatClampNeg := by
  unfold m_mna at h
  split at h
  · next k n r =>
    split at h
    · next z1 z2 hq =>
      split at h
      · next q =>
        simp only [Option.some.injEq, Prod.mk.injEq] at h
        exact ⟨k, n, r, z1, z2, rfl, hq, q.1, q.2.1, q.2.2.1, q.2.2.2.1, q.2.2.2.2.1, q.2.2.2.2.2.1, q.2.2.2.2.2.2, h.1.symm, h.2.1.symm, h.2.2.1.symm, h.2.2.2.symm⟩
      · cases h
    · cases h
  · cases h
theorem m_ldc_inv (h : m_ldc o pc d ls st M idx = some (pc', ls', st', M')) : ls' = ls ∧ M' = M ∧ ((∃ v z, mcp o idx = some (9, v, z) ∧ pc' = pc + d ∧ st' = .int (Int32.ofNat v) :: st) ∨ (∃ t z, mcp o idx = some (11, t, z) ∧ d = 2 ∧ pc' = pc + 2 ∧ st' = .ref (1000001 + t) :: st)) := by
  unfold m_ldc at h
  split at h
  · next v z hq =>
    simp only [Option.some.injEq, Prod.mk.injEq] at h
    exact ⟨h.2.1.symm, h.2.2.2.symm, Or.inl ⟨v, z, hq, h.1.symm, h.2.2.1.symm⟩⟩
  · next t z hq =>
    split at h
    · next hd =>
      simp only [Option.some.injEq, Prod.mk.injEq] at h
      exact ⟨h.2.1.symm, h.2.2.2.symm, Or.inr ⟨t, z, hq, hd, h.1.symm, h.2.2.1.symm⟩⟩
    · cases h
  · cases h
theorem m_ldc2_inv (h : m_ldc2 o pc ls st M idx = some (pc', ls', st', M')) : ∃ v z, mcp o idx = some (10, v, z) ∧ pc' = pc + 3 ∧ ls' = ls ∧ st' = .long (Int64.ofNat v) :: st ∧ M' = M := by
  unfold m_ldc2 at h
  split at h
  · next v z hq =>
    simp only [Option.some.injEq, Prod.mk.injEq] at h
    exact ⟨v, z, hq, h.1.symm, h.2.1.symm, h.2.2.1.symm, h.2.2.2.symm⟩
  · cases h
theorem m_sw_inv {df lo hi : Int} {offs : Array Int} (h : m_sw pc ls st M df lo hi offs = some (pc', ls', st', M')) : ∃ (x : Int32), st = .int x :: st' ∧ ls' = ls ∧ M' = M ∧ (((x.toInt < lo ∨ hi < x.toInt) ∧ (pc : Int) + df = (pc' : Int)) ∨ (¬ x.toInt < lo ∧ ¬ hi < x.toInt ∧ ∃ off, offs[(x.toInt - lo).toNat]? = some off ∧ (pc : Int) + off = (pc' : Int))) := by
  unfold m_sw at h
  split at h
  · next x r =>
    split at h
    · next q =>
      split at h
      · next tg ht =>
        simp only [Option.some.injEq, Prod.mk.injEq] at h
        obtain ⟨rfl, rfl, rfl, rfl⟩ := h
        exact ⟨x, rfl, rfl, rfl, Or.inl ⟨q, m_jmp_inv ht⟩⟩
      · cases h
    · next q =>
      split at h
      · next off ho =>
        split at h
        · next tg ht =>
          simp only [Option.some.injEq, Prod.mk.injEq] at h
          obtain ⟨rfl, rfl, rfl, rfl⟩ := h
          exact ⟨x, rfl, rfl, rfl, Or.inr ⟨fun z => q (Or.inl z), fun z => q (Or.inr z), off, ho, m_jmp_inv ht⟩⟩
        · cases h
      · cases h
  · cases h
end INV
