/-! the room only grows; contracts of methods over the small machine -/
theorem ms_mono {d o L pc pc' : Nat} {ini : Bool} {xs : Nat → Int32} {i : Instr} {ls ls' : mLS} {st st' : List Value} {M M' : mMM} (h : mstep d o ini L xs i pc ls st M = some (pc', ls', st', M')) : mCells M ≤ mCells M' ∧ mZ M ≤ mZ M' := by
  have rf : mCells M ≤ mCells M ∧ mZ M ≤ mZ M := ⟨Nat.le_refl _, Nat.le_refl _⟩
  have hnew : ∀ {t n z dd : Nat} {rs : List (Option Nat)} {r : List Value}, m_new1 pc dd ls r M t n z rs = some (pc', ls', st', M') → mCells M ≤ mCells M' ∧ mZ M ≤ mZ M' := by
    intro t n z dd rs r h
    obtain ⟨-, -, -, -, -, -, rfl⟩ := m_new1_inv h
    exact ⟨by rw [g_new_c]; omega, by show mZ M ≤ mZ M + z; omega⟩
  have hR : ∀ a k r, mCells M ≤ mCells (m_setR M a k r) := by
    intro a k r
    show M.1.length + M.2.2.1 ≤ (m_setR M a k r).1.length + M.2.2.1
    unfold m_setR
    split
    · simp
    · exact Nat.le_refl _
  cases i
  all_goals try (have h0 : (none : Option mMC) = some (pc', ls', st', M') := h; exact absurd h0 (fun q => nomatch q))
  all_goals try (simp only [mstep] at h)
  all_goals try (obtain ⟨_, _, _, _, _, rfl⟩ := m_push_inv h; exact rf)
  all_goals try (obtain ⟨_, _, _, _, _, _, _, _, _, rfl⟩ := m_i2_inv h; exact rf)
  all_goals try (obtain ⟨_, _, _, _, _, _, _, _, _, rfl⟩ := m_l2_inv h; exact rf)
  all_goals try (obtain ⟨_, _, _, _, _, _, _, _, rfl⟩ := m_i1_inv h; exact rf)
  all_goals try (obtain ⟨_, _, _, _, _, _, _, rfl⟩ := m_sto0 h; exact rf)
  all_goals try (obtain ⟨_, _, _, _, _, _, _, rfl⟩ := m_sto1 h; exact rf)
  all_goals try (obtain ⟨_, _, _, _, _, _, _, rfl⟩ := m_sto2 h; exact rf)
  all_goals try (obtain ⟨_, _, _, _, _, rfl⟩ := m_iinc_inv h; exact rf)
  all_goals try (obtain ⟨_, rfl, _⟩ := m_ldc_inv h; exact rf)
  all_goals try (obtain ⟨_, _, _, _, _, _, rfl⟩ := m_ldc2_inv h; exact rf)
  all_goals try (obtain ⟨_, _, _, rfl, _⟩ := m_sw_inv h; exact rf)
  all_goals try (obtain ⟨_, _, _, _, _, _, rfl, _⟩ := m_ald_inv h; exact rf)
  all_goals try (obtain ⟨_, _, _, _, _, rfl, _⟩ := m_len_inv h; exact rf)
  all_goals try (obtain ⟨_, _, _, _, _, _, _, _, _, _, _, _, _, rfl⟩ := m_get_inv h; exact rf)
  case anewarray j =>
    obtain ⟨_, _, _, _, _, _, h1⟩ := m_cast_inv h
    exact hnew h1
  case newarray t =>
    obtain ⟨_, _, _, _, _, _, h1⟩ := m_newa_inv h
    exact hnew h1
  case new j =>
    obtain ⟨_, _, _, h1⟩ := m_obj_inv h
    exact hnew h1
  case multianewarray j dim =>
    obtain ⟨kk, n, _, _, _, _, _, _, _, _, _, _, _, _, _, _, _, rfl⟩ := m_mna_inv h
    obtain ⟨g1, -, g3, g4, -⟩ := m_rows_facts n.toNatClampNeg (m_new M 4 n.toNatClampNeg ((List.range n.toNatClampNeg).map (fun i => some (M.1.length + 1 + i))) n.toNatClampNeg) kk.toNatClampNeg
    constructor
    · show M.1.length + M.2.2.1 ≤ (m_rows _ _ _).1.length + (m_rows _ _ _).2.2.1
      rw [g1, g3]
      show M.1.length + M.2.2.1 ≤ ((M.1 ++ _) ++ _).length + M.2.2.1
      simp only [List.length_append]
      omega
    · rw [g4]
      show mZ M ≤ mZ M + _ + _
      omega
  case putfield j =>
    obtain ⟨_, a, _, _, k, _, _, _, _, _, _, _, _, _, hv⟩ := m_put_inv h
    rcases hv with ⟨_, x, _, rfl⟩ | ⟨_, x, _, rfl⟩ | ⟨_, _, _, x, _, rfl⟩ | ⟨_, x, _, _, rfl⟩
    · exact rf
    · exact rf
    · exact ⟨hR a k x, Nat.le_refl _⟩
    · exact rf
  all_goals try (
    obtain ⟨_, jj, a, _, _, _, _, _, _, hv⟩ := m_ast_inv h
    rcases hv with ⟨x, _, _, _, rfl⟩ | ⟨x, _, _, _, rfl⟩ | ⟨x, _, _, _, rfl⟩ | ⟨x, _, _, _, rfl⟩ | ⟨q, _, _, _, _, _, _, rfl⟩
    · exact rf
    · exact rf
    · exact rf
    · exact rf
    · exact ⟨hR a _ q, Nat.le_refl _⟩)
  all_goals try (
    split at h
    · split at h
      · simp only [Option.some.injEq, Prod.mk.injEq] at h
        obtain ⟨_, _, _, rfl⟩ := h
        exact rf
      · cases h
    · cases h)
  case goto off =>
    split at h
    · simp only [Option.some.injEq, Prod.mk.injEq] at h
      obtain ⟨_, _, _, rfl⟩ := h
      exact rf
    · cases h
  case ifCond cd off =>
    split at h
    · obtain ⟨_, _, _, _, _, rfl⟩ := m_br_inv h
      exact rf
    · cases h
  case if_icmp cd off =>
    split at h
    · obtain ⟨_, _, _, _, _, rfl⟩ := m_br_inv h
      exact rf
    · cases h
  case lshl =>
    split at h
    · obtain ⟨_, _, _, _, _, rfl⟩ := m_push_inv h
      exact rf
    · cases h
  case l2i =>
    split at h
    · obtain ⟨_, _, _, _, _, rfl⟩ := m_push_inv h
      exact rf
    · cases h
