/-! fields and links: what the checked data say -/
theorem va_one {D : va_G} {cl : List vw_C} {q : Nat × va_E} {H : Heap} (h : va_at D cl q H) : va_P D cl [q] H := by
  intro k x hx
  have h0 : k < 1 := (List.getElem?_eq_some_iff.mp hx).1
  rw [show k = 0 by omega] at hx
  cases hx
  exact h
theorem m_clsF {ci : Nat} {r : vw_C} (h : mcl[ci]? = some r) : (∀ w ∈ u_ws r.1 r.2.1 r.2.2, w ∈ mTbl) ∧ (∀ k, k < r.2.2 → parseFieldDescriptor (r.2.1 k).2.2.1 = some (m_ty r k)) ∧ (∀ a, a < r.2.2 → ∀ b, b < r.2.2 → a ≠ b → (r.2.1 a).2.1 ≠ (r.2.1 b).2.1) ∧ (∀ k, k < r.2.2 → m_kind ci k = m_tk (m_ty r k)) ∧ (∀ k, k < r.2.2 → (r.2.1 k).1 = r.1) ∧
    (∀ k, k < r.2.2 → (m_kind ci k = 2 → (r.2.1 k).2.2.2 = true) ∧ (m_kind ci k ≠ 2 → (r.2.1 k).2.2.2 = false)) ∧ Cond.instantiable r.1 r.2.2 ∈ mTbl ∧ Cond.initialized r.1 ∈ mTbl := by
  have h0 := m_cls h
  unfold m_clsOk at h0
  simp only [Bool.and_eq_true, List.all_eq_true, List.mem_range] at h0
  obtain ⟨⟨h1, h2⟩, h3⟩ := h0
  refine ⟨fun w hw => ?_, fun k hk => of_decide_eq_true (h1 k hk).1.1.1.1.1, fun a ha b hb hab => ?_, fun k hk => of_decide_eq_true (h1 k hk).1.1.1.1.2, fun k hk => of_decide_eq_true (h1 k hk).1.1.1.2, fun k hk => ⟨fun q => ?_, fun q => ?_⟩, mHas_ok h2, mHas_ok h3⟩
  · obtain ⟨k, hk, rfl⟩ := List.mem_map.mp hw
    exact mHas_ok (h1 k (List.mem_range.mp hk)).2
  · have h9 := (h1 b hb).1.2 a ha
    simp only [Bool.or_eq_true, decide_eq_true_eq] at h9
    rcases h9 with z | z
    · exact absurd (Nat.eq_of_beq_eq_true z) hab
    · exact z
  · have h9 := (h1 k hk).1.1.2
    rw [q] at h9
    simpa using h9
  · have h9 := (h1 k hk).1.1.2
    have e : Nat.beq (m_kind ci k) 2 = false := by
      cases hb : Nat.beq (m_kind ci k) 2 with
      | false => rfl
      | true => exact absurd (Nat.eq_of_beq_eq_true hb) q
    rw [e] at h9
    simpa using h9
theorem mcp_fld {o i ci k : Nat} (h : mcp o i = some (0, ci, k)) : ∃ r, mcl[ci]? = some r ∧ k < r.2.2 ∧ Cond.fieldLink (mOw o) i (r.2.1 k).1 (r.2.1 k).2.1 (r.2.1 k).2.2.1 ∈ mTbl := by
  obtain ⟨hs, h1⟩ := mcp_ok h
  simp only [mCp1] at h1
  split at h1
  · next r hr =>
    simp only [Bool.and_eq_true] at h1
    exact ⟨r, hr, Nat.blt_eq.mp h1.1, mAt_ok h1.2⟩
  · cases h1
theorem mcp_cls {o i ci N : Nat} (h : mcp o i = some (6, ci, N)) : ∃ r, mcl[ci]? = some r ∧ N = r.2.2 ∧ Cond.classLink (mOw o) i r.1 ∈ mTbl := by
  obtain ⟨hs, h1⟩ := mcp_ok h
  simp only [mCp1] at h1
  split at h1
  · next r hr =>
    simp only [Bool.and_eq_true] at h1
    exact ⟨r, hr, of_decide_eq_true h1.1, mAt_ok h1.2⟩
  · cases h1
theorem mcp_int {o i v z : Nat} (h : mcp o i = some (9, v, z)) : Cond.constant (mOw o) i (Int32.ofNat v) ∈ mTbl := by
  obtain ⟨hs, h1⟩ := mcp_ok h
  simp only [mCp1] at h1
  exact mAt_ok h1
theorem mcp_long {o i v z : Nat} (h : mcp o i = some (10, v, z)) : Cond.constantLong (mOw o) i (Int64.ofNat v) ∈ mTbl := by
  obtain ⟨hs, h1⟩ := mcp_ok h
  simp only [mCp1] at h1
  exact mAt_ok h1
theorem mcp_grid {o i a b : Nat} (h : mcp o i = some (7, a, b)) : Cond.classLink (mOw o) i "[[I" ∈ mTbl := by
  obtain ⟨hs, h1⟩ := mcp_ok h
  simp only [mCp1] at h1
  exact mAt_ok h1
theorem mcp_str {o i t z : Nat} (h : mcp o i = some (11, t, z)) : ∃ q, mStrs[t]? = some q ∧ q.1 = mOw o ∧ q.2.1 = i := by
  obtain ⟨hs, h1⟩ := mcp_ok h
  simp only [mCp1] at h1
  split at h1
  · next q hq =>
    simp only [Bool.and_eq_true, decide_eq_true_eq] at h1
    exact ⟨q, hq, h1.1, h1.2⟩
  · cases h1
theorem g_fs_len {G : mG} {M : mMM} {a ci n : Nat} {rs : List (Option Nat)} : (g_fs G M a ci n rs).length = n := by simp [g_fs]
theorem g_fs_get {G : mG} {M : mMM} {a ci n j : Nat} {rs : List (Option Nat)} (hj : j < n) : (g_fs G M a ci n rs)[j]? = some (g_rv G (m_fld M a ci j rs)) := by simp [g_fs, hj]
theorem g_fs_set {G : mG} {M M' : mMM} {a ci n k : Nat} {rs rs' : List (Option Nat)} {v : Value} (hv : g_rv G (m_fld M' a ci k rs') = v) (ho : ∀ j, j ≠ k → m_fld M' a ci j rs' = m_fld M a ci j rs) : g_fs G M' a ci n rs' = (g_fs G M a ci n rs).set k v := by
  apply List.ext_getElem?
  intro j
  by_cases hj : j < n
  · rw [g_fs_get hj]
    by_cases e : j = k
    · subst e
      rw [List.getElem?_set_self (by rw [g_fs_len]; exact hj), hv]
    · rw [List.getElem?_set_ne (Ne.symm e), g_fs_get hj, ho j e]
  · rw [List.getElem?_eq_none (by rw [g_fs_len]; omega), List.getElem?_eq_none (by rw [List.length_set, g_fs_len]; omega)]
theorem m_tk_0 {t : FieldType} (h : m_tk t = 0) : t = .int := by cases t <;> simp [m_tk] at h ⊢
theorem m_tk_1 {t : FieldType} (h : m_tk t = 1) : t = .long := by cases t <;> simp [m_tk] at h ⊢
theorem m_tk_3 {t : FieldType} (h : m_tk t = 3) : t = .boolean := by cases t <;> simp [m_tk] at h ⊢
theorem m_tk_2 {t : FieldType} (h : m_tk t = 2) : (∃ s, t = .object s) ∨ ∃ s, t = .array s := by
  cases t <;> simp [m_tk] at h ⊢
theorem m_fld_int {M : mMM} {a ci k : Nat} {rs : List (Option Nat)} (h : m_kind ci k = 0 ∨ m_kind ci k = 3) : m_fld M a ci k rs = .int (mI M a k) := by
  unfold m_fld
  rcases h with h | h <;> (rw [h]; rfl)
theorem m_fld_long {M : mMM} {a ci k : Nat} {rs : List (Option Nat)} (h : m_kind ci k = 1) : m_fld M a ci k rs = .long (mL M a k) := by
  unfold m_fld
  rw [h]
  rfl
theorem m_fld_ref {M : mMM} {a ci k : Nat} {rs : List (Option Nat)} (h : m_kind ci k = 2) : m_fld M a ci k rs = va_rf (m_rf rs k) := by
  unfold m_fld
  rw [h]
  rfl
theorem m_setI_at {M : mMM} {a k : Nat} {x : Int32} : mI (m_setI M a k x) a k = x := by simp [mI, m_setI, m_up]
theorem m_setL_at {M : mMM} {a k : Nat} {x : Int64} : mL (m_setL M a k x) a k = x := by simp [mL, m_setL, m_up]
theorem m_fld_eq {M M' : mMM} {a ci j : Nat} {rs rs' : List (Option Nat)} (hI : mI M' a j = mI M a j) (hL : mL M' a j = mL M a j) (hr : m_rf rs' j = m_rf rs j) : m_fld M' a ci j rs' = m_fld M a ci j rs := by
  unfold m_fld
  rw [hI, hL, hr]
theorem m_rf_set {rs : List (Option Nat)} {k j r : Nat} (h : k < rs.length) : m_rf (rs.set k (some r)) j = if j = k then some r else m_rf rs j := by
  unfold m_rf
  by_cases e : j = k
  · subst e
    rw [List.getElem?_set_self h, if_pos rfl]
  · rw [List.getElem?_set_ne (Ne.symm e), if_neg e]
/-- an int written -/
theorem g_Wd.setI {G : mG} {M : mMM} {H H1 : Heap} {a k : Nat} {c : mCe} {x : Int32} (h : g_Wd G M H) (hc : M.1[a]? = some c) (hsz : H1.size = H.size) (oq : ∀ q : Nat, q ≠ G.1 + a → H1[q]? = H[q]?) (ha : va_at G.2.1 mcl (G.1 + a, g_cell G (m_setI M a k x) a c) H1) : g_Wd G (m_setI M a k x) H1 := by
  refine h.upd (a := a) rfl rfl hsz oq (fun b c' hb hc' => ⟨hc', ?_⟩) (fun c' hc' => ?_)
  · exact g_cell_eq (by show m_up _ _ _ _ b = _; rw [m_up_ne hb]; rfl) rfl
  · have e : c' = c := Option.some.inj (hc'.symm.trans hc)
    subst e
    exact ⟨ha, h.2.2.2.2 a c' hc⟩
theorem g_Wd.setL {G : mG} {M : mMM} {H H1 : Heap} {a k : Nat} {c : mCe} {x : Int64} (h : g_Wd G M H) (hc : M.1[a]? = some c) (hsz : H1.size = H.size) (oq : ∀ q : Nat, q ≠ G.1 + a → H1[q]? = H[q]?) (ha : va_at G.2.1 mcl (G.1 + a, g_cell G (m_setL M a k x) a c) H1) : g_Wd G (m_setL M a k x) H1 := by
  refine h.upd (a := a) rfl rfl hsz oq (fun b c' hb hc' => ⟨hc', ?_⟩) (fun c' hc' => ?_)
  · exact g_cell_eq rfl (by show m_up _ _ _ _ b = _; rw [m_up_ne hb]; rfl)
  · have e : c' = c := Option.some.inj (hc'.symm.trans hc)
    subst e
    exact ⟨ha, h.2.2.2.2 a c' hc⟩
theorem m_setR_sh {M : mMM} {a k r : Nat} {c : mCe} (hc : M.1[a]? = some c) : (m_setR M a k r).1 = M.1.set a (c.1, c.2.1, c.2.2.set k (some r)) := by
  unfold m_setR
  rw [hc]
theorem g_Wd.setR {G : mG} {M : mMM} {H H1 : Heap} {a k r : Nat} {c : mCe} (h : g_Wd G M H) (hc : M.1[a]? = some c) (hsz : H1.size = H.size) (oq : ∀ q : Nat, q ≠ G.1 + a → H1[q]? = H[q]?) (ha : va_at G.2.1 mcl (G.1 + a, g_cell G (m_setR M a k r) a (c.1, c.2.1, c.2.2.set k (some r))) H1) : g_Wd G (m_setR M a k r) H1 := by
  have hl : a < M.1.length := (List.getElem?_eq_some_iff.mp hc).1
  refine h.upd (a := a) (by rw [m_setR_sh hc, List.length_set]) rfl hsz oq (fun b c' hb hc' => ?_) (fun c' hc' => ?_)
  · rw [m_setR_sh hc, List.getElem?_set_ne (Ne.symm hb)] at hc'
    exact ⟨hc', g_cell_eq rfl rfl⟩
  · rw [m_setR_sh hc, List.getElem?_set_self hl] at hc'
    cases hc'
    refine ⟨ha, fun q => ?_⟩
    show (c.2.2.set k (some r)).length = c.2.1
    rw [List.length_set]
    exact h.2.2.2.2 a c hc q
/-- a new cell -/
theorem g_Wd.new {G : mG} {M : mMM} {H H1 : Heap} {t n z : Nat} {rs : List (Option Nat)} (h : g_Wd G M H) (h0 : M.2.1 = 0) (hlt : M.1.length + 1 < 1000000) (hsz : H1.size = H.size + 1) (oq : ∀ q : Nat, q < H.size → H1[q]? = H[q]?) (ha : va_at G.2.1 mcl (H.size, g_cell G (m_new M t n rs z) M.1.length (t, n, rs)) H1) (hr : 4 ≤ t → rs.length = n) : g_Wd G (m_new M t n rs z) H1 := by
  obtain ⟨h1, h2, h3, h4, h5⟩ := h
  have hs := h1 h0
  have key : ∀ (b : Nat) (c : mCe), (m_new M t n rs z).1[b]? = some c → (b < M.1.length ∧ M.1[b]? = some c) ∨ (b = M.1.length ∧ c = (t, n, rs)) := by
    intro b c hb
    have hb : (M.1 ++ [(t, n, rs)])[b]? = some c := hb
    by_cases hl : b < M.1.length
    · rw [List.getElem?_append_left hl] at hb
      exact Or.inl ⟨hl, hb⟩
    · rw [List.getElem?_append_right (by omega)] at hb
      have hz : b - M.1.length < 1 := (List.getElem?_eq_some_iff.mp hb).1
      rw [show b - M.1.length = 0 by omega] at hb
      cases hb
      exact Or.inr ⟨by omega, rfl⟩
  have hlen : (m_new M t n rs z).1.length = M.1.length + 1 := by show (M.1 ++ [(t, n, rs)]).length = _; simp
  refine ⟨fun _ => ?_, ?_, ?_, fun b c hb => ?_, fun b c hb => ?_⟩
  · rw [hlen, hsz, hs]; omega
  · rw [hlen, hsz, hs]; omega
  · rw [hlen]; exact hlt
  · rcases key b c hb with ⟨hl, hc⟩ | ⟨rfl, rfl⟩
    · have e : g_cell G (m_new M t n rs z) b c = g_cell G M b c := g_cell_eq (by show m_clr _ _ _ b = _; funext j; exact if_neg (by omega)) (by show m_clr _ _ _ b = _; funext j; exact if_neg (by omega))
      rw [e]
      exact (h4 b c hc).kept (oq _ (by show G.1 + b < H.size; omega))
    · rw [← hs]
      exact ha
  · rcases key b c hb with ⟨hl, hc⟩ | ⟨rfl, rfl⟩
    · exact h5 b c hc
    · exact hr
