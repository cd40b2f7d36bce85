/-! steps that write arrays and make cells -/
theorem m_k9 {ci : Nat} {r : vw_C} (h : mcl[ci]? = some r) : ∀ k, k < r.2.2 → m_kind ci k < 4 := by
  match ci, h with
  | 0, h => cases h; decide +kernel
  | 1, h => cases h; decide +kernel
  | 2, h => cases h; decide +kernel
  | 3, h => cases h; decide +kernel
  | 4, h => cases h; decide +kernel
  | 5, h => cases h; decide +kernel
  | 6, h => cases h; decide +kernel
  | 7, h => cases h; decide +kernel
  | 8, h => cases h; decide +kernel
  | 9, h => cases h; decide +kernel
  | 10, h => cases h; decide +kernel
  | 11, h => cases h; decide +kernel
  | 12, h => cases h; decide +kernel
  | n + 13, h => simp at h
theorem m_rows_facts : ∀ (n : Nat) (M : mMM) (k : Nat), (m_rows n M k).1 = M.1 ++ List.replicate n (0, k, []) ∧ (m_rows n M k).2.1 = M.2.1 ∧ (m_rows n M k).2.2.1 = M.2.2.1 ∧ mZ (m_rows n M k) = mZ M + n * k ∧
    (∀ b, b < M.1.length → mI (m_rows n M k) b = mI M b ∧ mL (m_rows n M k) b = mL M b) ∧ ∀ b, M.1.length ≤ b → b < M.1.length + n → mI (m_rows n M k) b = fun _ => 0
  | 0, M, k => ⟨by simp [m_rows], rfl, rfl, by simp [m_rows], fun b _ => ⟨rfl, rfl⟩, fun b h1 h2 => by omega⟩
  | n + 1, M, k => by
    obtain ⟨h1, h2, h3, h4, h5, h6⟩ := m_rows_facts n (m_new M 0 k [] k) k
    have hl : (m_new M 0 k [] k).1.length = M.1.length + 1 := by show (M.1 ++ _).length = _; simp
    refine ⟨?_, h2, h3, ?_, fun b hb => ?_, fun b hb1 hb2 => ?_⟩
    · show (m_rows n (m_new M 0 k [] k) k).1 = _
      rw [h1]
      show (M.1 ++ [(0, k, [])]) ++ List.replicate n (0, k, []) = _
      rw [List.append_assoc]
      rfl
    · show mZ (m_rows n (m_new M 0 k [] k) k) = _
      rw [h4]
      show mZ M + k + n * k = mZ M + (n + 1) * k
      rw [Nat.add_mul]
      omega
    · show mI (m_rows n (m_new M 0 k [] k) k) b = _ ∧ mL (m_rows n (m_new M 0 k [] k) k) b = _
      obtain ⟨q1, q2⟩ := h5 b (by rw [hl]; omega)
      rw [q1, q2]
      exact ⟨funext fun j => if_neg (by omega), funext fun j => if_neg (by omega)⟩
    · show mI (m_rows n (m_new M 0 k [] k) k) b = _
      by_cases e : b = M.1.length
      · rw [(h5 b (by rw [hl]; omega)).1]
        exact funext fun j => if_pos e
      · exact h6 b (by rw [hl]; omega) (by rw [hl]; omega)
section ST2
variable {G : mG} {k d : Nat} {p : Program} {l : Launch} {e : Env} {R : Room} {s : State} {m : MethodId} {args : Array Value} {below : List Frame} {meth : Method} {c : Code} {Q : State → Prop} {nL c0 z0 pc pc' idx : Nat} {ls ls' : mLS} {st st' : List Value} {M M' : mMM}
theorem s_iast (hF : g_Fr G k d p R s m args meth c) (hdg : decode (mprog k).2.1 pc = .ok (.iastore, 1)) (h : m_ast pc ls st M 0 = some (pc', ls', st', M')) (hk : g_Go G p l e R s m args below meth c Q nL c0 z0 pc' ls' st' M') : g_Go G p l e R s m args below meth c Q nL c0 z0 pc ls st M := by
  obtain ⟨v, j, a, cc, rfl, hc, hin, rfl, rfl, hv⟩ := m_ast_inv h
  obtain ⟨hx, hb, -, hown, hts, -, hE, -⟩ := id hF
  intro H locs lsA cells slots hA
  obtain ⟨hWd, hS, hL, hcl, hzl⟩ := hA
  rcases hv with ⟨x, rfl, -, h0, rfl⟩ | ⟨x, -, h9, -⟩ | ⟨x, -, h9, -⟩ | ⟨x, -, h9, -⟩ | ⟨q, cq, -, h9, -⟩
  · have hat := hWd.2.2.2.1 a cc hc
    have ha := g_ad hF hWd hc
    obtain ⟨t, n, rs⟩ := cc
    have h0 : t = 0 := h0
    subst h0
    show W p l e R s m args below meth c H locs cells slots Q (F0 m pc lsA (.int x :: .int j :: .ref (G.2.2.2.1 a) :: st'.map (g_rv G)))
    rw [ha]
    refine x_iast (D := G.2.1) (cl := mcl) hx hb hE.1 0 hat rfl hin hdg fun H1 sl hat1 hsz oq => ?_
    refine hk H1 _ lsA cells slots ⟨hWd.setI hc hsz oq ?_, hS.put hsz oq (Nat.le_add_right _ _), hL, hcl, hzl⟩
    have e1 : mI (m_setI M a j.toNatClampNeg x) a = upd (mI M a) j.toNatClampNeg x := m_up_at
    show va_at G.2.1 mcl (G.1 + a, .inl (G.2.2.1 0, n, .inl (mI (m_setI M a j.toNatClampNeg x) a))) H1
    rw [e1]
    exact hat1
  · cases h9
  · cases h9
  · cases h9
  · cases h9
theorem s_bast (hF : g_Fr G k d p R s m args meth c) (hdg : decode (mprog k).2.1 pc = .ok (.bastore, 1)) (h : m_ast pc ls st M 1 = some (pc', ls', st', M')) (hk : g_Go G p l e R s m args below meth c Q nL c0 z0 pc' ls' st' M') : g_Go G p l e R s m args below meth c Q nL c0 z0 pc ls st M := by
  obtain ⟨v, j, a, cc, rfl, hc, hin, rfl, rfl, hv⟩ := m_ast_inv h
  obtain ⟨hx, hb, -, hown, hts, -, hE, -⟩ := id hF
  intro H locs lsA cells slots hA
  obtain ⟨hWd, hS, hL, hcl, hzl⟩ := hA
  rcases hv with ⟨x, -, h9, -⟩ | ⟨x, rfl, -, h0, rfl⟩ | ⟨x, rfl, -, h0, rfl⟩ | ⟨x, -, h9, -⟩ | ⟨q, cq, -, h9, -⟩
  · cases h9
  · have hat := hWd.2.2.2.1 a cc hc
    have ha := g_ad hF hWd hc
    obtain ⟨t, n, rs⟩ := cc
    have h0 : t = 1 := h0
    subst h0
    show W p l e R s m args below meth c H locs cells slots Q (F0 m pc lsA (.int x :: .int j :: .ref (G.2.2.2.1 a) :: st'.map (g_rv G)))
    rw [ha]
    refine x_bast (D := G.2.1) (cl := mcl) hx hb hE.1 1 hat rfl hin hdg fun H1 sl hat1 hsz oq => ?_
    refine hk H1 _ lsA cells slots ⟨hWd.setI hc hsz oq ?_, hS.put hsz oq (Nat.le_add_right _ _), hL, hcl, hzl⟩
    have e1 : mI (m_setI M a j.toNatClampNeg (vp_nar .byte x)) a = upd (mI M a) j.toNatClampNeg (vp_nar .byte x) := m_up_at
    show va_at G.2.1 mcl (G.1 + a, .inl (G.2.2.1 1, n, .inl (mI (m_setI M a j.toNatClampNeg (vp_nar .byte x)) a))) H1
    rw [e1]
    exact hat1
  · have hat := hWd.2.2.2.1 a cc hc
    have ha := g_ad hF hWd hc
    obtain ⟨t, n, rs⟩ := cc
    have h0 : t = 2 := h0
    subst h0
    show W p l e R s m args below meth c H locs cells slots Q (F0 m pc lsA (.int x :: .int j :: .ref (G.2.2.2.1 a) :: st'.map (g_rv G)))
    rw [ha]
    refine x_zast (D := G.2.1) (cl := mcl) hx hb hE.1 2 hat rfl hin hdg fun H1 sl hat1 hsz oq => ?_
    refine hk H1 _ lsA cells slots ⟨hWd.setI hc hsz oq ?_, hS.put hsz oq (Nat.le_add_right _ _), hL, hcl, hzl⟩
    have e1 : mI (m_setI M a j.toNatClampNeg (vp_nar .boolean x)) a = upd (mI M a) j.toNatClampNeg (vp_nar .boolean x) := m_up_at
    show va_at G.2.1 mcl (G.1 + a, .inl (G.2.2.1 2, n, .inl (mI (m_setI M a j.toNatClampNeg (vp_nar .boolean x)) a))) H1
    rw [e1]
    exact hat1
  · cases h9
  · cases h9
theorem s_last (hF : g_Fr G k d p R s m args meth c) (hdg : decode (mprog k).2.1 pc = .ok (.lastore, 1)) (h : m_ast pc ls st M 3 = some (pc', ls', st', M')) (hk : g_Go G p l e R s m args below meth c Q nL c0 z0 pc' ls' st' M') : g_Go G p l e R s m args below meth c Q nL c0 z0 pc ls st M := by
  obtain ⟨v, j, a, cc, rfl, hc, hin, rfl, rfl, hv⟩ := m_ast_inv h
  obtain ⟨hx, hb, -, hown, hts, -, hE, -⟩ := id hF
  intro H locs lsA cells slots hA
  obtain ⟨hWd, hS, hL, hcl, hzl⟩ := hA
  rcases hv with ⟨x, -, h9, -⟩ | ⟨x, -, h9, -⟩ | ⟨x, -, h9, -⟩ | ⟨x, rfl, -, h0, rfl⟩ | ⟨q, cq, -, h9, -⟩
  · cases h9
  · cases h9
  · cases h9
  · have hat := hWd.2.2.2.1 a cc hc
    have ha := g_ad hF hWd hc
    obtain ⟨t, n, rs⟩ := cc
    have h0 : t = 3 := h0
    subst h0
    show W p l e R s m args below meth c H locs cells slots Q (F0 m pc lsA (.long x :: .int j :: .ref (G.2.2.2.1 a) :: st'.map (g_rv G)))
    rw [ha]
    refine x_last (D := G.2.1) (cl := mcl) hx hb hE.1 3 hat rfl hin hdg fun H1 sl hat1 hsz oq => ?_
    refine hk H1 _ lsA cells slots ⟨hWd.setL hc hsz oq ?_, hS.put hsz oq (Nat.le_add_right _ _), hL, hcl, hzl⟩
    have e1 : mL (m_setL M a j.toNatClampNeg x) a = vp_updL (mL M a) j.toNatClampNeg x := m_up_atL
    show va_at G.2.1 mcl (G.1 + a, .inl (G.2.2.1 3, n, .inr (.inl (mL (m_setL M a j.toNatClampNeg x) a)))) H1
    rw [e1]
    exact hat1
  · cases h9
theorem s_aast (hF : g_Fr G k d p R s m args meth c) (hdg : decode (mprog k).2.1 pc = .ok (.aastore, 1)) (h : m_ast pc ls st M 4 = some (pc', ls', st', M')) (hk : g_Go G p l e R s m args below meth c Q nL c0 z0 pc' ls' st' M') : g_Go G p l e R s m args below meth c Q nL c0 z0 pc ls st M := by
  obtain ⟨v, j, a, cc, rfl, hc, hin, rfl, rfl, hv⟩ := m_ast_inv h
  obtain ⟨hx, hb, -, hown, hts, -, hE, -⟩ := id hF
  intro H locs lsA cells slots hA
  obtain ⟨hWd, hS, hL, hcl, hzl⟩ := hA
  rcases hv with ⟨x, -, h9, -⟩ | ⟨x, -, h9, -⟩ | ⟨x, -, h9, -⟩ | ⟨x, -, h9, -⟩ | ⟨q, cq, rfl, -, h0, hq, h12, rfl⟩
  · cases h9
  · cases h9
  · cases h9
  · cases h9
  · have hat := hWd.2.2.2.1 a cc hc
    have ha := g_ad hF hWd hc
    have hlen := hWd.2.2.2.2 a cc hc (by omega)
    have hatq := hWd.2.2.2.1 q cq hq
    have haq := g_ad hF hWd hq
    rw [g_cell_obj (ci := 6) (by rw [h12])] at hatq
    obtain ⟨t, n, rs⟩ := cc
    have h0 : t = 5 := h0
    subst h0
    have hlen : rs.length = n := hlen
    have hlt : j.toNatClampNeg < n := Nat.not_le.mp fun z => hin (Or.inr z)
    show W p l e R s m args below meth c H locs cells slots Q (F0 m pc lsA (.ref (G.2.2.2.1 q) :: .int j :: .ref (G.2.2.2.1 a) :: st'.map (g_rv G)))
    rw [ha, haq]
    refine x_aast (D := G.2.1) (cl := mcl) (r := (mR6, mT6, 14)) hx hb hE.1 5 6 hat rfl hatq rfl hin hdg fun H1 sl hat1 hsz oq => ?_
    have hlr : (m_setR M a j.toNatClampNeg q).1.length = M.1.length := by rw [m_setR_sh hc, List.length_set]
    refine hk H1 _ lsA cells slots ⟨hWd.setR hc hsz oq ?_, hS.put hsz oq (Nat.le_add_right _ _), hL, ?_, hzl⟩
    · show va_at G.2.1 mcl (G.1 + a, .inl (G.2.2.1 5, n, .inr (.inr (.inr (.inr (fun i => g_rf G (m_rf (rs.set j.toNatClampNeg (some q)) i))))))) H1
      have e1 : (fun i => g_rf G (m_rf (rs.set j.toNatClampNeg (some q)) i)) = va_up (fun i => g_rf G (m_rf rs i)) j.toNatClampNeg (some (G.1 + q)) := by
        funext i
        rw [m_rf_set (by omega)]
        by_cases e : i = j.toNatClampNeg
        · rw [if_pos e, va_up, if_pos e, ← haq]
          rfl
        · rw [if_neg e, va_up, if_neg e]
      rw [e1]
      exact hat1
    · show cells + c0 = (m_setR M a j.toNatClampNeg q).1.length + M.2.2.1
      rw [hlr]
      exact hcl
theorem g_new_I {t n z : Nat} {rs : List (Option Nat)} : mI (m_new M t n rs z) M.1.length = fun _ => 0 := funext fun j => if_pos rfl
theorem g_new_L {t n z : Nat} {rs : List (Option Nat)} : mL (m_new M t n rs z) M.1.length = fun _ => 0 := funext fun j => if_pos rfl
theorem g_new_c {t n z : Nat} {rs : List (Option Nat)} : mCells (m_new M t n rs z) = mCells M + 1 := by
  show (M.1 ++ [(t, n, rs)]).length + M.2.2.1 = M.1.length + M.2.2.1 + 1
  simp
  omega
theorem s_newa (hF : g_Fr G k d p R s m args meth c) {ty : ArrayType} (hdg : decode (mprog k).2.1 pc = .ok (.newarray ty, 2)) (h : m_newa pc ls st M ty = some (pc', ls', st', M')) (hR : mCells M' ≤ R.cells + c0 ∧ mZ M' ≤ R.slots + z0) (hk : g_Go G p l e R s m args below meth c Q nL c0 z0 pc' ls' st' M') : g_Go G p l e R s m args below meth c Q nL c0 z0 pc ls st M := by
  obtain ⟨n, r, q, rfl, hq, hn, h2⟩ := m_newa_inv h
  obtain ⟨h0, hlt, hn1, rfl, rfl, rfl, rfl⟩ := m_new1_inv h2
  obtain ⟨hx, hb, -, hown, hts, -, hE, -⟩ := id hF
  intro H locs lsA cells slots hA
  obtain ⟨hWd, hS, hL, hcl, hzl⟩ := hA
  have hs := hWd.1 h0
  have e1 : G.2.2.2.1 M.1.length = H.size := by rw [hs, hE.2.2.2.2.2.2.1 M.1.length (by omega)]
  have hR1 : cells + 1 ≤ R.cells := by have := hR.1; rw [g_new_c] at this; omega
  have hR2 : slots + n.toNatClampNeg ≤ R.slots := by
    have := hR.2
    have e : mZ (m_new M q n.toNatClampNeg [] n.toNatClampNeg) = mZ M + n.toNatClampNeg := rfl
    rw [e] at this
    omega
  have key : ∀ (H1 : Heap), va_at G.2.1 mcl (H.size, g_cell G (m_new M q n.toNatClampNeg [] n.toNatClampNeg) M.1.length (q, n.toNatClampNeg, [])) H1 → H1.size = H.size + 1 → (∀ q : Nat, q < H.size → H1[q]? = H[q]?) → q < 4 →
      W p l e R s m args below meth c H1 locs (cells + 1) (slots + n.toNatClampNeg) Q (F0 m (pc + 2) lsA (.ref H.size :: r.map (g_rv G))) := by
    intro H1 hat hsz oq hq4
    have hg := hk H1 locs lsA (cells + 1) (slots + n.toNatClampNeg) ⟨hWd.new h0 hlt hsz oq hat (fun z => by omega), hS.grow hsz oq, hL, by rw [g_new_c]; omega, by show _ = mZ M + n.toNatClampNeg; omega⟩
    rw [← e1]
    exact hg
  show W p l e R s m args below meth c H locs cells slots Q (F0 m pc lsA (.int n :: r.map (g_rv G)))
  cases ty <;> simp [m_akind] at hq <;> subst hq
  · refine x_newa (D := G.2.1) (cl := mcl) (atype := .boolean) (ty := .boolean) hx hb (hts _ w_aZ) rfl hE.1 2 rfl (fun z => z) (a0 := (n.toNatClampNeg, .inl (fun _ => 0))) rfl hn rfl (by show n.toNatClampNeg * 1 ≤ _; omega) hR1 hR2 hdg fun H1 hat hsz oq => key H1 ?_ hsz oq (by omega)
    show va_at G.2.1 mcl (H.size, .inl (G.2.2.1 2, n.toNatClampNeg, .inl (mI (m_new M 2 n.toNatClampNeg [] n.toNatClampNeg) M.1.length))) H1
    rw [g_new_I]
    exact hat
  · refine x_newa (D := G.2.1) (cl := mcl) (atype := .byte) (ty := .byte) hx hb (hts _ w_aB) rfl hE.1 1 rfl (fun z => z) (a0 := (n.toNatClampNeg, .inl (fun _ => 0))) rfl hn rfl (by show n.toNatClampNeg * 1 ≤ _; omega) hR1 hR2 hdg fun H1 hat hsz oq => key H1 ?_ hsz oq (by omega)
    show va_at G.2.1 mcl (H.size, .inl (G.2.2.1 1, n.toNatClampNeg, .inl (mI (m_new M 1 n.toNatClampNeg [] n.toNatClampNeg) M.1.length))) H1
    rw [g_new_I]
    exact hat
  · refine x_newa (D := G.2.1) (cl := mcl) (atype := .int) (ty := .int) hx hb (hts _ w_aI) rfl hE.1 0 rfl (fun z => z) (a0 := (n.toNatClampNeg, .inl (fun _ => 0))) rfl hn rfl (by show n.toNatClampNeg * 4 ≤ _; omega) hR1 hR2 hdg fun H1 hat hsz oq => key H1 ?_ hsz oq (by omega)
    show va_at G.2.1 mcl (H.size, .inl (G.2.2.1 0, n.toNatClampNeg, .inl (mI (m_new M 0 n.toNatClampNeg [] n.toNatClampNeg) M.1.length))) H1
    rw [g_new_I]
    exact hat
  · refine x_newa (D := G.2.1) (cl := mcl) (atype := .long) (ty := .long) hx hb (hts _ w_aL) rfl hE.1 3 rfl (fun z => z) (a0 := (n.toNatClampNeg, .inr (.inl (fun _ => 0)))) rfl hn rfl (by show n.toNatClampNeg * 8 ≤ _; omega) hR1 hR2 hdg fun H1 hat hsz oq => key H1 ?_ hsz oq (by omega)
    show va_at G.2.1 mcl (H.size, .inl (G.2.2.1 3, n.toNatClampNeg, .inr (.inl (mL (m_new M 3 n.toNatClampNeg [] n.toNatClampNeg) M.1.length)))) H1
    rw [g_new_L]
    exact hat
theorem s_obj (hF : g_Fr G k d p R s m args meth c) (hdg : decode (mprog k).2.1 pc = .ok (.new idx, 3)) (h : m_obj (mprog k).2.2.2.2.1 pc ls st M idx = some (pc', ls', st', M')) (hR : mCells M' ≤ R.cells + c0 ∧ mZ M' ≤ R.slots + z0) (hk : g_Go G p l e R s m args below meth c Q nL c0 z0 pc' ls' st' M') : g_Go G p l e R s m args below meth c Q nL c0 z0 pc ls st M := by
  obtain ⟨ci, N, hm, h2⟩ := m_obj_inv h
  obtain ⟨h0, hlt, hn1, rfl, rfl, rfl, rfl⟩ := m_new1_inv h2
  obtain ⟨q, hq, rfl, hl⟩ := mcp_cls hm
  obtain ⟨f1, f2, f3, f4, f5, f6, f7, f8⟩ := m_clsF hq
  obtain ⟨hx, hb, -, hown, hts, -, hE, -⟩ := id hF
  intro H locs lsA cells slots hA
  obtain ⟨hWd, hS, hL, hcl, hzl⟩ := hA
  have hs := hWd.1 h0
  have e1 : G.2.2.2.1 M.1.length = H.size := by rw [hs, hE.2.2.2.2.2.2.1 M.1.length (by omega)]
  have hR1 : cells + 1 ≤ R.cells := by have := hR.1; rw [g_new_c] at this; omega
  have hR2 : slots + q.2.2 ≤ R.slots := by
    have := hR.2
    have e : mZ (m_new M (6 + ci) q.2.2 (List.replicate q.2.2 none) q.2.2) = mZ M + q.2.2 := rfl
    rw [e] at this
    omega
  refine x_new (D := G.2.1) (cl := mcl) (ci := ci) (C := q.1) (T := q.2.1) (N := q.2.2) (fs := g_fs G (m_new M (6 + ci) q.2.2 (List.replicate q.2.2 none) q.2.2) M.1.length ci q.2.2 (List.replicate q.2.2 none)) hx hb hts f1 (m_ty q) f2 hown (hts _ hl) (hts _ f7) (hts _ f8) hE.1 hq (fun j hj => ?_) hR1 hR2 hdg fun H1 hat hsz oq => ?_
  · have hv : vp_V (g_fs G (m_new M (6 + ci) q.2.2 (List.replicate q.2.2 none) q.2.2) M.1.length ci q.2.2 (List.replicate q.2.2 none)) j = g_rv G (m_fld (m_new M (6 + ci) q.2.2 (List.replicate q.2.2 none) q.2.2) M.1.length ci j (List.replicate q.2.2 none)) := by
      unfold vp_V
      rw [List.getD_eq_getElem?_getD, g_fs_get hj]
      rfl
    rw [hv]
    have h9 := m_k9 hq j hj
    have h8 := f4 j hj
    have hI : mI (m_new M (6 + ci) q.2.2 (List.replicate q.2.2 none) q.2.2) M.1.length j = 0 := congrFun g_new_I j
    have hLg : mL (m_new M (6 + ci) q.2.2 (List.replicate q.2.2 none) q.2.2) M.1.length j = 0 := congrFun g_new_L j
    have hrf : m_rf (List.replicate q.2.2 none) j = none := by simp [m_rf, hj]
    match hkk : m_kind ci j, h9 with
    | 0, _ =>
      rw [hkk] at h8
      rw [m_tk_0 h8.symm, m_fld_int (Or.inl hkk), hI]
      rfl
    | 1, _ =>
      rw [hkk] at h8
      rw [m_tk_1 h8.symm, m_fld_long hkk, hLg]
      rfl
    | 2, _ =>
      rw [hkk] at h8
      rw [m_fld_ref hkk, hrf]
      rcases m_tk_2 h8.symm with ⟨z, hz⟩ | ⟨z, hz⟩ <;> rw [hz] <;> rfl
    | 3, _ =>
      rw [hkk] at h8
      rw [m_tk_3 h8.symm, m_fld_int (Or.inr hkk), hI]
      rfl
  · have hg := hk H1 locs lsA (cells + 1) (slots + q.2.2) ⟨hWd.new h0 hlt hsz oq (by rw [g_cell_obj (ci := ci) rfl]; exact hat) (fun z => by simp), hS.grow hsz oq, hL, by rw [g_new_c]; omega, by show _ = mZ M + q.2.2; omega⟩
    rw [← e1]
    exact hg
theorem s_cast (hF : g_Fr G k d p R s m args meth c) (hdg : decode (mprog k).2.1 pc = .ok (.anewarray idx, 3)) (h : m_cast (mprog k).2.2.2.2.1 pc ls st M idx = some (pc', ls', st', M')) (hR : mCells M' ≤ R.cells + c0 ∧ mZ M' ≤ R.slots + z0) (hk : g_Go G p l e R s m args below meth c Q nL c0 z0 pc' ls' st' M') : g_Go G p l e R s m args below meth c Q nL c0 z0 pc ls st M := by
  obtain ⟨n, r, z, rfl, hm, hn, h2⟩ := m_cast_inv h
  obtain ⟨h0, hlt, hn1, rfl, rfl, rfl, rfl⟩ := m_new1_inv h2
  obtain ⟨q, hq, rfl, hl⟩ := mcp_cls hm
  obtain ⟨hx, hb, -, hown, hts, -, hE, -⟩ := id hF
  intro H locs lsA cells slots hA
  obtain ⟨hWd, hS, hL, hcl, hzl⟩ := hA
  have hs := hWd.1 h0
  have e1 : G.2.2.2.1 M.1.length = H.size := by rw [hs, hE.2.2.2.2.2.2.1 M.1.length (by omega)]
  have hR1 : cells + 1 ≤ R.cells := by have := hR.1; rw [g_new_c] at this; omega
  have hR2 : slots + n.toNatClampNeg ≤ R.slots := by
    have := hR.2
    have e : mZ (m_new M 5 n.toNatClampNeg (List.replicate n.toNatClampNeg none) n.toNatClampNeg) = mZ M + n.toNatClampNeg := rfl
    rw [e] at this
    omega
  cases hq
  show W p l e R s m args below meth c H locs cells slots Q (F0 m pc lsA (.int n :: r.map (g_rv G)))
  refine x_newq (D := G.2.1) (cl := mcl) (C := "PartingTrains$Plan") hx hb hown (hts _ hl) (va_AO.use hE.2.2.2.2.2.2.2.2.1) hE.1 5 rfl hn rfl (by omega) hR1 hR2 hdg fun H1 hat hsz oq => ?_
  have hg := hk H1 locs lsA (cells + 1) (slots + n.toNatClampNeg) ⟨hWd.new h0 hlt hsz oq ?_ (fun z => by simp), hS.grow hsz oq, hL, by rw [g_new_c]; omega, by show _ = mZ M + n.toNatClampNeg; omega⟩
  · rw [← e1]
    exact hg
  · show va_at G.2.1 mcl (H.size, .inl (G.2.2.1 5, n.toNatClampNeg, .inr (.inr (.inr (.inr (fun i => g_rf G (m_rf (List.replicate n.toNatClampNeg none) i))))))) H1
    have e2 : (fun i => g_rf G (m_rf (List.replicate n.toNatClampNeg none) i)) = fun _ => none := by
      funext i
      have : m_rf (List.replicate n.toNatClampNeg none) i = none := by
        unfold m_rf
        split
        · next x hx => exact List.eq_of_mem_replicate (List.mem_of_getElem? hx)
        · rfl
      rw [this]
      rfl
    rw [e2]
    exact hat
theorem s_mna {dim : Nat} (hF : g_Fr G k d p R s m args meth c) (hdg : decode (mprog k).2.1 pc = .ok (.multianewarray idx dim, 4)) (h : m_mna (mprog k).2.2.2.2.1 pc ls st M idx dim = some (pc', ls', st', M')) (hR : mCells M' ≤ R.cells + c0 ∧ mZ M' ≤ R.slots + z0) (hk : g_Go G p l e R s m args below meth c Q nL c0 z0 pc' ls' st' M') : g_Go G p l e R s m args below meth c Q nL c0 z0 pc ls st M := by
  obtain ⟨kk, n, r, z1, z2, rfl, hm, rfl, hn, hk0, h0, hlt, hn1, hk1, rfl, rfl, rfl, hM⟩ := m_mna_inv h
  have hl := mcp_grid hm
  obtain ⟨hx, hb, -, hown, hts, -, hE, -⟩ := id hF
  intro H locs lsA cells slots hA
  obtain ⟨hWd, hS, hL, hcl, hzl⟩ := hA
  have hs := hWd.1 h0
  have e1 : G.2.2.2.1 M.1.length = H.size := by rw [hs, hE.2.2.2.2.2.2.1 M.1.length (by omega)]
  generalize hN : n.toNatClampNeg = N at *
  generalize hKK : kk.toNatClampNeg = K at *
  obtain ⟨g1, g2, g3, g4, g5, g6⟩ := m_rows_facts N (m_new M 4 N ((List.range N).map (fun i => some (M.1.length + 1 + i))) N) K
  rw [← hM] at g1 g2 g3 g4 g5 g6
  have hl1 : (m_new M 4 N ((List.range N).map (fun i => some (M.1.length + 1 + i))) N).1.length = M.1.length + 1 := by show (M.1 ++ _).length = _; simp
  have hsh : M'.1 = M.1 ++ [(4, N, (List.range N).map (fun i => some (M.1.length + 1 + i)))] ++ List.replicate N (0, K, []) := g1
  have hlen : M'.1.length = M.1.length + 1 + N := by rw [hsh]; simp; omega
  have hcM : mCells M' = mCells M + (1 + N) := by
    show M'.1.length + M'.2.2.1 = _
    rw [hlen, g3]
    show _ + M.2.2.1 = M.1.length + M.2.2.1 + (1 + N)
    omega
  have hzM : mZ M' = mZ M + (N + N * K) := by
    rw [g4]
    show mZ M + N + N * K = _
    omega
  show W p l e R s m args below meth c H locs cells slots Q (F0 m pc lsA (.int kk :: .int n :: r.map (g_rv G)))
  refine x_mna (D := G.2.1) (cl := mcl) (cA := G.2.2.1 4) (cy := G.2.2.1 0) hx hb hown (hts _ hl) hE.2.2.2.2.2.2.2.2.2.1 (hts _ w_aI) (hE.1.2 4 _ rfl).2 (hE.1.2 0 _ rfl).2 hn hk0 (by omega) (by omega) (by have := hR.1; omega) (by have := hR.2; rw [hN, hKK]; omega) hdg fun H1 hat hrow hsz oq => ?_
  rw [hN] at hat hrow hsz ⊢
  rw [hKK] at hrow ⊢
  have hg := hk H1 locs lsA (cells + (1 + N)) (slots + (N + N * K)) ⟨⟨fun _ => ?_, ?_, ?_, fun b cb hb => ?_, fun b cb hb => ?_⟩, hS.grow (n := 1 + N) (by omega) oq, hL, by omega, by omega⟩
  · rw [← e1]
    exact hg
  · rw [hlen, hsz, hs]; omega
  · rw [hlen, hsz, hs]; omega
  · rw [hlen]; omega
  · by_cases hb1 : b < M.1.length
    · rw [hsh, List.append_assoc, List.getElem?_append_left hb1] at hb
      obtain ⟨q1, q2⟩ := g5 b (by rw [hl1]; omega)
      have e2 : g_cell G M' b cb = g_cell G M b cb := g_cell_eq (by rw [q1]; exact funext fun j => if_neg (by omega)) (by rw [q2]; exact funext fun j => if_neg (by omega))
      rw [e2]
      exact (hWd.2.2.2.1 b cb hb).kept (oq _ (by show G.1 + b < H.size; omega))
    · by_cases hb2 : b = M.1.length
      · subst hb2
        rw [hsh, List.append_assoc, List.getElem?_append_right (Nat.le_refl _), Nat.sub_self] at hb
        cases hb
        rw [← hs]
        show va_at G.2.1 mcl (H.size, .inl (G.2.2.1 4, N, .inr (.inr (.inr (.inr (fun i => g_rf G (m_rf ((List.range N).map (fun i => some (M.1.length + 1 + i))) i))))))) H1
        have e2 : (fun i => g_rf G (m_rf ((List.range N).map (fun i => some (M.1.length + 1 + i))) i)) = fun i => if i < N then some (H.size + 1 + i) else none := by
          funext i
          by_cases hi : i < N
          · have : m_rf ((List.range N).map (fun i => some (M.1.length + 1 + i))) i = some (M.1.length + 1 + i) := by simp [m_rf, hi]
            rw [this, if_pos hi]
            show some (G.2.2.2.1 (M.1.length + 1 + i)) = _
            rw [hE.2.2.2.2.2.2.1 _ (by omega), hs]
            congr 1
            omega
          · have : m_rf ((List.range N).map (fun i => some (M.1.length + 1 + i))) i = none := by simp [m_rf, hi]
            rw [this, if_neg hi]
            rfl
        rw [e2]
        exact hat
      · have hb3 : b < M.1.length + 1 + N := by
          have := (List.getElem?_eq_some_iff.mp hb).1
          omega
        rw [hsh, List.getElem?_append_right (by simp; omega)] at hb
        have hcb := List.eq_of_mem_replicate (List.mem_of_getElem? hb)
        subst hcb
        have q1 := g6 b (by rw [hl1]; omega) (by rw [hl1]; omega)
        show va_at G.2.1 mcl (G.1 + b, .inl (G.2.2.1 0, K, .inl (mI M' b))) H1
        rw [q1]
        have := hrow (b - (M.1.length + 1)) (by omega)
        rw [hs, show G.1 + M.1.length + 1 + (b - (M.1.length + 1)) = G.1 + b by omega] at this
        exact this
  · intro h4
    by_cases hb1 : b < M.1.length
    · rw [hsh, List.append_assoc, List.getElem?_append_left hb1] at hb
      exact hWd.2.2.2.2 b cb hb h4
    · by_cases hb2 : b = M.1.length
      · subst hb2
        rw [hsh, List.append_assoc, List.getElem?_append_right (Nat.le_refl _), Nat.sub_self] at hb
        cases hb
        simp
      · rw [hsh, List.getElem?_append_right (by simp; omega)] at hb
        have hcb := List.eq_of_mem_replicate (List.mem_of_getElem? hb)
        subst hcb
        exact absurd h4 (by show ¬ 4 ≤ 0; decide)
end ST2
