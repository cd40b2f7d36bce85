/-! ONE STEP of the small machine is one instruction of the machine -/
def m_ini (k : Nat) : Bool := decide ((mprog k).1.name = "<init>")
def g_Fr (G : mG) (k d : Nat) (p : Program) (R : Room) (s : State) (m : MethodId) (args : Array Value) (meth : Method) (c : Code) : Prop :=
  p.tables.exec = Jvm.exec ∧ c.code = (mprog k).2.1 ∧ c.maxLocals = (mprog k).2.2.1 ∧ s.vm.findClass (mOw (mprog k).2.2.2.2.1) = some m.cls ∧ (∀ w ∈ mTbl, w.before args s = true) ∧ meth.locks = false ∧ g_Env G s ∧ (m_ini k = true → meth.name = "<init>") ∧ d ≤ R.frames ∧ 64 * d ≤ R.locals
def g_At (G : mG) (nL c0 z0 : Nat) (s : State) (M : mMM) (ls : mLS) (cells slots : Nat) (H : Heap) (locs : List Loc) (lsA : Array Slot) : Prop :=
  g_Wd G M H ∧ va_S (g_A G) s.heap H locs ∧ g_ls G lsA nL ls ∧ cells + c0 = mCells M ∧ slots + z0 = mZ M
def g_Go (G : mG) (p : Program) (l : Launch) (e : Env) (R : Room) (s : State) (m : MethodId) (args : Array Value) (below : List Frame) (meth : Method) (c : Code) (Q : State → Prop) (nL c0 z0 pc : Nat) (ls : mLS) (st : List Value) (M : mMM) : Prop :=
  ∀ (H : Heap) (locs : List Loc) (lsA : Array Slot) (cells slots : Nat), g_At G nL c0 z0 s M ls cells slots H locs lsA → W p l e R s m args below meth c H locs cells slots Q (F0 m pc lsA (st.map (g_rv G)))
theorem va_S.grow {A : Nat → Prop} {H0 H H1 : Heap} {locs : List Loc} {n : Nat} (h : va_S A H0 H locs) (hz : H1.size = H.size + n) (oq : ∀ q : Nat, q < H.size → H1[q]? = H[q]?) : va_S A H0 H1 locs :=
  ⟨by rw [hz]; exact Nat.le_trans h.1 (Nat.le_add_right _ _), fun q q1 q2 => (oq q (Nat.lt_of_lt_of_le q1 h.1)).trans (h.2.1 q q1 q2), h.2.2⟩
theorem w_aI : Cond.arrayClass .int ∈ mTbl := mHas_ok (by decide +kernel)
theorem w_aB : Cond.arrayClass .byte ∈ mTbl := mHas_ok (by decide +kernel)
theorem w_aZ : Cond.arrayClass .boolean ∈ mTbl := mHas_ok (by decide +kernel)
theorem w_aL : Cond.arrayClass .long ∈ mTbl := mHas_ok (by decide +kernel)
section ST
variable {G : mG} {k d : Nat} {p : Program} {l : Launch} {e : Env} {R : Room} {s : State} {m : MethodId} {args : Array Value} {below : List Frame} {meth : Method} {c : Code} {Q : State → Prop} {nL c0 z0 pc pc' idx : Nat} {ls ls' : mLS} {st st' : List Value} {M M' : mMM}
theorem g_ad (hF : g_Fr G k d p R s m args meth c) {H : Heap} (hW : g_Wd G M H) {a : Nat} {cc : mCe} (h : M.1[a]? = some cc) : G.2.2.2.1 a = G.1 + a :=
  hF.2.2.2.2.2.2.1.2.2.2.2.2.2.1 a (Nat.lt_trans (List.getElem?_eq_some_iff.mp h).1 hW.2.2.1)
theorem s_get (hF : g_Fr G k d p R s m args meth c) (hdg : decode (mprog k).2.1 pc = .ok (.getfield idx, 3)) (h : m_get (mprog k).2.2.2.2.1 pc ls st M idx = some (pc', ls', st', M')) (hk : g_Go G p l e R s m args below meth c Q nL c0 z0 pc' ls' st' M') : g_Go G p l e R s m args below meth c Q nL c0 z0 pc ls st M := by
  obtain ⟨a, r, ci, j, cc, rfl, hm, hc, h6, hk', rfl, rfl, rfl, rfl⟩ := m_get_inv h
  obtain ⟨q, hq, hkN, hl⟩ := mcp_fld hm
  obtain ⟨hx, hb, -, hown, hts, -, hE, -⟩ := id hF
  intro H locs lsA cells slots hA
  have hat := hA.1.2.2.2.1 a cc hc
  rw [g_cell_obj h6] at hat
  show W p l e R s m args below meth c H locs cells slots Q (F0 m pc lsA (.ref (G.2.2.2.1 a) :: r.map (g_rv G)))
  rw [g_ad hF hA.1 hc]
  exact va_get (D := G.2.1) (cl := mcl) (ci := ci) (C := q.1) (T := q.2.1) (N := q.2.2) (v := g_rv G (m_fld M' a ci j cc.2.2)) hx hb hts (m_clsF hq).1 hown hE.1 (va_one hat) 0 rfl hq j hkN (hts _ hl) (fun _ z => z) (g_fs_get hk') hdg (hk H locs lsA cells slots hA)
theorem s_put (hF : g_Fr G k d p R s m args meth c) (hdg : decode (mprog k).2.1 pc = .ok (.putfield idx, 3)) (h : m_put (mprog k).2.2.2.2.1 (m_ini k) pc ls st M idx = some (pc', ls', st', M')) (hk : g_Go G p l e R s m args below meth c Q nL c0 z0 pc' ls' st' M') : g_Go G p l e R s m args below meth c Q nL c0 z0 pc ls st M := by
  obtain ⟨v, a, r, ci, j, cc, rfl, hm, hc, h6, hk', rfl, rfl, rfl, hv⟩ := m_put_inv h
  obtain ⟨q, hq, hkN, hl⟩ := mcp_fld hm
  obtain ⟨hx, hb, -, hown, hts, -, hE, hin, -⟩ := id hF
  obtain ⟨f1, f2, f3, f4, f5, f6, -⟩ := m_clsF hq
  intro H locs lsA cells slots hA
  obtain ⟨hWd, hS, hL, hcl, hzl⟩ := hA
  have hat := hWd.2.2.2.1 a cc hc
  rw [g_cell_obj h6] at hat
  have hA0 : g_A G (G.1 + a) := Nat.le_add_right _ _
  rcases hv with ⟨hki, x, rfl, rfl⟩ | ⟨hki, x, rfl, rfl⟩ | ⟨hki, hini, hoc, x, rfl, rfl⟩ | ⟨hki, x, rfl, hx01, rfl⟩
  · show W p l e R s m args below meth c H locs cells slots Q (F0 m pc lsA (.int x :: .ref (G.2.2.2.1 a) :: st'.map (g_rv G)))
    rw [g_ad hF hWd hc]
    have hty : m_ty q j = .int := m_tk_0 (by rw [← f4 j hkN]; exact hki)
    refine x_put (D := G.2.1) (cl := mcl) (ci := ci) (C := q.1) (T := q.2.1) (N := q.2.2) (ty := .int) hx hb hts f1 (m_ty q) f2 f3 hown hE.1 hat hq j hkN (hts _ hl) (fun _ z => z) ((f6 j hkN).2 (by omega)) (by rw [f2 j hkN, hty]) rfl rfl (by rw [g_fs_len]; exact hk') hdg fun H1 sl hat1 hsz oq => ?_
    refine hk H1 _ lsA cells slots ⟨hWd.setI hc hsz oq ?_, hS.put hsz oq hA0, hL, hcl, hzl⟩
    rw [g_cell_obj h6, g_fs_set (G := G) (a := a) (ci := ci) (n := cc.2.1) (M' := m_setI M a j x) (rs' := cc.2.2) (M := M) (rs := cc.2.2) (k := j) (v := .int x) (by rw [m_fld_int (Or.inl hki), m_setI_at]; rfl) (fun i hi => m_fld_eq (by show m_up _ _ _ _ a i = _; exact if_neg fun z => hi z.2) rfl rfl)]
    exact hat1
  · show W p l e R s m args below meth c H locs cells slots Q (F0 m pc lsA (.long x :: .ref (G.2.2.2.1 a) :: st'.map (g_rv G)))
    rw [g_ad hF hWd hc]
    have hty : m_ty q j = .long := m_tk_1 (by rw [← f4 j hkN]; exact hki)
    refine x_put (D := G.2.1) (cl := mcl) (ci := ci) (C := q.1) (T := q.2.1) (N := q.2.2) (ty := .long) hx hb hts f1 (m_ty q) f2 f3 hown hE.1 hat hq j hkN (hts _ hl) (fun _ z => z) ((f6 j hkN).2 (by omega)) (by rw [f2 j hkN, hty]) rfl rfl (by rw [g_fs_len]; exact hk') hdg fun H1 sl hat1 hsz oq => ?_
    refine hk H1 _ lsA cells slots ⟨hWd.setL hc hsz oq ?_, hS.put hsz oq hA0, hL, hcl, hzl⟩
    rw [g_cell_obj h6, g_fs_set (G := G) (a := a) (ci := ci) (n := cc.2.1) (M' := m_setL M a j x) (rs' := cc.2.2) (M := M) (rs := cc.2.2) (k := j) (v := .long x) (by rw [m_fld_long hki, m_setL_at]; rfl) (fun i hi => m_fld_eq rfl (by show m_up _ _ _ _ a i = _; exact if_neg fun z => hi z.2) rfl)]
    exact hat1
  · show W p l e R s m args below meth c H locs cells slots Q (F0 m pc lsA (.ref (G.2.2.2.1 x) :: .ref (G.2.2.2.1 a) :: st'.map (g_rv G)))
    rw [g_ad hF hWd hc]
    have hty := m_tk_2 (t := m_ty q j) (by rw [← f4 j hkN]; exact hki)
    have hlen : cc.2.2.length = cc.2.1 := hWd.2.2.2.2 a cc hc (by omega)
    have hnf : narrow (m_ty q j) (.ref (G.2.2.2.1 x)) = .ref (G.2.2.2.1 x) ∧ fits (m_ty q j) (.ref (G.2.2.2.1 x)) = true := by
      rcases hty with ⟨z, hz⟩ | ⟨z, hz⟩ <;> rw [hz] <;> exact ⟨rfl, rfl⟩
    have hdecl : (q.2.1 j).1 = mOw (mprog k).2.2.2.2.1 := by
      rw [f5 j hkN, hoc]
      match ci, hq with
      | 0, hq => cases hq; rfl
      | 1, hq => cases hq; rfl
      | 2, hq => cases hq; rfl
      | 3, hq => cases hq; rfl
      | 4, hq => cases hq; rfl
      | 5, hq => cases hq; rfl
      | 6, hq => cases hq; rfl
      | 7, hq => cases hq; rfl
      | 8, hq => cases hq; rfl
      | 9, hq => cases hq; rfl
      | 10, hq => cases hq; rfl
      | 11, hq => cases hq; rfl
      | 12, hq => cases hq; rfl
      | n + 13, hq => simp at hq
    refine x_putF (D := G.2.1) (cl := mcl) (ci := ci) (C := q.1) (T := q.2.1) (N := q.2.2) (ty := m_ty q j) hx hb hts f1 (m_ty q) f2 f3 hown hE.1 hat hq j hkN (hts _ hl) (fun _ z => z) ((f6 j hkN).1 hki) (hin hini) hdecl (f2 j hkN) hnf.1 hnf.2 (by rw [g_fs_len]; exact hk') hdg fun H1 sl hat1 hsz oq => ?_
    have hlr : (m_setR M a j x).1.length = M.1.length := by rw [m_setR_sh hc, List.length_set]
    refine hk H1 _ lsA cells slots ⟨hWd.setR hc hsz oq ?_, hS.put hsz oq hA0, hL, ?_, hzl⟩
    · rw [g_cell_obj (c := (cc.1, cc.2.1, cc.2.2.set j (some x))) h6, g_fs_set (G := G) (a := a) (ci := ci) (n := cc.2.1) (M' := m_setR M a j x) (rs' := cc.2.2.set j (some x)) (M := M) (rs := cc.2.2) (k := j) (v := .ref (G.2.2.2.1 x)) (by rw [m_fld_ref hki, m_rf_set (by omega), if_pos rfl]; rfl) (fun i hi => m_fld_eq rfl rfl (by rw [m_rf_set (by omega), if_neg hi]))]
      exact hat1
    · show cells + c0 = (m_setR M a j x).1.length + M.2.2.1
      rw [hlr]
      exact hcl
  · show W p l e R s m args below meth c H locs cells slots Q (F0 m pc lsA (.int x :: .ref (G.2.2.2.1 a) :: st'.map (g_rv G)))
    rw [g_ad hF hWd hc]
    have hty : m_ty q j = .boolean := m_tk_3 (by rw [← f4 j hkN]; exact hki)
    refine x_put (D := G.2.1) (cl := mcl) (ci := ci) (C := q.1) (T := q.2.1) (N := q.2.2) (ty := .boolean) hx hb hts f1 (m_ty q) f2 f3 hown hE.1 hat hq j hkN (hts _ hl) (fun _ z => z) ((f6 j hkN).2 (by omega)) (by rw [f2 j hkN, hty]) (by rcases hx01 with rfl | rfl <;> rfl) (by rcases hx01 with rfl | rfl <;> rfl) (by rw [g_fs_len]; exact hk') hdg fun H1 sl hat1 hsz oq => ?_
    refine hk H1 _ lsA cells slots ⟨hWd.setI hc hsz oq ?_, hS.put hsz oq hA0, hL, hcl, hzl⟩
    rw [g_cell_obj h6, g_fs_set (G := G) (a := a) (ci := ci) (n := cc.2.1) (M' := m_setI M a j x) (rs' := cc.2.2) (M := M) (rs := cc.2.2) (k := j) (v := .int x) (by rw [m_fld_int (Or.inr hki), m_setI_at]; rfl) (fun i hi => m_fld_eq (by show m_up _ _ _ _ a i = _; exact if_neg fun z => hi z.2) rfl rfl)]
    exact hat1
theorem s_iald {L : Nat} {xs : Nat → Int32} (hF : g_Fr G k d p R s m args meth c) (hG : L = G.2.2.2.2.1 ∧ xs = G.2.2.2.2.2) (hdg : decode (mprog k).2.1 pc = .ok (.iaload, 1)) (h : m_ald pc ls st M L xs 0 = some (pc', ls', st', M')) (hk : g_Go G p l e R s m args below meth c Q nL c0 z0 pc' ls' st' M') : g_Go G p l e R s m args below meth c Q nL c0 z0 pc ls st M := by
  obtain ⟨j, a, r, rfl, rfl, rfl, rfl, hv⟩ := m_ald_inv h
  obtain ⟨hx, hb, -, hown, hts, -, hE, -⟩ := id hF
  obtain ⟨rfl, rfl⟩ := hG
  intro H locs lsA cells slots hA
  rcases hv with ⟨rfl, -, hin, rfl⟩ | ⟨cc, hc, hin, hv⟩
  · exact va_sld (A := g_A G) hx hb hE.2.2.2.2.1 (Nat.lt_of_lt_of_le hE.2.2.2.2.2.1 hE.2.2.2.2.2.2.2.1) (Nat.not_le.mpr hE.2.2.2.2.2.1) hA.2.1 hin hdg (hk H locs lsA cells slots hA)
  · rcases hv with ⟨-, h0, rfl⟩ | ⟨h9, -⟩ | ⟨h9, -⟩ | ⟨h9, -⟩
    · have hat := hA.1.2.2.2.1 a cc hc
      obtain ⟨t, n, rs⟩ := cc
      have h0 : t = 0 := h0
      subst h0
      show W p l e R s m args below meth c H locs cells slots Q (F0 m pc lsA (.int j :: .ref (G.2.2.2.1 a) :: r.map (g_rv G)))
      rw [g_ad hF hA.1 hc]
      exact va_iald (D := G.2.1) (cl := mcl) hx hb hE.1 (va_one hat) 0 0 rfl rfl hin hdg (hk H locs lsA cells slots hA)
    · cases h9
    · cases h9
    · cases h9
theorem s_bald {L : Nat} {xs : Nat → Int32} (hF : g_Fr G k d p R s m args meth c) (hdg : decode (mprog k).2.1 pc = .ok (.baload, 1)) (h : m_ald pc ls st M L xs 1 = some (pc', ls', st', M')) (hk : g_Go G p l e R s m args below meth c Q nL c0 z0 pc' ls' st' M') : g_Go G p l e R s m args below meth c Q nL c0 z0 pc ls st M := by
  obtain ⟨j, a, r, rfl, rfl, rfl, rfl, hv⟩ := m_ald_inv h
  obtain ⟨hx, hb, -, hown, hts, -, hE, -⟩ := id hF
  intro H locs lsA cells slots hA
  rcases hv with ⟨-, h9, -⟩ | ⟨cc, hc, hin, hv⟩
  · cases h9
  · rcases hv with ⟨h9, -⟩ | ⟨-, h0, rfl⟩ | ⟨h9, -⟩ | ⟨h9, -⟩
    · cases h9
    · have hat := hA.1.2.2.2.1 a cc hc
      obtain ⟨t, n, rs⟩ := cc
      show W p l e R s m args below meth c H locs cells slots Q (F0 m pc lsA (.int j :: .ref (G.2.2.2.1 a) :: r.map (g_rv G)))
      rw [g_ad hF hA.1 hc]
      rcases h0 with h0 | h0
      · have h0 : t = 1 := h0
        subst h0
        exact va_bald (D := G.2.1) (cl := mcl) hx hb hE.1 (va_one hat) 0 1 rfl rfl hin hdg (hk H locs lsA cells slots hA)
      · have h0 : t = 2 := h0
        subst h0
        exact va_zald (D := G.2.1) (cl := mcl) hx hb hE.1 (va_one hat) 0 2 rfl rfl hin hdg (hk H locs lsA cells slots hA)
    · cases h9
    · cases h9
theorem s_lald {L : Nat} {xs : Nat → Int32} (hF : g_Fr G k d p R s m args meth c) (hdg : decode (mprog k).2.1 pc = .ok (.laload, 1)) (h : m_ald pc ls st M L xs 3 = some (pc', ls', st', M')) (hk : g_Go G p l e R s m args below meth c Q nL c0 z0 pc' ls' st' M') : g_Go G p l e R s m args below meth c Q nL c0 z0 pc ls st M := by
  obtain ⟨j, a, r, rfl, rfl, rfl, rfl, hv⟩ := m_ald_inv h
  obtain ⟨hx, hb, -, hown, hts, -, hE, -⟩ := id hF
  intro H locs lsA cells slots hA
  rcases hv with ⟨-, h9, -⟩ | ⟨cc, hc, hin, hv⟩
  · cases h9
  · rcases hv with ⟨h9, -⟩ | ⟨h9, -⟩ | ⟨-, h0, rfl⟩ | ⟨h9, -⟩
    · cases h9
    · cases h9
    · have hat := hA.1.2.2.2.1 a cc hc
      obtain ⟨t, n, rs⟩ := cc
      have h0 : t = 3 := h0
      subst h0
      show W p l e R s m args below meth c H locs cells slots Q (F0 m pc lsA (.int j :: .ref (G.2.2.2.1 a) :: r.map (g_rv G)))
      rw [g_ad hF hA.1 hc]
      exact va_lald (D := G.2.1) (cl := mcl) hx hb hE.1 (va_one hat) 0 3 rfl rfl hin hdg (hk H locs lsA cells slots hA)
    · cases h9
theorem s_aald {L : Nat} {xs : Nat → Int32} (hF : g_Fr G k d p R s m args meth c) (hdg : decode (mprog k).2.1 pc = .ok (.aaload, 1)) (h : m_ald pc ls st M L xs 4 = some (pc', ls', st', M')) (hk : g_Go G p l e R s m args below meth c Q nL c0 z0 pc' ls' st' M') : g_Go G p l e R s m args below meth c Q nL c0 z0 pc ls st M := by
  obtain ⟨j, a, r, rfl, rfl, rfl, rfl, hv⟩ := m_ald_inv h
  obtain ⟨hx, hb, -, hown, hts, -, hE, -⟩ := id hF
  intro H locs lsA cells slots hA
  rcases hv with ⟨-, h9, -⟩ | ⟨cc, hc, hin, hv⟩
  · cases h9
  · rcases hv with ⟨h9, -⟩ | ⟨h9, -⟩ | ⟨h9, -⟩ | ⟨-, h0, q, hq, rfl⟩
    · cases h9
    · cases h9
    · cases h9
    · have hat := hA.1.2.2.2.1 a cc hc
      obtain ⟨t, n, rs⟩ := cc
      have hq : m_rf rs j.toNatClampNeg = some q := hq
      show W p l e R s m args below meth c H locs cells slots Q (F0 m pc lsA (.int j :: .ref (G.2.2.2.1 a) :: r.map (g_rv G)))
      rw [g_ad hF hA.1 hc]
      have hg := hk H locs lsA cells slots hA
      have e : va_rf (g_rf G (m_rf rs j.toNatClampNeg)) = .ref (G.2.2.2.1 q) := by rw [hq]; rfl
      rcases h0 with h0 | h0
      · have h0 : t = 4 := h0
        subst h0
        refine x_aald (D := G.2.1) (cl := mcl) hx hb hE.1 4 (ty := .array .int) rfl hat rfl hin hdg ?_
        rw [e]
        exact hg
      · have h0 : t = 5 := h0
        subst h0
        refine x_aald (D := G.2.1) (cl := mcl) hx hb hE.1 5 (ty := .object "PartingTrains$Plan") rfl hat rfl hin hdg ?_
        rw [e]
        exact hg
theorem s_len {L : Nat} (hF : g_Fr G k d p R s m args meth c) (hG : L = G.2.2.2.2.1) (hdg : decode (mprog k).2.1 pc = .ok (.arraylength, 1)) (h : m_len pc ls st M L = some (pc', ls', st', M')) (hk : g_Go G p l e R s m args below meth c Q nL c0 z0 pc' ls' st' M') : g_Go G p l e R s m args below meth c Q nL c0 z0 pc ls st M := by
  obtain ⟨a, r, rfl, rfl, rfl, rfl, hv⟩ := m_len_inv h
  obtain ⟨hx, hb, -, hown, hts, -, hE, -⟩ := id hF
  subst hG
  intro H locs lsA cells slots hA
  rcases hv with ⟨rfl, rfl⟩ | ⟨cc, hc, h6, rfl⟩
  · exact va_slen (A := g_A G) hx hb hE.2.2.2.2.1 (Nat.lt_of_lt_of_le hE.2.2.2.2.2.1 hE.2.2.2.2.2.2.2.1) (Nat.not_le.mpr hE.2.2.2.2.2.1) hA.2.1 hdg (hk H locs lsA cells slots hA)
  · have hat := hA.1.2.2.2.1 a cc hc
    obtain ⟨t, n, rs⟩ := cc
    have h6 : t < 6 := h6
    show W p l e R s m args below meth c H locs cells slots Q (F0 m pc lsA (.ref (G.2.2.2.1 a) :: r.map (g_rv G)))
    rw [g_ad hF hA.1 hc]
    have hg := hk H locs lsA cells slots hA
    match t, h6 with
    | 0, _ => exact va_alen (D := G.2.1) (cl := mcl) hx hb hE.1 (va_one hat) 0 0 rfl rfl rfl hdg hg
    | 1, _ => exact va_alen (D := G.2.1) (cl := mcl) hx hb hE.1 (va_one hat) 0 1 rfl rfl rfl hdg hg
    | 2, _ => exact va_alen (D := G.2.1) (cl := mcl) hx hb hE.1 (va_one hat) 0 2 rfl rfl rfl hdg hg
    | 3, _ => exact va_alen (D := G.2.1) (cl := mcl) hx hb hE.1 (va_one hat) 0 3 rfl rfl rfl hdg hg
    | 4, _ => exact va_alen (D := G.2.1) (cl := mcl) hx hb hE.1 (va_one hat) 0 4 rfl rfl rfl hdg hg
    | 5, _ => exact va_alen (D := G.2.1) (cl := mcl) hx hb hE.1 (va_one hat) 0 5 rfl rfl rfl hdg hg
end ST
