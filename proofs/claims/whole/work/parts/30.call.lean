/-! a call of a method without a table of its own -/
section CA
variable {G : mG} {k d' : Nat} {p : Program} {l : Launch} {e : Env} {R : Room} {s : State} {m : MethodId} {args : Array Value} {below : List Frame} {meth : Method} {c : Code} {Q : State → Prop} {nL c0 z0 pc : Nat} {ls : mLS} {st : List Value} {M M1 : mMM}
theorem g_call {t a b : Nat} {i : Instr} {As r : List Value} {rs1 : mRes} (hF : g_Fr G k (d' + 1) p R s m args meth c) (hnL : nL = (mprog k).2.2.1) (hdg : decode (mprog k).2.1 pc = .ok (i, 3)) (hi : m_inv (mprog k).2.2.2.2.1 i = some (t, a, b)) (ht : t = 1 ∨ t = 2 ∨ t = 3 ∨ t = 4) (ha : a < 318) (hargs : m_args t a b st M = some (As, r))
    (hM : c_Met G l d' a As M rs1 M1) (hmo : mCells M ≤ mCells M1 ∧ mZ M ≤ mZ M1) (hth : 3 ≤ t → ∃ v, rs1 = .inl v ∧ (mprog a).2.2.2.1 = none) (hR : mCells M1 ≤ R.cells + c0 ∧ mZ M1 ≤ R.slots + z0)
    (kx : ∀ E, rs1 = .inr E → ∀ (H : Heap) (locs : List Loc) (lsA : Array Slot) (cells slots : Nat) (q : Addr) (ce : Cell), g_At G nL c0 z0 s M1 ls cells slots H locs lsA → H[q]? = some ce → ce.vm = .none → s.vm.findClass (mEx E) = some ce.cls → vx_W p l e R s m args below meth c H locs cells slots Q (F0 m pc lsA (r.map (g_rv G))) q)
    (kk : ∀ v, rs1 = .inl v → g_Go G p l e R s m args below meth c Q nL c0 z0 (pc + 3) ls (v.toList ++ r) M1) : g_Go G p l e R s m args below meth c Q nL c0 z0 pc ls st M := by
  obtain ⟨hx, hb, hml, hown, hts, -, hE, -, hfr, hlo⟩ := id hF
  obtain ⟨w1, w2, w3, w4, w5⟩ := mOk ha
  obtain ⟨hl, hsm, hsl, hsp⟩ := m_args_inv hargs
  intro H locs lsA cells slots hA
  obtain ⟨hWd, hS, hL, hcl, hzl⟩ := hA
  have hpay : ∀ w ∈ c_ws a, ∀ (a' : Array Value) (U : State), s.WarmedH U.vm → w.before a' U = true := by
    intro w hw a' U hW
    rcases List.mem_cons.mp hw with rfl | hw
    · exact mTbl_pay hts _ w1 a' U hW
    · exact mTbl_pay hts w hw a' U hW
  have hroom : (c_rm d' (mCells M1 - mCells M) (mZ M1 - mZ M)).frames + 1 ≤ R.frames ∧ 8 + ((mprog a).2.2.1 + 11) + (c_rm d' (mCells M1 - mCells M) (mZ M1 - mZ M)).locals ≤ R.locals := by
    refine ⟨hfr, ?_⟩
    show 8 + ((mprog a).2.2.1 + 11) + 64 * d' ≤ R.locals
    omega
  have hf : cells + (mCells M1 - mCells M) ≤ R.cells ∧ slots + (mZ M1 - mZ M) ≤ R.slots := by
    constructor
    · have := hR.1; have := hmo.1; omega
    · have := hR.2; have := hmo.2; omega
  have hPc : ∀ U : State, U.heap = H → s.WarmedH U.vm → c_Pc G As M (As.map (g_rv G)).toArray U := fun U hU hW => ⟨rfl, by rw [hU]; exact hWd, hE.to hW hU hS⟩
  have hmW : 2 * (F0 m pc lsA (st.map (g_rv G))).monitorRoom + ((r.map (g_rv G)).map fun v => v.category).sum ≤ 8 := by
    show 2 * 0 + _ ≤ 8
    have := m_small_ok (G := G) hsm
    omega
  have hsz : (F0 m pc lsA (st.map (g_rv G))).locals.size = nL := hL.1
  have hfix : CallFix p m c (mprog k).2.1 nL s args mTbl (mOw (mprog k).2.2.2.2.1) := ⟨hx, hb, by rw [hml, hnL], hown, hts⟩
  have fin : ∀ {aa : Array Value}, vx_Run p l e R s m args below meth c H locs cells slots (mCells M1 - mCells M) (mZ M1 - mZ M) (F0 m pc lsA (st.map (g_rv G))) (r.map (g_rv G)) (c_Q G rs1 M1 aa) (c_X G rs1 M1) (g_A G) → W p l e R s m args below meth c H locs cells slots Q (F0 m pc lsA (st.map (g_rv G))) := by
    intro aa hrun
    refine x_call hrun hS (fun E hE1 ce q H1 locs1 hw1 hS1 h1 h2 h3 => kx E hE1 H1 locs1 lsA _ _ q ce ⟨hw1, hS1, hL, by have := hmo.1; omega, by have := hmo.2; omega⟩ h1 h2 h3) (fun v hv H1 locs1 hw1 hS1 => ?_)
    have hg := kk v hv H1 locs1 lsA (cells + (mCells M1 - mCells M)) (slots + (mZ M1 - mZ M)) ⟨hw1, hS1, hL, by have := hmo.1; omega, by have := hmo.2; omega⟩
    cases v with
    | none => exact hg
    | some v => exact hg
  have hstt : st.map (g_rv G) = ((st.take b).reverse.map (g_rv G)).reverse ++ (st.drop b).map (g_rv G) := by
    rw [List.map_reverse, List.reverse_reverse, ← List.map_append, List.take_append_drop]
  have hlen : ((st.take b).reverse.map (g_rv G)).length = b := by rw [List.length_map, List.length_reverse]; exact hl
  rcases m_inv_v hi with ⟨j, rfl, hm, h9⟩ | ⟨j, rfl, hm, h9⟩ | ⟨j, rfl, hm, h9⟩
  · have ht1 : t = 1 := by clear hsp hargs; omega
    subst ht1
    obtain ⟨v1, v2, v3, v4, v5, v6, v7, v8, v9, v10⟩ := mcp_call hm ht
    rcases hsp with ⟨z, -⟩ | ⟨-, q, hd, rfl, hq⟩
    · omega
    obtain ⟨cc, hcc, h6, h13⟩ := hq rfl
    have hat := hWd.2.2.2.1 q cc hcc
    rw [g_cell_obj h6] at hat
    obtain ⟨rc, hrc⟩ : ∃ rc, mcl[(mprog a).2.2.2.2.1]? = some rc := ⟨_, List.getElem?_eq_getElem (by exact h13)⟩
    refine fin (aa := ((Value.ref q :: (st.take b).reverse).map (g_rv G)).toArray) ?_
    refine vx_runV (As := (st.take b).reverse.map (g_rv G)) (b := G.2.2.2.1 q) (C := (mprog a).1.cls) (n := b) hfix hM ⟨⟨rfl, rfl, hroom.1, hroom.2, hpay, List.mem_cons_self, hts _ w1, hts _ v4, v2, fun sig hsig => ?_, hts _ (v5 (by decide))⟩, hts _ (v8 (by decide)), hts _ (v9 rfl)⟩ ⟨c_blind, ?_, hPc⟩ rfl hlen hsz ?_ hmW hdg hf
    · have h2 : mNpar (mprog a).1 = some b := v3
      unfold mNpar at h2
      rw [hsig] at h2
      exact (Option.some.inj h2).symm
    · obtain ⟨cell, g1, g2, g3⟩ := va_recv hE.1 (va_one hat) hrc (q0 := 0) rfl
      rw [g_ad hF hWd hcc]
      refine ⟨cell, g1, g2, ?_⟩
      rw [w5, ← m_ownCls hrc]
      exact g3
    · show st.map (g_rv G) = _
      rw [hstt, hd]
      rfl
  · have ht2 : t = 2 := by clear hsp hargs; omega
    subst ht2
    obtain ⟨v1, v2, v3, v4, v5, v6, v7, v8, v9, v10⟩ := mcp_call hm ht
    rcases hsp with ⟨-, rfl, rfl⟩ | ⟨z, -⟩
    · refine fin (aa := ((st.take b).reverse.map (g_rv G)).toArray) ?_
      refine vx_runS (As := (st.take b).reverse.map (g_rv G)) (n := b) hfix hM ⟨⟨rfl, rfl, hroom.1, hroom.2, hpay, List.mem_cons_self, hts _ w1, hts _ v4, v2, fun sig hsig => ?_, hts _ (v5 (by decide))⟩, hts _ (v7 rfl)⟩ ⟨c_blind, hPc⟩ rfl hlen hsz ?_ hmW hdg hf
      · have h2 : mNpar (mprog a).1 = some b := v3
        unfold mNpar at h2
        rw [hsig] at h2
        exact (Option.some.inj h2).symm
      · exact hstt
    · omega
  · have ht3 : t = 3 ∨ t = 4 := by clear hsp hargs; omega
    obtain ⟨v1, v2, v3, v4, v5, v6, v7, v8, v9, v10⟩ := mcp_call hm ht
    obtain ⟨vv, rfl, hret⟩ := hth (by omega)
    have hMet := hM.plain
    rcases hsp with ⟨z, -⟩ | ⟨-, q, hd, rfl, -⟩
    · omega
    have hsig0 : ∀ sig, parseMethodDescriptor (mprog a).1.desc = some sig → b = sig.parameters.length := fun sig hsig => by
      have h2 : mNpar (mprog a).1 = some b := v3
      unfold mNpar at h2
      rw [hsig] at h2
      exact (Option.some.inj h2).symm
    have hst1 : (F0 m pc lsA (st.map (g_rv G))).stack = ((st.take b).reverse.map (g_rv G)).reverse ++ .ref (G.2.2.2.1 q) :: r.map (g_rv G) := by
      show st.map (g_rv G) = _
      rw [hstt, hd]
      rfl
    have hcw : Cond.code (mprog a).1 (mprog a).2.1 (mprog a).2.2.1 none ∈ c_ws a := by rw [← hret]; exact List.mem_cons_self
    have hcb : (Cond.code (mprog a).1 (mprog a).2.1 (mprog a).2.2.1 none).before args s = true := by rw [← hret]; exact hts _ w1
    refine fin (aa := ((Value.ref q :: (st.take b).reverse).map (g_rv G)).toArray) ?_
    intro T hT X
    refine Or.inl ?_
    rcases ht3 with rfl | rfl
    · exact va_runI (As := (st.take b).reverse.map (g_rv G)) (b := G.2.2.2.1 q) (n := b) (maxL := (mprog a).2.2.1) hfix hMet ⟨⟨rfl, rfl, hroom.1, hroom.2, hpay, hcw, hcb, hts _ v4, v2, hsig0, hts _ (v5 (by decide))⟩, v10 (by decide), hts _ (v8 (by decide))⟩ ⟨c_blind, hPc⟩ rfl hlen hsz hst1 hmW hdg hf T hT X
    · exact va_runIN (As := (st.take b).reverse.map (g_rv G)) (b := G.2.2.2.1 q) (n := b) (maxL := (mprog a).2.2.1) (host := "PartingTrains") hfix hMet ⟨⟨⟨rfl, rfl, hroom.1, hroom.2, hpay, hcw⟩, hcb, hts _ v4, v2, hsig0, hts _ (v6 rfl)⟩, v10 (by decide), hts _ (v8 (by decide))⟩ ⟨c_blind, hPc⟩ rfl hlen hsz hst1 hmW hdg hf T hT X
end CA
