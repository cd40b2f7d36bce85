/-! the law's wrappers: they call, and catch -/
theorem mcp_wr {o i a b : Nat} (h : mcp o i = some (17, a, b)) : 321 ≤ a ∧ a < 353 ∧ ((mprog a).1.cls ≠ "java/lang/invoke/MethodHandle" ∧ (mprog a).1.cls ≠ "java/lang/invoke/VarHandle") ∧ mNpar (mprog a).1 = some b ∧ Cond.initialized (mprog a).1.cls ∈ mTbl ∧ Cond.methodLink (mOw o) i (mprog a).1 ∈ mTbl ∧ Cond.static (mprog a).1 ∈ mTbl := by
  obtain ⟨hs, h1⟩ := mcp_ok h
  simp only [mCp1, Bool.and_eq_true, mYok, decide_eq_true_eq, Bool.not_eq_true'] at h1
  obtain ⟨⟨⟨⟨⟨q0, q1⟩, ⟨q2, q3⟩, q4⟩, q5⟩, q6⟩, q7⟩ := h1
  have hN : ¬ a < mNP := fun z => by
    rw [Nat.blt_eq.mpr z] at q1
    cases q1
  exact ⟨Nat.not_lt.mp hN, Nat.blt_eq.mp q0, ⟨q2, q3⟩, q4, mAt_ok q7, mAt_ok q5, mAt_ok q6⟩
/-- the rows ahead of the one that takes it don't take it -/
theorem m_find_split {pc E h : Nat} : ∀ (t : List (Nat × Nat × Nat × Nat)), m_find pc E t = some h → ∃ (pre suf : List (Nat × Nat × Nat × Nat)) (x : Nat × Nat × Nat × Nat), t = pre ++ x :: suf ∧ (x.1 ≤ pc ∧ pc < x.2.1) ∧ x.2.2.1 = h ∧ (∃ z, mcp 13 x.2.2.2 = some (15, E, z)) ∧ ∀ y ∈ pre, ¬ (y.1 ≤ pc ∧ pc < y.2.1) ∨ ∃ E' z, mcp 13 y.2.2.2 = some (15, E', z) ∧ E ≠ E'
  | [], hf => by simp [m_find] at hf
  | x :: xs, hf => by
    unfold m_find at hf
    split at hf
    · next hc =>
      split at hf
      · next E' z hm =>
        split at hf
        · next he =>
          subst he
          cases hf
          exact ⟨[], xs, x, rfl, hc, rfl, ⟨z, hm⟩, fun y hy => by cases hy⟩
        · next he =>
          obtain ⟨pre, suf, y, e1, e2, e3, e4, e5⟩ := m_find_split xs hf
          refine ⟨x :: pre, suf, y, by rw [e1]; rfl, e2, e3, e4, fun w hw => ?_⟩
          rcases List.mem_cons.mp hw with rfl | hw
          · exact Or.inr ⟨E', z, hm, he⟩
          · exact e5 w hw
      · cases hf
    · next hc =>
      obtain ⟨pre, suf, y, e1, e2, e3, e4, e5⟩ := m_find_split xs hf
      refine ⟨x :: pre, suf, y, by rw [e1]; rfl, e2, e3, e4, fun w hw => ?_⟩
      rcases List.mem_cons.mp hw with rfl | hw
      · exact Or.inl hc
      · exact e5 w hw
theorem w_cast0 : Cond.castable (mEx 0) (mEx 0) ∈ lw_tbl := by decide +kernel
theorem w_cast1 : Cond.castable (mEx 1) (mEx 1) ∈ lw_tbl := by decide +kernel
theorem w_cast2 : Cond.castable (mEx 2) (mEx 2) ∈ lw_tbl := by decide +kernel
theorem w_cast3 : Cond.castable (mEx 3) (mEx 3) ∈ lw_tbl := by decide +kernel
theorem w_cast {E : Nat} (h : E < 4) : Cond.castable (mEx E) (mEx E) ∈ lw_tbl := by
  match E, h with
  | 0, _ => exact w_cast0
  | 1, _ => exact w_cast1
  | 2, _ => exact w_cast2
  | 3, _ => exact w_cast3
theorem m_hv_inv {k h : Nat} {v : Int32} (hv : m_hv k h = some v) : ∃ n, v = Int32.ofInt n ∧ ((∃ j : Fin 4, mins (mprog k).2.2.2.2.2 h = some (.astore_n j, 1) ∧ j.val < (mprog k).2.2.1 ∧ mins (mprog k).2.2.2.2.2 (h + 1) = some (.iconst n, 1) ∧ mins (mprog k).2.2.2.2.2 (h + 2) = some (.ireturn, 1)) ∨ (∃ j : Nat, mins (mprog k).2.2.2.2.2 h = some (.astore j, 2) ∧ j < (mprog k).2.2.1 ∧ mins (mprog k).2.2.2.2.2 (h + 2) = some (.iconst n, 1) ∧ mins (mprog k).2.2.2.2.2 (h + 3) = some (.ireturn, 1))) := by
  unfold m_hv at hv
  split at hv
  · next j h1 =>
    split at hv
    · next hj =>
      split at hv
      · next n h2 =>
        split at hv
        · next h3 =>
          cases hv
          exact ⟨n, rfl, Or.inl ⟨j, h1, hj, h2, h3⟩⟩
        · cases hv
      · cases hv
    · cases hv
  · next j h1 =>
    split at hv
    · next hj =>
      split at hv
      · next n h2 =>
        split at hv
        · next h3 =>
          cases hv
          exact ⟨n, rfl, Or.inr ⟨j, h1, hj, h2, h3⟩⟩
        · cases hv
      · cases hv
    · cases hv
  · cases hv
def c_wsW (k : Nat) : List Cond := Cond.codeWith (mprog k).1 (mprog k).2.1 (mprog k).2.2.1 (mprog k).2.2.2.1 (m_tabs k) :: mTbl
def c_MetW (G : mG) (l : Launch) (d k : Nat) (As : List Value) (M : mMM) (res : mRes) (M' : mMM) : Prop := vx_Met l (mprog k).1 (c_wsW k) (c_rm d (mCells M' - mCells M) (mZ M' - mZ M)) (c_Pc G As M) (c_Q G res M') (c_X G res M') (mCells M' - mCells M) (mZ M' - mZ M) (g_A G)
set_option maxHeartbeats 1000000 in
theorem c_wrap {G : mG} {l : Launch} {n d k : Nat} {As : List Value} {M M' : mMM} {res : mRes} (hS : mSim G l n) (hk1 : 321 ≤ k) (hk2 : k < 353) (h : mx G.2.2.2.2.1 G.2.2.2.2.2 n d k 0 (m_enter As (mprog k).2.2.1) [] M = some (res, M')) (hAs : (m_sl As).length ≤ (mprog k).2.2.1) : c_MetW G l d k As M res M' := by
  obtain ⟨w1, w2, w3, w4, w5, w6⟩ := mOkWr hk1 hk2
  obtain ⟨⟨hm1, hm2⟩, hgo⟩ := hS d k 0 _ [] M res M' h w2
  refine vx_ofWH (cc := (mprog k).2.1) (maxL := (mprog k).2.2.1) (ret := (mprog k).2.2.2.1) (hh := m_tabs k) w3 rfl ?_
  intro p e s m args below meth c s₁ B hml hv
  obtain ⟨rfl, hWd, hE⟩ := hv
  have hts := atoms_spec (ws := c_wsW k) B.pre
  have htab : c.exceptionTable.toList.map (fun h => (h.startPc, h.endPc, h.handlerPc, h.catchType)) = m_tabs k := by
    obtain ⟨m9, meth9, c9, h1, h2, h3, -, -, h6, -⟩ := Cond.codeWith_spec (hts _ List.mem_cons_self)
    cases Option.some.inj (h1.symm.trans B.named)
    cases Option.some.inj (h2.symm.trans B.method)
    cases Option.some.inj (h3.symm.trans (Stand.of_body B).code)
    exact h6
  have hF : g_Fr G k d p (c_rm d (mCells M' - mCells M) (mZ M' - mZ M)) s m (As.map (g_rv G)).toArray meth c := by
    refine ⟨B.exec, B.bytes, hml, ?_, fun w hw => hts w (List.mem_cons_of_mem _ hw), B.notSynchronized, hE, fun hi => ?_, Nat.le_refl _, Nat.le_refl _⟩
    · rw [← w5]
      exact findClass_of_methodNamed B.named
    · rw [(name_of_methodNamed B.named B.method).1]
      exact of_decide_eq_true hi
  obtain ⟨hx, hb, -, hown, hts2, -, -⟩ := id hF
  show W p l e (c_rm d (mCells M' - mCells M) (mZ M' - mZ M)) s m _ below meth c s.heap [] 0 0 _ _
  rw [lg_entry_eq]
  have hb9 : mCells M' ≤ (c_rm d (mCells M' - mCells M) (mZ M' - mZ M)).cells + mCells M := by show mCells M' ≤ (mCells M' - mCells M) + mCells M; omega
  have hz9 : mZ M' ≤ (c_rm d (mCells M' - mCells M) (mZ M' - mZ M)).slots + mZ M := by show mZ M' ≤ (mZ M' - mZ M) + mZ M; omega
  have hend : ∀ (pc : Nat) (lsA : Array Slot) (v : Int32), res = .inl (some (.int v)) → decode (mprog k).2.1 pc = .ok (.ireturn, 1) → ∀ (H : Heap) (locs : List Loc) (cells slots : Nat), g_Wd G M' H → va_S (g_A G) s.heap H locs → cells + mCells M = mCells M' → slots + mZ M = mZ M' →
      W p l e (c_rm d (mCells M' - mCells M) (mZ M' - mZ M)) s m (As.map (g_rv G)).toArray below meth c H locs cells slots (vx_MQ below (c_Q G res M') (c_X G res M') (As.map (g_rv G)).toArray s (mCells M' - mCells M) (mZ M' - mZ M) (g_A G)) (F0 m pc lsA [.int v]) := by
    intro pc lsA v hres hd H locs cells slots hWd1 hS1 hc1 hz1
    subst hres
    have e1 : mCells M' - mCells M = cells := by omega
    have e2 : mZ M' - mZ M = slots := by omega
    rw [e1, e2]
    exact vx_ret (W.iret B.exec B.bytes (by rw [B.returns]; exact w6) (fun t ht hW => ⟨_, rfl, rfl, by rw [ht]; exact hWd1, hS1.F ht⟩) hS1.2.2 hd B.notSynchronized)
  refine hgo p e _ s m _ below meth c _ (mprog k).2.2.1 (mCells M) (mZ M) hF rfl hb9 hz9 ?_ ?_ ?_ s.heap [] _ 0 0 ⟨hWd, va_S.rf, g_entry hAs, by omega, by omega⟩
  · intro pc ls st v hres hrt
    obtain ⟨i, len, hi, hr⟩ := hrt
    obtain ⟨hd, hlen⟩ := mDcP_ok w2 hi
    rw [w6] at hr
    unfold m_ret at hr
    intro H locs lsA cells slots hA
    obtain ⟨hWd1, hS1, hL1, hc1, hz1⟩ := hA
    split at hr
    · cases hr
    · split at hr
      · next v0 =>
        have hlen : len = 1 := by simpa [m_isSw, m_ilen] using hlen
        subst hlen
        cases hr
        exact hend pc lsA v0 hres hd H locs cells slots hWd1 hS1 hc1 hz1
      · cases hr
    · split at hr
      · cases hr
      · cases hr
    · cases hr
  · intro pc ls st Mx w hw hres hM hd8 hk9 ho hst
    omega
  · intro pc ls rest E Mx hon H locs lsA cells slots q ce hA h1 h2 h3
    obtain ⟨hWd1, hS1, hL1, hc1, hz1⟩ := hA
    have hMM := m_on_M hon
    subst hMM
    unfold m_on at hon
    split at hon
    · next hh hfind =>
      split at hon
      · next v hv =>
        simp only [Option.some.injEq, Prod.mk.injEq, and_true] at hon
        obtain ⟨pre, suf, x, e1, e2, e3, ⟨z, e4⟩, e5⟩ := m_find_split _ hfind
        have hO13 : (mprog k).2.2.2.2.1 = 13 := by
          have h9 : (List.range 32).all (fun j => Nat.beq (mprog (321 + j)).2.2.2.2.1 13) = true := by decide +kernel
          have := List.all_eq_true.mp h9 (k - 321) (List.mem_range.mpr (by omega))
          rw [show 321 + (k - 321) = k by omega] at this
          exact Nat.eq_of_beq_eq_true this
        rw [hO13] at hown
        rw [e1] at htab
        obtain ⟨preE, restE, f1, f2, f3⟩ := List.map_eq_append_iff.mp htab
        obtain ⟨xE, sufE, f4, f5, f6⟩ := List.map_eq_cons_iff.mp f3
        subst f4
        obtain ⟨hE4, hcl, hci⟩ := mcp_exc e4
        have hx1 : xE.startPc = x.1 ∧ xE.endPc = x.2.1 ∧ xE.handlerPc = x.2.2.1 ∧ xE.catchType = x.2.2.2 := by
          rw [← f5]
          exact ⟨rfl, rfl, rfl, rfl⟩
        have hc0 : ∀ j E9 z9, mcp 13 j = some (15, E9, z9) → j ≠ 0 := by
          intro j E9 z9 hj hj0
          subst hj0
          have : mcp 13 0 = none := rfl
          rw [this] at hj
          cases hj
        refine vx_catch (own := mOw 13) (name := mEx E) (E := mEx E) hown preE xE sufE f1 (fun y hy => ?_) ?_ ?_ ?_ (va_Nw.use rfl (hE.2.2.2.2.2.2.2.2.2.2.1.1 _ _ (w_cast hE4))) h1 h2 h3 ?_
        · have hy9 : (y.startPc, y.endPc, y.handlerPc, y.catchType) ∈ pre := by rw [← f2]; exact List.mem_map_of_mem hy
          rcases e5 _ hy9 with z1 | ⟨E', z', z1, z2⟩
          · left
            unfold covers
            simp only [Bool.and_eq_false_iff, decide_eq_false_iff_not]
            by_cases z3 : y.startPc ≤ pc
            · right; exact fun z4 => z1 ⟨z3, z4⟩
            · left; exact z3
          · obtain ⟨g1, g2, g3⟩ := mcp_exc z1
            exact Or.inr ⟨hc0 _ _ _ z1, mEx E', hts2 _ g2, hE.2.2.2.2.2.2.2.2.2.2.2.1 E E' hE4 g1 z2⟩
        · unfold covers
          simp only [Bool.and_eq_true, decide_eq_true_eq]
          rw [hx1.1, hx1.2.1]
          exact e2
        · rw [hx1.2.2.2]
          exact hc0 _ _ _ e4
        · rw [hx1.2.2.2]
          exact hts2 _ hcl
        · rw [hx1.2.2.1, e3]
          obtain ⟨nn, rfl, hcase⟩ := m_hv_inv hv
          rcases hcase with ⟨j, i1, i2, i3, i4⟩ | ⟨j, i1, i2, i3, i4⟩
          · refine lv_astore_n hx hb (mDcP_ok w2 i1).1 rfl hL1.has i2 rfl fun lsB hB => ?_
            refine lv_iconst hx hb (mDcP_ok w2 i3).1 rfl ?_
            exact hend _ lsB _ hon.symm (mDcP_ok w2 i4).1 H locs cells slots hWd1 hS1 hc1 hz1
          · refine lv_astore hx hb (mDcP_ok w2 i1).1 hL1.has i2 rfl fun lsB hB => ?_
            refine lv_iconst hx hb (mDcP_ok w2 i3).1 rfl ?_
            exact hend _ lsB _ hon.symm (mDcP_ok w2 i4).1 H locs cells slots hWd1 hS1 hc1 hz1
      · cases hon
    · have hb9 : Nat.blt k 318 = false := by
        cases hz : Nat.blt k 318 with
        | false => rfl
        | true => exact absurd (Nat.blt_eq.mp hz) (by omega)
      rw [hb9] at hon
      cases hon
theorem g_WR_of {G : mG} {l : Launch} {n : Nat} (hS : mSim G l n) : g_WR G l n := by
  intro k d' p e R s m args below meth c Q nL c0 z0 pc a b ls st As r M M1 rs1 i hF hnL hdg hi hargs hz hR v hv kk
  obtain ⟨hx, hb, hml, hown, hts, -, hE, -, hfr, hlo⟩ := id hF
  rcases m_inv_v hi with ⟨j, -, -, h9⟩ | ⟨j, rfl, hm, -⟩ | ⟨j, -, -, h9⟩
  · omega
  · obtain ⟨a1, a2, v2, v3, v4, v5, v7⟩ := mcp_wr hm
    obtain ⟨w1, w2, w3, w4, w5, w6⟩ := mOkWr a1 a2
    obtain ⟨hl, hsm, hsl, hsp⟩ := m_args_inv hargs
    have hM := c_wrap hS a1 a2 hz hsl
    have hmo := mx_mono _ _ _ _ _ _ _ _ _ hz
    intro H locs lsA cells slots hA
    obtain ⟨hWd, hS9, hL, hcl, hzl⟩ := hA
    have hpay : ∀ w ∈ c_wsW a, ∀ (a' : Array Value) (U : State), s.WarmedH U.vm → w.before a' U = true := by
      intro w hw a' U hW
      rcases List.mem_cons.mp hw with rfl | hw
      · exact mTbl_pay hts _ w1 a' U hW
      · exact mTbl_pay hts w hw a' U hW
    rcases hsp with ⟨-, rfl, rfl⟩ | ⟨z, -⟩
    · have hmW : 2 * (F0 m pc lsA (st.map (g_rv G))).monitorRoom + (((st.drop b).map (g_rv G)).map fun v => v.category).sum ≤ 8 := by
        show 2 * 0 + _ ≤ 8
        have := m_small_ok (G := G) hsm
        omega
      refine x_call (res := rs1) (M' := M1) (mc := mCells M1 - mCells M) (ms := mZ M1 - mZ M) (rest := (st.drop b).map (g_rv G)) (a := ((st.take b).reverse.map (g_rv G)).toArray) ?_ hS9 (fun E hE1 => by rw [hv] at hE1; cases hE1) (fun v' hv' H1 locs1 hw1 hS1 => ?_)
      · refine vx_runSX (As := (st.take b).reverse.map (g_rv G)) (n := b) (hh := m_tabs a) (nL := nL) (Ts := mTbl) (own := mOw (mprog k).2.2.2.2.1) ⟨hx, hb, by rw [hml, hnL], hown, hts⟩ hM ⟨⟨rfl, rfl, hfr, ?_, hpay, List.mem_cons_self⟩, hts _ w1, hts _ v4, v2, fun sig hsig => ?_, hts _ v5, hts _ v7⟩ ⟨c_blind, fun U hU hW => ⟨rfl, by rw [hU]; exact hWd, hE.to hW hU hS9⟩⟩ rfl (by rw [List.length_map, List.length_reverse]; exact hl) hL.1 ?_ hmW hdg ⟨by have := hR.1; have := hmo.1; omega, by have := hR.2; have := hmo.2; omega⟩
        · show 8 + ((mprog a).2.2.1 + 11) + 64 * d' ≤ R.locals
          omega
        · have h2 : mNpar (mprog a).1 = some b := v3
          unfold mNpar at h2
          rw [hsig] at h2
          exact (Option.some.inj h2).symm
        · show st.map (g_rv G) = _
          rw [List.map_reverse, List.reverse_reverse, ← List.map_append, List.take_append_drop]
      · rw [hv] at hv'
        cases hv'
        have hg := kk H1 locs1 lsA (cells + (mCells M1 - mCells M)) (slots + (mZ M1 - mZ M)) ⟨hw1, hS1, hL, by have := hmo.1; omega, by have := hmo.2; omega⟩
        cases v with
        | none => exact hg
        | some v => exact hg
    · omega
  · omega
theorem mSim_all {G : mG} {l : Launch} (hl : l.stackTraces = false) (hNS : g_NS G l) (hSL : g_SL G l) (hSC : g_SC G l) : ∀ n, mSim G l n
  | 0 => by
    intro d k pc ls st M res M' h
    have h0 : (none : Option (mRes × mMM)) = some (res, M') := h
    cases h0
  | n + 1 => mSim_succ hl hNS hSL hSC (mSim_all hl hNS hSL hSC n) (g_WR_of (mSim_all hl hNS hSL hSC n))
