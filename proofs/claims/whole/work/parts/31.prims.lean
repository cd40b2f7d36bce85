/-! calls of the JDK's members that are rows of the kit: Object(), Math, System.arraycopy -/
theorem w_obj1 : Cond.instanceMethod Lib.objectInit ∈ mTbl := mHas_ok (by decide +kernel)
theorem w_obj2 : Cond.code Lib.objectInit ⟨#[0xb1]⟩ 1 none ∈ mTbl := mHas_ok (by decide +kernel)
theorem w_cp1 : Cond.native arraycopyName ∈ mTbl := mHas_ok (by decide +kernel)
theorem w_cp2 : Cond.static arraycopyName ∈ mTbl := mHas_ok (by decide +kernel)
theorem w_cp3 : Cond.initialized "java/lang/System" ∈ mTbl := mHas_ok (by decide +kernel)
theorem w_mi : Cond.initialized "java/lang/Math" ∈ mTbl := mHas_ok (by decide +kernel)
theorem w_m1 : Cond.code Lib.Math.abs.name Lib.Math.abs.code 1 (some .int) ∈ mTbl := mHas_ok (by decide +kernel)
theorem w_m2 : Cond.code Lib.Math.max.name Lib.Math.max.code 2 (some .int) ∈ mTbl := mHas_ok (by decide +kernel)
theorem w_m3 : Cond.code Lib.Math.min.name Lib.Math.min.code 2 (some .int) ∈ mTbl := mHas_ok (by decide +kernel)
theorem w_n1 : (mprog 318).1 = Lib.Math.abs.name := rfl
theorem w_n2 : (mprog 319).1 = Lib.Math.max.name := rfl
theorem w_n3 : (mprog 320).1 = Lib.Math.min.name := rfl
theorem mcp_obj {o i a b : Nat} (h : mcp o i = some (5, a, b)) : Cond.methodLink (mOw o) i Lib.objectInit ∈ mTbl := by
  obtain ⟨hs, h1⟩ := mcp_ok h
  simp only [mCp1] at h1
  exact mAt_ok h1
theorem mcp_copy {o i a b : Nat} (h : mcp o i = some (12, a, b)) : Cond.methodLink (mOw o) i arraycopyName ∈ mTbl := by
  obtain ⟨hs, h1⟩ := mcp_ok h
  simp only [mCp1] at h1
  exact mAt_ok h1
def g_ws (G : mG) (M : mMM) : va_W := (List.range M.1.length).map fun a => (G.1 + a, match M.1[a]? with
  | some c => g_cell G M a c
  | none => .inr (0, []))
theorem g_ws_at {G : mG} {M : mMM} {a : Nat} {c : mCe} (h : M.1[a]? = some c) : (g_ws G M)[a]? = some (G.1 + a, g_cell G M a c) := by
  have hl := (List.getElem?_eq_some_iff.mp h).1
  unfold g_ws
  rw [List.getElem?_map, List.getElem?_range hl]
  simp only [Option.map_some, h]
theorem g_ws_inv {G : mG} {M : mMM} {a : Nat} {q : Nat × va_E} (h : (g_ws G M)[a]? = some q) : ∃ c, M.1[a]? = some c ∧ q = (G.1 + a, g_cell G M a c) := by
  have hl : a < M.1.length := by
    have := (List.getElem?_eq_some_iff.mp h).1
    simpa [g_ws] using this
  refine ⟨M.1[a], List.getElem?_eq_getElem hl, ?_⟩
  rw [g_ws_at (List.getElem?_eq_getElem hl)] at h
  exact (Option.some.inj h).symm
theorem g_ws_P {G : mG} {M : mMM} {H : Heap} (h : g_Wd G M H) : va_P G.2.1 mcl (g_ws G M) H := by
  intro a q hq
  obtain ⟨c, hc, rfl⟩ := g_ws_inv hq
  exact h.2.2.2.1 a c hc
theorem g_ws_D {G : mG} {M : mMM} : va_D (g_A G) (g_ws G M) := by
  refine ⟨fun i j p q hi hj hpq => ?_, fun a q hq => ?_⟩
  · obtain ⟨c1, -, rfl⟩ := g_ws_inv hi
    obtain ⟨c2, -, rfl⟩ := g_ws_inv hj
    have : G.1 + i = G.1 + j := hpq
    omega
  · obtain ⟨c, -, rfl⟩ := g_ws_inv hq
    exact Nat.le_add_right _ _
section PR
variable {G : mG} {k d : Nat} {p : Program} {l : Launch} {e : Env} {R : Room} {s : State} {m : MethodId} {args : Array Value} {below : List Frame} {meth : Method} {c : Code} {Q : State → Prop} {nL c0 z0 pc pc' idx : Nat} {ls ls' : mLS} {st st' r : List Value} {M M' : mMM}
theorem s_objInit {a b q : Nat} (hF : g_Fr G k d p R s m args meth c) (hnL : nL = (mprog k).2.2.1) (hdg : decode (mprog k).2.1 pc = .ok (.invokespecial idx, 3)) (hm : mcp (mprog k).2.2.2.2.1 idx = some (5, a, b)) (hr : m_small r = true) (hd : 1 ≤ d) (hk : g_Go G p l e R s m args below meth c Q nL c0 z0 (pc + 3) ls r M) : g_Go G p l e R s m args below meth c Q nL c0 z0 pc ls (.ref q :: r) M := by
  obtain ⟨hx, hb, hml, hown, hts, -, hE, -, hfr, hlo⟩ := id hF
  intro H locs lsA cells slots hA
  refine W.objInit hx hb hown (hts _ (mcp_obj hm)) (hts _ w_obj1) (hts _ w_obj2) (g := F0 m pc lsA ((Value.ref q :: r).map (g_rv G))) rfl (by rw [hml, ← hnL]; exact hA.2.2.1.1) (a := G.2.2.2.1 q) (rest := r.map (g_rv G)) rfl hdg (by omega) ?_ (hk H locs lsA cells slots hA)
  have := m_small_ok (G := G) hr
  show 2 * 0 + _ + 12 ≤ _
  omega
theorem s_math {a b : Nat} (hF : g_Fr G k d p R s m args meth c) (hnL : nL = (mprog k).2.2.1) (hdg : decode (mprog k).2.1 pc = .ok (.invokestatic idx, 3)) (hm : mcp (mprog k).2.2.2.2.1 idx = some (2, a, b)) (hmm : m_math a st = some st') (hd : 1 ≤ d) (hR : mCells M ≤ R.cells + c0 ∧ mZ M ≤ R.slots + z0) (hk : g_Go G p l e R s m args below meth c Q nL c0 z0 (pc + 3) ls st' M) : g_Go G p l e R s m args below meth c Q nL c0 z0 pc ls st M := by
  obtain ⟨hx, hb, hml, hown, hts, -, hE, -, hfr, hlo⟩ := id hF
  obtain ⟨v1, v2, v3, v4, v5, v6, v7, v8, v9, v10⟩ := mcp_call hm (Or.inr (Or.inl rfl))
  intro H locs lsA cells slots hA
  have hsz : c.maxLocals = lsA.size := by rw [hml, ← hnL]; exact hA.2.2.1.1.symm
  have hc1 : cells ≤ R.cells := by have := hR.1; have := hA.2.2.2.1; omega
  have hc2 : slots ≤ R.slots := by have := hR.2; have := hA.2.2.2.2; omega
  have hlink := hts _ (v5 (by decide))
  have hst := hts _ (v7 rfl)
  unfold m_math at hmm
  split at hmm
  · next y r =>
    split at hmm
    · split at hmm
      · next hs =>
        cases hmm
        have := m_small_ok (G := G) hs
        exact va_mabs hx hb hsz hown hlink hst (hts _ w_mi) (hts _ w_m1) (by omega) (by omega) hc1 hc2 hdg (hk H locs lsA cells slots hA)
      · cases hmm
    · split at hmm
      · split at hmm
        · next hs =>
          cases hmm
          have := m_small_ok (G := G) hs
          exact va_mmax hx hb hsz hown hlink hst (hts _ w_mi) (hts _ w_m2) (by omega) (by omega) hc1 hc2 hdg (hk H locs lsA cells slots hA)
        · cases hmm
      · cases hmm
    · split at hmm
      · split at hmm
        · next hs =>
          cases hmm
          have := m_small_ok (G := G) hs
          exact va_mmin hx hb hsz hown hlink hst (hts _ w_mi) (hts _ w_m3) (by omega) (by omega) hc1 hc2 hdg (hk H locs lsA cells slots hA)
        · cases hmm
      · cases hmm
    · cases hmm
  · cases hmm
theorem s_copy {a b : Nat} (hF : g_Fr G k d p R s m args meth c) (hnL : nL = (mprog k).2.2.1) (hdg : decode (mprog k).2.1 pc = .ok (.invokestatic idx, 3)) (hm : mcp (mprog k).2.2.2.2.1 idx = some (12, a, b)) (h : m_copy d pc ls st M = some (pc', ls', st', M')) (hk : g_Go G p l e R s m args below meth c Q nL c0 z0 pc' ls' st' M') : g_Go G p l e R s m args below meth c Q nL c0 z0 pc ls st M := by
  obtain ⟨hx, hb, hml, hown, hts, -, hE, -, hfr, hlo⟩ := id hF
  obtain ⟨n, dp, sp, qa, qb, ca, cb, rfl, hca, hcb, ha0, hb0, h1, h2, h3, h4, h5, hd1, hs8, rfl, rfl, rfl⟩ := m_copy_inv h
  intro H locs lsA cells slots hA
  obtain ⟨hWd, hS, hL, hcl, hzl⟩ := hA
  have hsz : c.maxLocals = lsA.size := by rw [hml, ← hnL]; exact hL.1.symm
  have haA := g_ad hF hWd hca
  have haB := g_ad hF hWd hcb
  have hwa := g_ws_at (G := G) hca
  have hwb := g_ws_at (G := G) hcb
  obtain ⟨ta, na, ra⟩ := ca
  obtain ⟨tb, nb, rb⟩ := cb
  have ha0 : ta = 0 := ha0
  have hb0 : tb = 0 := hb0
  subst ha0
  subst hb0
  show W p l e R s m args below meth c H locs cells slots Q (F0 m pc lsA (.int n :: .int dp :: .ref (G.2.2.2.1 qb) :: .int sp :: .ref (G.2.2.2.1 qa) :: st'.map (g_rv G)))
  rw [haA, haB]
  have hs8' : ((st'.map (g_rv G)).map fun v => v.category).sum ≤ 8 := m_small_ok (G := G) (by unfold m_small; exact Nat.ble_eq_true_of_le hs8)
  refine va_copyi (D := G.2.1) (cl := mcl) (A := g_A G) hx hb hsz hown (hts _ (mcp_copy hm)) (hts _ w_cp1) (hts _ w_cp2) (hts _ w_cp3) hE.1 (g_ws_P hWd) g_ws_D hS qa qb 0 0 hwa hwb rfl rfl rfl h1 h2 h3 h4 h5 (fun i _ => rfl) (by omega) (by
    have e9 : nativeFrameWords "java/lang/System" "arraycopy" 5 ≤ 40 := by decide +kernel
    omega) hdg fun H1 locs1 hP1 hD1 hS1 => ?_
  have hlb : qb < M.1.length := (List.getElem?_eq_some_iff.mp hcb).1
  refine hk H1 locs1 lsA cells slots ⟨⟨fun z => absurd z (by show ¬ (1 = 0); decide), ?_, hWd.2.2.1, fun b' c' hb' => ?_, hWd.2.2.2.2⟩, hS1, hL, hcl, hzl⟩
  · have h9 : G.1 + (M.1.length - 1) < H1.size := by
      have hlast : M.1[M.1.length - 1]? = some (M.1[M.1.length - 1]'(by omega)) := List.getElem?_eq_getElem (by omega)
      by_cases hq : M.1.length - 1 = qb
      · have := (hP1 qb (G.1 + qb, _) (List.getElem?_set_self (by simpa [g_ws] using hlb))).lt
        rw [hq]
        exact this
      · have h8 := g_ws_at (G := G) hlast
        have := (hP1 (M.1.length - 1) _ (by rw [List.getElem?_set_ne (fun z => hq z.symm)]; exact h8)).lt
        exact this
    show G.1 + M.1.length ≤ H1.size
    omega
  · by_cases hq : b' = qb
    · subst hq
      have hc9 : c' = (0, nb, rb) := Option.some.inj (hb'.symm.trans hcb)
      subst hc9
      have h7 := hP1 b' _ (List.getElem?_set_self (by simpa [g_ws] using hlb))
      have e9 : mI (m_loose M (m_cpy (mI M) qa b' sp.toNatClampNeg dp.toNatClampNeg n.toNatClampNeg)) b' = va_cpy (mI M qa) (mI M b') sp.toNatClampNeg dp.toNatClampNeg n.toNatClampNeg := by
        funext j
        show (if b' = b' ∧ dp.toNatClampNeg ≤ j ∧ j < dp.toNatClampNeg + n.toNatClampNeg then _ else _) = _
        unfold va_cpy
        by_cases z : dp.toNatClampNeg ≤ j ∧ j < dp.toNatClampNeg + n.toNatClampNeg
        · rw [if_pos ⟨rfl, z⟩, if_pos z]
        · rw [if_neg (fun w => z w.2), if_neg z]
      show va_at G.2.1 mcl (G.1 + b', .inl (G.2.2.1 0, nb, .inl (mI (m_loose M (m_cpy (mI M) qa b' sp.toNatClampNeg dp.toNatClampNeg n.toNatClampNeg)) b'))) H1
      rw [e9]
      exact h7
    · have h7 := hP1 b' _ (by rw [List.getElem?_set_ne (fun z => hq z.symm)]; exact g_ws_at (G := G) hb')
      have e9 : g_cell G (m_loose M (m_cpy (mI M) qa qb sp.toNatClampNeg dp.toNatClampNeg n.toNatClampNeg)) b' c' = g_cell G M b' c' := g_cell_eq (by
        funext j
        exact if_neg (fun w => hq w.1)) rfl
      rw [e9]
      exact h7
end PR
