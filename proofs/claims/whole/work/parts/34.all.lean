/-! by induction on the run's length -/
theorem m_on_M {k pc E : Nat} {M M' : mMM} {res : mRes} (h : m_on k pc E M = some (res, M')) : M' = M := by
  unfold m_on at h
  split at h
  · split at h
    · simp only [Option.some.injEq, Prod.mk.injEq] at h
      exact h.2.symm
    · cases h
  · cases hb : Nat.blt k 318 with
    | true =>
      rw [hb] at h
      simp only [cond_true, Option.some.injEq, Prod.mk.injEq] at h
      exact h.2.symm
    | false =>
      rw [hb] at h
      cases h
theorem m_copy_M {d pc pc' : Nat} {ls ls' : mLS} {st st' : List Value} {M My : mMM} (hy : m_copy d pc ls st M = some (pc', ls', st', My)) : mCells M = mCells My ∧ mZ M = mZ My := by
  obtain ⟨_, _, _, _, _, _, _, _, _, _, _, _, _, _, _, _, _, _, _, _, _, rfl⟩ := m_copy_inv hy
  exact ⟨rfl, rfl⟩
set_option maxRecDepth 100000 in
theorem mx_mono {L : Nat} {xs : Nat → Int32} : ∀ (n d k pc : Nat) (ls : mLS) (st : List Value) (M : mMM) (res : mRes) (M' : mMM), mx L xs n d k pc ls st M = some (res, M') → mCells M ≤ mCells M' ∧ mZ M ≤ mZ M' := by
  intro n
  induction n with
  | zero =>
    intro d k pc ls st M res M' h
    simp only [mx] at h
    cases h
  | succ n ih =>
    intro d k pc ls st M res M' h
    have rf : mCells M ≤ mCells M ∧ mZ M ≤ mZ M := ⟨Nat.le_refl _, Nat.le_refl _⟩
    simp only [mx] at h
    split at h
    · cases h
    split at h
    · simp only [Option.some.injEq, Prod.mk.injEq] at h
      obtain ⟨_, rfl⟩ := h
      exact rf
    split at h
    · split at h
      · split at h
        · split at h
          · exact ih _ _ _ _ _ _ _ _ h
          · cases h
        · cases h
      · split at h
        · next y hy =>
          obtain ⟨pc', ls', st', My⟩ := y
          obtain ⟨e1, e2⟩ := m_copy_M hy
          rw [e1, e2]
          exact ih _ _ _ _ _ _ _ _ h
        · cases h
      · split at h
        · split at h
          · split at h
            · exact ih _ _ _ _ _ _ _ _ h
            · cases h
          · cases h
        · cases h
      · split at h
        · split at h
          · split at h
            · exact ih _ _ _ _ _ _ _ _ h
            · cases h
          · cases h
        · cases h
      · next t a b _ _ _ _ _ =>
        cases hmt : (Nat.beq t 2 && Nat.ble 318 a) with
        | true =>
          rw [hmt] at h
          simp only [cond_true] at h
          split at h
          · split at h
            · exact ih _ _ _ _ _ _ _ _ h
            · cases h
          · cases h
        | false =>
          rw [hmt] at h
          simp only [cond_false] at h
          cases hma : (Nat.blt a 318 || Nat.beq t 17) with
          | false =>
            rw [hma] at h
            simp only [cond_false] at h
            cases h
          | true =>
            rw [hma] at h
            simp only [cond_true] at h
            split at h
            · next y hy =>
              cases d with
              | zero => simp only at h; cases h
              | succ d' =>
                simp only at h
                split at h
                · next z hz =>
                  obtain ⟨rs1, M1⟩ := z
                  have h1 := ih _ _ _ _ _ _ _ _ hz
                  simp only at h
                  cases rs1 with
                  | inr E =>
                    simp only at h
                    cases hb : Nat.ble t 2 with
                    | true =>
                      rw [hb] at h
                      simp only [cond_true] at h
                      rw [m_on_M h]
                      exact h1
                    | false =>
                      rw [hb] at h
                      simp only [cond_false] at h
                      cases h
                  | inl v =>
                    cases v with
                    | none =>
                      have h2 := ih _ _ _ _ _ _ _ _ h
                      exact ⟨Nat.le_trans h1.1 h2.1, Nat.le_trans h1.2 h2.2⟩
                    | some v =>
                      have h2 := ih _ _ _ _ _ _ _ _ h
                      exact ⟨Nat.le_trans h1.1 h2.1, Nat.le_trans h1.2 h2.2⟩
                · cases h
            · cases h
    · split at h
      · split at h
        · simp only [Option.some.injEq, Prod.mk.injEq] at h
          obtain ⟨_, rfl⟩ := h
          exact ⟨Nat.le_succ _, Nat.le_add_right _ _⟩
        · cases h
      · split at h
        · next y hy =>
          obtain ⟨pc', ls', st', My⟩ := y
          have h1 := ms_mono hy
          have h2 := ih _ _ _ _ _ _ _ _ h
          exact ⟨Nat.le_trans h1.1 h2.1, Nat.le_trans h1.2 h2.2⟩
        · cases h
theorem m_initRet {a : Nat} (h : a < 318) (hn : (mprog a).1.name = "<init>") : (mprog a).2.2.2.1 = none := by
  have h1 : (List.range 318).all (fun a => decide ((mprog a).1.name ≠ "<init>") || (mprog a).2.2.2.1.isNone) = true := by decide +kernel
  have h2 := List.all_eq_true.mp h1 a (List.mem_range.mpr h)
  simp only [Bool.or_eq_true, decide_eq_true_eq] at h2
  rcases h2 with h2 | h2
  · exact absurd hn h2
  · simpa using h2
set_option maxRecDepth 100000 in
set_option maxHeartbeats 4000000 in
theorem mSim_succ {G : mG} {l : Launch} {n : Nat} (hl : l.stackTraces = false) (hNS : g_NS G l) (hSL : g_SL G l) (hSC : g_SC G l) (ih : mSim G l n) (hWR : g_WR G l n) : mSim G l (n + 1) := by
  intro d k pc ls st M res M' h hdc
  simp only [mx] at h
  split at h
  · cases h
  next q hq =>
  obtain ⟨hdec, hlen⟩ := mDcP_ok hdc hq
  split at h
  · next v hv =>
    simp only [Option.some.injEq, Prod.mk.injEq] at h
    obtain ⟨rfl, rfl⟩ := h
    exact ⟨⟨Nat.le_refl _, Nat.le_refl _⟩, fun p e R s m args below meth c Q nL c0 z0 hF hnL hR1 hR2 hret hnew hthr => hret pc ls st v rfl ⟨q.1, q.2, hq, hv⟩⟩
  next hnr =>
  split at h
  · next ent hent =>
    obtain ⟨qi, ql⟩ := q
    have hl3 : ql = 3 := by
      obtain ⟨t, a, b⟩ := ent
      rcases m_inv_v hent with ⟨j, rfl, -⟩ | ⟨j, rfl, -⟩ | ⟨j, rfl, -⟩ <;> simpa [m_isSw, m_ilen] using hlen
    subst hl3
    have hdec : decode (mprog k).2.1 pc = .ok (qi, 3) := hdec
    split at h
    · next a b =>
      rcases m_inv_v hent with ⟨j, -, -, h9⟩ | ⟨j, -, -, h9⟩ | ⟨j, hj, hm, -⟩
      · omega
      · omega
      have hj : qi = .invokespecial j := hj
      subst hj
      split at h
      · next x r =>
        split at h
        · next hc =>
          obtain ⟨hmo, hgo⟩ := ih d k (pc + 3) ls r M res M' h hdc
          exact ⟨hmo, fun p e R s m args below meth c Q nL c0 z0 hF hnL hR1 hR2 hret hnew hthr => s_objInit hF hnL hdec hm hc.1 hc.2 (hgo p e R s m args below meth c Q nL c0 z0 hF hnL hR1 hR2 hret hnew hthr)⟩
        · cases h
      · cases h
    · next a b =>
      rcases m_inv_v hent with ⟨j, -, -, h9⟩ | ⟨j, hj, hm, -⟩ | ⟨j, -, -, h9⟩
      · omega
      · have hj : qi = .invokestatic j := hj
        subst hj
        split at h
        · next y hy =>
          obtain ⟨pc', ls', st', My⟩ := y
          obtain ⟨hmo, hgo⟩ := ih d k pc' ls' st' My res M' h hdc
          have hmy : mCells M = mCells My ∧ mZ M = mZ My := by
            obtain ⟨_, _, _, _, _, _, _, _, _, _, _, _, _, _, _, _, _, _, _, _, _, rfl⟩ := m_copy_inv hy
            exact ⟨rfl, rfl⟩
          refine ⟨by rw [hmy.1, hmy.2]; exact hmo, fun p e R s m args below meth c Q nL c0 z0 hF hnL hR1 hR2 hret hnew hthr => s_copy hF hnL hdec hm hy (hgo p e R s m args below meth c Q nL c0 z0 hF hnL hR1 hR2 hret hnew hthr)⟩
        · cases h
      · omega
    · next a b =>
      rcases m_inv_v hent with ⟨j, hj, hm, -⟩ | ⟨j, -, -, h9⟩ | ⟨j, -, -, h9⟩
      · have hj : qi = .invokevirtual j := hj
        subst hj
        split at h
        · next aa r =>
          split at h
          · next z hz =>
            split at h
            · next hc =>
              obtain ⟨hmo, hgo⟩ := ih d k (pc + 3) ls _ M res M' h hdc
              refine ⟨hmo, fun p e R s m args below meth c Q nL c0 z0 hF hnL hR1 hR2 hret hnew hthr => ?_⟩
              obtain ⟨t9, ht9, hz9⟩ := Option.bind_eq_some_iff.mp hz
              rw [m_sref_ok ht9]
              exact hSL hF hnL hdec hm hz9 hc.1 hc.2 ⟨by have := hmo.1; omega, by have := hmo.2; omega⟩ (hgo p e R s m args below meth c Q nL c0 z0 hF hnL hR1 hR2 hret hnew hthr)
            · cases h
          · cases h
        · cases h
      · omega
      · omega
    · next a b =>
      rcases m_inv_v hent with ⟨j, hj, hm, -⟩ | ⟨j, -, -, h9⟩ | ⟨j, -, -, h9⟩
      · have hj : qi = .invokevirtual j := hj
        subst hj
        split at h
        · next i aa r =>
          split at h
          · next z hz =>
            split at h
            · next hc =>
              obtain ⟨hmo, hgo⟩ := ih d k (pc + 3) ls _ M res M' h hdc
              refine ⟨hmo, fun p e R s m args below meth c Q nL c0 z0 hF hnL hR1 hR2 hret hnew hthr => ?_⟩
              obtain ⟨t9, ht9, hz9⟩ := Option.bind_eq_some_iff.mp hz
              rw [m_sref_ok ht9]
              exact hSC hF hnL hdec hm hz9 hc.1 hc.2.1 hc.2.2 ⟨by have := hmo.1; omega, by have := hmo.2; omega⟩ (hgo p e R s m args below meth c Q nL c0 z0 hF hnL hR1 hR2 hret hnew hthr)
            · cases h
          · cases h
        · cases h
      · omega
      · omega
    · next t a b n5 n12 n13 n14 =>
      cases hmt : (Nat.beq t 2 && Nat.ble 318 a) with
      | true =>
        rw [hmt] at h
        simp only [cond_true] at h
        simp only [Bool.and_eq_true] at hmt
        have ht2 : t = 2 := Nat.eq_of_beq_eq_true hmt.1
        subst ht2
        rcases m_inv_v hent with ⟨j, -, -, h9⟩ | ⟨j, hj, hm, -⟩ | ⟨j, -, -, h9⟩
        · omega
        · have hj : qi = .invokestatic j := hj
          subst hj
          split at h
          · next st' hst' =>
            split at h
            · next hd1 =>
              obtain ⟨hmo, hgo⟩ := ih d k (pc + 3) ls st' M res M' h hdc
              exact ⟨hmo, fun p e R s m args below meth c Q nL c0 z0 hF hnL hR1 hR2 hret hnew hthr => s_math hF hnL hdec hm hst' hd1 ⟨by have := hmo.1; omega, by have := hmo.2; omega⟩ (hgo p e R s m args below meth c Q nL c0 z0 hF hnL hR1 hR2 hret hnew hthr)⟩
            · cases h
          · cases h
        · omega
      | false =>
        rw [hmt] at h
        simp only [cond_false] at h
        cases hma : (Nat.blt a 318 || Nat.beq t 17) with
        | false =>
          rw [hma] at h
          simp only [cond_false] at h
          cases h
        | true =>
          rw [hma] at h
          simp only [cond_true] at h
          split at h
          · next y hy =>
            obtain ⟨As, r⟩ := y
            cases d with
            | zero => simp only at h; cases h
            | succ d' =>
              simp only at h
              split at h
              · next z hz =>
                obtain ⟨rs1, M1⟩ := z
                by_cases h17 : t = 17
                · subst h17
                  simp only at h
                  cases rs1 with
                  | inr E =>
                    simp only [show Nat.ble 17 2 = false from rfl, cond_false] at h
                    cases h
                  | inl v =>
                    have hrest : mx G.2.2.2.2.1 G.2.2.2.2.2 n (d' + 1) k (pc + 3) ls (v.toList ++ r) M1 = some (res, M') := by
                      cases v with
                      | none => exact h
                      | some v => exact h
                    obtain ⟨hmo, hgo⟩ := ih (d' + 1) k (pc + 3) ls _ M1 res M' hrest hdc
                    have hmm : mCells M ≤ mCells M1 ∧ mZ M ≤ mZ M1 := mx_mono _ _ _ _ _ _ _ _ _ hz
                    exact ⟨⟨Nat.le_trans hmm.1 hmo.1, Nat.le_trans hmm.2 hmo.2⟩, fun p e R s m args below meth c Q nL c0 z0 hF hnL hR1 hR2 hret hnew hthr => hWR hF hnL hdec hent hy hz ⟨by have := hmo.1; omega, by have := hmo.2; omega⟩ v rfl (hgo p e R s m args below meth c Q nL c0 z0 hF hnL hR1 hR2 hret hnew hthr)⟩
                · have ha : a < 318 := by
                    simp only [Bool.or_eq_true] at hma
                    rcases hma with z | z
                    · exact Nat.blt_eq.mp z
                    · exact absurd (Nat.eq_of_beq_eq_true z) h17
                  have ht : t = 1 ∨ t = 2 ∨ t = 3 ∨ t = 4 := by
                    rcases m_inv_v hent with ⟨j, -, -, h9⟩ | ⟨j, -, -, h9⟩ | ⟨j, -, -, h9⟩
                    · rcases h9 with h9 | h9 | h9
                      · exact Or.inl h9
                      · exact (n13 h9).elim
                      · exact (n14 h9).elim
                    · rcases h9 with h9 | h9 | h9
                      · exact Or.inr (Or.inl h9)
                      · exact (n12 h9).elim
                      · exact absurd h9 h17
                    · rcases h9 with h9 | h9 | h9
                      · exact Or.inr (Or.inr (Or.inl h9))
                      · exact Or.inr (Or.inr (Or.inr h9))
                      · exact (n5 h9).elim
                  have hmm : mCells M ≤ mCells M1 ∧ mZ M ≤ mZ M1 := mx_mono _ _ _ _ _ _ _ _ _ hz
                  have hsl := (m_args_inv hy).2.2.1
                  have hM := c_plain ih hl hNS ha hz hsl
                  simp only at h
                  cases rs1 with
                  | inl v =>
                    have hrest : mx G.2.2.2.2.1 G.2.2.2.2.2 n (d' + 1) k (pc + 3) ls (v.toList ++ r) M1 = some (res, M') := by
                      cases v with
                      | none => exact h
                      | some v => exact h
                    obtain ⟨hmo, hgo⟩ := ih (d' + 1) k (pc + 3) ls _ M1 res M' hrest hdc
                    refine ⟨⟨Nat.le_trans hmm.1 hmo.1, Nat.le_trans hmm.2 hmo.2⟩, fun p e R s m args below meth c Q nL c0 z0 hF hnL hR1 hR2 hret hnew hthr => ?_⟩
                    refine g_call hF hnL hdec hent ht ha hy hM hmm (fun h3 => ⟨v, rfl, ?_⟩) ⟨by have := hmo.1; omega, by have := hmo.2; omega⟩ (fun E hE => by cases hE) (fun v' hv' => ?_)
                    · have h34 : t = 3 ∨ t = 4 := by omega
                      rcases m_inv_v hent with ⟨j, -, hm, h9⟩ | ⟨j, -, hm, h9⟩ | ⟨j, -, hm, h9⟩
                      · exact m_initRet ha ((mcp_call hm ht).2.2.2.2.2.2.2.2.2 h3)
                      · exact m_initRet ha ((mcp_call hm ht).2.2.2.2.2.2.2.2.2 h3)
                      · exact m_initRet ha ((mcp_call hm ht).2.2.2.2.2.2.2.2.2 h3)
                    · cases hv'
                      exact hgo p e R s m args below meth c Q nL c0 z0 hF hnL hR1 hR2 hret hnew hthr
                  | inr E =>
                    simp only at h
                    cases hb : Nat.ble t 2 with
                    | false =>
                      rw [hb] at h
                      simp only [cond_false] at h
                      cases h
                    | true =>
                      rw [hb] at h
                      simp only [cond_true] at h
                      have hMM := m_on_M h
                      have ht2 : t ≤ 2 := Nat.le_of_ble_eq_true hb
                      refine ⟨by rw [hMM]; exact hmm, fun p e R s m args below meth c Q nL c0 z0 hF hnL hR1 hR2 hret hnew hthr => ?_⟩
                      rw [hMM] at hR1 hR2
                      refine g_call hF hnL hdec hent ht ha hy hM hmm (fun h3 => by omega) ⟨hR1, hR2⟩ (fun E' hE' H locs lsA cells slots q9 ce hA h1 h2 h3 => ?_) (fun v' hv' => by cases hv')
                      cases hE'
                      exact hthr pc ls (r.map (g_rv G)) E M1 h H locs lsA cells slots q9 ce hA h1 h2 h3
              · cases h
          · cases h
  next hni =>
  split at h
  · next w hw =>
    split at h
    · next hc =>
      simp only [Option.some.injEq, Prod.mk.injEq] at h
      obtain ⟨rfl, rfl⟩ := h
      exact ⟨⟨Nat.le_succ _, Nat.le_add_right _ _⟩, fun p e R s m args below meth c Q nL c0 z0 hF hnL hR1 hR2 hret hnew hthr => hnew pc ls st M w hw rfl rfl hc.1 hc.2.1 hc.2.2.1 hc.2.2.2⟩
    · cases h
  · next hnt =>
    split at h
    · next y hy =>
      obtain ⟨pc', ls', st', My⟩ := y
      obtain ⟨hmo, hgo⟩ := ih d k pc' ls' st' My res M' h hdc
      have h1 := ms_mono hy
      exact ⟨⟨Nat.le_trans h1.1 hmo.1, Nat.le_trans h1.2 hmo.2⟩, fun p e R s m args below meth c Q nL c0 z0 hF hnL hR1 hR2 hret hnew hthr => g_step hF ⟨rfl, rfl⟩ hdec hlen hy ⟨by have := hmo.1; omega, by have := hmo.2; omega⟩ (hgo p e R s m args below meth c Q nL c0 z0 hF hnL hR1 hR2 hret hnew hthr)⟩
    · cases h
