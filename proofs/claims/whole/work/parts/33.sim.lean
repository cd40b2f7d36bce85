/-! THE SIMULATION: a run of the small machine is a run of the machine -/
def g_Rt (k pc : Nat) (st : List Value) (v : Option Value) : Prop := ∃ (i : Instr) (len : Nat), mins (mprog k).2.2.2.2.2 pc = some (i, len) ∧ m_ret (mprog k).2.2.2.1 i st = some v
/-- what is owed for NoSuchElementException, whose constructor has a place of its own in its table -/
def g_NS (G : mG) (l : Launch) : Prop := ∀ {k d : Nat} {p : Program} {e : Env} {R : Room} {s : State} {m : MethodId} {args : Array Value} {below : List Frame} {meth : Method} {c : Code} {nL c0 z0 pc mc ms : Nat} {ls : mLS} {st : List Value} {M : mMM} {w : Nat × Nat × Nat × Nat × Bool}, g_Fr G k d p R s m args meth c → w.1 = 3 → nL = (mprog k).2.2.1 → mDcP (mprog k).2.1 (mprog k).2.2.2.2.2 → (mprog k).2.2.2.2.1 = 11 → m_thr (mprog k).2.2.2.2.1 (mprog k).2.2.2.2.2 pc = some w → 8 ≤ d → m_small st = true → (∀ x ∈ c.exceptionTable.toList, False) → mCells (m_thrown M) ≤ mc + c0 → mZ (m_thrown M) ≤ ms + z0 → mc ≤ R.cells ∧ ms ≤ R.slots →
  g_Go G p l e R s m args below meth c (vx_MQ below (c_Q G (.inr w.1) (m_thrown M)) (c_X G (.inr w.1) (m_thrown M)) args s mc ms (g_A G)) nL c0 z0 pc ls st M
/-- what is owed for String.length() and String.charAt(int) of the constants -/
def g_SL (G : mG) (l : Launch) : Prop := ∀ {k d : Nat} {p : Program} {e : Env} {R : Room} {s : State} {m : MethodId} {args : Array Value} {below : List Frame} {meth : Method} {c : Code} {Q : State → Prop} {nL c0 z0 pc idx a b t z : Nat} {ls : mLS} {r : List Value} {M : mMM}, g_Fr G k d p R s m args meth c → nL = (mprog k).2.2.1 → decode (mprog k).2.1 pc = .ok (.invokevirtual idx, 3) → mcp (mprog k).2.2.2.2.1 idx = some (13, a, b) → m_slen t = some z → m_small r = true → 8 ≤ d → mCells M ≤ R.cells + c0 ∧ mZ M ≤ R.slots + z0 →
  g_Go G p l e R s m args below meth c Q nL c0 z0 (pc + 3) ls (.int (Int32.ofNat z) :: r) M → g_Go G p l e R s m args below meth c Q nL c0 z0 pc ls (.ref (1000001 + t) :: r) M
def g_SC (G : mG) (l : Launch) : Prop := ∀ {k d : Nat} {p : Program} {e : Env} {R : Room} {s : State} {m : MethodId} {args : Array Value} {below : List Frame} {meth : Method} {c : Code} {Q : State → Prop} {nL c0 z0 pc idx a b t : Nat} {i z : Int32} {ls : mLS} {r : List Value} {M : mMM}, g_Fr G k d p R s m args meth c → nL = (mprog k).2.2.1 → decode (mprog k).2.1 pc = .ok (.invokevirtual idx, 3) → mcp (mprog k).2.2.2.2.1 idx = some (14, a, b) → m_sat t i.toNatClampNeg = some z → ¬ i < 0 → m_small r = true → 8 ≤ d → mCells M ≤ R.cells + c0 ∧ mZ M ≤ R.slots + z0 →
  g_Go G p l e R s m args below meth c Q nL c0 z0 (pc + 3) ls (.int z :: r) M → g_Go G p l e R s m args below meth c Q nL c0 z0 pc ls (.int i :: .ref (1000001 + t) :: r) M
/-- a call of a wrapper of the law, which has a table of its own -/
def g_WR (G : mG) (l : Launch) (n : Nat) : Prop := ∀ {k d' : Nat} {p : Program} {e : Env} {R : Room} {s : State} {m : MethodId} {args : Array Value} {below : List Frame} {meth : Method} {c : Code} {Q : State → Prop} {nL c0 z0 pc a b : Nat} {ls : mLS} {st As r : List Value} {M M1 : mMM} {rs1 : mRes} {i : Instr}, g_Fr G k (d' + 1) p R s m args meth c → nL = (mprog k).2.2.1 → decode (mprog k).2.1 pc = .ok (i, 3) → m_inv (mprog k).2.2.2.2.1 i = some (17, a, b) → m_args 17 a b st M = some (As, r) → mx G.2.2.2.2.1 G.2.2.2.2.2 n d' a 0 (m_enter As (mprog a).2.2.1) [] M = some (rs1, M1) →
  mCells M1 ≤ R.cells + c0 ∧ mZ M1 ≤ R.slots + z0 → ∀ v, rs1 = .inl v → g_Go G p l e R s m args below meth c Q nL c0 z0 (pc + 3) ls (v.toList ++ r) M1 → g_Go G p l e R s m args below meth c Q nL c0 z0 pc ls st M
def mSim (G : mG) (l : Launch) (n : Nat) : Prop := ∀ (d k pc : Nat) (ls : mLS) (st : List Value) (M : mMM) (res : mRes) (M' : mMM), mx G.2.2.2.2.1 G.2.2.2.2.2 n d k pc ls st M = some (res, M') → mDcP (mprog k).2.1 (mprog k).2.2.2.2.2 →
  (mCells M ≤ mCells M' ∧ mZ M ≤ mZ M') ∧ ∀ (p : Program) (e : Env) (R : Room) (s : State) (m : MethodId) (args : Array Value) (below : List Frame) (meth : Method) (c : Code) (Q : State → Prop) (nL c0 z0 : Nat), g_Fr G k d p R s m args meth c → nL = (mprog k).2.2.1 → mCells M' ≤ R.cells + c0 → mZ M' ≤ R.slots + z0 →
    (∀ pc ls st v, res = .inl v → g_Rt k pc st v → g_Go G p l e R s m args below meth c Q nL c0 z0 pc ls st M') →
    (∀ pc ls st Mx w, m_thr (mprog k).2.2.2.2.1 (mprog k).2.2.2.2.2 pc = some w → res = .inr w.1 → M' = m_thrown Mx → 8 ≤ d → k < 318 → (mprog k).2.2.2.2.1 = 11 → m_small st = true → g_Go G p l e R s m args below meth c Q nL c0 z0 pc ls st Mx) →
    (∀ pc ls rest E Mx, m_on k pc E Mx = some (res, M') → ∀ (H : Heap) (locs : List Loc) (lsA : Array Slot) (cells slots : Nat) (q : Addr) (ce : Cell), g_At G nL c0 z0 s Mx ls cells slots H locs lsA → H[q]? = some ce → ce.vm = .none → s.vm.findClass (mEx E) = some ce.cls → vx_W p l e R s m args below meth c H locs cells slots Q (F0 m pc lsA rest) q) →
    g_Go G p l e R s m args below meth c Q nL c0 z0 pc ls st M
/-- the locals at a method's entry -/
theorem m_sl_rel {G : mG} : ∀ (As : List Value), (lg_sl (As.map (g_rv G))).length = (m_sl As).length ∧ ∀ (i : Nat) (v : Value), (m_sl As)[i]? = some (some v) → (lg_sl (As.map (g_rv G)))[i]? = some (.val (g_rv G v))
  | [] => ⟨rfl, fun i v h => by simp [m_sl] at h⟩
  | a :: As => by
    obtain ⟨h1, h2⟩ := m_sl_rel (G := G) As
    have e1 : m_sl (a :: As) = (if a.category = 2 then [some a, none] else [some a]) ++ m_sl As := rfl
    have e2 : lg_sl ((a :: As).map (g_rv G)) = (if (g_rv G a).category = 2 then [.val (g_rv G a), .second] else [.val (g_rv G a)]) ++ lg_sl (As.map (g_rv G)) := rfl
    rw [e1, e2, g_cat]
    by_cases hc : a.category = 2
    · rw [if_pos hc, if_pos hc]
      refine ⟨by simp [h1], fun i v h => ?_⟩
      match i, h with
      | 0, h => cases h; rfl
      | 1, h => cases h
      | i + 2, h => exact h2 i v h
    · rw [if_neg hc, if_neg hc]
      refine ⟨by simp [h1], fun i v h => ?_⟩
      match i, h with
      | 0, h => cases h; rfl
      | i + 1, h => exact h2 i v h
theorem g_entry {G : mG} {As : List Value} {nL : Nat} (h : (m_sl As).length ≤ nL) : g_ls G ((lg_sl (As.map (g_rv G)) ++ List.replicate (nL - (lg_sl (As.map (g_rv G))).length) Slot.unset).toArray) nL (m_enter As nL) := by
  obtain ⟨h1, h2⟩ := m_sl_rel (G := G) As
  have hh := lv_entry (As.map (g_rv G)) (n := nL) (by rw [h1]; exact h)
  refine ⟨hh.1, by simp [m_enter]; omega, hh.2.1, fun i v hi => ?_⟩
  unfold m_enter at hi
  by_cases hl : i < (m_sl As).length
  · rw [List.getElem?_append_left hl] at hi
    have h3 := h2 i v hi
    simp only [List.getElem?_toArray]
    rw [List.getElem?_append_left (by rw [h1]; exact hl)]
    exact h3
  · rw [List.getElem?_append_right (by omega)] at hi
    have := List.eq_of_mem_replicate (List.mem_of_getElem? hi)
    cases this
/-- the contract of a method without a table of its own, out of its runs -/
theorem c_plain {G : mG} {l : Launch} {n d k : Nat} {As : List Value} {M M' : mMM} {res : mRes} (hS : mSim G l n) (hl : l.stackTraces = false) (hNS : g_NS G l) (hk : k < 318) (h : mx G.2.2.2.2.1 G.2.2.2.2.2 n d k 0 (m_enter As (mprog k).2.2.1) [] M = some (res, M')) (hAs : (m_sl As).length ≤ (mprog k).2.2.1) : c_Met G l d k As M res M' := by
  obtain ⟨w1, w2, w3, w4, w5⟩ := mOk hk
  obtain ⟨⟨hm1, hm2⟩, hgo⟩ := hS d k 0 _ [] M res M' h w2
  refine vx_ofW (cc := (mprog k).2.1) (maxL := (mprog k).2.2.1) (ret := (mprog k).2.2.2.1) w3 rfl ?_
  intro p e s m args below meth c s₁ B hml hnT hv
  obtain ⟨rfl, hWd, hE⟩ := hv
  have hts := atoms_spec (ws := c_ws k) B.pre
  have hF : g_Fr G k d p (c_rm d (mCells M' - mCells M) (mZ M' - mZ M)) s m (As.map (g_rv G)).toArray meth c := by
    refine ⟨B.exec, B.bytes, hml, ?_, fun w hw => hts w (List.mem_cons_of_mem _ hw), B.notSynchronized, hE, fun hi => ?_, Nat.le_refl _, Nat.le_refl _⟩
    · rw [← w5]
      exact findClass_of_methodNamed B.named
    · rw [(name_of_methodNamed B.named B.method).1]
      exact of_decide_eq_true hi
  show W p l e (c_rm d (mCells M' - mCells M) (mZ M' - mZ M)) s m _ below meth c s.heap [] 0 0 _ _
  rw [lg_entry_eq]
  have hb9 : mCells M' ≤ (c_rm d (mCells M' - mCells M) (mZ M' - mZ M)).cells + mCells M := by show mCells M' ≤ (mCells M' - mCells M) + mCells M; omega
  have hz9 : mZ M' ≤ (c_rm d (mCells M' - mCells M) (mZ M' - mZ M)).slots + mZ M := by show mZ M' ≤ (mZ M' - mZ M) + mZ M; omega
  refine hgo p e _ s m _ below meth c _ (mprog k).2.2.1 (mCells M) (mZ M) hF rfl hb9 hz9 ?_ ?_ ?_ s.heap [] _ 0 0 ⟨hWd, va_S.rf, g_entry hAs, by omega, by omega⟩
  · intro pc ls st v hres hrt
    subst hres
    obtain ⟨i, len, hi, hr⟩ := hrt
    obtain ⟨hd, hlen⟩ := mDcP_ok w2 hi
    intro H locs lsA cells slots hA
    obtain ⟨hWd1, hS1, hL1, hc1, hz1⟩ := hA
    have e1 : mCells M' - mCells M = cells := by omega
    have e2 : mZ M' - mZ M = slots := by omega
    rw [e1, e2]
    have hf9 : ∀ q ∈ locs, g_A G q.base := hS1.2.2
    refine vx_ret ?_
    unfold m_ret at hr
    split at hr
    · split at hr
      · next hret =>
        split at hr
        · cases hr
          have hlen : len = 1 := by simpa [m_isSw, m_ilen] using hlen
          subst hlen
          exact W.vret B.exec B.bytes (by rw [B.returns]; exact hret) (fun t ht hW => ⟨none, rfl, rfl, by rw [ht]; exact hWd1, hS1.F ht⟩) hf9 hd B.notSynchronized
        · cases hr
      · cases hr
    · split at hr
      · next v0 =>
        have hlen : len = 1 := by simpa [m_isSw, m_ilen] using hlen
        subst hlen
        split at hr
        · next hret =>
          cases hr
          exact W.iret B.exec B.bytes (by rw [B.returns]; exact hret) (fun t ht hW => ⟨_, rfl, rfl, by rw [ht]; exact hWd1, hS1.F ht⟩) hf9 hd B.notSynchronized
        · next hret =>
          split at hr
          · next h01 =>
            cases hr
            exact W.zret B.exec B.bytes (ty := .boolean) (by rw [B.returns]; exact hret) (by rcases h01 with rfl | rfl <;> rfl) (fun t ht hW => ⟨_, rfl, rfl, by rw [ht]; exact hWd1, hS1.F ht⟩) hf9 hd B.notSynchronized
          · cases hr
        · cases hr
      · cases hr
    · split at hr
      · next v0 =>
        have hlen : len = 1 := by simpa [m_isSw, m_ilen] using hlen
        subst hlen
        split at hr
        · next hret =>
          cases hr
          exact W.lret B.exec B.bytes (by rw [B.returns]; exact hret) (fun t ht hW => ⟨_, rfl, rfl, by rw [ht]; exact hWd1, hS1.F ht⟩) hf9 hd B.notSynchronized
        · cases hr
      · cases hr
    · cases hr
  · intro pc ls st Mx w hw hres hM hd8 _ ho hst
    subst hres
    subst hM
    by_cases h3 : w.1 = 3
    · exact hNS hF h3 rfl w2 ho hw hd8 hst hnT (by omega) (by omega) ⟨Nat.le_refl _, Nat.le_refl _⟩
    · exact s_throw hF hl h3 rfl w2 ho hw hd8 hst hnT (by omega) (by omega) ⟨Nat.le_refl _, Nat.le_refl _⟩
  · intro pc ls rest E Mx hon H locs lsA cells slots q ce hA h1 h2 h3
    obtain ⟨hWd1, hS1, hL1, hc1, hz1⟩ := hA
    have hmt : m_tabs k = [] := by
      unfold m_tabs
      split
      · have : Nat.blt k mNP = true := Nat.blt_eq.mpr (by show k < 321; omega)
        rw [this]
        rfl
      · rfl
    unfold m_on at hon
    rw [hmt] at hon
    simp only [m_find] at hon
    have hb : Nat.blt k 318 = true := Nat.blt_eq.mpr hk
    rw [hb] at hon
    simp only [cond_true, Option.some.injEq, Prod.mk.injEq] at hon
    obtain ⟨rfl, rfl⟩ := hon
    exact vx_out (E := mEx E) (fun x hx9 => (hnT x hx9).elim) B.notSynchronized h1 h2 h3 (fun t ht ha => ⟨E, rfl, rfl, by rw [ht]; exact hWd1, hS1.F ht⟩) hS1.2.2 (by omega) (by omega)
