/-! 'throw new E("..")' in the class -/
def m_isCast (w : Cond) : Bool := match w with
  | .castable _ _ => true
  | .declares _ => true
  | _ => false
def m_nms : List String := ["java/lang/RuntimeException", "java/lang/Exception"]
def m_thrOk (E : Nat) : Bool := (vx_atS "PartingTrains" (m_ic E) (mEx E) m_nms).all (fun w => decide (w ∈ lw_tbl) && (mGood w || m_isCast w) && vx_ot w) && Bundle.fit (mEx E)
theorem m_thr0 : m_thrOk 0 = true := by decide +kernel
theorem m_thr1 : m_thrOk 1 = true := by decide +kernel
theorem m_thr2 : m_thrOk 2 = true := by decide +kernel
theorem m_thrE {E : Nat} (h : E < 3) : m_thrOk E = true := by
  match E, h with
  | 0, _ => exact m_thr0
  | 1, _ => exact m_thr1
  | 2, _ => exact m_thr2
theorem mcp_exc {o i E z : Nat} (h : mcp o i = some (15, E, z)) : E < 4 ∧ Cond.classLink (mOw o) i (mEx E) ∈ mTbl ∧ Cond.initialized (mEx E) ∈ mTbl := by
  obtain ⟨hs, h1⟩ := mcp_ok h
  simp only [mCp1, Bool.and_eq_true] at h1
  exact ⟨Nat.blt_eq.mp h1.1.1, mAt_ok h1.1.2, mAt_ok h1.2⟩
theorem m_thr_inv {o pc : Nat} {t : List (List (Option (Instr × Nat)))} {w : Nat × Nat × Nat × Nat × Bool} (h : m_thr o t pc = some w) : ∃ ik is z1 z2 tx, mins t pc = some (.new ik, 3) ∧ mcp o ik = some (15, w.1, z1) ∧ mins t (pc + 3) = some (.dup, 1) ∧ mcp o is = some (11, tx, z2) ∧
    ((mins t (pc + 4) = some (.ldc is, 2) ∧ mins t (pc + 6) = some (.invokespecial (m_ic w.1), 3) ∧ mins t (pc + 9) = some (.athrow, 1)) ∨ (mins t (pc + 4) = some (.ldc_w is, 3) ∧ mins t (pc + 7) = some (.invokespecial (m_ic w.1), 3) ∧ mins t (pc + 10) = some (.athrow, 1))) := by
  unfold m_thr at h
  split at h
  · next ik h1 =>
    split at h
    · next E z1 h2 =>
      split at h
      · next h3 =>
        split at h
        · next is h4 =>
          split at h
          · next tx z2 h5 =>
            split at h
            · next ic h6 =>
              split at h
              · next E' z3 h7 =>
                split at h
                · next h8 =>
                  split at h
                  · next q =>
                    cases h
                    obtain ⟨rfl, rfl⟩ := q
                    exact ⟨ik, is, z1, z2, tx, h1, h2, h3, h5, Or.inl ⟨h4, h6, h8⟩⟩
                  · cases h
                · cases h
              · cases h
            · cases h
          · cases h
        · next is h4 =>
          split at h
          · next tx z2 h5 =>
            split at h
            · next ic h6 =>
              split at h
              · next E' z3 h7 =>
                split at h
                · next h8 =>
                  split at h
                  · next q =>
                    cases h
                    obtain ⟨rfl, rfl⟩ := q
                    exact ⟨ik, is, z1, z2, tx, h1, h2, h3, h5, Or.inr ⟨h4, h6, h8⟩⟩
                  · cases h
                · cases h
              · cases h
            · cases h
          · cases h
        · cases h
      · cases h
    · cases h
  · cases h
section TH
variable {G : mG} {k d : Nat} {p : Program} {l : Launch} {e : Env} {R : Room} {s : State} {m : MethodId} {args : Array Value} {below : List Frame} {meth : Method} {c : Code} {nL c0 z0 pc mc ms : Nat} {ls : mLS} {st : List Value} {M : mMM}
theorem s_throw {w : Nat × Nat × Nat × Nat × Bool} (hF : g_Fr G k d p R s m args meth c) (hl : l.stackTraces = false) (hne : w.1 ≠ 3) (hnL : nL = (mprog k).2.2.1) (hdc : mDcP (mprog k).2.1 (mprog k).2.2.2.2.2) (ho : (mprog k).2.2.2.2.1 = 11) (ht : m_thr (mprog k).2.2.2.2.1 (mprog k).2.2.2.2.2 pc = some w) (hd : 8 ≤ d) (hst : m_small st = true) (hnT : ∀ x ∈ c.exceptionTable.toList, False) (hc : mCells (m_thrown M) ≤ mc + c0) (hz : mZ (m_thrown M) ≤ ms + z0) (hR : mc ≤ R.cells ∧ ms ≤ R.slots) :
    g_Go G p l e R s m args below meth c (vx_MQ below (c_Q G (.inr w.1) (m_thrown M)) (c_X G (.inr w.1) (m_thrown M)) args s mc ms (g_A G)) nL c0 z0 pc ls st M := by
  obtain ⟨hx, hb, hml, hown, hts, hlocks, hE, -, hfr, hlo⟩ := id hF
  obtain ⟨ik, is, z1, z2, tx, i1, i2, i3, i4, i5⟩ := m_thr_inv ht
  obtain ⟨hE4, hcl, hci⟩ := mcp_exc i2
  obtain ⟨q, hq, hq1, hq2⟩ := mcp_str i4
  have hstr := hE.2.1 tx q hq
  rw [hq1, hq2] at hstr
  have hok := m_thrE (E := w.1) (by omega)
  unfold m_thrOk at hok
  simp only [Bool.and_eq_true, List.all_eq_true, Bool.or_eq_true, decide_eq_true_eq] at hok
  obtain ⟨hok, hfit⟩ := hok
  rw [ho] at hown hcl hstr
  have hO : mOw 11 = "PartingTrains" := rfl
  rw [hO] at hown hcl hstr
  have hat : ∀ x ∈ vx_atS "PartingTrains" (m_ic w.1) (mEx w.1) m_nms, x.before args s = true := by
    intro x hx9
    obtain ⟨⟨y1, y2⟩, -⟩ := hok x hx9
    rcases y2 with y2 | y2
    · exact hts x (List.mem_filter.mpr ⟨y1, y2⟩)
    · cases x with
      | castable X Y => exact va_Nw.use rfl (hE.2.2.2.2.2.2.2.2.2.2.1.1 X Y y1)
      | declares y => exact va_Nw.use rfl (hE.2.2.2.2.2.2.2.2.2.2.1.2 y y1)
      | _ => simp [m_isCast] at y2
  have hgood : ∀ x ∈ Cond.classLink "PartingTrains" ik (mEx w.1) :: Cond.initialized (mEx w.1) :: vx_atS "PartingTrains" (m_ic w.1) (mEx w.1) m_nms, vx_ot x = true := by
    intro x hx9
    rcases List.mem_cons.mp hx9 with rfl | hx9
    · rfl
    · rcases List.mem_cons.mp hx9 with rfl | hx9
      · rfl
      · exact (hok x hx9).2
  have hnames : ∀ n ∈ m_nms, Bundle.fit n = true := by decide +kernel
  intro H locs lsA cells slots hA
  obtain ⟨hWd, hS, hL, hcl9, hzl9⟩ := hA
  have hsz : lsA.size = c.maxLocals := by rw [hL.1, hnL, hml]
  have hXC : ∀ t : State, s.vm.Alike t.vm → H.size ≤ t.heap.size → (∀ q : Nat, q < H.size → t.heap[q]? = H[q]?) → c_X G (.inr w.1) (m_thrown M) (mEx w.1) s t := by
    intro t _ hsz9 hsame
    refine ⟨w.1, rfl, rfl, ⟨fun z => absurd z (by show ¬ (1 = 0); decide), Nat.le_trans hWd.2.1 hsz9, hWd.2.2.1, fun a cc hcc => ?_, hWd.2.2.2.2⟩, ⟨Nat.le_trans hS.1 hsz9, fun q q1 q2 => ?_⟩⟩
    · have e9 : g_cell G (m_thrown M) a cc = g_cell G M a cc := g_cell_eq rfl rfl
      rw [e9]
      have h7 := hWd.2.2.2.1 a cc hcc
      exact h7.kept (hsame _ h7.lt)
    · rw [hsame q (Nat.lt_of_lt_of_le q1 hS.1)]
      exact hS.2.1 q q1 q2
  have hc1 : mCells (m_thrown M) = mCells M + 1 := rfl
  have hz1 : mZ (m_thrown M) = mZ M + 6 := rfl
  have hs8 := m_small_ok (G := G) hst
  have hn9 : m_nms.length = 2 := rfl
  rcases i5 with ⟨j1, j2, j3⟩ | ⟨j1, j2, j3⟩
  · exact vx_throwS hx hb hl (names := m_nms) hown hfit hnames (hts _ hcl) (hts _ hci) hstr hat hgood hE.2.2.1 hE.2.2.2.1 hS hsz (mDcP_ok hdc i1).1 (mDcP_ok hdc i3).1 (mDcP_ok hdc j1).1 (mDcP_ok hdc j2).1 (mDcP_ok hdc j3).1 (fun x hx9 => (hnT x hx9).elim) (by omega) (by omega) (by omega) (by omega) hlocks hXC (fun z hz9 => hS.2.2 z hz9) (by omega) (by omega)
  · exact vx_throwSW hx hb hl (names := m_nms) hown hfit hnames (hts _ hcl) (hts _ hci) hstr hat hgood hE.2.2.1 hE.2.2.2.1 hS hsz (mDcP_ok hdc i1).1 (mDcP_ok hdc i3).1 (mDcP_ok hdc j1).1 (mDcP_ok hdc j2).1 (mDcP_ok hdc j3).1 (fun x hx9 => (hnT x hx9).elim) (by omega) (by omega) (by omega) (by omega) hlocks hXC (fun z hz9 => hS.2.2 z hz9) (by omega) (by omega)
end TH
