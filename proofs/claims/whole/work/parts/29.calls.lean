/-! CONTRACTS over the small machine, and calls by them -/
def c_rm (d c z : Nat) : Room := { frames := d, cells := c, slots := z, locals := 64 * d }
def c_Pc (G : mG) (As : List Value) (M : mMM) : Array Value → State → Prop := fun v U => v = (As.map (g_rv G)).toArray ∧ g_Wd G M U.heap ∧ g_Env G U
def c_Q (G : mG) (res : mRes) (M : mMM) : Array Value → State → Outcome → State → Prop := fun _ st o t => ∃ v, res = .inl v ∧ o = .returned (v.map (g_rv G)) ∧ g_Wd G M t.heap ∧ va_F (g_A G) st t
def c_X (G : mG) (res : mRes) (M : mMM) : String → State → State → Prop := fun En st t => ∃ E, res = .inr E ∧ En = mEx E ∧ g_Wd G M t.heap ∧ va_F (g_A G) st t
def c_ws (k : Nat) : List Cond := Cond.code (mprog k).1 (mprog k).2.1 (mprog k).2.2.1 (mprog k).2.2.2.1 :: mTbl
/-- the contract of the method k at these arguments and this memory -/
def c_Met (G : mG) (l : Launch) (d k : Nat) (As : List Value) (M : mMM) (res : mRes) (M' : mMM) : Prop := vx_Met l (mprog k).1 (c_ws k) (c_rm d (mCells M' - mCells M) (mZ M' - mZ M)) (c_Pc G As M) (c_Q G res M') (c_X G res M') (mCells M' - mCells M) (mZ M' - mZ M) (g_A G)
theorem c_blind {G : mG} {As : List Value} {M : mMM} : FrameBlind (c_Pc G As M) := fun _ _ _ _ h => ⟨h.1, h.2.1, h.2.2.blind⟩
theorem c_Met.plain {G : mG} {l : Launch} {d k : Nat} {As : List Value} {M M' : mMM} {v : Option Value} (h : c_Met G l d k As M (.inl v) M') : Met l (mprog k).1 (c_ws k) (c_rm d (mCells M' - mCells M) (mZ M' - mZ M)) (c_Pc G As M) (c_Q G (.inl v) M') (mCells M' - mCells M) (mZ M' - mZ M) (g_A G) := by
  intro p e ha hc hk s m args below hf happ hP hK
  obtain ⟨k9, o, h1, h2, h3, hQ⟩ := h p e ha hc hk s m args below hf happ hP hK
  refine ⟨k9, o, h1, h2, h3, ?_⟩
  rcases hQ with hQ | ⟨q, -, E, ce, L, ⟨E', hE', -⟩, -⟩
  · exact hQ
  · cases hE'
theorem mcp_call {o i t a b : Nat} (h : mcp o i = some (t, a, b)) (ht : t = 1 ∨ t = 2 ∨ t = 3 ∨ t = 4) : a < mNP ∧ ((mprog a).1.cls ≠ "java/lang/invoke/MethodHandle" ∧ (mprog a).1.cls ≠ "java/lang/invoke/VarHandle") ∧ mNpar (mprog a).1 = some b ∧ Cond.initialized (mprog a).1.cls ∈ mTbl ∧
    (t ≠ 4 → Cond.methodLink (mOw o) i (mprog a).1 ∈ mTbl) ∧ (t = 4 → Cond.methodLinkNest (mOw o) i (mprog a).1 "PartingTrains" ∈ mTbl) ∧ (t = 2 → Cond.static (mprog a).1 ∈ mTbl) ∧ (t ≠ 2 → Cond.instanceMethod (mprog a).1 ∈ mTbl) ∧ (t = 1 → Cond.selects (mprog a).1.cls (mprog a).1 (mprog a).1 ∈ mTbl) ∧ (3 ≤ t → (mprog a).1.name = "<init>") := by
  obtain ⟨hs, h1⟩ := mcp_ok h
  rcases ht with rfl | rfl | rfl | rfl
  all_goals
    simp only [mCp1, Bool.and_eq_true, mYok, decide_eq_true_eq] at h1
  · obtain ⟨⟨⟨⟨⟨⟨q1, ⟨q2, q3⟩, q4⟩, q5⟩, q6⟩, q7⟩, q8⟩, q9⟩ := h1
    exact ⟨Nat.blt_eq.mp q1, ⟨q2, q3⟩, q4, mAt_ok q9, fun _ => mAt_ok q6, fun z => absurd z (by decide), fun z => absurd z (by decide), fun _ => mAt_ok q7, fun _ => mAt_ok q8, fun z => absurd z (by decide)⟩
  · obtain ⟨⟨⟨⟨q1, ⟨q2, q3⟩, q4⟩, q5⟩, q6⟩, q7⟩ := h1
    exact ⟨Nat.blt_eq.mp q1, ⟨q2, q3⟩, q4, mAt_ok q7, fun _ => mAt_ok q5, fun z => absurd z (by decide), fun _ => mAt_ok q6, fun z => absurd rfl z, fun z => absurd z (by decide), fun z => absurd z (by decide)⟩
  · obtain ⟨⟨⟨⟨⟨q1, ⟨q2, q3⟩, q4⟩, q5⟩, q6⟩, q7⟩, q8⟩ := h1
    exact ⟨Nat.blt_eq.mp q1, ⟨q2, q3⟩, q4, mAt_ok q8, fun _ => mAt_ok q6, fun z => absurd z (by decide), fun z => absurd z (by decide), fun _ => mAt_ok q7, fun z => absurd z (by decide), fun _ => q5⟩
  · obtain ⟨⟨⟨⟨⟨q1, ⟨q2, q3⟩, q4⟩, q5⟩, q6⟩, q7⟩, q8⟩ := h1
    exact ⟨Nat.blt_eq.mp q1, ⟨q2, q3⟩, q4, mAt_ok q8, fun z => absurd rfl z, fun _ => mAt_ok q6, fun z => absurd z (by decide), fun _ => mAt_ok q7, fun z => absurd z (by decide), fun _ => q5⟩
theorem m_ownCls {o : Nat} {r : vw_C} (h : mcl[o]? = some r) : r.1 = mOw o := by
  match o, h with
  | 0, hq => cases hq; rfl
  | 1, hq => cases hq; rfl
  | 2, hq => cases hq; rfl
  | 3, hq => cases hq; rfl
  | 4, hq => cases hq; rfl
  | 5, hq => cases hq; rfl
  | 6, hq => cases hq; rfl
  | 7, hq => cases hq; rfl
  | 8, hq => cases hq; rfl
  | 9, hq => cases hq; rfl
  | 10, hq => cases hq; rfl
  | 11, hq => cases hq; rfl
  | 12, hq => cases hq; rfl
  | n + 13, hq => simp at hq
section CL
variable {G : mG} {p : Program} {l : Launch} {e : Env} {R : Room} {s : State} {m : MethodId} {args : Array Value} {below : List Frame} {meth : Method} {c : Code} {H : Heap} {locs : List Loc} {cells slots : Nat} {Q : State → Prop}
theorem x_call {mc ms pc : Nat} {lsA : Array Slot} {st0 rest : List Value} {a : Array Value} {res : mRes} {M' : mMM} (hr : vx_Run p l e R s m args below meth c H locs cells slots mc ms (F0 m pc lsA st0) rest (c_Q G res M' a) (c_X G res M') (g_A G)) (hS : va_S (g_A G) s.heap H locs)
    (kx : ∀ E, res = .inr E → ∀ (ce : Cell) (q : Addr) (H1 : Heap) (locs1 : List Loc), g_Wd G M' H1 → va_S (g_A G) s.heap H1 locs1 → H1[q]? = some ce → ce.vm = .none → s.vm.findClass (mEx E) = some ce.cls → vx_W p l e R s m args below meth c H1 locs1 (cells + mc) (slots + ms) Q (F0 m pc lsA rest) q)
    (kk : ∀ v, res = .inl v → ∀ (H1 : Heap) (locs1 : List Loc), g_Wd G M' H1 → va_S (g_A G) s.heap H1 locs1 → W p l e R s m args below meth c H1 locs1 (cells + mc) (slots + ms) Q (F0 m (pc + 3) lsA ((v.map (g_rv G)).toList ++ rest))) : W p l e R s m args below meth c H locs cells slots Q (F0 m pc lsA st0) := by
  intro T hT X
  rcases hr T hT X with ⟨v, st₀, t, T', L, h0, X', hL, e1, e2, ⟨w, hw, hv, hwd, hF⟩, st⟩ | ⟨q, st₀, t, T', L, E, ce, h0, X', hL, e1, e2, ⟨E', hE', rfl, hwd, hF⟩, hce, hcv, hcl, st⟩
  · cases hv
    obtain ⟨k1, k2, k3⟩ := vx_keep h0 e1 hS (fun q _ h => h) (fun q h => h) hL hF
    obtain ⟨t2, a1, b1⟩ := kk w hw T'.heap (locs ++ L) (by rw [e1]; exact hwd) k3 T' rfl X'
    exact ⟨t2, st t2 a1, b1⟩
  · obtain ⟨k1, k2, k3⟩ := vx_keep h0 e1 hS (fun q _ h => h) (fun q h => h) hL hF
    obtain ⟨t2, a1, b1⟩ := kx E' hE' ce q T'.heap (locs ++ L) (by rw [e1]; exact hwd) k3 (by rw [e1]; exact hce) hcv hcl T' rfl X'
    exact ⟨t2, st.trans a1, b1⟩
end CL
theorem m_args_inv {t a b : Nat} {st : List Value} {M : mMM} {As r : List Value} (h : m_args t a b st M = some (As, r)) : (st.take b).length = b ∧ m_small r = true ∧ (m_sl As).length ≤ (mprog a).2.2.1 ∧
    (((t = 2 ∨ t = 17) ∧ As = (st.take b).reverse ∧ r = st.drop b) ∨ (¬ (t = 2 ∨ t = 17) ∧ ∃ q, st.drop b = .ref q :: r ∧ As = .ref q :: (st.take b).reverse ∧ (t = 1 → ∃ cc, M.1[q]? = some cc ∧ cc.1 = 6 + (mprog a).2.2.2.2.1 ∧ (mprog a).2.2.2.2.1 < 13))) := by
  unfold m_args at h
  split at h
  · next hl =>
    split at h
    · next ht =>
      split at h
      · next hq =>
        simp only [Option.some.injEq, Prod.mk.injEq] at h
        obtain ⟨rfl, rfl⟩ := h
        exact ⟨hl, hq.1, hq.2, Or.inl ⟨ht, rfl, rfl⟩⟩
      · cases h
    · next ht =>
      split at h
      · next q r' hd =>
        split at h
        · next hq =>
          split at h
          · next ht1 =>
            split at h
            · next cc hcc =>
              split at h
              · next hz =>
                simp only [Option.some.injEq, Prod.mk.injEq] at h
                obtain ⟨rfl, rfl⟩ := h
                exact ⟨hl, hq.1, hq.2, Or.inr ⟨ht, q, hd, rfl, fun _ => ⟨cc, hcc, hz.1, hz.2⟩⟩⟩
              · cases h
            · cases h
          · next ht1 =>
            simp only [Option.some.injEq, Prod.mk.injEq] at h
            obtain ⟨rfl, rfl⟩ := h
            exact ⟨hl, hq.1, hq.2, Or.inr ⟨ht, q, hd, rfl, fun z => absurd z ht1⟩⟩
        · cases h
      · cases h
  · cases h
theorem m_small_ok {G : mG} {r : List Value} (h : m_small r = true) : ((r.map (g_rv G)).map fun v => v.category).sum ≤ 8 := by
  have h1 : (r.map fun v => v.category).sum ≤ 8 := Nat.le_of_ble_eq_true h
  have e : (r.map (g_rv G)).map (fun v => v.category) = r.map fun v => v.category := by
    rw [List.map_map]
    exact List.map_congr_left fun v _ => g_cat G v
  rw [e]
  exact h1
theorem m_inv_v {o : Nat} {i : Instr} {t a b : Nat} (h : m_inv o i = some (t, a, b)) : (∃ j, i = .invokevirtual j ∧ mcp o j = some (t, a, b) ∧ (t = 1 ∨ t = 13 ∨ t = 14)) ∨ (∃ j, i = .invokestatic j ∧ mcp o j = some (t, a, b) ∧ (t = 2 ∨ t = 12 ∨ t = 17)) ∨ (∃ j, i = .invokespecial j ∧ mcp o j = some (t, a, b) ∧ (t = 3 ∨ t = 4 ∨ t = 5)) := by
  unfold m_inv at h
  split at h
  · next j =>
    refine Or.inl ⟨j, rfl, ?_⟩
    split at h <;> first | cases h | skip
    all_goals (next hm => refine ⟨hm, ?_⟩; decide)
  · next j =>
    refine Or.inr (Or.inl ⟨j, rfl, ?_⟩)
    split at h <;> first | cases h | skip
    all_goals (next hm => refine ⟨hm, ?_⟩; decide)
  · next j =>
    refine Or.inr (Or.inr ⟨j, rfl, ?_⟩)
    split at h <;> first | cases h | skip
    all_goals (next hm => refine ⟨hm, ?_⟩; decide)
  · cases h
