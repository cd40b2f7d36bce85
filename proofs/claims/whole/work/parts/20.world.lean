/-! THE WORLD: the small machine's memory on the machine's heap.
G: where the cells begin; the classes' numbers; the arrays' classes; where a reference lies; the script's length and ints. -/
abbrev mG : Type := Nat × va_G × (Nat → ClassId) × (Nat → Nat) × Nat × (Nat → Int32)
abbrev mCe : Type := Nat × Nat × List (Option Nat)
def g_rv (G : mG) (v : Value) : Value := match v with
  | .ref r => .ref (G.2.2.2.1 r)
  | w => w
theorem g_cat (G : mG) (v : Value) : (g_rv G v).category = v.category := by cases v <;> rfl
def g_A (G : mG) : Nat → Prop := fun q => G.1 ≤ q
def g_tys (G : mG) : List (ClassId × FieldType) := [(G.2.2.1 0, .int), (G.2.2.1 1, .byte), (G.2.2.1 2, .boolean), (G.2.2.1 3, .long), (G.2.2.1 4, .array .int), (G.2.2.1 5, .object "PartingTrains$Plan")]
def g_rf (G : mG) (r : Option Nat) : Option Nat := r.map G.2.2.2.1
theorem g_rv_rf (G : mG) (r : Option Nat) : g_rv G (va_rf r) = va_rf (g_rf G r) := by cases r <;> rfl
def g_fs (G : mG) (M : mMM) (a ci n : Nat) (rs : List (Option Nat)) : List Value := (List.range n).map fun k => g_rv G (m_fld M a ci k rs)
def g_cell (G : mG) (M : mMM) (a : Nat) (c : mCe) : va_E := match c.1 with
  | 0 => .inl (G.2.2.1 0, c.2.1, .inl (mI M a))
  | 1 => .inl (G.2.2.1 1, c.2.1, .inl (mI M a))
  | 2 => .inl (G.2.2.1 2, c.2.1, .inl (mI M a))
  | 3 => .inl (G.2.2.1 3, c.2.1, .inr (.inl (mL M a)))
  | 4 => .inl (G.2.2.1 4, c.2.1, .inr (.inr (.inr (.inr (fun i => g_rf G (m_rf c.2.2 i))))))
  | 5 => .inl (G.2.2.1 5, c.2.1, .inr (.inr (.inr (.inr (fun i => g_rf G (m_rf c.2.2 i))))))
  | t + 6 => .inr (t, g_fs G M a t c.2.1 c.2.2)
theorem g_cell_obj {G : mG} {M : mMM} {a ci : Nat} {c : mCe} (h : c.1 = 6 + ci) : g_cell G M a c = .inr (ci, g_fs G M a ci c.2.1 c.2.2) := by
  obtain ⟨t, n, rs⟩ := c
  have h : t = 6 + ci := h
  subst h
  rw [Nat.add_comm 6 ci]
  rfl
def g_Wd (G : mG) (M : mMM) (H : Heap) : Prop := (M.2.1 = 0 → H.size = G.1 + M.1.length) ∧ G.1 + M.1.length ≤ H.size ∧ M.1.length < 1000000 ∧ (∀ (a : Nat) (c : mCe), M.1[a]? = some c → va_at G.2.1 mcl (G.1 + a, g_cell G M a c) H) ∧ ∀ (a : Nat) (c : mCe), M.1[a]? = some c → 4 ≤ c.1 → c.2.2.length = c.2.1
/-- a cell is written, the others stay -/
theorem g_Wd.upd {G : mG} {M M' : mMM} {H H1 : Heap} {a : Nat} (h : g_Wd G M H) (hl : M'.1.length = M.1.length) (hz : M'.2.1 = M.2.1) (hsz : H1.size = H.size) (oq : ∀ q : Nat, q ≠ G.1 + a → H1[q]? = H[q]?)
    (hc : ∀ (b : Nat) (c : mCe), b ≠ a → M'.1[b]? = some c → M.1[b]? = some c ∧ g_cell G M' b c = g_cell G M b c) (ha : ∀ c : mCe, M'.1[a]? = some c → va_at G.2.1 mcl (G.1 + a, g_cell G M' a c) H1 ∧ (4 ≤ c.1 → c.2.2.length = c.2.1)) : g_Wd G M' H1 := by
  obtain ⟨h1, h2, h3, h4, h5⟩ := h
  refine ⟨fun q => ?_, ?_, ?_, fun b c hb => ?_, fun b c hb => ?_⟩
  · rw [hsz, hl, h1 (by rw [← hz]; exact q)]
  · rw [hsz, hl]; exact h2
  · rw [hl]; exact h3
  · by_cases e : b = a
    · subst e
      exact (ha c hb).1
    · obtain ⟨k1, k2⟩ := hc b c e hb
      rw [k2]
      exact (h4 b c k1).kept (oq _ (by show G.1 + b ≠ G.1 + a; omega))
  · by_cases e : b = a
    · subst e
      exact (ha c hb).2
    · exact h5 b c (hc b c e hb).1
theorem m_up_ne {α : Type} {f : Nat → Nat → α} {a k : Nat} {v : α} {b : Nat} (h : b ≠ a) : m_up f a k v b = f b := funext fun j => if_neg fun q => h q.1
theorem m_up_at {f : Nat → Nat → Int32} {a k : Nat} {v : Int32} : m_up f a k v a = upd (f a) k v := funext fun j => by
  by_cases e : j = k
  · subst e; simp [m_up, upd]
  · simp [m_up, upd, e]
theorem m_up_atL {f : Nat → Nat → Int64} {a k : Nat} {v : Int64} : m_up f a k v a = vp_updL (f a) k v := funext fun j => by
  by_cases e : j = k
  · subst e; simp [m_up, vp_updL]
  · simp [m_up, vp_updL, e]
theorem g_cell_eq {G : mG} {M M' : mMM} {b : Nat} {c : mCe} (hI : mI M' b = mI M b) (hL : mL M' b = mL M b) : g_cell G M' b c = g_cell G M b c := by
  have hf : ∀ ci k rs, m_fld M' b ci k rs = m_fld M b ci k rs := fun ci k rs => by unfold m_fld; rw [hI, hL]
  unfold g_cell g_fs
  split <;> simp only [hI, hL, hf]
def x_AOA (U : State) : Prop := (Cond.arrayOver (.array .int)).before #[] U = true
theorem x_AOA.moved {u U : State} (hvm : u.vm.Alike U.vm) (h : x_AOA u) : x_AOA U := by
  obtain ⟨comp, c, k, h1, h2, h3, h4, h5⟩ := arrayOverA_spec h
  obtain ⟨k', hk', he⟩ := hvm.2.2 _ _ h3
  have hi : (U.vm.classes.findIdx? fun (x : Class) => match x.kind with | .array component _ => component == comp | _ => false) = some c := by
    rw [hvm.findIdx?_eq _ (fun _ => rfl)]
    exact h2
  have hkind : k'.kind = .array comp (.array .int) := by rw [he]; exact h4
  have f1 : U.vm.findClass (FieldType.array .int).toString = some comp := by rw [hvm.findClass]; exact h1
  have f2 : U.vm.findClass ("[" ++ (FieldType.array .int).toString) = some c := by rw [hvm.findClass]; exact h5
  unfold x_AOA Cond.before Cond.holds
  simp only [Cond.value]
  rw [f1, Option.bind_some]
  refine (congrArg (fun o : Option Nat => (o.bind (fun c => (U.vm.classes[c]?).map fun (k : Class) => match k.kind with | .array _ ty => decide (ty = FieldType.array .int) && decide (U.vm.findClass ("[" ++ (FieldType.array .int).toString) = some c) | _ => false) == some true)) hi).trans ?_
  simp [hk', hkind, f2]
/-- a String constant: an object, Latin-1, its bytes -/
def m_chr (s : String) (j : Nat) : Int32 := match s.toList[j]? with
  | some ch => Int32.ofNat ch.toNat
  | none => 0
def g_Str1 (q : String × Nat × String) (a v : Nat) (A : Nat → Prop) (U : State) (H : Heap) : Prop := va_O "java/lang/String" a A U H ∧ va_OF "java/lang/String" "coder" "B" (.int 0) a A U H ∧ va_OF "java/lang/String" "value" "[B" (.ref v) a A U H ∧ va_T .byte v q.2.2.length (fun j => .int (m_chr q.2.2 j)) A U H
def g_StrE (G : mG) (U : State) : Prop := (∀ (t : Nat) (q : String × Nat × String), 22 ≤ t → mStrs[t]? = some q → ∃ v, g_Str1 q (G.2.2.2.1 (1000001 + t)) v (g_A G) U U.heap) ∧ va_Z "java/lang/String" "COMPACT_STRINGS" "Z" (.int 1) (g_A G) U U.heap ∧ va_Zq "jdk/internal/util/Preconditions" "SIOOBE_FORMATTER" "Ljava/util/function/BiFunction;" (g_A G) U U.heap
/-- the environment of a frame: what its first state's tables and constants are -/
def g_Env (G : mG) (U : State) : Prop := va_K G.2.1 mcl (g_tys G) U ∧ (∀ (t : Nat) (q : String × Nat × String), mStrs[t]? = some q → vk_R q.1 q.2.1 q.2.2 (G.2.2.2.1 (1000001 + t)) U) ∧
  vx_Zq Bundle.tN "UNASSIGNED_STACK" Bundle.steD (g_A G) U U.heap ∧ vx_Zq Bundle.tN "SUPPRESSED_SENTINEL" Bundle.listD (g_A G) U U.heap ∧
  va_X (G.2.2.2.1 1000000) G.2.2.2.2.1 G.2.2.2.2.2 U U.heap ∧ G.2.2.2.1 1000000 < G.1 ∧ (∀ r : Nat, r < 1000000 → G.2.2.2.1 r = G.1 + r) ∧ G.1 ≤ U.heap.size ∧ va_AO "PartingTrains$Plan" U ∧ x_AOA U ∧ ((∀ X Y : String, Cond.castable X Y ∈ lw_tbl → va_Nw (.castable X Y) U) ∧ ∀ y : MethodName, Cond.declares y ∈ lw_tbl → va_Nw (.declares y) U) ∧ (∀ i j : Nat, i < 4 → j < 4 → i ≠ j → va_Nc (mEx i) (mEx j) U) ∧ g_StrE G U
theorem g_Env.to {G : mG} {s U : State} {H : Heap} {locs : List Loc} (h : g_Env G s) (hW : s.WarmedH U.vm) (hU : U.heap = H) (hS : va_S (g_A G) s.heap H locs) : g_Env G U := by
  obtain ⟨h1, h2, h3, h4, h5, h6, h7, h8, h9, h10, h11, h12, h13⟩ := h
  have hq : ∀ a : Nat, a < s.heap.size → ¬ g_A G a → U.heap[a]? = s.heap[a]? := fun a q1 q2 => by rw [hU]; exact hS.2.1 a q1 q2
  refine ⟨h1.moved hW.alike, fun t q hq => (h2 t q hq).warm hW, (h3.moved hW.alike).kept hq, (h4.moved hW.alike).kept hq, (h5.moved hW.alike).kept (hq _ (by omega) (Nat.not_le.mpr h6)), h6, h7, ?_, h9.moved hW.alike, h10.moved hW.alike, ⟨fun X Y z => (h11.1 X Y z).warmC hW, fun y z => (h11.2 y z).warmD hW⟩, fun i j q1 q2 q3 => (h12 i j q1 q2 q3).moved hW.alike, fun t q z0 z => ?_, (h13.2.1.moved hW.alike).kept hq, (h13.2.2.moved hW.alike).kept hq⟩
  · rw [hU]
    exact Nat.le_trans h8 hS.1
  · obtain ⟨v, k1, k2, k3, k4⟩ := h13.1 t q z0 z
    exact ⟨v, (k1.moved hW.alike).kept hq, (k2.moved hW.alike).kept hq, (k3.moved hW.alike).kept hq, (k4.moved hW.alike).kept hq⟩
theorem g_Env.blind {G : mG} {U : State} {g : JFrame} {mk : MethodId} {a : Array Value} (h : g_Env G U) : g_Env G (U.calling g mk a) := by
  obtain ⟨h1, h2, h3, h4, h5, h6, h7, h8, h9, h10, h11, h12, h13⟩ := h
  exact ⟨h1.moved (U := U.calling g mk a) (Vm.Alike.refl U.vm), fun t q hq => (h2 t q hq).same (U := U.calling g mk a) rfl, h3.moved (U := U.calling g mk a) (Vm.Alike.refl U.vm), h4.moved (U := U.calling g mk a) (Vm.Alike.refl U.vm), h5.moved (U := U.calling g mk a) (Vm.Alike.refl U.vm), h6, h7, h8, h9.moved (U := U.calling g mk a) (Vm.Alike.refl U.vm), h10.moved (U := U.calling g mk a) (Vm.Alike.refl U.vm), ⟨fun X Y z => (h11.1 X Y z).same (U := U.calling g mk a) rfl rfl, fun y z => (h11.2 y z).same (U := U.calling g mk a) rfl rfl⟩, fun i j q1 q2 q3 => (h12 i j q1 q2 q3).moved (U := U.calling g mk a) (Vm.Alike.refl U.vm), fun t q z0 z => by
    obtain ⟨v, k1, k2, k3, k4⟩ := h13.1 t q z0 z
    exact ⟨v, k1.moved (U := U.calling g mk a) (Vm.Alike.refl U.vm), k2.moved (U := U.calling g mk a) (Vm.Alike.refl U.vm), k3.moved (U := U.calling g mk a) (Vm.Alike.refl U.vm), k4.moved (U := U.calling g mk a) (Vm.Alike.refl U.vm)⟩, h13.2.1.moved (U := U.calling g mk a) (Vm.Alike.refl U.vm), h13.2.2.moved (U := U.calling g mk a) (Vm.Alike.refl U.vm)⟩
/-- the locals -/
def g_ls (G : mG) (lsA : Array Slot) (nL : Nat) (ls : mLS) : Prop := lsA.size = nL ∧ ls.length = nL ∧ lv_wf lsA ∧ ∀ (i : Nat) (v : Value), ls[i]? = some (some v) → lsA[i]? = some (.val (g_rv G v))
def g_lv (G : mG) (ls : mLS) : List (Nat × Value) := (List.range ls.length).filterMap fun i => match ls[i]? with
  | some (some v) => some (i, g_rv G v)
  | _ => none
theorem g_lv_mem {G : mG} {ls : mLS} {i : Nat} {v : Value} (h : ls[i]? = some (some v)) : (i, g_rv G v) ∈ g_lv G ls :=
  List.mem_filterMap.mpr ⟨i, List.mem_range.mpr (List.getElem?_eq_some_iff.mp h).1, by rw [h]⟩
theorem g_ls.has {G : mG} {lsA : Array Slot} {nL : Nat} {ls : mLS} (h : g_ls G lsA nL ls) : lv_has lsA nL (g_lv G ls) := by
  refine ⟨h.1, h.2.2.1, fun q hq => ?_⟩
  obtain ⟨i, -, hi⟩ := List.mem_filterMap.mp hq
  split at hi
  · next v hv =>
    cases hi
    exact h.2.2.2 i v hv
  · cases hi
theorem m_drop_len (ls : mLS) (i : Nat) : (m_drop ls i).length = ls.length := by
  unfold m_drop
  split
  · rfl
  · split
    · split <;> simp
    · rfl
theorem m_drop_get {ls : mLS} {i j : Nat} {w : Value} (h : (m_drop ls i)[j]? = some (some w)) : ls[j]? = some (some w) ∧ ¬ (j + 1 = i ∧ w.category = 2) := by
  unfold m_drop at h
  split at h
  · exact ⟨h, fun q => by omega⟩
  · next k =>
    split at h
    · next v hv =>
      split at h
      · next hc =>
        by_cases e : j = k
        · subst e
          rw [List.getElem?_set_self (List.getElem?_eq_some_iff.mp hv).1] at h
          cases h
        · rw [List.getElem?_set_ne (Ne.symm e)] at h
          exact ⟨h, fun q => e (by omega)⟩
      · next hc =>
        refine ⟨h, fun q => hc ?_⟩
        have e : j = k := by omega
        subst e
        rw [hv] at h
        cases h
        exact q.2
    · next hn =>
      refine ⟨h, fun q => ?_⟩
      have e : j = k := by omega
      subst e
      exact hn w h
theorem g_ls.st1 {G : mG} {lsA lsB : Array Slot} {nL i : Nat} {ls : mLS} {v : Value} (h : g_ls G lsA nL ls) (hB : lv_has lsB nL ((i, g_rv G v) :: (g_lv G ls).filter (fun q => !(q.1 == i) && !(q.1 + 1 == i && q.2.category == 2)))) : g_ls G lsB nL (m_st1 ls i v) := by
  refine ⟨hB.1, by unfold m_st1; rw [List.length_set, m_drop_len]; exact h.2.1, hB.2.1, fun j w hj => ?_⟩
  unfold m_st1 at hj
  by_cases e : j = i
  · subst e
    have hl : j < (m_drop ls j).length := by
      have := (List.getElem?_eq_some_iff.mp hj).1
      simpa using this
    rw [List.getElem?_set_self hl] at hj
    cases hj
    exact hB.2.2 _ List.mem_cons_self
  · rw [List.getElem?_set_ne (Ne.symm e)] at hj
    obtain ⟨k1, k2⟩ := m_drop_get hj
    refine hB.2.2 (j, g_rv G w) (List.mem_cons_of_mem _ (List.mem_filter.mpr ⟨g_lv_mem k1, ?_⟩))
    rw [g_cat]
    simp only [Bool.and_eq_true, Bool.not_eq_true', beq_eq_false_iff_ne, Bool.and_eq_false_iff]
    refine ⟨e, ?_⟩
    by_cases q : j + 1 = i
    · exact Or.inr fun z => k2 ⟨q, z⟩
    · exact Or.inl q
theorem g_ls.st2 {G : mG} {lsA lsB : Array Slot} {nL i : Nat} {ls : mLS} {v : Value} (h : g_ls G lsA nL ls) (hB : lv_has lsB nL ((i, g_rv G v) :: (g_lv G ls).filter (fun q => !(q.1 == i) && (!(q.1 == i + 1) && !(q.1 + 1 == i && q.2.category == 2))))) : g_ls G lsB nL (m_st2 ls i v) := by
  refine ⟨hB.1, by unfold m_st2; rw [List.length_set, List.length_set, m_drop_len]; exact h.2.1, hB.2.1, fun j w hj => ?_⟩
  unfold m_st2 at hj
  by_cases e : j = i
  · subst e
    have hl : j < ((m_drop ls j).set (j + 1) none).length := by
      have := (List.getElem?_eq_some_iff.mp hj).1
      simpa using this
    rw [List.getElem?_set_self hl] at hj
    cases hj
    exact hB.2.2 _ List.mem_cons_self
  · rw [List.getElem?_set_ne (Ne.symm e)] at hj
    by_cases e2 : j = i + 1
    · subst e2
      have hl : i + 1 < (m_drop ls i).length := by
        have := (List.getElem?_eq_some_iff.mp hj).1
        simpa using this
      rw [List.getElem?_set_self hl] at hj
      cases hj
    · rw [List.getElem?_set_ne (Ne.symm e2)] at hj
      obtain ⟨k1, k2⟩ := m_drop_get hj
      refine hB.2.2 (j, g_rv G w) (List.mem_cons_of_mem _ (List.mem_filter.mpr ⟨g_lv_mem k1, ?_⟩))
      rw [g_cat]
      simp only [Bool.and_eq_true, Bool.not_eq_true', beq_eq_false_iff_ne, Bool.and_eq_false_iff]
      refine ⟨e, e2, ?_⟩
      by_cases q : j + 1 = i
      · exact Or.inr fun z => k2 ⟨q, z⟩
      · exact Or.inl q
