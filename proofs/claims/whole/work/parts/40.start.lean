/-! THE LAW'S START: the environment of the first frame, out of the Statement's premises -/
def st_nar : Jvm.Cond := Jvm.Cond.and given_1 narrow_1
def st_has (w : Cond) : Bool := decide (w ∈ flatC st_nar)
theorem st_ok {args : Array Value} {s : State} (h : st_nar.before args s = true) {w : Cond} (hw : st_has w = true) : w.before args s = true := flat_of_before _ h w (of_decide_eq_true hw)
def st_tm (q : String × Nat × String) : Term := .string q.1 q.2.1
/-- all that the premises say of a String constant -/
def st_strE (q : String × Nat × String) : Bool := st_has (.exactly (st_tm q) "java/lang/String")
def st_strC (q : String × Nat × String) : Bool := st_has (.eq (.field (st_tm q) "java/lang/String" "coder" "B") (.int 0)) && st_has (.arrayOf (.field (st_tm q) "java/lang/String" "value" "[B") .byte) && st_has (.eq (.length (.field (st_tm q) "java/lang/String" "value" "[B")) (.int (Int32.ofNat q.2.2.length)))
  && (List.range q.2.2.length).all (fun j => st_has (.eq (.elem (.field (st_tm q) "java/lang/String" "value" "[B") (.int (Int32.ofNat j))) (.int (m_chr q.2.2 j)))) && Nat.blt q.2.2.length 1000
theorem st_e1 : mStrs.all st_strE = true := by decide +kernel
theorem st_e2 : mStrs.all (fun q => decide (Cond.stringRef q.1 q.2.1 q.2.2 ∈ lw_tbl)) = true := by decide +kernel
theorem st_e3 : (mStrs.drop 22).all st_strC = true := by decide +kernel
theorem st_e4 : ((List.range 4).all fun i => (List.range 4).all fun j => Nat.beq i j || st_has (.not (.castable (mEx i) (mEx j)))) = true := by decide +kernel
theorem st_e5 : (st_has (.isRef (.static Bundle.tN "UNASSIGNED_STACK" Bundle.steD)) && st_has (.isRef (.static Bundle.tN "SUPPRESSED_SENTINEL" Bundle.listD)) && st_has (.isRef (.static "jdk/internal/util/Preconditions" "SIOOBE_FORMATTER" "Ljava/util/function/BiFunction;")) && st_has (.eq (.static "java/lang/String" "COMPACT_STRINGS" "Z") (.int 1))) = true := by decide +kernel
def st_in (w : Cond) : Bool := decide (w ∈ lw_tbl)
theorem st_e6 : (st_in (.laysStatic Bundle.tN "UNASSIGNED_STACK" Bundle.steD) && st_in (.laysStatic Bundle.tN "SUPPRESSED_SENTINEL" Bundle.listD) && st_in (.laysStatic "jdk/internal/util/Preconditions" "SIOOBE_FORMATTER" "Ljava/util/function/BiFunction;") && st_in (.laysStatic "java/lang/String" "COMPACT_STRINGS" "Z") && st_in (.initialized Bundle.tN) && st_in (.initialized "jdk/internal/util/Preconditions") && st_in (.initialized "java/lang/String") && st_in (.arrayOver (.object "PartingTrains$Plan")) && st_in (.arrayOver (.array .int))) = true := by decide +kernel
theorem st_rc {args : Array Value} {s : State} {t : FieldType} (h : (Cond.arrayClass t).before args s = true) (ho : ∀ C, t ≠ .object C) : ∃ c : ClassId, ArrOfT s c t ∧ va_RA s c t := by
  obtain ⟨c, k, comp, h1, h2, h3⟩ := Cond.arrayClass_spec h
  refine ⟨c, fun N z => ⟨(fun q hq => by cases hq), k, h2, comp, h3⟩, ?_⟩
  cases t <;> first | exact h1 | exact absurd rfl (ho _)
def st_ad (base b : Nat) (sa : Nat → Nat) (r : Nat) : Nat := if r < 1000000 then base + r else if r = 1000000 then b else sa (r - 1000001)
theorem st_ad1 {base b : Nat} {sa : Nat → Nat} {r : Nat} (h : r < 1000000) : st_ad base b sa r = base + r := if_pos h
theorem st_ad2 {base b : Nat} {sa : Nat → Nat} : st_ad base b sa 1000000 = b := by
  unfold st_ad
  rw [if_neg (by omega), if_pos rfl]
theorem st_ad3 {base b : Nat} {sa : Nat → Nat} {t : Nat} : st_ad base b sa (1000001 + t) = sa t := by
  unfold st_ad
  rw [if_neg (by omega), if_neg (by omega), Nat.add_sub_cancel_left]
/-- the environment stands at the law's start -/
theorem st_env {s : State} {b L : Nat} {xs : Nat → Int32} (hts : ∀ w ∈ lw_tbl, w.before #[Value.ref b] s = true) (hX : va_X b L xs s s.heap) (hbl : b < s.heap.size) (hgv : st_nar.before #[Value.ref b] s = true) :
    ∃ G : mG, G.1 = s.heap.size ∧ G.2.2.2.2.1 = L ∧ G.2.2.2.2.2 = xs ∧ G.2.2.2.1 1000000 = b ∧ g_Env G s := by
  have htm : ∀ w ∈ mTbl, w.before #[Value.ref b] s = true := fun w hw => hts w (List.mem_filter.mp hw).1
  have hcls : ∀ c : Nat, ∃ q : ClassId × (Nat → Nat), ∀ r : vw_C, mcl[c]? = some r → u_Kn s r.1 r.2.1 r.2.2 q.1 q.2 := by
    intro c
    cases hr : mcl[c]? with
    | none => exact ⟨(0, fun _ => 0), fun r h => by cases h⟩
    | some r =>
      obtain ⟨f1, -, -, -, -, -, f7, -⟩ := m_clsF hr
      obtain ⟨cC, iS, hk⟩ := u_known (C := r.1) (T := r.2.1) (N := r.2.2) (n := r.2.2) htm f1 (htm _ f7)
      exact ⟨(cC, iS), fun r' h => by cases h; exact hk⟩
  obtain ⟨dd, hdd⟩ := Classical.axiomOfChoice hcls
  obtain ⟨c0, k0⟩ := st_rc (t := .int) (htm _ w_aI) (fun C h => by cases h)
  obtain ⟨c1, k1⟩ := st_rc (t := .byte) (htm _ w_aB) (fun C h => by cases h)
  obtain ⟨c2, k2⟩ := st_rc (t := .boolean) (htm _ w_aZ) (fun C h => by cases h)
  obtain ⟨c3, k3⟩ := st_rc (t := .long) (htm _ w_aL) (fun C h => by cases h)
  have e6 := st_e6
  simp only [Bool.and_eq_true, st_in, decide_eq_true_eq] at e6
  obtain ⟨⟨⟨⟨⟨⟨⟨⟨p1, p2⟩, p3⟩, p4⟩, p5⟩, p6⟩, p7⟩, p8⟩, p9⟩ := e6
  have e5 := st_e5
  simp only [Bool.and_eq_true] at e5
  obtain ⟨⟨⟨r1, r2⟩, r3⟩, r4⟩ := e5
  obtain ⟨c4, k4⟩ : ∃ c : ClassId, ArrOfT s c (.array .int) ∧ va_RA s c (.array .int) := by
    obtain ⟨comp, c, k, g1, g2, g3, g4, g5⟩ := arrayOverA_spec (hts _ p9)
    exact ⟨c, fun N z => ⟨(fun q hq => by cases hq), k, g3, comp, g4⟩, g5⟩
  obtain ⟨c5, k5⟩ : ∃ c : ClassId, ArrOfT s c (.object "PartingTrains$Plan") ∧ va_RA s c (.object "PartingTrains$Plan") := by
    obtain ⟨comp, c, k, g1, g2, g3, g4, g5⟩ := Cond.arrayOver_spec (hts _ p8)
    exact ⟨c, fun N z => ⟨(fun q hq => by cases hq), k, g3, comp, g4⟩, k, comp, g3, g4, g1, g5⟩
  have hstr : ∀ t : Nat, ∃ a : Nat, ∀ q, mStrs[t]? = some q → (st_tm q).eval #[Value.ref b] s none [] s = some (.ref a) := by
    intro t
    cases hq : mStrs[t]? with
    | none => exact ⟨0, fun q h => by cases h⟩
    | some q =>
      have h1 := List.all_eq_true.mp st_e1 q (List.mem_of_getElem? hq)
      obtain ⟨a, c, cA, kA, q1, -⟩ := Cond.exactly_spec (args := #[Value.ref b]) (first := s) (o := none) (s := s) (idx := []) (t := st_tm q) (cls := "java/lang/String") (st_ok hgv h1)
      exact ⟨a, fun q' h => by cases h; exact q1⟩
  obtain ⟨sa, hsa⟩ := Classical.axiomOfChoice hstr
  have hA : ∀ a : Nat, a < s.heap.size → ¬ (fun q => s.heap.size ≤ q) a := fun a h => Nat.not_le.mpr h
  refine ⟨(s.heap.size, (fun c => (dd c).1, fun c => (dd c).2), fun t => match t with | 0 => c0 | 1 => c1 | 2 => c2 | 3 => c3 | 4 => c4 | _ => c5, st_ad s.heap.size b sa, L, xs), rfl, rfl, rfl, st_ad2 (base := s.heap.size) (b := b) (sa := sa), ?_⟩
  refine ⟨⟨fun c q hq => hdd c q hq, fun k q hk => ?_⟩, fun t q hq => ?_, ?_, ?_, ?_, ?_, ?_, ?_, ?_, ?_, ⟨?_, ?_⟩, ?_, ?_⟩
  · match k, hk with
    | 0, hk => cases hk; exact k0
    | 1, hk => cases hk; exact k1
    | 2, hk => cases hk; exact k2
    | 3, hk => cases hk; exact k3
    | 4, hk => cases hk; exact k4
    | 5, hk => cases hk; exact k5
    | k + 6, hk => simp [g_tys] at hk
  · have h2 := of_decide_eq_true (List.all_eq_true.mp st_e2 q (List.mem_of_getElem? hq))
    show vk_R q.1 q.2.1 q.2.2 (st_ad s.heap.size b sa (1000001 + t)) s
    rw [st_ad3]
    exact vk_R.of (hts _ h2) (hsa t q hq)
  · exact vx_Zqof (hts _ p1) (hts _ p5) (st_ok hgv r1) hA
  · exact vx_Zqof (hts _ p2) (hts _ p5) (st_ok hgv r2) hA
  · show va_X (st_ad s.heap.size b sa 1000000) L xs s s.heap
    rw [st_ad2]
    exact hX
  · show st_ad s.heap.size b sa 1000000 < s.heap.size
    rw [st_ad2]
    exact hbl
  · intro r hr
    exact st_ad1 hr
  · exact Nat.le_refl _
  · exact va_AO.of (hts _ p8)
  · exact hts _ p9
  · intro X Y h
    exact va_Nw.of rfl (hts _ h)
  · intro y h
    exact va_Nw.of rfl (hts _ h)
  · intro i j hi hj hij
    have h1 := List.all_eq_true.mp (List.all_eq_true.mp st_e4 i (List.mem_range.mpr hi)) j (List.mem_range.mpr hj)
    simp only [Bool.or_eq_true] at h1
    rcases h1 with h1 | h1
    · exact absurd (Nat.eq_of_beq_eq_true h1) hij
    · exact va_Nc.of (st_ok hgv h1)
  · refine ⟨fun t q h22 hq => ?_, va_Zof (hts _ p4) (hts _ p7) (va_eqt (st_ok hgv r4)) hA, va_Zqof (hts _ p3) (hts _ p6) (st_ok hgv r3) hA⟩
    have hmem : q ∈ mStrs.drop 22 := by
      have : (mStrs.drop 22)[t - 22]? = some q := by rw [List.getElem?_drop, show 22 + (t - 22) = t by omega]; exact hq
      exact List.mem_of_getElem? this
    have h3 := List.all_eq_true.mp st_e3 q hmem
    unfold st_strC at h3
    simp only [Bool.and_eq_true, List.all_eq_true, List.mem_range] at h3
    obtain ⟨⟨⟨⟨y1, y2⟩, y3⟩, y4⟩, y5⟩ := h3
    have h1 := List.all_eq_true.mp st_e1 q (List.mem_of_getElem? hq)
    obtain ⟨a, c, cA, kA, q1, q2, q3, q4, q5, q6, -⟩ := Cond.exactly_spec (args := #[Value.ref b]) (first := s) (o := none) (s := s) (idx := []) (t := st_tm q) (cls := "java/lang/String") (st_ok hgv h1)
    obtain ⟨v, hv, hT⟩ := va_Tof (f := fun j => .int (m_chr q.2.2 j)) (A := fun z => s.heap.size ≤ z) (N := q.2.2.length) (by have := Nat.blt_eq.mp y5; omega) (st_ok hgv y2) (va_eqt (st_ok hgv y3)) (fun j hj => va_eqt (st_ok hgv (y4 j hj))) hA
    have hat : sa t = a := by
      have := (hsa t q hq).symm.trans q1
      cases this
      rfl
    refine ⟨v, ?_⟩
    show g_Str1 q (st_ad s.heap.size b sa (1000001 + t)) v _ s s.heap
    rw [st_ad3, hat]
    exact ⟨⟨cA, q3, q5, by rw [q6]; exact q2, hA a (Array.getElem?_eq_some_iff.mp q3).1⟩, vk_OFof q1 (va_eqt (st_ok hgv y1)) hA, vk_OFof q1 hv hA, hT⟩
/-- the small machine's memory at the start: nothing -/
def m_0 : mMM := ([], 0, 0, 0, fun _ _ => 0, fun _ _ => 0)
/-- THE LAW, from its entry: it is enough that the small machine answers 1 -/
theorem st_law {p : Program} {l : Launch} {e : Env} {s : State} {m : MethodId} {below : List Frame} {meth : Method} {c : Code} {b L : Nat} {xs : Nat → Int32} (hl : l.stackTraces = false) (hNS : ∀ G, g_NS G l) (hSL : ∀ G, g_SL G l) (hSC : ∀ G, g_SC G l) (C0 : lw_At p s m meth c b L xs) {n d : Nat} {M' : mMM} (hd : d ≤ 1000) (hrun : mx L xs n d 353 0 (m_enter [.ref 1000000] 7) [] m_0 = some (.inl (some (.int 1)), M')) (hc : mCells M' ≤ 601024) (hz : mZ M' ≤ 7293034) :
    W p l e room_1 s m #[Value.ref b] below meth c s.heap [] 0 0 (lw_Z below #[Value.ref b] s) (entryFrame m ([Value.ref b] : List Value).toArray 7) := by
  obtain ⟨hx, hb, hr, hml, hown, hts, hX, hbl, hlocks, hgv⟩ := C0
  obtain ⟨G, g1, g2, g3, g4, hE⟩ := st_env hts hX hbl hgv
  have hrun' : mx G.2.2.2.2.1 G.2.2.2.2.2 n d 353 0 (m_enter [.ref 1000000] 7) [] m_0 = some (.inl (some (.int 1)), M') := by rw [g2, g3]; exact hrun
  obtain ⟨-, hgo⟩ := mSim_all hl (hNS G) (hSL G) (hSC G) n d 353 0 _ [] m_0 _ M' hrun' mDt353
  have hini : m_ini 353 = true → meth.name = "<init>" := by
    intro hi
    have : m_ini 353 = false := by decide +kernel
    rw [this] at hi
    cases hi
  have hF : g_Fr G 353 d p room_1 s m #[Value.ref b] meth c := ⟨hx, hb, hml, hown, fun w hw => hts w (List.mem_filter.mp hw).1, hlocks, hE, hini, by show d ≤ 2048; omega, by show 64 * d ≤ 84000; omega⟩
  have hargs : ([.ref b] : List Value) = ([.ref 1000000] : List Value).map (g_rv G) := by
    show _ = [Value.ref (G.2.2.2.1 1000000)]
    rw [g4]
  have hent : entryFrame m ([Value.ref b] : List Value).toArray 7 = F0 m 0 ((lg_sl (([.ref 1000000] : List Value).map (g_rv G)) ++ List.replicate (7 - (lg_sl (([.ref 1000000] : List Value).map (g_rv G))).length) Slot.unset).toArray) [] := by
    rw [hargs]
    exact lg_entry_eq m _ 7
  refine W.eq hent ?_
  refine hgo p e room_1 s m _ below meth c _ 7 0 0 hF rfl (by show mCells M' ≤ 601024 + 0; omega) (by show mZ M' ≤ 7293034 + 0; omega) ?_ ?_ ?_ s.heap [] _ 0 0 ⟨⟨fun _ => g1.symm, by rw [g1]; exact Nat.le_refl _, by decide, fun a cc h => by simp [m_0] at h, fun a cc h => by simp [m_0] at h⟩, va_S.rf, g_entry (by decide), rfl, rfl⟩
  · intro pc ls st v hres hrt
    cases hres
    obtain ⟨i, len, hi, hret⟩ := hrt
    obtain ⟨hdec, hlen⟩ := mDcP_ok mDt353 hi
    intro H locs lsA cells slots hA
    obtain ⟨hWd1, hS1, hL1, hc1, hz1⟩ := hA
    replace hret : m_ret (some .boolean) i st = some (some (.int 1)) := hret
    unfold m_ret at hret
    split at hret
    · cases hret
    · split at hret
      · next v0 =>
        have hlen : len = 1 := by simpa [m_isSw, m_ilen] using hlen
        subst hlen
        have hv0 : v0 = 1 := by
          by_cases h01 : v0 = 0 ∨ v0 = 1
          · simpa [h01] using hret
          · simp [h01] at hret
        subst hv0
        refine va_forget (fun q hq => by rw [← g1]; exact hS1.2.2 q hq) ?_
        refine W.widen (k := 601024) (n := 7293034) (by omega) (by omega) ?_
        exact lw_ret hx hb hr hlocks hdec
      · cases hret
    · split at hret
      · split at hret
        · cases hret
        · cases hret
      · cases hret
    · cases hret
  · intro pc ls st Mx w hw hres
    cases hres
  · intro pc ls rest E Mx hon
    unfold m_on at hon
    have h1 : m_tabs 353 = [] := by decide +kernel
    rw [h1] at hon
    simp only [m_find] at hon
    have h2 : Nat.blt 353 318 = false := rfl
    rw [h2] at hon
    cases hon
