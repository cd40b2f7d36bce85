/-! a run of the integer machine is a run of the small machine -/
section ZM
variable {L : Nat} {xs : Nat → Int32} {k o D pc : Nat} {T : List (List (Option (Instr × Nat)))} {ret : Option FieldType} {ls : zLs} {st : List zV} {J : zJ} {K : zK} {Q : zR → Nat → zJ → zK → Prop} {i : Instr} {len : Nat}
theorem zstep_no {n : zN} (h : zstep L xs o n i pc ls st J K) : (∀ r s, m_ret r i s = none) ∧ m_inv o i = none ∧ (mins T pc = some (i, len) → m_thr o T pc = none) := by
  cases i
  all_goals first
    | (have h0 : False := h; exact h0.elim)
    | exact ⟨fun _ _ => rfl, rfl, fun hq => by unfold m_thr; rw [hq]⟩
theorem zg_ret {v : Option zV} (hk : (mprog k).2.2.2 = (ret, o, T)) (hq : mins T pc = some (i, len)) (hr : m_ret ret i (st.map ze) = some (v.map ze)) (hQ : Q (.inl v) 0 J K) : zGo L xs D k pc ls st J K Q := by
  intro lsv hz g
  refine ⟨1, .inl v, 0, g.1, J, K, ?_, hQ⟩
  have e1 : (mprog k).2.2.2.1 = ret := by rw [hk]
  have e2 : (mprog k).2.2.2.2.2 = T := by rw [hk]
  simp only [mx, e1, e2, hq, hr]
  rfl
theorem zg_step (hL : L ≤ 3072) {n : zN} (hk : (mprog k).2.2.2 = (ret, o, T)) (hq : mins T pc = some (i, len)) (h : zstep L xs o n i pc ls st J K) (hn : ∀ pc' ls' st' J' K', n pc' ls' st' J' K' → zGo L xs D k pc' ls' st' J' K' Q) : zGo L xs D k pc ls st J K Q := by
  intro lsv hz g
  obtain ⟨h1, h2, h3⟩ := zstep_no (T := T) (len := len) h
  obtain ⟨pc', ls', lsv', st', J', K', hs, hz', hx⟩ := zstep_ok (g := g) (D := D) (ini := m_ini k) hL hz h
  obtain ⟨m, r, e, lo, J2, K2, hrun, hQ⟩ := hn _ _ _ _ _ hx lsv' hz' g
  refine ⟨m + 1, r, e, lo, J2, K2, ?_, hQ⟩
  have e1 : (mprog k).2.2.2.1 = ret := by rw [hk]
  have e2 : (mprog k).2.2.2.2.2 = T := by rw [hk]
  have e3 : (mprog k).2.2.2.2.1 = o := by rw [hk]
  simp only [mx, e1, e2, e3, hq, h1, h2, h3 hq, hs]
  exact hrun
theorem zg_thr {w : Nat × Nat × Nat × Nat × Bool} {ik : Nat} (hk : (mprog k).2.2.2 = (ret, o, T)) (hq : mins T pc = some (.new ik, len)) (ht : m_thr o T pc = some w) (h1 : k < 318) (h2 : o = 11) (h3 : zsml st = true) (hD : 8 ≤ D) (hQ : Q (.inr w.1) 1 J K) : zGo L xs D k pc ls st J K Q := by
  intro lsv hz g
  refine ⟨1, .inr w.1, 1, 1, J, K, ?_, hQ⟩
  have e1 : (mprog k).2.2.2.1 = ret := by rw [hk]
  have e2 : (mprog k).2.2.2.2.2 = T := by rw [hk]
  have e3 : (mprog k).2.2.2.2.1 = o := by rw [hk]
  have r1 : m_ret ret (.new ik) (st.map ze) = none := rfl
  have r2 : m_inv o (.new ik) = none := rfl
  simp only [mx, e1, e2, e3, hq, r1, r2, ht]
  rw [if_pos ⟨hD, h1, h2, zsml_ok h3⟩]
  rfl
set_option maxRecDepth 20000 in
theorem zg_inv (hL : L ≤ 3072) {nx : (zR → Nat → zJ → zK → Prop) → zN} (hk : (mprog k).2.2.2 = (ret, o, T)) (hq : mins T pc = some (i, len)) (hr : ∀ r s, m_ret r i s = none) (h : zinv L xs k o D nx i pc ls st J K Q) (hn : ∀ Q' pc' ls' st' J' K', nx Q' pc' ls' st' J' K' → zGo L xs D k pc' ls' st' J' K' Q') : zGo L xs D k pc ls st J K Q := by
  intro lsv hz g
  have e1 : (mprog k).2.2.2.1 = ret := by rw [hk]
  have e2 : (mprog k).2.2.2.2.2 = T := by rw [hk]
  have e3 : (mprog k).2.2.2.2.1 = o := by rw [hk]
  unfold zinv at h
  split at h
  · exact h.elim
  · next a b hi =>
    obtain ⟨st', J', hc, hx⟩ := zcopy_ok (pc := pc) (lsv := lsv) (K := K) (g := g) h
    obtain ⟨m, r, e, lo, J2, K2, hrun, hQ⟩ := hn _ _ _ _ _ _ hx lsv hz (1, g.2)
    refine ⟨m + 1, r, e, lo, J2, K2, ?_, hQ⟩
    simp only [mx, e1, e2, e3, hq, hr, hi, hc]
    exact hrun
  · next a' b' hi =>
    split at h
    · next a r =>
      split at h
      · next c hc =>
        obtain ⟨h1, h2, h3⟩ := zcond h
        obtain ⟨tt, t1, t2, t3, t4⟩ := zcs_at hc
        obtain ⟨m, rr, e, lo, J2, K2, hrun, hQ⟩ := hn _ _ _ _ _ _ h3 lsv hz g
        refine ⟨m + 1, rr, e, lo, J2, K2, ?_, hQ⟩
        have hs : (m_sref a).bind m_slen = some c.length := by
          rw [t1]
          exact t2
        simp only [mx, e1, e2, e3, hq, hr, hi, List.map_cons, ze, hs]
        rw [if_pos ⟨zsml_ok h1, h2⟩]
        exact hrun
      · exact h.elim
    · exact h.elim
  · next a' b' hi =>
    split at h
    · next j a r =>
      split at h
      · next c hc =>
        obtain ⟨h1, h2, h3, h4, h5⟩ := zcond h
        obtain ⟨tt, t1, t2, t3, t4⟩ := zcs_at hc
        obtain ⟨m, rr, e, lo, J2, K2, hrun, hQ⟩ := hn _ _ _ _ _ _ h5 lsv hz g
        refine ⟨m + 1, rr, e, lo, J2, K2, ?_, hQ⟩
        have ej := zin_e (x := j) ⟨by omega, by omega⟩
        have ej2 : (Int32.ofInt j).toNatClampNeg = j.toNat := by unfold Int32.toNatClampNeg; rw [ej]
        have ej3 : ¬ Int32.ofInt j < 0 := by
          rw [Int32.lt_iff_toInt_lt, ej]
          have : (0 : Int32).toInt = 0 := by decide
          omega
        have hs : (m_sref a).bind (fun t => m_sat t (Int32.ofInt j).toNatClampNeg) = some (Int32.ofNat (c.getD j.toNat 0)) := by
          rw [t1, ej2]
          exact t4 _ (by omega)
        simp only [mx, e1, e2, e3, hq, hr, hi, List.map_cons, ze, hs]
        rw [if_pos ⟨ej3, zsml_ok h1, h2⟩]
        exact hrun
      · exact h.elim
    · exact h.elim
  · next t a b n5 n12 n13 n14 hi =>
    cases hb : (Nat.beq t 2 && Nat.ble 318 a) with
    | true =>
      rw [hb] at h
      simp only [cond_true] at h
      obtain ⟨st', hm, hD, hx⟩ := zmath_ok h
      obtain ⟨m, r, e, lo, J2, K2, hrun, hQ⟩ := hn _ _ _ _ _ _ hx lsv hz g
      refine ⟨m + 1, r, e, lo, J2, K2, ?_, hQ⟩
      simp only [mx, e1, e2, e3, hq, hr, hi, hb, cond_true, hm]
      rw [if_pos hD]
      exact hrun
    | false =>
      rw [hb] at h
      simp only [cond_false] at h
      obtain ⟨hb2, h⟩ := zcond h
      split at h
      · next y hy =>
        have hargs := zargs_ok (g := g) (J := J) (K := K) hy
        cases D with
        | zero => exact h.elim
        | succ D' =>
          have hthr : ∀ {E m1 e4 lo1 : Nat} {J1 : zJ} {K1 : zK}, mx L xs m1 D' a 0 (m_enter (y.1.map ze) (mprog a).2.2.1) [] (zmem g J K) = some (.inr E, zmem (lo1, g.2.1 + e4, g.2.2 + 6 * e4) J1 K1) → (zaE t k pc E fun v => Q v e4 J1 K1) → ∃ (n : Nat) (r : zR) (e lo : Nat) (J' : zJ) (K' : zK), mx L xs n (D' + 1) k pc lsv (st.map ze) (zmem g J K) = some (zre r, zmem (lo, g.2.1 + e, g.2.2 + 6 * e) J' K') ∧ Q r e J' K' := by
            intro E m1 e4 lo1 J1 K1 hrun1 hp
            unfold zaE at hp
            obtain ⟨h7, hp⟩ := zcond hp
            split at hp
            · next v hv =>
              refine ⟨m1 + 1, v, e4, lo1, J1, K1, ?_, hp⟩
              simp only [mx, e1, e2, e3, hq, hr, hi, hb, hb2, cond_true, cond_false, hargs]
              rw [hrun1]
              show (bif Nat.ble t 2 then m_on k pc E (zmem (lo1, g.2.1 + e4, g.2.2 + 6 * e4) J1 K1) else none) = _
              rw [h7, cond_true]
              exact zon_ok hv
            · exact hp.elim
          have hval : ∀ {m1 e4 lo1 : Nat} {J1 : zJ} {K1 : zK} {w : Option zV} {Q' : zR → Nat → zJ → zK → Prop}, mx L xs m1 D' a 0 (m_enter (y.1.map ze) (mprog a).2.2.1) [] (zmem g J K) = some (.inl (w.map ze), zmem (lo1, g.2.1 + e4, g.2.2 + 6 * e4) J1 K1) → (∀ r e J K, Q' r e J K → Q r (e + e4) J K) → nx Q' (pc + 3) ls (w.toList ++ y.2) J1 K1 → ∃ (n : Nat) (r : zR) (e lo : Nat) (J' : zJ) (K' : zK), mx L xs n (D' + 1) k pc lsv (st.map ze) (zmem g J K) = some (zre r, zmem (lo, g.2.1 + e, g.2.2 + 6 * e) J' K') ∧ Q r e J' K' := by
            intro m1 e4 lo1 J1 K1 w Q' hrun1 hQQ hp
            obtain ⟨m2, r2, e5, lo2, J2, K2, hrun2, hQ⟩ := hn _ _ _ _ _ _ hp lsv hz (lo1, g.2.1 + e4, g.2.2 + 6 * e4)
            refine ⟨max m1 m2 + 1, r2, e5 + e4, lo2, J2, K2, ?_, hQQ _ _ _ _ hQ⟩
            simp only [mx, e1, e2, e3, hq, hr, hi, hb, hb2, cond_true, cond_false, hargs]
            rw [mx_fuel hrun1 (Nat.le_max_left m1 m2)]
            have q1 : g.2.1 + e4 + e5 = g.2.1 + (e5 + e4) := by omega
            have q2 : g.2.2 + 6 * e4 + 6 * e5 = g.2.2 + 6 * (e5 + e4) := by omega
            cases w with
            | none =>
              show mx L xs (max m1 m2) (D' + 1) k (pc + 3) lsv (y.2.map ze) _ = _
              have hrun2' : mx L xs m2 (D' + 1) k (pc + 3) lsv (y.2.map ze) _ = _ := hrun2
              rw [mx_fuel hrun2' (Nat.le_max_right m1 m2), q1, q2]
            | some v =>
              show mx L xs (max m1 m2) (D' + 1) k (pc + 3) lsv (ze v :: y.2.map ze) _ = _
              have hrun2' : mx L xs m2 (D' + 1) k (pc + 3) lsv (ze v :: y.2.map ze) _ = _ := hrun2
              rw [mx_fuel hrun2' (Nat.le_max_right m1 m2), q1, q2]
          simp only at h
          cases ht17 : Nat.beq t 17 with
          | true =>
            rw [ht17] at h
            simp only [cond_true] at h
            obtain ⟨m1, r1, e4, lo1, J1, K1, hrun1, hp⟩ := h _ (zsub_refl _) g
            rw [← zent_e, List.map_nil] at hrun1
            unfold zaW at hp
            split at hp
            · next x => exact hval (w := some (.inl x)) hrun1 (fun _ _ _ _ z => z) hp
            · exact hp.elim
          | false =>
            rw [ht17] at h
            simp only [cond_false] at h
            split at h
            · obtain ⟨m1, r1, e4, lo1, J1, K1, hrun1, hp⟩ := h _ (zsub_refl _) g
              rw [← zent_e, List.map_nil] at hrun1
              unfold zaV at hp
              split at hp
              · obtain ⟨rfl, hp⟩ := hp
                exact hval (w := none) (Q' := Q) hrun1 (fun _ _ _ _ z => z) hp
              · exact hp.elim
              · exact hthr hrun1 hp
            · obtain ⟨m1, r1, e4, lo1, J1, K1, hrun1, hp⟩ := h _ (zsub_refl _) g
              rw [← zent_e, List.map_nil] at hrun1
              unfold zaL at hp
              split at hp
              · next x =>
                obtain ⟨rfl, hp⟩ := hp
                exact hval (w := some (.inr (.inl x))) (Q' := Q) hrun1 (fun _ _ _ _ z => z) hp
              · exact hthr hrun1 hp
              · exact hp.elim
            · obtain ⟨m1, r1, e4, lo1, J1, K1, hrun1, hp⟩ := h _ (zsub_refl _) g
              rw [← zent_e, List.map_nil] at hrun1
              unfold zaI at hp
              split at hp
              · next x =>
                obtain ⟨rfl, hp⟩ := hp
                exact hval (w := some (.inl x)) (Q' := Q) hrun1 (fun _ _ _ _ z => z) hp
              · exact hthr hrun1 hp
              · exact hp.elim
      · exact h.elim
  · exact h.elim
theorem zrun_ok (hL : L ≤ 3072) {hs : List (Nat × List Nat)} (hk : (mprog k).2.2.2 = (ret, o, T)) : ∀ (n D pc : Nat) (ls : zLs) (st : List zV) (J : zJ) (K : zK) (Q : zR → Nat → zJ → zK → Prop), zrun L xs hs k o T ret n D pc ls st J K Q → zGo L xs D k pc ls st J K Q := by
  intro n
  induction n with
  | zero =>
    intro D pc ls st J K Q h
    exact h.elim
  | succ n ih =>
    intro D pc ls st J K Q h
    simp only [zrun] at h
    have hnx : ∀ Q' pc' ls' st' J' K', (match zhd pc' hs with
        | some fs => zGo L xs D k pc' (zfg fs ls') st' J' K' Q'
        | none => zrun L xs hs k o T ret n D pc' ls' st' J' K' Q') → zGo L xs D k pc' ls' st' J' K' Q' := by
      intro Q' pc' ls' st' J' K' hzz
      split at hzz
      · next fs hfs => exact fun lsv hz g => hzz lsv (zfg_sub fs _ hz) g
      · exact ih _ _ _ _ _ _ _ hzz
    split at h
    · exact h.elim
    · next q hq =>
      obtain ⟨i, len⟩ := q
      simp only at h
      split at h
      · obtain ⟨v, h1, h2⟩ := zret_ok h
        exact zg_ret hk hq h1 h2
      · obtain ⟨v, h1, h2⟩ := zret_ok h
        exact zg_ret hk hq h1 h2
      · obtain ⟨v, h1, h2⟩ := zret_ok h
        exact zg_ret hk hq h1 h2
      · exact zg_inv hL hk hq (fun _ _ => rfl) h hnx
      · exact zg_inv hL hk hq (fun _ _ => rfl) h hnx
      · exact zg_inv hL hk hq (fun _ _ => rfl) h hnx
      · split at h
        · next w hw =>
          obtain ⟨h1, h2, h3⟩ := zcond h
          rw [Bool.and_eq_true, Bool.and_eq_true, Nat.blt_eq] at h1
          exact zg_thr hk hq hw h1.1.1 (Nat.eq_of_beq_eq_true h1.1.2) h1.2 h2 h3
        · exact h.elim
      · exact zg_step hL hk hq h (hnx Q)
end ZM
