/-! each instruction of the integer machine is one of the small machine -/
def zOk (g : Nat × Nat × Nat) (n : zN) (r : Option mMC) : Prop := ∃ pc ls lsv st J K, r = some (pc, lsv, List.map ze st, zmem g J K) ∧ zsub ls lsv ∧ n pc ls st J K
section ZS
variable {g : Nat × Nat × Nat} {n : zN} {pc L j : Nat} {ls : zLs} {st : List zV} {J : zJ} {K : zK} {xs : Nat → Int32} {lsv : mLS}
theorem zo_mk {pc' : Nat} {ls' : zLs} {lsv' : mLS} {st' : List zV} {J' : zJ} {K' : zK} {r : Option mMC} (hz : zsub ls' lsv') (hr : r = some (pc', lsv', List.map ze st', zmem g J' K')) (h : n pc' ls' st' J' K') : zOk g n r := ⟨pc', ls', lsv', st', J', K', hr, hz, h⟩
theorem zo_ldi {d : Nat} (hz : zsub ls lsv) (h : zldi n (pc + d) ls st J K j) : zOk g n (m_push d pc (lsv) (st.map ze) (zmem g J K) (m_ld (lsv) j 0)) := by
  unfold zldi at h
  split at h
  · next x hx => exact zo_mk hz (by unfold m_ld; rw [hz.2 _ _ hx]; rfl) h
  · exact h.elim
theorem zo_ldl {d : Nat} (hz : zsub ls lsv) (h : zldl n (pc + d) ls st J K j) : zOk g n (m_push d pc (lsv) (st.map ze) (zmem g J K) (m_ld (lsv) j 1)) := by
  unfold zldl at h
  split at h
  · next x hx => exact zo_mk hz (by unfold m_ld; rw [hz.2 _ _ hx]; rfl) h
  · exact h.elim
theorem zo_ldr {d : Nat} (hz : zsub ls lsv) (h : zldr n (pc + d) ls st J K j) : zOk g n (m_push d pc (lsv) (st.map ze) (zmem g J K) (m_ld (lsv) j 2)) := by
  unfold zldr at h
  split at h
  · next x hx =>
    refine zo_mk hz ?_ h
    unfold m_ld
    rw [hz.2 _ _ hx]
    rcases x with a | q <;> rfl
  · exact h.elim
theorem zcond {b : Bool} {p : Prop} (h : bif b then p else False) : b = true ∧ p := by
  cases b
  · exact h.elim
  · exact ⟨rfl, h⟩
theorem zo_sti {d : Nat} (hz : zsub ls lsv) (h : zsti n (pc + d) ls st J K j) : zOk g n (m_sto d pc (lsv) (st.map ze) (zmem g J K) j 0) := by
  unfold zsti at h
  split at h
  · next x r =>
    obtain ⟨h1, h2⟩ := zcond h
    rw [Nat.blt_eq] at h1
    refine zo_mk (zst1_sub hz _ _) ?_ h2
    show (if (0 = 0 ∧ j < (lsv).length) then _ else _) = _
    rw [if_pos ⟨rfl, by rw [hz.1]; exact h1⟩]
    rfl
  · exact h.elim
theorem zo_stl {d : Nat} (hz : zsub ls lsv) (h : zstl n (pc + d) ls st J K j) : zOk g n (m_sto d pc (lsv) (st.map ze) (zmem g J K) j 1) := by
  unfold zstl at h
  split at h
  · next x r =>
    obtain ⟨h1, h2⟩ := zcond h
    rw [Nat.blt_eq] at h1
    refine zo_mk (zst2_sub hz _ _) ?_ h2
    show (if (1 = 1 ∧ j + 1 < (lsv).length) then _ else _) = _
    rw [if_pos ⟨rfl, by rw [hz.1]; exact h1⟩]
    rfl
  · exact h.elim
theorem zo_str {d : Nat} (hz : zsub ls lsv) (h : zstr n (pc + d) ls st J K j) : zOk g n (m_sto d pc (lsv) (st.map ze) (zmem g J K) j 2) := by
  unfold zstr at h
  split at h
  · next x r =>
    obtain ⟨h1, h2⟩ := zcond h
    rw [Nat.blt_eq] at h1
    refine zo_mk (zst1_sub hz _ _) ?_ h2
    rcases x with a | q
    all_goals
      show (if (2 = 2 ∧ j < (lsv).length) then _ else _) = _
      rw [if_pos ⟨rfl, by rw [hz.1]; exact h1⟩]
      rfl
  · exact h.elim
theorem zo_inc {c : Int} (hz : zsub ls lsv) (h : zinc n (pc + 3) ls st J K j c) : zOk g n (m_iinc pc (lsv) (st.map ze) (zmem g J K) j c) := by
  unfold zinc at h
  split at h
  · next x hx =>
    refine zo_mk (zst1_sub hz _ _) ?_ h
    unfold m_iinc
    rw [hz.2 _ _ hx]
    show some (pc + 3, m_st1 (lsv) j (.int (Int32.ofInt x + Int32.ofInt c)), _, _) = _
    rw [← Int32.ofInt_add]
    rfl
  · exact h.elim
theorem ztest_ok {c : ClassFile.Cond} {x y : Int} {a b : Prop} (hx : zin x) (hy : zin y) (h : ztest c x y a b) : (m_if c (Int32.ofInt x) (Int32.ofInt y) = true ∧ a) ∨ (m_if c (Int32.ofInt x) (Int32.ofInt y) = false ∧ b) := by
  cases c <;> simp only [ztest] at h <;> simp only [m_if, decide_eq_true_eq, decide_eq_false_iff_not, zin_eq hx hy, zin_lt hx hy, zin_lt hy hx, zin_le hx hy, zin_le hy hx]
  · by_cases q : x = y
    · exact Or.inl ⟨q, h.1 q⟩
    · exact Or.inr ⟨q, h.2 q⟩
  · by_cases q : x = y
    · exact Or.inr ⟨fun z => z q, h.2 q⟩
    · exact Or.inl ⟨q, h.1 q⟩
  · by_cases q : x < y
    · exact Or.inl ⟨q, h.1 q⟩
    · exact Or.inr ⟨q, h.2 (by omega)⟩
  · by_cases q : y ≤ x
    · exact Or.inl ⟨q, h.1 q⟩
    · exact Or.inr ⟨q, h.2 (by omega)⟩
  · by_cases q : y < x
    · exact Or.inl ⟨q, h.1 q⟩
    · exact Or.inr ⟨q, h.2 (by omega)⟩
  · by_cases q : x ≤ y
    · exact Or.inl ⟨q, h.1 q⟩
    · exact Or.inr ⟨q, h.2 (by omega)⟩
theorem zo_br {c : ClassFile.Cond} {x y off : Int} {r : List zV} (hz : zsub ls lsv) (hx : zin x) (hy : zin y) (h : match m_jmp pc off with
    | some t => ztest c x y (n t ls r J K) (n (pc + 3) ls r J K)
    | none => False) : zOk g n (m_br (m_if c (Int32.ofInt x) (Int32.ofInt y)) pc off (lsv) (r.map ze) (zmem g J K)) := by
  unfold m_br
  split at h
  · next t ht =>
    rw [ht]
    simp only
    rcases ztest_ok hx hy h with ⟨q, z⟩ | ⟨q, z⟩
    · rw [q]
      exact zo_mk hz rfl z
    · rw [q]
      exact zo_mk hz rfl z
  · exact h.elim
theorem zo_if {c : ClassFile.Cond} {off : Int} (hz : zsub ls lsv) (h : zif n pc off c ls st J K) : zOk g n (match st.map ze with
    | .int x :: r => m_br (m_if c x 0) pc off (lsv) r (zmem g J K)
    | _ => none) := by
  unfold zif at h
  split at h
  · next x r => exact zo_br hz (y := 0) h.1 ⟨by decide, by decide⟩ h.2
  · exact h.elim
theorem zo_icmp {c : ClassFile.Cond} {off : Int} (hz : zsub ls lsv) (h : zicmp n pc off c ls st J K) : zOk g n (match st.map ze with
    | .int y :: .int x :: r => m_br (m_if c x y) pc off (lsv) r (zmem g J K)
    | _ => none) := by
  unfold zicmp at h
  split at h
  · next y x r => exact zo_br hz h.1 h.2.1 h.2.2
  · exact h.elim
theorem zswt_ok {x : Int} {r : List zV} : ∀ (offs : List Int) (lo : Int), zswt n pc ls r J K x lo offs → lo ≤ x → x < lo + offs.length → ∃ off t, offs[(x - lo).toNat]? = some off ∧ m_jmp pc off = some t ∧ n t ls r J K
  | [], lo, _, h1, h2 => by simp at h2; omega
  | off :: offs, lo, h, h1, h2 => by
    unfold zswt at h
    obtain ⟨h3, h4⟩ := h
    by_cases e : x = lo
    · subst e
      split at h3
      · next t ht => exact ⟨off, t, by simp, ht, h3 rfl⟩
      · exact h3.elim
    · obtain ⟨off', t, q1, q2, q3⟩ := zswt_ok offs (lo + 1) h4 (by omega) (by simp at h2; omega)
      refine ⟨off', t, ?_, q2, q3⟩
      have e9 : (x - lo).toNat = (x - (lo + 1)).toNat + 1 := by omega
      rw [e9, List.getElem?_cons_succ]
      exact q1
theorem zo_sw {d lo hi : Int} {offs : Array Int} (hz : zsub ls lsv) (h : zsw n pc d lo hi offs ls st J K) : zOk g n (m_sw pc (lsv) (st.map ze) (zmem g J K) d lo hi offs) := by
  unfold zsw at h
  split at h
  · next x r =>
    obtain ⟨h1, h2, h3, h4⟩ := h
    show zOk g n (if (Int32.ofInt x).toInt < lo ∨ hi < (Int32.ofInt x).toInt then _ else _)
    rw [zin_e h1]
    split at h2
    · next t ht =>
      by_cases e : x < lo ∨ hi < x
      · rw [if_pos e, ht]
        exact zo_mk hz rfl (h2 e)
      · rw [if_neg e]
        obtain ⟨off, t', q1, q2, q3⟩ := zswt_ok _ _ h4 (by omega) (by omega)
        rw [Array.getElem?_toList] at q1
        rw [q1]
        simp only [q2]
        exact zo_mk hz rfl q3
    · exact h2.elim
  · exact h.elim
theorem zmem_get {a : Nat} {c : Nat × Nat × List (Option Nat)} (h : zsh a = some c) : (zmem g J K).1[a]? = some c := (zsh_ok h).1
theorem zo_get {o idx : Nat} (hz : zsub ls lsv) (h : zget o n pc ls st J K idx) : zOk g n (m_get o pc (lsv) (st.map ze) (zmem g J K) idx) := by
  unfold zget at h
  split at h
  · next a r =>
    show zOk g n (match mcp o idx with
      | some (0, ci, k) => _
      | _ => none)
    split at h
    · next ci k hm =>
      rw [hm]
      simp only
      split at h
      · next c hc =>
        obtain ⟨h1, h2⟩ := zcond h
        rw [Bool.and_eq_true, Nat.blt_eq] at h1
        have hk := Nat.eq_of_beq_eq_true h1.1
        rw [zmem_get hc]
        simp only
        rw [if_pos ⟨hk, h1.2⟩]
        have hro : zrow a = (a, 0) := (zsh_ok hc).2.2 (by rw [hk]; omega)
        have hI : mI (zmem g J K) a k = Int32.ofInt (J a 0 k) := by
          show Int32.ofInt (J (zrow a).1 (zrow a).2 k) = _
          rw [hro]
        unfold m_fld
        split at h2
        · next hkk =>
          rw [hkk]
          exact zo_mk hz rfl h2
        · next hkk =>
          rw [hkk]
          split at h2
          · next q hq =>
            refine zo_mk hz ?_ h2
            simp only [hq]
            rfl
          · exact h2.elim
        · next hk1 hk2 =>
          split
          · rw [hI]
            exact zo_mk hz rfl h2
          · next z => exact absurd z hk1
          · next z => exact absurd z hk2
          · rw [hI]
            exact zo_mk hz rfl h2
      · exact h.elim
    · exact h.elim
  · exact h.elim
theorem zmem_setI {a b : Nat} {i k v : Int} (hb : zrow b = (a, i)) (hk : 0 ≤ k) : m_setI (zmem g J K) b k.toNat (Int32.ofInt v) = zmem g (zup J a i k v) K := by
  unfold m_setI zmem
  simp only
  rw [zIf_up hb hk]
theorem zmem_setL {a : Nat} {k v : Int} (hk : 0 ≤ k) : m_setL (zmem g J K) a k.toNat (Int64.ofInt v) = zmem g J (zku K a k v) := by
  unfold m_setL zmem
  simp only
  rw [zLf_up hk]
theorem zo_put {o idx : Nat} {ini : Bool} (hz : zsub ls lsv) (h : zput o n pc ls st J K idx) : zOk g n (m_put o ini pc (lsv) (st.map ze) (zmem g J K) idx) := by
  unfold zput at h
  split at h
  · next v a r =>
    show zOk g n (match mcp o idx with
      | some (0, ci, k) => _
      | _ => none)
    split at h
    · next ci k hm =>
      rw [hm]
      simp only
      split at h
      · next c hc =>
        obtain ⟨h1, h2⟩ := zcond h
        rw [Bool.and_eq_true, Nat.blt_eq] at h1
        have hk := Nat.eq_of_beq_eq_true h1.1
        rw [zmem_get hc]
        simp only
        rw [if_pos ⟨hk, h1.2⟩]
        have hro : zrow a = (a, 0) := (zsh_ok hc).2.2 (by rw [hk]; omega)
        split at h2
        · next hkk =>
          rw [hkk]
          split at h2
          · next x =>
            have e := zmem_setI (g := g) (J := J) (K := K) (k := (k : Int)) (v := x) hro (by omega)
            rw [Int.toNat_natCast] at e
            exact zo_mk hz (by show some (_, _, _, m_setI _ _ _ _) = _; rw [e]) h2
          · exact h2.elim
        · next hkk =>
          rw [hkk]
          split at h2
          · next x =>
            have e := zmem_setL (g := g) (J := J) (K := K) (a := a) (k := (k : Int)) (v := x) (by omega)
            rw [Int.toNat_natCast] at e
            exact zo_mk hz (by show some (_, _, _, m_setL _ _ _ _) = _; rw [e]) h2
          · exact h2.elim
        · next hkk =>
          rw [hkk]
          split at h2
          · next x =>
            have e := zmem_setI (g := g) (J := J) (K := K) (k := (k : Int)) (v := x) hro (by omega)
            rw [Int.toNat_natCast] at e
            refine zo_mk hz ?_ h2.2
            show (if Int32.ofInt x = 0 ∨ Int32.ofInt x = 1 then _ else none) = _
            rw [if_pos (by rcases h2.1 with rfl | rfl; exact Or.inl rfl; exact Or.inr rfl)]
            show some (_, _, _, m_setI _ _ _ _) = _
            rw [e]
          · exact h2.elim
        · exact h2.elim
      · exact h.elim
    · exact h.elim
  · exact h.elim
end ZS
