/-! each instruction of the integer machine is one of the small machine: arrays, arithmetic, all -/
section ZT
variable {g : Nat × Nat × Nat} {n : zN} {pc L j : Nat} {ls : zLs} {st : List zV} {J : zJ} {K : zK} {xs : Nat → Int32} {lsv : mLS}
theorem z_big {a : Nat} {c : Nat × Nat × List (Option Nat)} (h : zsh a = some c) : ¬ a = 1000000 := by
  have := zsh_lt h
  omega
/-- an element of a plain array -/
theorem z_el {a : Nat} {i : Int} {c : Nat × Nat × List (Option Nat)} (h : zsh a = some c) (h0 : 0 ≤ i) (h1 : i < c.2.1) : m_arr (zmem g J K) a (Int32.ofInt i) = some c ∧ (Int32.ofInt i).toNatClampNeg = i.toNat := by
  obtain ⟨k1, k2, -⟩ := zsh_ok h
  obtain ⟨q1, q2⟩ := z_ix h0 h1 (by omega)
  refine ⟨?_, q2⟩
  unfold m_arr
  rw [zmem_get h]
  simp only [q1, if_true]
theorem z_elI {a b : Nat} {p i : Int} (hb : zrow b = (a, p)) (h0 : 0 ≤ i) : mI (zmem g J K) b i.toNat = Int32.ofInt (J a p i) := by
  show Int32.ofInt (J (zrow b).1 (zrow b).2 (i.toNat : Int)) = _
  rw [hb, Int.toNat_of_nonneg h0]
theorem z_elL {a : Nat} {i : Int} (h0 : 0 ≤ i) : mL (zmem g J K) a i.toNat = Int64.ofInt (K a i) := by
  show Int64.ofInt (K a (i.toNat : Int)) = _
  rw [Int.toNat_of_nonneg h0]
/-- an element of a row -/
theorem z_elR {a : Nat} {p i : Int} {d : Nat × Nat} (h : zdim a = some d) (p0 : 0 ≤ p) (p1 : p < d.1) (h0 : 0 ≤ i) (h1 : i < d.2) : m_arr (zmem g J K) (a + 1 + p.toNat) (Int32.ofInt i) = some (0, d.2, []) ∧ (Int32.ofInt i).toNatClampNeg = i.toNat ∧ zrow (a + 1 + p.toNat) = (a, p) ∧ ¬ a + 1 + p.toNat = 1000000 := by
  obtain ⟨c, c1, c2, c3, c4, c5, c6⟩ := zdim_ok (n := d.1) (m := d.2) h
  obtain ⟨r1, r2, r3⟩ := c6 p.toNat (by omega)
  obtain ⟨q1, q2⟩ := z_ix h0 h1 (by omega)
  refine ⟨?_, q2, ?_, ?_⟩
  · unfold m_arr
    show (match zS[a + 1 + p.toNat]? with
      | some c => _
      | none => _) = _
    rw [r2]
    simp only [q1, if_true]
  · rw [r3, Int.toNat_of_nonneg p0]
  · have := zsh_lt c1
    omega
theorem zo_iald (hL : L ≤ 3072) (hz : zsub ls lsv) (h : ziald L xs n pc ls st J K) : zOk g n (m_ald pc lsv (st.map ze) (zmem g J K) L xs 0) := by
  unfold ziald at h
  split at h
  · next i a r =>
    show zOk g n (if a = 1000000 then _ else _)
    cases hb : Nat.beq a 1000000 with
    | true =>
      rw [hb] at h
      simp only [cond_true] at h
      obtain ⟨h0, h1, h2⟩ := h
      rw [if_pos (Nat.eq_of_beq_eq_true hb)]
      obtain ⟨q1, q2⟩ := z_ix h0 h1 (by omega)
      rw [if_pos ⟨(by first | rfl | trivial), q1⟩, q2]
      refine zo_mk hz ?_ h2
      show some (pc + 1, lsv, Value.int (xs i.toNat) :: _, _) = some (pc + 1, lsv, Value.int (Int32.ofInt (xs i.toNat).toInt) :: _, _)
      rw [Int32.ofInt_toInt]
    | false =>
      rw [hb] at h
      simp only [cond_false] at h
      split at h
      · next c hc =>
        obtain ⟨h1, h2, h3, h4⟩ := zcond h
        have hk := Nat.eq_of_beq_eq_true h1
        obtain ⟨q1, q2⟩ := z_el (g := g) (J := J) (K := K) hc h2 h3
        rw [if_neg (z_big hc), q1]
        simp only
        rw [if_pos ⟨(by first | rfl | trivial), hk⟩, q2, z_elI ((zsh_ok hc).2.2 (by rw [hk]; decide)) h2]
        exact zo_mk hz rfl h4
      · exact h.elim
  · next i q r =>
    obtain ⟨a, p⟩ := q
    show zOk g n (if a + 1 + p.toNat = 1000000 then _ else _)
    split at h
    · next d hd =>
      obtain ⟨p0, p1, h0, h1, h2⟩ := h
      obtain ⟨q1, q2, q3, q4⟩ := z_elR (g := g) (J := J) (K := K) hd p0 p1 h0 h1
      rw [if_neg q4, q1]
      simp only
      rw [if_pos ⟨(by first | rfl | trivial), (by first | rfl | trivial)⟩, q2, z_elI q3 h0]
      exact zo_mk hz rfl h2
    · exact h.elim
  · exact h.elim
theorem zo_bald (hz : zsub ls lsv) (h : zbald n pc ls st J K) : zOk g n (m_ald pc lsv (st.map ze) (zmem g J K) L xs 1) := by
  unfold zbald at h
  split at h
  · next i a r =>
    show zOk g n (if a = 1000000 then _ else _)
    split at h
    · next c hc =>
      obtain ⟨h1, h2, h3, h4⟩ := zcond h
      have hk : c.1 = 1 ∨ c.1 = 2 := by
        rw [Bool.or_eq_true] at h1
        rcases h1 with h1 | h1
        · exact Or.inl (Nat.eq_of_beq_eq_true h1)
        · exact Or.inr (Nat.eq_of_beq_eq_true h1)
      obtain ⟨q1, q2⟩ := z_el (g := g) (J := J) (K := K) hc h2 h3
      rw [if_neg (z_big hc), q1]
      simp only
      rw [if_neg (by first | omega | simp | (simp; omega)), if_pos ⟨(by first | rfl | trivial), hk⟩, q2, z_elI ((zsh_ok hc).2.2 (by omega)) h2]
      exact zo_mk hz rfl h4
    · exact h.elim
  · exact h.elim
theorem zo_lald (hz : zsub ls lsv) (h : zlald n pc ls st J K) : zOk g n (m_ald pc lsv (st.map ze) (zmem g J K) L xs 3) := by
  unfold zlald at h
  split at h
  · next i a r =>
    show zOk g n (if a = 1000000 then _ else _)
    split at h
    · next c hc =>
      obtain ⟨h1, h2, h3, h4⟩ := zcond h
      have hk := Nat.eq_of_beq_eq_true h1
      obtain ⟨q1, q2⟩ := z_el (g := g) (J := J) (K := K) hc h2 h3
      rw [if_neg (z_big hc), q1]
      simp only
      rw [if_neg (by first | omega | simp | (simp; omega)), if_neg (by first | omega | simp | (simp; omega)), if_pos ⟨(by first | rfl | trivial), hk⟩, q2, z_elL h2]
      exact zo_mk hz rfl h4
    · exact h.elim
  · exact h.elim
theorem zo_aald (hz : zsub ls lsv) (h : zaald n pc ls st J K) : zOk g n (m_ald pc lsv (st.map ze) (zmem g J K) L xs 4) := by
  unfold zaald at h
  split at h
  · next i a r =>
    show zOk g n (if a = 1000000 then _ else _)
    split at h
    · next d hd =>
      obtain ⟨h2, h3, h4⟩ := h
      obtain ⟨c, c1, c2, c3, c4, c5, c6⟩ := zdim_ok (n := d.1) (m := d.2) hd
      obtain ⟨r1, -, -⟩ := c6 i.toNat (by omega)
      obtain ⟨q1, q2⟩ := z_el (g := g) (J := J) (K := K) c1 h2 (by omega)
      rw [if_neg (z_big c1), q1]
      simp only
      rw [if_neg (by first | omega | simp | (simp; omega)), if_neg (by first | omega | simp | (simp; omega)), if_neg (by first | omega | simp | (simp; omega)), if_pos ⟨(by first | rfl | trivial), Or.inl c2⟩, q2, r1]
      exact zo_mk hz rfl h4
    · split at h
      · next c hc =>
        obtain ⟨h1, h2, h3, q, h4, h5⟩ := zcond h
        have hk := Nat.eq_of_beq_eq_true h1
        obtain ⟨q1, q2⟩ := z_el (g := g) (J := J) (K := K) hc h2 h3
        rw [if_neg (z_big hc), q1]
        simp only
        rw [if_neg (by first | omega | simp | (simp; omega)), if_neg (by first | omega | simp | (simp; omega)), if_neg (by first | omega | simp | (simp; omega)), if_pos ⟨(by first | rfl | trivial), Or.inr hk⟩, q2, h4]
        exact zo_mk hz rfl h5
      · exact h.elim
  · exact h.elim
theorem zo_iast (hz : zsub ls lsv) (h : ziast n pc ls st J K) : zOk g n (m_ast pc lsv (st.map ze) (zmem g J K) 0) := by
  unfold ziast at h
  split at h
  · next x i a r =>
    show zOk g n (match m_arr (zmem g J K) a (Int32.ofInt i) with
      | some c => _
      | none => _)
    split at h
    · next c hc =>
      obtain ⟨h1, h2, h3, h4⟩ := zcond h
      have hk := Nat.eq_of_beq_eq_true h1
      obtain ⟨q1, q2⟩ := z_el (g := g) (J := J) (K := K) hc h2 h3
      rw [q1]
      show zOk g n (if 0 = 0 ∧ c.1 = 0 then _ else _)
      rw [if_pos ⟨(by first | rfl | trivial), hk⟩, q2, zmem_setI ((zsh_ok hc).2.2 (by rw [hk]; decide)) h2]
      exact zo_mk hz rfl h4
    · exact h.elim
  · next x i q r =>
    obtain ⟨a, p⟩ := q
    show zOk g n (match m_arr (zmem g J K) (a + 1 + p.toNat) (Int32.ofInt i) with
      | some c => _
      | none => _)
    split at h
    · next d hd =>
      obtain ⟨p0, p1, h0, h1, h2⟩ := h
      obtain ⟨q1, q2, q3, q4⟩ := z_elR (g := g) (J := J) (K := K) hd p0 p1 h0 h1
      rw [q1]
      show zOk g n (if 0 = 0 ∧ (0 : Nat) = 0 then _ else _)
      rw [if_pos ⟨(by first | rfl | trivial), (by first | rfl | trivial)⟩, q2, zmem_setI q3 h0]
      exact zo_mk hz rfl h2
    · exact h.elim
  · exact h.elim
theorem zo_bast (hz : zsub ls lsv) (h : zbast n pc ls st J K) : zOk g n (m_ast pc lsv (st.map ze) (zmem g J K) 1) := by
  unfold zbast at h
  split at h
  · next x i a r =>
    show zOk g n (match m_arr (zmem g J K) a (Int32.ofInt i) with
      | some c => _
      | none => _)
    split at h
    · next c hc =>
      cases hb : Nat.beq c.1 1 with
      | true =>
        rw [hb] at h
        simp only [cond_true] at h
        obtain ⟨h2, h3, h4⟩ := h
        have hk := Nat.eq_of_beq_eq_true hb
        obtain ⟨q1, q2⟩ := z_el (g := g) (J := J) (K := K) hc h2 h3
        rw [q1]
        show zOk g n (if 1 = 0 ∧ c.1 = 0 then _ else if 1 = 1 ∧ c.1 = 1 then _ else _)
        have e : vp_nar .byte (Int32.ofInt x) = Int32.ofInt (zbyte x) := by unfold zbyte; rw [Int32.ofInt_toInt]
        rw [if_neg (by first | omega | simp | (simp; omega)), if_pos ⟨(by first | rfl | trivial), hk⟩, q2, e, zmem_setI ((zsh_ok hc).2.2 (by omega)) h2]
        exact zo_mk hz rfl h4
      | false =>
        rw [hb] at h
        simp only [cond_false] at h
        obtain ⟨h1, h2, h3, h4⟩ := zcond h
        have hk := Nat.eq_of_beq_eq_true h1
        obtain ⟨q1, q2⟩ := z_el (g := g) (J := J) (K := K) hc h2 h3
        rw [q1]
        show zOk g n (if 1 = 0 ∧ c.1 = 0 then _ else if 1 = 1 ∧ c.1 = 1 then _ else if 1 = 1 ∧ c.1 = 2 then _ else _)
        have e : vp_nar .boolean (Int32.ofInt x) = Int32.ofInt (zbol x) := by unfold zbol; rw [Int32.ofInt_toInt]
        rw [if_neg (by first | omega | simp | (simp; omega)), if_neg (by first | omega | simp | (simp; omega)), if_pos ⟨(by first | rfl | trivial), hk⟩, q2, e, zmem_setI ((zsh_ok hc).2.2 (by omega)) h2]
        exact zo_mk hz rfl h4
    · exact h.elim
  · exact h.elim
theorem zo_last (hz : zsub ls lsv) (h : zlast n pc ls st J K) : zOk g n (m_ast pc lsv (st.map ze) (zmem g J K) 3) := by
  unfold zlast at h
  split at h
  · next x i a r =>
    show zOk g n (match m_arr (zmem g J K) a (Int32.ofInt i) with
      | some c => _
      | none => _)
    split at h
    · next c hc =>
      obtain ⟨h1, h2, h3, h4⟩ := zcond h
      have hk := Nat.eq_of_beq_eq_true h1
      obtain ⟨q1, q2⟩ := z_el (g := g) (J := J) (K := K) hc h2 h3
      rw [q1]
      show zOk g n (if 3 = 3 ∧ c.1 = 3 then _ else _)
      rw [if_pos ⟨(by first | rfl | trivial), hk⟩, q2, zmem_setL h2]
      exact zo_mk hz rfl h4
    · exact h.elim
  · exact h.elim
theorem zo_len (hz : zsub ls lsv) (h : zlen L n pc ls st J K) : zOk g n (m_len pc lsv (st.map ze) (zmem g J K) L) := by
  have hN : ∀ k : Nat, Int32.ofNat k = Int32.ofInt (k : Int) := fun k => rfl
  unfold zlen at h
  split at h
  · next a r =>
    show zOk g n (if a = 1000000 then _ else _)
    cases hb : Nat.beq a 1000000 with
    | true =>
      rw [hb] at h
      rw [if_pos (Nat.eq_of_beq_eq_true hb)]
      exact zo_mk hz rfl h
    | false =>
      rw [hb] at h
      simp only [cond_false] at h
      split at h
      · next c hc =>
        obtain ⟨h1, h2⟩ := zcond h
        rw [Nat.blt_eq] at h1
        rw [if_neg (z_big hc), zmem_get hc]
        simp only
        rw [if_pos h1]
        exact zo_mk hz rfl h2
      · exact h.elim
  · next q r =>
    obtain ⟨a, p⟩ := q
    show zOk g n (if a + 1 + p.toNat = 1000000 then _ else _)
    split at h
    · next d hd =>
      obtain ⟨p0, p1, h2⟩ := h
      obtain ⟨c, c1, c2, c3, c4, c5, c6⟩ := zdim_ok (n := d.1) (m := d.2) hd
      obtain ⟨-, r2, -⟩ := c6 p.toNat (by simp only at p1; omega)
      have hlt := zsh_lt c1
      simp only at p0 p1
      rw [if_neg (by omega)]
      show zOk g n (match zS[a + 1 + p.toNat]? with
        | some c => _
        | none => _)
      rw [r2]
      simp only
      rw [if_pos (by omega)]
      exact zo_mk hz rfl h2
    · exact h.elim
  · exact h.elim
theorem zo_b2 {f : Int → Int → Int} {F : Int32 → Int32 → Option Value} (hF : ∀ x y, F (Int32.ofInt x) (Int32.ofInt y) = some (.int (Int32.ofInt (f x y)))) (hz : zsub ls lsv) (h : zb2 n pc ls st J K f) : zOk g n (m_i2 pc lsv (st.map ze) (zmem g J K) F) := by
  unfold zb2 at h
  split at h
  · next y x r =>
    refine zo_mk hz ?_ h
    show m_push 1 pc lsv (r.map ze) (zmem g J K) (F (Int32.ofInt x) (Int32.ofInt y)) = _
    rw [hF]
    rfl
  · exact h.elim
theorem zo_b2c {p : Int → Int → Prop → Prop} {f : Int → Int → Int} {F : Int32 → Int32 → Option Value} (hF : ∀ x y q, p x y q → q ∧ F (Int32.ofInt x) (Int32.ofInt y) = some (.int (Int32.ofInt (f x y)))) (hz : zsub ls lsv) (h : zb2c n pc ls st J K p f) : zOk g n (m_i2 pc lsv (st.map ze) (zmem g J K) F) := by
  unfold zb2c at h
  split at h
  · next y x r =>
    obtain ⟨h1, h2⟩ := hF x y _ h
    refine zo_mk hz ?_ h1
    show m_push 1 pc lsv (r.map ze) (zmem g J K) (F (Int32.ofInt x) (Int32.ofInt y)) = _
    rw [h2]
    rfl
  · exact h.elim
theorem zo_l2 {f : Int → Int → Int} {F : Int64 → Int64 → Option Value} (hF : ∀ x y, F (Int64.ofInt x) (Int64.ofInt y) = some (.long (Int64.ofInt (f x y)))) (hz : zsub ls lsv) (h : zl2 n pc ls st J K f) : zOk g n (m_l2 pc lsv (st.map ze) (zmem g J K) F) := by
  unfold zl2 at h
  split at h
  · next y x r =>
    refine zo_mk hz ?_ h
    show m_push 1 pc lsv (r.map ze) (zmem g J K) (F (Int64.ofInt x) (Int64.ofInt y)) = _
    rw [hF]
    rfl
  · exact h.elim
theorem zstep_ok {o D : Nat} {ini : Bool} {i : Instr} (hL : L ≤ 3072) (hz : zsub ls lsv) (h : zstep L xs o n i pc ls st J K) : zOk g n (mstep D o ini L xs i pc lsv (st.map ze) (zmem g J K)) := by
  cases i
  all_goals try (have h0 : False := h; exact h0.elim)
  all_goals simp only [zstep] at h
  all_goals simp only [mstep]
  case iload k => exact zo_ldi hz h
  case iload_n k => exact zo_ldi hz h
  case lload k => exact zo_ldl hz h
  case lload_n k => exact zo_ldl hz h
  case aload k => exact zo_ldr hz h
  case aload_n k => exact zo_ldr hz h
  case istore k => exact zo_sti hz h
  case istore_n k => exact zo_sti hz h
  case lstore k => exact zo_stl hz h
  case lstore_n k => exact zo_stl hz h
  case astore k => exact zo_str hz h
  case astore_n k => exact zo_str hz h
  case iinc k c => exact zo_inc hz h
  case iconst c => exact zo_mk hz rfl h
  case bipush c =>
    obtain ⟨h1, h2⟩ := zcond h
    simp only [Bool.and_eq_true, decide_eq_true_eq] at h1
    exact zo_mk hz (by rw [zn_bi h1.1 h1.2]; rfl) h2
  case sipush c =>
    obtain ⟨h1, h2⟩ := zcond h
    simp only [Bool.and_eq_true, decide_eq_true_eq] at h1
    exact zo_mk hz (by rw [zn_si h1.1 h1.2]; rfl) h2
  case lconst c => exact zo_mk hz rfl h
  case ldc k =>
    unfold m_ldc
    split at h
    · next v z hm =>
      rw [hm]
      exact zo_mk hz rfl h
    · next t z hm =>
      rw [hm]
      exact zo_mk hz rfl h
    · exact h.elim
  case ldc_w k =>
    unfold m_ldc
    split at h
    · next v z hm =>
      rw [hm]
      exact zo_mk hz rfl h
    · exact h.elim
  case ldc2_w k =>
    unfold m_ldc2
    split at h
    · next v z hm =>
      rw [hm]
      exact zo_mk hz rfl h
    · exact h.elim
  case iadd => exact zo_b2 (fun x y => by rw [Int32.ofInt_add]) hz h
  case isub => exact zo_b2 (fun x y => by rw [Int32.ofInt_sub]) hz h
  case imul => exact zo_b2 (fun x y => by rw [Int32.ofInt_mul]) hz h
  case idiv => exact zo_b2c (fun x y q hp => ⟨hp.2.2.2.2, by rw [if_neg (zn_div hp.1 hp.2.1 hp.2.2.1 hp.2.2.2.1).1, (zn_div hp.1 hp.2.1 hp.2.2.1 hp.2.2.2.1).2]⟩) hz h
  case irem => exact zo_b2c (fun x y q hp => ⟨hp.2.2.2.2, by rw [if_neg (zn_div hp.1 hp.2.1 hp.2.2.1 hp.2.2.2.1).1, zn_rem hp.1 hp.2.1 hp.2.2.1 hp.2.2.2.1]⟩) hz h
  case iand => exact zo_b2 (fun x y => by unfold zand; rw [Int32.ofInt_toInt]) hz h
  case ior => exact zo_b2 (fun x y => by unfold zor; rw [Int32.ofInt_toInt]) hz h
  case ixor => exact zo_b2 (fun x y => by unfold zxor; rw [Int32.ofInt_toInt]) hz h
  case ishl => exact zo_b2c (fun x y q hp => ⟨hp.2.2, by rw [zn_shl hp.1 hp.2.1]⟩) hz h
  case ishr => exact zo_b2c (fun x y q hp => ⟨hp.2.2.2, by rw [zn_shr hp.1 hp.2.1 hp.2.2.1]⟩) hz h
  case iushr => exact zo_b2c (fun x y q hp => ⟨hp.2.2, by rw [zn_ushr hp.1 hp.2.1]⟩) hz h
  case ineg =>
    split at h
    · next x r => exact zo_mk hz (by show m_push 1 pc _ _ _ (some (.int (-Int32.ofInt x))) = _; rw [← Int32.ofInt_neg]; rfl) h
    · exact h.elim
  case i2l =>
    split at h
    · next x r => exact zo_mk hz (by show m_push 1 pc _ _ _ (some (.long (Int32.ofInt x).toInt64)) = _; rw [zn_i2l h.1]; rfl) h.2
    · exact h.elim
  case i2b =>
    split at h
    · next x r => exact zo_mk hz (by show m_push 1 pc _ _ _ (some (.int (Int32.ofInt x).toInt8.toInt32)) = some (_, _, .int (Int32.ofInt (zi2b x)) :: _, _); unfold zi2b; rw [Int32.ofInt_toInt]; rfl) h
    · exact h.elim
  case ladd => exact zo_l2 (fun x y => by rw [Int64.ofInt_add]) hz h
  case lsub => exact zo_l2 (fun x y => by rw [Int64.ofInt_sub]) hz h
  case lmul => exact zo_l2 (fun x y => by rw [Int64.ofInt_mul]) hz h
  case land => exact zo_l2 (fun x y => by unfold zandL; rw [Int64.ofInt_toInt]) hz h
  case ldiv =>
    split at h
    · next y x r =>
      obtain ⟨h0, h1, h2, h3, h4⟩ := h
      refine zo_mk hz ?_ h4
      show m_push 1 pc _ _ _ (if Int64.ofInt y = 0 then none else some (.long (Int64.ofInt x / Int64.ofInt y))) = _
      rw [if_neg (zn_ldiv h0 h1 h2 h3).1, (zn_ldiv h0 h1 h2 h3).2]
      rfl
    · exact h.elim
  case lcmp =>
    split at h
    · next y x r => exact zo_mk hz (by show m_push 1 pc _ _ _ (some (.int (lg_cmp (Int64.ofInt x) (Int64.ofInt y)))) = some (_, _, .int (Int32.ofInt (zcmp x y)) :: _, _); unfold zcmp; rw [Int32.ofInt_toInt]; rfl) h
    · exact h.elim
  case lshl =>
    split at h
    · next y x r => exact zo_mk hz (by show m_push 1 pc _ _ _ (some (.long (Int64.ofInt x <<< ((Int32.ofInt y).toInt64 &&& 63)))) = _; rw [zn_lshl h.1 h.2.1]; rfl) h.2.2
    · exact h.elim
  case l2i =>
    split at h
    · next x r => exact zo_mk hz (by show m_push 1 pc _ _ _ (some (.int (Int64.ofInt x).toInt32)) = _; rw [zn_l2i]; rfl) h
    · exact h.elim
  case dup =>
    split at h
    · next v r =>
      obtain ⟨h1, h2⟩ := zcond h
      refine zo_mk hz ?_ h2
      show (if (ze v).category = 1 then _ else _) = _
      rw [if_pos (by rw [zcat_e]; exact Nat.eq_of_beq_eq_true h1)]
      rfl
    · exact h.elim
  case dup2 =>
    split at h
    · next v w r =>
      obtain ⟨h1, h2⟩ := zcond h
      rw [Bool.and_eq_true] at h1
      refine zo_mk hz ?_ h2
      show (if (ze v).category = 1 ∧ (ze w).category = 1 then _ else _) = _
      rw [if_pos ⟨by rw [zcat_e]; exact Nat.eq_of_beq_eq_true h1.1, by rw [zcat_e]; exact Nat.eq_of_beq_eq_true h1.2⟩]
      rfl
    · exact h.elim
  case pop =>
    split at h
    · next v r =>
      obtain ⟨h1, h2⟩ := zcond h
      refine zo_mk hz ?_ h2
      show (if (ze v).category = 1 then _ else _) = _
      rw [if_pos (by rw [zcat_e]; exact Nat.eq_of_beq_eq_true h1)]
    · exact h.elim
  case goto off =>
    split at h
    · next t ht =>
      rw [ht]
      exact zo_mk hz rfl h
    · exact h.elim
  case ifCond c off => exact zo_if hz h
  case if_icmp c off => exact zo_icmp hz h
  case tableswitch df lo hi offs => exact zo_sw hz h
  case getfield k => exact zo_get hz h
  case putfield k => exact zo_put hz h
  case iaload => exact zo_iald hL hz h
  case baload => exact zo_bald hz h
  case laload => exact zo_lald hz h
  case aaload => exact zo_aald hz h
  case iastore => exact zo_iast hz h
  case bastore => exact zo_bast hz h
  case lastore => exact zo_last hz h
  case arraylength => exact zo_len hz h
end ZT
