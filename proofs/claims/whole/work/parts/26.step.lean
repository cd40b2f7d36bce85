/-! the dispatch: every instruction that is no call and no end -/
section ST3
variable {G : mG} {k d : Nat} {p : Program} {l : Launch} {e : Env} {R : Room} {s : State} {m : MethodId} {args : Array Value} {below : List Frame} {meth : Method} {c : Code} {Q : State → Prop} {nL c0 z0 pc pc' idx : Nat} {ls ls' : mLS} {st st' : List Value} {M M' : mMM}
theorem s_ldc (hF : g_Fr G k d p R s m args meth c) (hdg : decode (mprog k).2.1 pc = .ok (.ldc idx, 2)) (h : m_ldc (mprog k).2.2.2.2.1 pc 2 ls st M idx = some (pc', ls', st', M')) (hk : g_Go G p l e R s m args below meth c Q nL c0 z0 pc' ls' st' M') : g_Go G p l e R s m args below meth c Q nL c0 z0 pc ls st M := by
  obtain ⟨rfl, rfl, hv⟩ := m_ldc_inv h
  obtain ⟨hx, hb, -, hown, hts, -, hE, -⟩ := id hF
  intro H locs lsA cells slots hA
  rcases hv with ⟨v, z, hm, rfl, rfl⟩ | ⟨t, z, hm, -, rfl, rfl⟩
  · exact lv_ldc hx hb hown (hts _ (mcp_int hm)) hdg (hk H locs lsA cells slots hA)
  · obtain ⟨q, hq, h1, h2⟩ := mcp_str hm
    have hs := hE.2.1 t q hq
    rw [h1, h2] at hs
    exact va_ldcS hx hb hown hs hdg (hk H locs lsA cells slots hA)
theorem s_ldcw (hF : g_Fr G k d p R s m args meth c) (hdg : decode (mprog k).2.1 pc = .ok (.ldc_w idx, 3)) (h : m_ldc (mprog k).2.2.2.2.1 pc 3 ls st M idx = some (pc', ls', st', M')) (hk : g_Go G p l e R s m args below meth c Q nL c0 z0 pc' ls' st' M') : g_Go G p l e R s m args below meth c Q nL c0 z0 pc ls st M := by
  obtain ⟨rfl, rfl, hv⟩ := m_ldc_inv h
  obtain ⟨hx, hb, -, hown, hts, -, hE, -⟩ := id hF
  intro H locs lsA cells slots hA
  rcases hv with ⟨v, z, hm, rfl, rfl⟩ | ⟨t, z, hm, h9, -⟩
  · exact lv_ldcw hx hb hown (hts _ (mcp_int hm)) hdg (hk H locs lsA cells slots hA)
  · cases h9
theorem s_ldc2 (hF : g_Fr G k d p R s m args meth c) (hdg : decode (mprog k).2.1 pc = .ok (.ldc2_w idx, 3)) (h : m_ldc2 (mprog k).2.2.2.2.1 pc ls st M idx = some (pc', ls', st', M')) (hk : g_Go G p l e R s m args below meth c Q nL c0 z0 pc' ls' st' M') : g_Go G p l e R s m args below meth c Q nL c0 z0 pc ls st M := by
  obtain ⟨v, z, hm, rfl, rfl, rfl, rfl⟩ := m_ldc2_inv h
  obtain ⟨hx, hb, -, hown, hts, -, hE, -⟩ := id hF
  intro H locs lsA cells slots hA
  exact lv_ldc2 hx hb hown (hts _ (mcp_long hm)) hdg (hk H locs lsA cells slots hA)
theorem s_sw {df lo hi : Int} {offs : Array Int} {len : Nat} (hF : g_Fr G k d p R s m args meth c) (hdg : decode (mprog k).2.1 pc = .ok (.tableswitch df lo hi offs, len)) (h : m_sw pc ls st M df lo hi offs = some (pc', ls', st', M')) (hk : g_Go G p l e R s m args below meth c Q nL c0 z0 pc' ls' st' M') : g_Go G p l e R s m args below meth c Q nL c0 z0 pc ls st M := by
  obtain ⟨x, rfl, rfl, rfl, hv⟩ := m_sw_inv h
  obtain ⟨hx, hb, -⟩ := id hF
  intro H locs lsA cells slots hA
  rcases hv with ⟨h1, h2⟩ | ⟨h1, h2, off, h3, h4⟩
  · exact lv_tableOut hx hb hdg h1 h2 (hk H locs lsA cells slots hA)
  · exact lv_tableIn hx hb hdg h1 h2 h3 h4 (hk H locs lsA cells slots hA)
theorem s_iinc {n : Int} (hF : g_Fr G k d p R s m args meth c) (hdg : decode (mprog k).2.1 pc = .ok (.iinc idx n, 3)) (h : m_iinc pc ls st M idx n = some (pc', ls', st', M')) (hk : g_Go G p l e R s m args below meth c Q nL c0 z0 pc' ls' st' M') : g_Go G p l e R s m args below meth c Q nL c0 z0 pc ls st M := by
  obtain ⟨x, hl, rfl, rfl, rfl, rfl⟩ := m_iinc_inv h
  obtain ⟨hx, hb, -⟩ := id hF
  intro H locs lsA cells slots hA
  obtain ⟨hWd, hS, hL, hcl, hzl⟩ := hA
  obtain ⟨kk, hkk⟩ := List.getElem?_of_mem (g_lv_mem (G := G) hl)
  have hi : idx < nL := by rw [← hL.2.1]; exact (List.getElem?_eq_some_iff.mp hl).1
  exact lv_iinc hx hb hdg hL.has hkk rfl hi rfl fun lsB hB => hk H locs lsB cells slots ⟨hWd, hS, hL.st1 (v := .int (x + Int32.ofInt n)) hB, hcl, hzl⟩
theorem s_if {cd : ClassFile.Cond} {off : Int} {x : Int32} {r : List Value} (hF : g_Fr G k d p R s m args meth c) (hdg : decode (mprog k).2.1 pc = .ok (.ifCond cd off, 3)) (h : m_br (m_if cd x 0) pc off ls r M = some (pc', ls', st', M')) (hk : g_Go G p l e R s m args below meth c Q nL c0 z0 pc' ls' st' M') : g_Go G p l e R s m args below meth c Q nL c0 z0 pc ls (.int x :: r) M := by
  obtain ⟨tg, ht, rfl, rfl, rfl, rfl⟩ := m_br_inv h
  obtain ⟨hx, hb, -⟩ := id hF
  intro H locs lsA cells slots hA
  have hg := hk H locs lsA cells slots hA
  cases cd
  · exact lv_if_eq hx hb hdg ht (fun q => by simpa [m_if, q] using hg) (fun q => by simpa [m_if, q] using hg)
  · exact lv_if_ne hx hb hdg ht (fun q => by simpa [m_if, q] using hg) (fun q => by simpa [m_if, q] using hg)
  · exact lv_if_lt hx hb hdg ht (fun q => by simpa [m_if, q] using hg) (fun q => by simpa [m_if, q] using hg)
  · exact lv_if_ge hx hb hdg ht (fun q => by simpa [m_if, q] using hg) (fun q => by simpa [m_if, q] using hg)
  · exact lv_if_gt hx hb hdg ht (fun q => by simpa [m_if, q] using hg) (fun q => by simpa [m_if, q] using hg)
  · exact lv_if_le hx hb hdg ht (fun q => by simpa [m_if, q] using hg) (fun q => by simpa [m_if, q] using hg)
theorem s_icmp {cd : ClassFile.Cond} {off : Int} {x y : Int32} {r : List Value} (hF : g_Fr G k d p R s m args meth c) (hdg : decode (mprog k).2.1 pc = .ok (.if_icmp cd off, 3)) (h : m_br (m_if cd x y) pc off ls r M = some (pc', ls', st', M')) (hk : g_Go G p l e R s m args below meth c Q nL c0 z0 pc' ls' st' M') : g_Go G p l e R s m args below meth c Q nL c0 z0 pc ls (.int y :: .int x :: r) M := by
  obtain ⟨tg, ht, rfl, rfl, rfl, rfl⟩ := m_br_inv h
  obtain ⟨hx, hb, -⟩ := id hF
  intro H locs lsA cells slots hA
  have hg := hk H locs lsA cells slots hA
  cases cd
  · exact lv_icmp_eq hx hb hdg ht (fun q => by simpa [m_if, q] using hg) (fun q => by simpa [m_if, q] using hg)
  · exact lv_icmp_ne hx hb hdg ht (fun q => by simpa [m_if, q] using hg) (fun q => by simpa [m_if, q] using hg)
  · exact lv_icmp_lt hx hb hdg ht (fun q => by simpa [m_if, q] using hg) (fun q => by simpa [m_if, q] using hg)
  · exact lv_icmp_ge hx hb hdg ht (fun q => by simpa [m_if, q] using hg) (fun q => by simpa [m_if, q] using hg)
  · exact lv_icmp_gt hx hb hdg ht (fun q => by simpa [m_if, q] using hg) (fun q => by simpa [m_if, q] using hg)
  · exact lv_icmp_le hx hb hdg ht (fun q => by simpa [m_if, q] using hg) (fun q => by simpa [m_if, q] using hg)
set_option maxHeartbeats 4000000 in
theorem g_step {L : Nat} {xs : Nat → Int32} {i : Instr} {len : Nat} (hF : g_Fr G k d p R s m args meth c) (hG : L = G.2.2.2.2.1 ∧ xs = G.2.2.2.2.2) (hdg : decode (mprog k).2.1 pc = .ok (i, len)) (hlen : m_isSw i = true ∨ len = m_ilen i) (h : mstep d (mprog k).2.2.2.2.1 (m_ini k) L xs i pc ls st M = some (pc', ls', st', M')) (hR : mCells M' ≤ R.cells + c0 ∧ mZ M' ≤ R.slots + z0)
    (hk : g_Go G p l e R s m args below meth c Q nL c0 z0 pc' ls' st' M') : g_Go G p l e R s m args below meth c Q nL c0 z0 pc ls st M := by
  obtain ⟨hx, hb, -⟩ := id hF
  cases i
  all_goals try (have h0 : (none : Option mMC) = some (pc', ls', st', M') := h; exact absurd h0 (fun q => nomatch q))
  case aaload =>
    obtain rfl : len = 1 := by simpa [m_isSw, m_ilen] using hlen
    exact s_aald hF hdg h hk
  case aastore =>
    obtain rfl : len = 1 := by simpa [m_isSw, m_ilen] using hlen
    exact s_aast hF hdg h hk
  case aload j =>
    obtain rfl : len = 2 := by simpa [m_isSw, m_ilen] using hlen
    obtain ⟨w, hw, rfl, rfl, rfl, rfl⟩ := m_push_inv h
    obtain ⟨x, rfl, hl⟩ := m_ld2 hw
    exact fun H locs lsA cells slots hA => lv_aload hx hb hdg (hA.2.2.1.2.2.2 _ _ hl) (hk H locs lsA cells slots hA)
  case aload_n j =>
    obtain rfl : len = 1 := by simpa [m_isSw, m_ilen] using hlen
    obtain ⟨w, hw, rfl, rfl, rfl, rfl⟩ := m_push_inv h
    obtain ⟨x, rfl, hl⟩ := m_ld2 hw
    exact fun H locs lsA cells slots hA => lv_aload_n hx hb hdg rfl (hA.2.2.1.2.2.2 _ _ hl) (hk H locs lsA cells slots hA)
  case iload j =>
    obtain rfl : len = 2 := by simpa [m_isSw, m_ilen] using hlen
    obtain ⟨w, hw, rfl, rfl, rfl, rfl⟩ := m_push_inv h
    obtain ⟨x, rfl, hl⟩ := m_ld0 hw
    exact fun H locs lsA cells slots hA => lv_iload hx hb hdg (hA.2.2.1.2.2.2 _ _ hl) (hk H locs lsA cells slots hA)
  case iload_n j =>
    obtain rfl : len = 1 := by simpa [m_isSw, m_ilen] using hlen
    obtain ⟨w, hw, rfl, rfl, rfl, rfl⟩ := m_push_inv h
    obtain ⟨x, rfl, hl⟩ := m_ld0 hw
    exact fun H locs lsA cells slots hA => lv_iload_n hx hb hdg rfl (hA.2.2.1.2.2.2 _ _ hl) (hk H locs lsA cells slots hA)
  case lload j =>
    obtain rfl : len = 2 := by simpa [m_isSw, m_ilen] using hlen
    obtain ⟨w, hw, rfl, rfl, rfl, rfl⟩ := m_push_inv h
    obtain ⟨x, rfl, hl⟩ := m_ld1 hw
    exact fun H locs lsA cells slots hA => lv_lload hx hb hdg (hA.2.2.1.2.2.2 _ _ hl) (hk H locs lsA cells slots hA)
  case lload_n j =>
    obtain rfl : len = 1 := by simpa [m_isSw, m_ilen] using hlen
    obtain ⟨w, hw, rfl, rfl, rfl, rfl⟩ := m_push_inv h
    obtain ⟨x, rfl, hl⟩ := m_ld1 hw
    exact fun H locs lsA cells slots hA => lv_lload_n hx hb hdg rfl (hA.2.2.1.2.2.2 _ _ hl) (hk H locs lsA cells slots hA)
  case astore j =>
    obtain rfl : len = 2 := by simpa [m_isSw, m_ilen] using hlen
    obtain ⟨x, r, rfl, hi, rfl, rfl, rfl, rfl⟩ := m_sto2 h
    exact fun H locs lsA cells slots hA => lv_astore hx hb hdg hA.2.2.1.has (by rw [← hA.2.2.1.2.1]; exact hi) rfl fun lsB hB => hk H locs lsB cells slots ⟨hA.1, hA.2.1, hA.2.2.1.st1 (v := .ref x) hB, hA.2.2.2⟩
  case astore_n j =>
    obtain rfl : len = 1 := by simpa [m_isSw, m_ilen] using hlen
    obtain ⟨x, r, rfl, hi, rfl, rfl, rfl, rfl⟩ := m_sto2 h
    exact fun H locs lsA cells slots hA => lv_astore_n hx hb hdg rfl hA.2.2.1.has (by rw [← hA.2.2.1.2.1]; exact hi) rfl fun lsB hB => hk H locs lsB cells slots ⟨hA.1, hA.2.1, hA.2.2.1.st1 (v := .ref x) hB, hA.2.2.2⟩
  case istore j =>
    obtain rfl : len = 2 := by simpa [m_isSw, m_ilen] using hlen
    obtain ⟨x, r, rfl, hi, rfl, rfl, rfl, rfl⟩ := m_sto0 h
    exact fun H locs lsA cells slots hA => lv_istore hx hb hdg hA.2.2.1.has (by rw [← hA.2.2.1.2.1]; exact hi) rfl fun lsB hB => hk H locs lsB cells slots ⟨hA.1, hA.2.1, hA.2.2.1.st1 (v := .int x) hB, hA.2.2.2⟩
  case istore_n j =>
    obtain rfl : len = 1 := by simpa [m_isSw, m_ilen] using hlen
    obtain ⟨x, r, rfl, hi, rfl, rfl, rfl, rfl⟩ := m_sto0 h
    exact fun H locs lsA cells slots hA => lv_istore_n hx hb hdg rfl hA.2.2.1.has (by rw [← hA.2.2.1.2.1]; exact hi) rfl fun lsB hB => hk H locs lsB cells slots ⟨hA.1, hA.2.1, hA.2.2.1.st1 (v := .int x) hB, hA.2.2.2⟩
  case lstore j =>
    obtain rfl : len = 2 := by simpa [m_isSw, m_ilen] using hlen
    obtain ⟨x, r, rfl, hi, rfl, rfl, rfl, rfl⟩ := m_sto1 h
    exact fun H locs lsA cells slots hA => lv_lstore hx hb hdg hA.2.2.1.has (by rw [← hA.2.2.1.2.1]; exact hi) rfl fun lsB hB => hk H locs lsB cells slots ⟨hA.1, hA.2.1, hA.2.2.1.st2 (v := .long x) hB, hA.2.2.2⟩
  case lstore_n j =>
    obtain rfl : len = 1 := by simpa [m_isSw, m_ilen] using hlen
    obtain ⟨x, r, rfl, hi, rfl, rfl, rfl, rfl⟩ := m_sto1 h
    exact fun H locs lsA cells slots hA => lv_lstore_n hx hb hdg rfl hA.2.2.1.has (by rw [← hA.2.2.1.2.1]; exact hi) rfl fun lsB hB => hk H locs lsB cells slots ⟨hA.1, hA.2.1, hA.2.2.1.st2 (v := .long x) hB, hA.2.2.2⟩
  case anewarray j =>
    obtain rfl : len = 3 := by simpa [m_isSw, m_ilen] using hlen
    exact s_cast hF hdg h hR hk
  case arraylength =>
    obtain rfl : len = 1 := by simpa [m_isSw, m_ilen] using hlen
    exact s_len hF hG.1 hdg h hk
  case baload =>
    obtain rfl : len = 1 := by simpa [m_isSw, m_ilen] using hlen
    exact s_bald hF hdg h hk
  case bastore =>
    obtain rfl : len = 1 := by simpa [m_isSw, m_ilen] using hlen
    exact s_bast hF hdg h hk
  case bipush n =>
    obtain rfl : len = 2 := by simpa [m_isSw, m_ilen] using hlen
    simp only [mstep] at h
    obtain ⟨w, hw, rfl, rfl, rfl, rfl⟩ := m_push_inv h
    cases hw
    exact fun H locs lsA cells slots hA => lv_bipush hx hb hdg rfl (hk H locs lsA cells slots hA)
  case sipush n =>
    obtain rfl : len = 3 := by simpa [m_isSw, m_ilen] using hlen
    simp only [mstep] at h
    obtain ⟨w, hw, rfl, rfl, rfl, rfl⟩ := m_push_inv h
    cases hw
    exact fun H locs lsA cells slots hA => lv_sipush hx hb hdg rfl (hk H locs lsA cells slots hA)
  case iconst n =>
    obtain rfl : len = 1 := by simpa [m_isSw, m_ilen] using hlen
    simp only [mstep] at h
    obtain ⟨w, hw, rfl, rfl, rfl, rfl⟩ := m_push_inv h
    cases hw
    exact fun H locs lsA cells slots hA => lv_iconst hx hb hdg rfl (hk H locs lsA cells slots hA)
  case lconst n =>
    obtain rfl : len = 1 := by simpa [m_isSw, m_ilen] using hlen
    simp only [mstep] at h
    obtain ⟨w, hw, rfl, rfl, rfl, rfl⟩ := m_push_inv h
    cases hw
    exact fun H locs lsA cells slots hA => lv_lconst hx hb hdg rfl (hk H locs lsA cells slots hA)
  case dup =>
    obtain rfl : len = 1 := by simpa [m_isSw, m_ilen] using hlen
    simp only [mstep] at h
    split at h
    · next v r =>
      split at h
      · next hv =>
        simp only [Option.some.injEq, Prod.mk.injEq] at h
        obtain ⟨rfl, rfl, rfl, rfl⟩ := h
        exact fun H locs lsA cells slots hA => lv_dup hx hb hdg (by rw [g_cat]; exact hv) (hk H locs lsA cells slots hA)
      · cases h
    · cases h
  case dup2 =>
    obtain rfl : len = 1 := by simpa [m_isSw, m_ilen] using hlen
    simp only [mstep] at h
    split at h
    · next v w r =>
      split at h
      · next hv =>
        simp only [Option.some.injEq, Prod.mk.injEq] at h
        obtain ⟨rfl, rfl, rfl, rfl⟩ := h
        exact fun H locs lsA cells slots hA => lv_dup2_11 hx hb hdg (by rw [g_cat]; exact hv.1) (by rw [g_cat]; exact hv.2) (hk H locs lsA cells slots hA)
      · cases h
    · cases h
  case pop =>
    obtain rfl : len = 1 := by simpa [m_isSw, m_ilen] using hlen
    simp only [mstep] at h
    split at h
    · next v r =>
      split at h
      · next hv =>
        simp only [Option.some.injEq, Prod.mk.injEq] at h
        obtain ⟨rfl, rfl, rfl, rfl⟩ := h
        exact fun H locs lsA cells slots hA => lv_pop hx hb hdg (by rw [g_cat]; exact hv) (hk H locs lsA cells slots hA)
      · cases h
    · cases h
  case getfield j =>
    obtain rfl : len = 3 := by simpa [m_isSw, m_ilen] using hlen
    exact s_get hF hdg h hk
  case putfield j =>
    obtain rfl : len = 3 := by simpa [m_isSw, m_ilen] using hlen
    exact s_put hF hdg h hk
  case goto off =>
    obtain rfl : len = 3 := by simpa [m_isSw, m_ilen] using hlen
    simp only [mstep] at h
    split at h
    · next t ht =>
      simp only [Option.some.injEq, Prod.mk.injEq] at h
      obtain ⟨rfl, rfl, rfl, rfl⟩ := h
      exact fun H locs lsA cells slots hA => lv_goto hx hb hdg (m_jmp_inv ht) (hk H locs lsA cells slots hA)
    · cases h
  case i2b =>
    obtain rfl : len = 1 := by simpa [m_isSw, m_ilen] using hlen
    obtain ⟨x, r, w, rfl, hw, rfl, rfl, rfl, rfl⟩ := m_i1_inv h
    cases hw
    exact fun H locs lsA cells slots hA => lv_i2b hx hb hdg rfl (hk H locs lsA cells slots hA)
  case i2l =>
    obtain rfl : len = 1 := by simpa [m_isSw, m_ilen] using hlen
    obtain ⟨x, r, w, rfl, hw, rfl, rfl, rfl, rfl⟩ := m_i1_inv h
    cases hw
    exact fun H locs lsA cells slots hA => lv_i2l hx hb hdg rfl (hk H locs lsA cells slots hA)
  case ineg =>
    obtain rfl : len = 1 := by simpa [m_isSw, m_ilen] using hlen
    obtain ⟨x, r, w, rfl, hw, rfl, rfl, rfl, rfl⟩ := m_i1_inv h
    cases hw
    exact fun H locs lsA cells slots hA => lv_ineg hx hb hdg (hk H locs lsA cells slots hA)
  case iadd =>
    obtain rfl : len = 1 := by simpa [m_isSw, m_ilen] using hlen
    obtain ⟨x, y, r, w, rfl, hw, rfl, rfl, rfl, rfl⟩ := m_i2_inv h
    cases hw
    exact fun H locs lsA cells slots hA => lv_iadd hx hb hdg (hk H locs lsA cells slots hA)
  case isub =>
    obtain rfl : len = 1 := by simpa [m_isSw, m_ilen] using hlen
    obtain ⟨x, y, r, w, rfl, hw, rfl, rfl, rfl, rfl⟩ := m_i2_inv h
    cases hw
    exact fun H locs lsA cells slots hA => lv_isub hx hb hdg (hk H locs lsA cells slots hA)
  case imul =>
    obtain rfl : len = 1 := by simpa [m_isSw, m_ilen] using hlen
    obtain ⟨x, y, r, w, rfl, hw, rfl, rfl, rfl, rfl⟩ := m_i2_inv h
    cases hw
    exact fun H locs lsA cells slots hA => lv_imul hx hb hdg (hk H locs lsA cells slots hA)
  case iand =>
    obtain rfl : len = 1 := by simpa [m_isSw, m_ilen] using hlen
    obtain ⟨x, y, r, w, rfl, hw, rfl, rfl, rfl, rfl⟩ := m_i2_inv h
    cases hw
    exact fun H locs lsA cells slots hA => lv_iand hx hb hdg (hk H locs lsA cells slots hA)
  case ior =>
    obtain rfl : len = 1 := by simpa [m_isSw, m_ilen] using hlen
    obtain ⟨x, y, r, w, rfl, hw, rfl, rfl, rfl, rfl⟩ := m_i2_inv h
    cases hw
    exact fun H locs lsA cells slots hA => lv_ior hx hb hdg (hk H locs lsA cells slots hA)
  case ixor =>
    obtain rfl : len = 1 := by simpa [m_isSw, m_ilen] using hlen
    obtain ⟨x, y, r, w, rfl, hw, rfl, rfl, rfl, rfl⟩ := m_i2_inv h
    cases hw
    exact fun H locs lsA cells slots hA => lv_ixor hx hb hdg (hk H locs lsA cells slots hA)
  case ishl =>
    obtain rfl : len = 1 := by simpa [m_isSw, m_ilen] using hlen
    obtain ⟨x, y, r, w, rfl, hw, rfl, rfl, rfl, rfl⟩ := m_i2_inv h
    cases hw
    exact fun H locs lsA cells slots hA => lv_ishl hx hb hdg (hk H locs lsA cells slots hA)
  case ishr =>
    obtain rfl : len = 1 := by simpa [m_isSw, m_ilen] using hlen
    obtain ⟨x, y, r, w, rfl, hw, rfl, rfl, rfl, rfl⟩ := m_i2_inv h
    cases hw
    exact fun H locs lsA cells slots hA => lv_ishr hx hb hdg (hk H locs lsA cells slots hA)
  case iushr =>
    obtain rfl : len = 1 := by simpa [m_isSw, m_ilen] using hlen
    obtain ⟨x, y, r, w, rfl, hw, rfl, rfl, rfl, rfl⟩ := m_i2_inv h
    cases hw
    exact fun H locs lsA cells slots hA => lv_iushr hx hb hdg rfl (hk H locs lsA cells slots hA)
  case idiv =>
    obtain rfl : len = 1 := by simpa [m_isSw, m_ilen] using hlen
    obtain ⟨x, y, r, w, rfl, hw, rfl, rfl, rfl, rfl⟩ := m_i2_inv h
    split at hw
    · cases hw
    · next hy =>
      cases hw
      exact fun H locs lsA cells slots hA => lv_idiv hx hb hdg hy (hk H locs lsA cells slots hA)
  case irem =>
    obtain rfl : len = 1 := by simpa [m_isSw, m_ilen] using hlen
    obtain ⟨x, y, r, w, rfl, hw, rfl, rfl, rfl, rfl⟩ := m_i2_inv h
    split at hw
    · cases hw
    · next hy =>
      cases hw
      exact fun H locs lsA cells slots hA => lv_irem hx hb hdg hy (hk H locs lsA cells slots hA)
  case ladd =>
    obtain rfl : len = 1 := by simpa [m_isSw, m_ilen] using hlen
    obtain ⟨x, y, r, w, rfl, hw, rfl, rfl, rfl, rfl⟩ := m_l2_inv h
    cases hw
    exact fun H locs lsA cells slots hA => lv_ladd hx hb hdg (hk H locs lsA cells slots hA)
  case lsub =>
    obtain rfl : len = 1 := by simpa [m_isSw, m_ilen] using hlen
    obtain ⟨x, y, r, w, rfl, hw, rfl, rfl, rfl, rfl⟩ := m_l2_inv h
    cases hw
    exact fun H locs lsA cells slots hA => lv_lsub hx hb hdg (hk H locs lsA cells slots hA)
  case lmul =>
    obtain rfl : len = 1 := by simpa [m_isSw, m_ilen] using hlen
    obtain ⟨x, y, r, w, rfl, hw, rfl, rfl, rfl, rfl⟩ := m_l2_inv h
    cases hw
    exact fun H locs lsA cells slots hA => lv_lmul hx hb hdg (hk H locs lsA cells slots hA)
  case land =>
    obtain rfl : len = 1 := by simpa [m_isSw, m_ilen] using hlen
    obtain ⟨x, y, r, w, rfl, hw, rfl, rfl, rfl, rfl⟩ := m_l2_inv h
    cases hw
    exact fun H locs lsA cells slots hA => lv_land hx hb hdg (hk H locs lsA cells slots hA)
  case ldiv =>
    obtain rfl : len = 1 := by simpa [m_isSw, m_ilen] using hlen
    obtain ⟨x, y, r, w, rfl, hw, rfl, rfl, rfl, rfl⟩ := m_l2_inv h
    split at hw
    · cases hw
    · next hy =>
      cases hw
      exact fun H locs lsA cells slots hA => lv_ldiv hx hb hdg hy (hk H locs lsA cells slots hA)
  case lcmp =>
    obtain rfl : len = 1 := by simpa [m_isSw, m_ilen] using hlen
    obtain ⟨x, y, r, w, rfl, hw, rfl, rfl, rfl, rfl⟩ := m_l2_inv h
    cases hw
    exact fun H locs lsA cells slots hA => W.lcmp hx hb hdg (hk H locs lsA cells slots hA)
  case lshl =>
    obtain rfl : len = 1 := by simpa [m_isSw, m_ilen] using hlen
    simp only [mstep] at h
    split at h
    · next y x r =>
      obtain ⟨w, hw, rfl, rfl, rfl, rfl⟩ := m_push_inv h
      cases hw
      exact fun H locs lsA cells slots hA => lv_lshl hx hb hdg rfl (hk H locs lsA cells slots hA)
    · cases h
  case l2i =>
    obtain rfl : len = 1 := by simpa [m_isSw, m_ilen] using hlen
    simp only [mstep] at h
    split at h
    · next x r =>
      obtain ⟨w, hw, rfl, rfl, rfl, rfl⟩ := m_push_inv h
      cases hw
      exact fun H locs lsA cells slots hA => lv_l2i hx hb hdg rfl (hk H locs lsA cells slots hA)
    · cases h
  case iaload =>
    obtain rfl : len = 1 := by simpa [m_isSw, m_ilen] using hlen
    exact s_iald hF hG hdg h hk
  case iastore =>
    obtain rfl : len = 1 := by simpa [m_isSw, m_ilen] using hlen
    exact s_iast hF hdg h hk
  case laload =>
    obtain rfl : len = 1 := by simpa [m_isSw, m_ilen] using hlen
    exact s_lald hF hdg h hk
  case lastore =>
    obtain rfl : len = 1 := by simpa [m_isSw, m_ilen] using hlen
    exact s_last hF hdg h hk
  case ifCond cd off =>
    obtain rfl : len = 3 := by simpa [m_isSw, m_ilen] using hlen
    simp only [mstep] at h
    split at h
    · exact s_if hF hdg h hk
    · cases h
  case if_icmp cd off =>
    obtain rfl : len = 3 := by simpa [m_isSw, m_ilen] using hlen
    simp only [mstep] at h
    split at h
    · exact s_icmp hF hdg h hk
    · cases h
  case iinc j n =>
    obtain rfl : len = 3 := by simpa [m_isSw, m_ilen] using hlen
    exact s_iinc hF hdg h hk
  case ldc j =>
    obtain rfl : len = 2 := by simpa [m_isSw, m_ilen] using hlen
    exact s_ldc hF hdg h hk
  case ldc_w j =>
    obtain rfl : len = 3 := by simpa [m_isSw, m_ilen] using hlen
    exact s_ldcw hF hdg h hk
  case ldc2_w j =>
    obtain rfl : len = 3 := by simpa [m_isSw, m_ilen] using hlen
    exact s_ldc2 hF hdg h hk
  case multianewarray j dim =>
    obtain rfl : len = 4 := by simpa [m_isSw, m_ilen] using hlen
    exact s_mna hF hdg h hR hk
  case new j =>
    obtain rfl : len = 3 := by simpa [m_isSw, m_ilen] using hlen
    exact s_obj hF hdg h hR hk
  case newarray t =>
    obtain rfl : len = 2 := by simpa [m_isSw, m_ilen] using hlen
    exact s_newa hF hdg h hR hk
  case tableswitch df lo hi offs =>
    exact s_sw hF hdg h hk
end ST3
