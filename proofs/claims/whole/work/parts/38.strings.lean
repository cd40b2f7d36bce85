/-! String.length() and String.charAt(int) of the constants: the JDK's own code, method by method -/
def sR0 : String := "java/lang/String"
def sR1 : String := "java/lang/StringLatin1"
def sR3 : String := "jdk/internal/util/Preconditions"
def sy_coder : MethodName := ⟨sR0, "coder", "()B"⟩
def sy_lat : MethodName := ⟨sR0, "isLatin1", "()Z"⟩
def sy_len : MethodName := ⟨sR0, "length", "()I"⟩
def sy_char : MethodName := ⟨sR0, "charAt", "(I)C"⟩
def sy_chk : MethodName := ⟨sR0, "checkIndex", "(II)V"⟩
def sy_lchar : MethodName := ⟨sR1, "charAt", "([BI)C"⟩
def sy_pre : MethodName := ⟨sR3, "checkIndex", "(IILjava/util/function/BiFunction;)I"⟩
theorem sw_coder : Cond.code sy_coder prog_25_method_152_code 1 (some .byte) ∈ mTbl := mHas_ok (by decide +kernel)
theorem sw_lat : Cond.code sy_lat prog_25_method_154_code 1 (some .boolean) ∈ mTbl := mHas_ok (by decide +kernel)
theorem sw_len : Cond.code sy_len prog_25_method_54_code 1 (some .int) ∈ mTbl := mHas_ok (by decide +kernel)
theorem sw_char : Cond.code sy_char prog_25_method_56_code 2 (some .char) ∈ mTbl := mHas_ok (by decide +kernel)
theorem sw_chk : Cond.code sy_chk prog_25_method_155_code 2 none ∈ mTbl := mHas_ok (by decide +kernel)
theorem sw_lchar : Cond.code sy_lchar prog_26_method_2_code 2 (some .char) ∈ mTbl := mHas_ok (by decide +kernel)
theorem sw_pre : Cond.code sy_pre prog_34_method_11_code 3 (some .int) ∈ mTbl := mHas_ok (by decide +kernel)
theorem sw_1 : Cond.fieldLink sR0 38 sR0 "COMPACT_STRINGS" "Z" ∈ mTbl := mHas_ok (by decide +kernel)
theorem sw_2 : Cond.fieldLink sR0 15 sR0 "coder" "B" ∈ mTbl := mHas_ok (by decide +kernel)
theorem sw_3 : Cond.fieldLink sR0 9 sR0 "value" "[B" ∈ mTbl := mHas_ok (by decide +kernel)
theorem sw_4 : Cond.methodLink sR0 335 sy_coder ∈ mTbl := mHas_ok (by decide +kernel)
theorem sw_5 : Cond.instanceMethod sy_coder ∈ mTbl := mHas_ok (by decide +kernel)
theorem sw_6 : Cond.selects sR0 sy_coder sy_coder ∈ mTbl := mHas_ok (by decide +kernel)
theorem sw_7 : Cond.initialized sR0 ∈ mTbl := mHas_ok (by decide +kernel)
theorem sw_8 : Cond.methodLink sR0 492 sy_lat ∈ mTbl := mHas_ok (by decide +kernel)
theorem sw_9 : Cond.instanceMethod sy_lat ∈ mTbl := mHas_ok (by decide +kernel)
theorem sw_10 : Cond.selects sR0 sy_lat sy_lat ∈ mTbl := mHas_ok (by decide +kernel)
theorem sw_11 : Cond.methodLink sR0 495 sy_lchar ∈ mTbl := mHas_ok (by decide +kernel)
theorem sw_12 : Cond.static sy_lchar ∈ mTbl := mHas_ok (by decide +kernel)
theorem sw_13 : Cond.initialized sR1 ∈ mTbl := mHas_ok (by decide +kernel)
theorem sw_14 : Cond.methodLink sR1 9 sy_chk ∈ mTbl := mHas_ok (by decide +kernel)
theorem sw_15 : Cond.static sy_chk ∈ mTbl := mHas_ok (by decide +kernel)
theorem sw_16 : Cond.fieldLink sR0 1053 sR3 "SIOOBE_FORMATTER" "Ljava/util/function/BiFunction;" ∈ mTbl := mHas_ok (by decide +kernel)
theorem sw_17 : Cond.methodLink sR0 1059 sy_pre ∈ mTbl := mHas_ok (by decide +kernel)
theorem sw_18 : Cond.static sy_pre ∈ mTbl := mHas_ok (by decide +kernel)
theorem sw_19 : Cond.initialized sR3 ∈ mTbl := mHas_ok (by decide +kernel)
theorem sw_20 : Cond.instanceMethod sy_len ∈ mTbl := mHas_ok (by decide +kernel)
theorem sw_21 : Cond.selects sR0 sy_len sy_len ∈ mTbl := mHas_ok (by decide +kernel)
theorem sw_22 : Cond.instanceMethod sy_char ∈ mTbl := mHas_ok (by decide +kernel)
theorem sw_23 : Cond.selects sR0 sy_char sy_char ∈ mTbl := mHas_ok (by decide +kernel)
def s_Met (G : mG) (l : Launch) (d : Nat) (y : MethodName) (cc : ByteArray) (nL : Nat) (ret : Option FieldType) (As : List Value) (v : Option Value) : Prop := Met l y (Cond.code y cc nL ret :: mTbl) (c_rm d 0 0) (fun a U => a = As.toArray ∧ g_Env G U) (fun _ st o t => o = .returned v ∧ t.heap = st.heap) 0 0 (fun _ => False)
theorem s_blind {G : mG} {As : List Value} : FrameBlind (fun a U => a = As.toArray ∧ g_Env G U) := fun _ _ _ _ h => ⟨h.1, h.2.blind⟩
section SX
variable {G : mG} {p : Program} {l : Launch} {e : Env} {R : Room} {s : State} {m : MethodId} {args : Array Value} {below : List Frame} {meth : Method} {c : Code} {H : Heap} {locs : List Loc} {cells slots : Nat} {Q : State → Prop} {cc bytes : ByteArray} {nL maxL d n pc idx : Nat} {ret : Option FieldType} {lsA : Array Slot} {As rest : List Value} {v : Option Value} {own : String} {y : MethodName}
theorem s_same (hr : va_Run p l e R s m args below meth c H locs cells slots 0 0 (F0 m pc lsA (As.reverse ++ rest)) rest (fun st o t => o = .returned v ∧ t.heap = st.heap) (fun _ => False)) (kk : W p l e R s m args below meth c H locs cells slots Q (F0 m (pc + 3) lsA (v.toList ++ rest))) : W p l e R s m args below meth c H locs cells slots Q (F0 m pc lsA (As.reverse ++ rest)) := by
  intro T hT X
  obtain ⟨v', st₀, t, T', L, h0, X', hL, e1, e2, ⟨hv, hh⟩, st⟩ := hr T hT X
  cases hv
  have hL0 : L = [] := by
    cases L with
    | nil => rfl
    | cons q L => exact (hL q List.mem_cons_self).elim
  subst hL0
  rw [List.append_nil] at X'
  obtain ⟨t2, a1, b1⟩ := kk T' (by rw [e1, hh, h0]) X'
  exact ⟨t2, st t2 a1, b1⟩
theorem s_callS (hfix : CallFix p m c cc nL s args mTbl own) (hE : g_Env G s) (hS : va_S (g_A G) s.heap H locs) (hM : s_Met G l d y bytes maxL ret As v) (w1 : Cond.code y bytes maxL ret ∈ mTbl) (w2 : Cond.methodLink own idx y ∈ mTbl) (w3 : Cond.static y ∈ mTbl) (w4 : Cond.initialized y.cls ∈ mTbl) (hy : y.cls ≠ "java/lang/invoke/MethodHandle" ∧ y.cls ≠ "java/lang/invoke/VarHandle") (hn : mNpar y = some As.length) (hR : d + 1 ≤ R.frames ∧ 8 + (maxL + 11) + 64 * d ≤ R.locals) (hsz : lsA.size = nL) (hrest : (rest.map fun v => v.category).sum ≤ 8) (hdg : decode cc pc = .ok (.invokestatic idx, 3)) (hcz : cells ≤ R.cells ∧ slots ≤ R.slots)
    (kk : W p l e R s m args below meth c H locs cells slots Q (F0 m (pc + 3) lsA (v.toList ++ rest))) : W p l e R s m args below meth c H locs cells slots Q (F0 m pc lsA (As.reverse ++ rest)) := by
  have hts := hfix.2.2.2.2
  refine s_same (va_runS (As := As) (n := As.length) hfix hM ⟨⟨rfl, rfl, hR.1, hR.2, ?_, List.mem_cons_self, hts _ w1, hts _ w4, hy, fun sig hsig => ?_, hts _ w2⟩, hts _ w3⟩ ⟨s_blind, fun U hU hW => ⟨rfl, hE.to hW hU hS⟩⟩ rfl rfl hsz rfl (by show 2 * 0 + _ ≤ 8; omega) hdg hcz) kk
  · intro w hw a' U hW
    rcases List.mem_cons.mp hw with rfl | hw
    · exact mTbl_pay hts _ w1 a' U hW
    · exact mTbl_pay hts w hw a' U hW
  · unfold mNpar at hn
    rw [hsig] at hn
    exact (Option.some.inj hn).symm
theorem s_callV {a : Nat} (hfix : CallFix p m c cc nL s args mTbl own) (hE : g_Env G s) (hS : va_S (g_A G) s.heap H locs) (hO : va_O y.cls a (g_A G) s s.heap) (hM : s_Met G l d y bytes maxL ret (.ref a :: As) v) (w1 : Cond.code y bytes maxL ret ∈ mTbl) (w2 : Cond.methodLink own idx y ∈ mTbl) (w3 : Cond.instanceMethod y ∈ mTbl) (w5 : Cond.selects y.cls y y ∈ mTbl) (w4 : Cond.initialized y.cls ∈ mTbl) (hy : y.cls ≠ "java/lang/invoke/MethodHandle" ∧ y.cls ≠ "java/lang/invoke/VarHandle") (hn : mNpar y = some As.length) (hR : d + 1 ≤ R.frames ∧ 8 + (maxL + 11) + 64 * d ≤ R.locals) (hsz : lsA.size = nL) (hrest : (rest.map fun v => v.category).sum ≤ 8) (hdg : decode cc pc = .ok (.invokevirtual idx, 3)) (hcz : cells ≤ R.cells ∧ slots ≤ R.slots)
    (kk : W p l e R s m args below meth c H locs cells slots Q (F0 m (pc + 3) lsA (v.toList ++ rest))) : W p l e R s m args below meth c H locs cells slots Q (F0 m pc lsA (As.reverse ++ .ref a :: rest)) := by
  have hts := hfix.2.2.2.2
  have e9 : As.reverse ++ Value.ref a :: rest = (Value.ref a :: As).reverse ++ rest := by simp
  rw [e9]
  refine s_same (As := .ref a :: As) ?_ kk
  refine va_runV (As := As) (b := a) (C := y.cls) (n := As.length) hfix hM ⟨⟨rfl, rfl, hR.1, hR.2, ?_, List.mem_cons_self, hts _ w1, hts _ w4, hy, fun sig hsig => ?_, hts _ w2⟩, hts _ w3, hts _ w5⟩ ⟨s_blind, ?_, fun U hU hW => ⟨rfl, hE.to hW hU hS⟩⟩ rfl rfl hsz e9.symm (by show 2 * 0 + _ ≤ 8; omega) hdg hcz
  · intro w hw a' U hW
    rcases List.mem_cons.mp hw with rfl | hw
    · exact mTbl_pay hts _ w1 a' U hW
    · exact mTbl_pay hts w hw a' U hW
  · unfold mNpar at hn
    rw [hsig] at hn
    exact (Option.some.inj hn).symm
  · obtain ⟨cell, g1, g2, g3, -⟩ := hO.kept hS.2.1
    exact ⟨cell, g1, g2, g3⟩
end SX
/-- coder() -/
theorem s_coder {G : mG} {l : Launch} {t : Nat} {q : String × Nat × String} (h22 : 22 ≤ t) (hq : mStrs[t]? = some q) : s_Met G l 1 sy_coder prog_25_method_152_code 1 (some .byte) [.ref (G.2.2.2.1 (1000001 + t))] (some (.int 0)) := by
  refine Met.ofW (cc := prog_25_method_152_code) (maxL := 1) (ret := some .byte) (by decide +kernel) rfl ?_
  intro p e s m args below meth c s₁ B hml hv
  obtain ⟨rfl, hE⟩ := hv
  have hx := B.exec
  have hb := B.bytes
  have hr := B.returns
  have hts : ∀ w ∈ mTbl, w.before _ s = true := fun w hw => atoms_spec (ws := Cond.code sy_coder prog_25_method_152_code 1 (some .byte) :: mTbl) B.pre w (List.mem_cons_of_mem _ hw)
  have hown : s.vm.findClass sR0 = some m.cls := findClass_of_methodNamed B.named
  have hlocks := B.notSynchronized
  obtain ⟨vv, k1, k2, k3, k4⟩ := hE.2.2.2.2.2.2.2.2.2.2.2.2.1 t q h22 hq
  have hZ := hE.2.2.2.2.2.2.2.2.2.2.2.2.2.1
  have hS : va_S (g_A G) s.heap s.heap [] := va_S.rf
  have hl := lv_entry ([.ref (G.2.2.2.1 (1000001 + t))]) (n := 1) (Nat.le_of_ble_eq_true rfl)
  rw [lg_entry_eq]
  generalize (lg_sl ([.ref (G.2.2.2.1 (1000001 + t))]) ++ List.replicate (1 - (lg_sl ([.ref (G.2.2.2.1 (1000001 + t))])).length) Slot.unset).toArray = ls at hl ⊢
  have hl : lv_has ls 1 [(0, .ref (G.2.2.2.1 (1000001 + t)))] := hl
  refine va_gets (A := g_A G) hx hb hZ hS hown (hts _ sw_1) (fun _ z => z) (show decode prog_25_method_152_code 0 = .ok (.getstatic 38, 3) by decide +kernel) ?_
  refine lv_if_eq (tgt := 13) hx hb (show decode prog_25_method_152_code 3 = .ok (.ifCond .eq 10, 3) by decide +kernel) (by decide) (fun z => absurd z (by decide)) (fun _ => ?_)
  refine lv_aload_n hx hb (show decode prog_25_method_152_code 6 = .ok (.aload_n 0, 1) by decide +kernel) rfl (lv_at hl 0 rfl) ?_
  refine vk_getf (A := g_A G) hx hb k2 hS hown (hts _ sw_2) (fun _ z => z) (show decode prog_25_method_152_code 7 = .ok (.getfield 15, 3) by decide +kernel) ?_
  refine lv_goto (tgt := 14) hx hb (show decode prog_25_method_152_code 10 = .ok (.goto 4, 3) by decide +kernel) (by decide) ?_
  exact W.zret (ty := .byte) hx hb hr rfl (fun t ht _ => ⟨rfl, ht⟩) (fun q hq => by cases hq) (show decode prog_25_method_152_code 14 = .ok (.ireturn, 1) by decide +kernel) hlocks
