/-! String.length() and String.charAt(int): the rest -/
theorem s_lat {G : mG} {l : Launch} {t : Nat} {q : String × Nat × String} (h22 : 22 ≤ t) (hq : mStrs[t]? = some q) : s_Met G l 1 sy_lat prog_25_method_154_code 1 (some .boolean) [.ref (G.2.2.2.1 (1000001 + t))] (some (.int 1)) := by
  refine Met.ofW (cc := prog_25_method_154_code) (maxL := 1) (ret := (some .boolean)) (by decide +kernel) rfl ?_
  intro p e s m args below meth c s₁ B hml hv
  obtain ⟨rfl, hE⟩ := hv
  have hx := B.exec
  have hb := B.bytes
  have hr := B.returns
  have hts : ∀ w ∈ mTbl, w.before _ s = true := fun w hw => atoms_spec (ws := Cond.code sy_lat prog_25_method_154_code 1 (some .boolean) :: mTbl) B.pre w (List.mem_cons_of_mem _ hw)
  have hown : s.vm.findClass sy_lat.cls = some m.cls := findClass_of_methodNamed B.named
  have hlocks := B.notSynchronized
  have hS : va_S (g_A G) s.heap s.heap [] := va_S.rf
  have hfix : CallFix p m c prog_25_method_154_code 1 s [.ref (G.2.2.2.1 (1000001 + t))].toArray mTbl sy_lat.cls := ⟨hx, hb, hml, hown, hts⟩
  have hl := lv_entry ([.ref (G.2.2.2.1 (1000001 + t))]) (n := 1) (Nat.le_of_ble_eq_true rfl)
  rw [lg_entry_eq]
  generalize (lg_sl ([.ref (G.2.2.2.1 (1000001 + t))]) ++ List.replicate (1 - (lg_sl ([.ref (G.2.2.2.1 (1000001 + t))])).length) Slot.unset).toArray = ls at hl ⊢
  have hl : lv_has ls 1 [(0, .ref (G.2.2.2.1 (1000001 + t)))] := hl
  obtain ⟨vv, k1, k2, k3, k4⟩ := hE.2.2.2.2.2.2.2.2.2.2.2.2.1 t q h22 hq
  have hZ := hE.2.2.2.2.2.2.2.2.2.2.2.2.2.1
  refine va_gets (A := g_A G) hx hb hZ hS hown (hts _ sw_1) (fun _ z => z) (show decode prog_25_method_154_code 0 = .ok (.getstatic 38, 3) by decide +kernel) ?_
  refine lv_if_eq (tgt := 17) hx hb (show decode prog_25_method_154_code 3 = .ok (.ifCond .eq 14, 3) by decide +kernel) (by decide) (fun z => absurd z (by decide)) (fun _ => ?_)
  refine lv_aload_n hx hb (show decode prog_25_method_154_code 6 = .ok (.aload_n 0, 1) by decide +kernel) rfl (lv_at hl 0 rfl) ?_
  refine vk_getf (A := g_A G) hx hb k2 hS hown (hts _ sw_2) (fun _ z => z) (show decode prog_25_method_154_code 7 = .ok (.getfield 15, 3) by decide +kernel) ?_
  refine lv_if_ne (tgt := 17) hx hb (show decode prog_25_method_154_code 10 = .ok (.ifCond .ne 7, 3) by decide +kernel) (by decide) (fun z => absurd rfl z) (fun _ => ?_)
  refine lv_iconst (v := 1) hx hb (show decode prog_25_method_154_code 13 = .ok (.iconst 1, 1) by decide +kernel) rfl ?_
  refine lv_goto (tgt := 18) hx hb (show decode prog_25_method_154_code 14 = .ok (.goto 4, 3) by decide +kernel) (by decide) ?_
  exact W.zret (ty := .boolean) hx hb hr rfl (fun t ht _ => ⟨rfl, ht⟩) (fun q hq => by cases hq) (show decode prog_25_method_154_code 18 = .ok (.ireturn, 1) by decide +kernel) hlocks
theorem s_shr0 (x : Int32) : x >>> ((0 : Int32) &&& 31) = x := by
  have h : (0 : Int32) &&& 31 = 0 := by decide
  rw [h]
  exact Int32.toBitVec_inj.mp (by simp)
theorem s_leng {G : mG} {l : Launch} {t : Nat} {q : String × Nat × String} (h22 : 22 ≤ t) (hq : mStrs[t]? = some q) : s_Met G l 2 sy_len prog_25_method_54_code 1 (some .int) [.ref (G.2.2.2.1 (1000001 + t))] (some (.int (Int32.ofNat q.2.2.length))) := by
  refine Met.ofW (cc := prog_25_method_54_code) (maxL := 1) (ret := (some .int)) (by decide +kernel) rfl ?_
  intro p e s m args below meth c s₁ B hml hv
  obtain ⟨rfl, hE⟩ := hv
  have hx := B.exec
  have hb := B.bytes
  have hr := B.returns
  have hts : ∀ w ∈ mTbl, w.before _ s = true := fun w hw => atoms_spec (ws := Cond.code sy_len prog_25_method_54_code 1 (some .int) :: mTbl) B.pre w (List.mem_cons_of_mem _ hw)
  have hown : s.vm.findClass sy_len.cls = some m.cls := findClass_of_methodNamed B.named
  have hlocks := B.notSynchronized
  have hS : va_S (g_A G) s.heap s.heap [] := va_S.rf
  have hfix : CallFix p m c prog_25_method_54_code 1 s [.ref (G.2.2.2.1 (1000001 + t))].toArray mTbl sy_len.cls := ⟨hx, hb, hml, hown, hts⟩
  have hl := lv_entry ([.ref (G.2.2.2.1 (1000001 + t))]) (n := 1) (Nat.le_of_ble_eq_true rfl)
  rw [lg_entry_eq]
  generalize (lg_sl ([.ref (G.2.2.2.1 (1000001 + t))]) ++ List.replicate (1 - (lg_sl ([.ref (G.2.2.2.1 (1000001 + t))])).length) Slot.unset).toArray = ls at hl ⊢
  have hl : lv_has ls 1 [(0, .ref (G.2.2.2.1 (1000001 + t)))] := hl
  obtain ⟨vv, k1, k2, k3, k4⟩ := hE.2.2.2.2.2.2.2.2.2.2.2.2.1 t q h22 hq
  refine lv_aload_n hx hb (show decode prog_25_method_54_code 0 = .ok (.aload_n 0, 1) by decide +kernel) rfl (lv_at hl 0 rfl) ?_
  refine vk_getf (A := g_A G) hx hb k3 hS hown (hts _ sw_3) (fun _ z => z) (show decode prog_25_method_54_code 1 = .ok (.getfield 9, 3) by decide +kernel) ?_
  refine va_tlen (A := g_A G) hx hb k4 hS rfl (show decode prog_25_method_54_code 4 = .ok (.arraylength, 1) by decide +kernel) ?_
  refine lv_aload_n hx hb (show decode prog_25_method_54_code 5 = .ok (.aload_n 0, 1) by decide +kernel) rfl (lv_at hl 0 rfl) ?_
  refine s_callV (G := G) (As := []) (rest := [.int (Int32.ofNat q.2.2.length)]) (pc := 6) hfix hE hS k1 (s_coder h22 hq) sw_coder sw_4 sw_5 sw_6 sw_7 ⟨by decide, by decide⟩ rfl ⟨Nat.le_refl _, Nat.le_of_ble_eq_true rfl⟩ hl.1 (Nat.le_of_ble_eq_true rfl) (show decode prog_25_method_54_code 6 = .ok (.invokevirtual 335, 3) by decide +kernel) ⟨Nat.le_refl _, Nat.le_refl _⟩ ?_
  refine lv_ishr (x := Int32.ofNat q.2.2.length) (y := 0) (rest := []) hx hb (show decode prog_25_method_54_code 9 = .ok (.ishr, 1) by decide +kernel) ?_
  exact W.iret hx hb hr (fun t ht _ => ⟨by rw [s_shr0], ht⟩) (fun q hq => by cases hq) (show decode prog_25_method_54_code 10 = .ok (.ireturn, 1) by decide +kernel) hlocks
theorem s_pre {G : mG} {l : Launch} {i n : Int32} {w : Value} (hw : w = .null ∨ ∃ a, w = .ref a) (h0 : ¬ i < 0) (h1 : i < n) : s_Met G l 1 sy_pre prog_34_method_11_code 3 (some .int) [.int i, .int n, w] (some (.int i)) := by
  refine Met.ofW (cc := prog_34_method_11_code) (maxL := 3) (ret := (some .int)) (by decide +kernel) rfl ?_
  intro p e s m args below meth c s₁ B hml hv
  obtain ⟨rfl, hE⟩ := hv
  have hx := B.exec
  have hb := B.bytes
  have hr := B.returns
  have hts : ∀ w ∈ mTbl, w.before _ s = true := fun w hw => atoms_spec (ws := Cond.code sy_pre prog_34_method_11_code 3 (some .int) :: mTbl) B.pre w (List.mem_cons_of_mem _ hw)
  have hown : s.vm.findClass sy_pre.cls = some m.cls := findClass_of_methodNamed B.named
  have hlocks := B.notSynchronized
  have hS : va_S (g_A G) s.heap s.heap [] := va_S.rf
  have hfix : CallFix p m c prog_34_method_11_code 3 s [.int i, .int n, w].toArray mTbl sy_pre.cls := ⟨hx, hb, hml, hown, hts⟩
  have hwc : w.category = 1 := by rcases hw with rfl | ⟨a, rfl⟩ <;> rfl
  have hl := lv_entry ([.int i, .int n, w]) (n := 3) (by unfold lg_sl; rcases hw with rfl | ⟨a, rfl⟩ <;> exact Nat.le_of_ble_eq_true rfl)
  rw [lg_entry_eq]
  generalize (lg_sl ([.int i, .int n, w]) ++ List.replicate (3 - (lg_sl ([.int i, .int n, w])).length) Slot.unset).toArray = ls at hl ⊢
  have hl : lv_has ls 3 [(0, .int i), (1, .int n), (2, w)] := by rcases hw with rfl | ⟨a, rfl⟩ <;> exact hl
  refine lv_iload_n hx hb (show decode prog_34_method_11_code 0 = .ok (.iload_n 0, 1) by decide +kernel) rfl (lv_at hl 0 rfl) ?_
  refine lv_if_lt (tgt := 9) hx hb (show decode prog_34_method_11_code 1 = .ok (.ifCond .lt 8, 3) by decide +kernel) (by decide) (fun z => absurd z h0) (fun _ => ?_)
  refine lv_iload_n hx hb (show decode prog_34_method_11_code 4 = .ok (.iload_n 0, 1) by decide +kernel) rfl (lv_at hl 0 rfl) ?_
  refine lv_iload_n hx hb (show decode prog_34_method_11_code 5 = .ok (.iload_n 1, 1) by decide +kernel) rfl (lv_at hl 1 rfl) ?_
  refine lv_icmp_lt (tgt := 16) hx hb (show decode prog_34_method_11_code 6 = .ok (.if_icmp .lt 10, 3) by decide +kernel) (by decide) (fun _ => ?_) (fun z => absurd h1 z)
  refine lv_iload_n hx hb (show decode prog_34_method_11_code 16 = .ok (.iload_n 0, 1) by decide +kernel) rfl (lv_at hl 0 rfl) ?_
  exact W.iret hx hb hr (fun t ht _ => ⟨rfl, ht⟩) (fun q hq => by cases hq) (show decode prog_34_method_11_code 17 = .ok (.ireturn, 1) by decide +kernel) hlocks
theorem s_chk {G : mG} {l : Launch} {i n : Int32} (h0 : ¬ i < 0) (h1 : i < n) : s_Met G l 2 sy_chk prog_25_method_155_code 2 none [.int i, .int n] none := by
  refine Met.ofW (cc := prog_25_method_155_code) (maxL := 2) (ret := none) (by decide +kernel) rfl ?_
  intro p e s m args below meth c s₁ B hml hv
  obtain ⟨rfl, hE⟩ := hv
  have hx := B.exec
  have hb := B.bytes
  have hr := B.returns
  have hts : ∀ w ∈ mTbl, w.before _ s = true := fun w hw => atoms_spec (ws := Cond.code sy_chk prog_25_method_155_code 2 none :: mTbl) B.pre w (List.mem_cons_of_mem _ hw)
  have hown : s.vm.findClass sy_chk.cls = some m.cls := findClass_of_methodNamed B.named
  have hlocks := B.notSynchronized
  have hS : va_S (g_A G) s.heap s.heap [] := va_S.rf
  have hfix : CallFix p m c prog_25_method_155_code 2 s [.int i, .int n].toArray mTbl sy_chk.cls := ⟨hx, hb, hml, hown, hts⟩
  have hl := lv_entry ([.int i, .int n]) (n := 2) (Nat.le_of_ble_eq_true rfl)
  rw [lg_entry_eq]
  generalize (lg_sl ([.int i, .int n]) ++ List.replicate (2 - (lg_sl ([.int i, .int n])).length) Slot.unset).toArray = ls at hl ⊢
  have hl : lv_has ls 2 [(0, .int i), (1, .int n)] := hl
  rcases hE.2.2.2.2.2.2.2.2.2.2.2.2.2.2 with hZ | ⟨a, hZ⟩
  · refine lv_iload_n hx hb (show decode prog_25_method_155_code 0 = .ok (.iload_n 0, 1) by decide +kernel) rfl (lv_at hl 0 rfl) ?_
    refine lv_iload_n hx hb (show decode prog_25_method_155_code 1 = .ok (.iload_n 1, 1) by decide +kernel) rfl (lv_at hl 1 rfl) ?_
    refine va_gets (A := g_A G) hx hb hZ hS hown (hts _ sw_16) (fun _ z => z) (show decode prog_25_method_155_code 2 = .ok (.getstatic 1053, 3) by decide +kernel) ?_
    refine s_callS (G := G) (As := [.int i, .int n, .null]) (rest := []) (pc := 5) hfix hE hS (s_pre (Or.inl rfl) h0 h1) sw_pre sw_17 sw_18 sw_19 ⟨by decide, by decide⟩ rfl ⟨Nat.le_refl _, Nat.le_of_ble_eq_true rfl⟩ hl.1 (Nat.le_of_ble_eq_true rfl) (show decode prog_25_method_155_code 5 = .ok (.invokestatic 1059, 3) by decide +kernel) ⟨Nat.le_refl _, Nat.le_refl _⟩ ?_
    refine lv_pop (va := .int i) (rest := []) hx hb (show decode prog_25_method_155_code 8 = .ok (.pop, 1) by decide +kernel) rfl ?_
    exact W.vret hx hb hr (fun t ht _ => ⟨rfl, ht⟩) (fun q hq => by cases hq) (show decode prog_25_method_155_code 9 = .ok (.return_, 1) by decide +kernel) hlocks
  · refine lv_iload_n hx hb (show decode prog_25_method_155_code 0 = .ok (.iload_n 0, 1) by decide +kernel) rfl (lv_at hl 0 rfl) ?_
    refine lv_iload_n hx hb (show decode prog_25_method_155_code 1 = .ok (.iload_n 1, 1) by decide +kernel) rfl (lv_at hl 1 rfl) ?_
    refine va_gets (A := g_A G) hx hb hZ hS hown (hts _ sw_16) (fun _ z => z) (show decode prog_25_method_155_code 2 = .ok (.getstatic 1053, 3) by decide +kernel) ?_
    refine s_callS (G := G) (As := [.int i, .int n, .ref a]) (rest := []) (pc := 5) hfix hE hS (s_pre (Or.inr ⟨a, rfl⟩) h0 h1) sw_pre sw_17 sw_18 sw_19 ⟨by decide, by decide⟩ rfl ⟨Nat.le_refl _, Nat.le_of_ble_eq_true rfl⟩ hl.1 (Nat.le_of_ble_eq_true rfl) (show decode prog_25_method_155_code 5 = .ok (.invokestatic 1059, 3) by decide +kernel) ⟨Nat.le_refl _, Nat.le_refl _⟩ ?_
    refine lv_pop (va := .int i) (rest := []) hx hb (show decode prog_25_method_155_code 8 = .ok (.pop, 1) by decide +kernel) rfl ?_
    exact W.vret hx hb hr (fun t ht _ => ⟨rfl, ht⟩) (fun q hq => by cases hq) (show decode prog_25_method_155_code 9 = .ok (.return_, 1) by decide +kernel) hlocks
def s_MetT (G : mG) (v N : Nat) (f : Nat → Value) (l : Launch) (d : Nat) (y : MethodName) (cc : ByteArray) (nL : Nat) (ret : Option FieldType) (As : List Value) (w : Option Value) : Prop := Met l y (Cond.code y cc nL ret :: mTbl) (c_rm d 0 0) (fun a U => a = As.toArray ∧ g_Env G U ∧ va_T .byte v N f (g_A G) U U.heap) (fun _ st o t => o = .returned w ∧ t.heap = st.heap) 0 0 (fun _ => False)
theorem s_blindT {G : mG} {v N : Nat} {f : Nat → Value} {As : List Value} : FrameBlind (fun a U => a = As.toArray ∧ g_Env G U ∧ va_T .byte v N f (g_A G) U U.heap) := fun _ U g mk h => ⟨h.1, h.2.1.blind, h.2.2.moved (U := U.calling g mk _) (Vm.Alike.refl U.vm)⟩
theorem s_callT {G : mG} {p : Program} {l : Launch} {e : Env} {R : Room} {s : State} {m : MethodId} {args : Array Value} {below : List Frame} {meth : Method} {c : Code} {H : Heap} {locs : List Loc} {cells slots : Nat} {Q : State → Prop} {cc bytes : ByteArray} {nL maxL d pc idx v N : Nat} {f : Nat → Value} {ret : Option FieldType} {lsA : Array Slot} {As rest : List Value} {w : Option Value} {own : String} {y : MethodName} (hfix : CallFix p m c cc nL s args mTbl own) (hE : g_Env G s) (hT : va_T .byte v N f (g_A G) s s.heap) (hS : va_S (g_A G) s.heap H locs) (hM : s_MetT G v N f l d y bytes maxL ret As w) (w1 : Cond.code y bytes maxL ret ∈ mTbl) (w2 : Cond.methodLink own idx y ∈ mTbl) (w3 : Cond.static y ∈ mTbl) (w4 : Cond.initialized y.cls ∈ mTbl) (hy : y.cls ≠ "java/lang/invoke/MethodHandle" ∧ y.cls ≠ "java/lang/invoke/VarHandle") (hn : mNpar y = some As.length) (hR : d + 1 ≤ R.frames ∧ 8 + (maxL + 11) + 64 * d ≤ R.locals) (hsz : lsA.size = nL) (hrest : (rest.map fun v => v.category).sum ≤ 8) (hdg : decode cc pc = .ok (.invokestatic idx, 3)) (hcz : cells ≤ R.cells ∧ slots ≤ R.slots)
    (kk : W p l e R s m args below meth c H locs cells slots Q (F0 m (pc + 3) lsA (w.toList ++ rest))) : W p l e R s m args below meth c H locs cells slots Q (F0 m pc lsA (As.reverse ++ rest)) := by
  have hts := hfix.2.2.2.2
  refine s_same (va_runS (As := As) (n := As.length) hfix hM ⟨⟨rfl, rfl, hR.1, hR.2, ?_, List.mem_cons_self, hts _ w1, hts _ w4, hy, fun sig hsig => ?_, hts _ w2⟩, hts _ w3⟩ ⟨s_blindT, fun U hU hW => ⟨rfl, hE.to hW hU hS, ?_⟩⟩ rfl rfl hsz rfl (by show 2 * 0 + _ ≤ 8; omega) hdg hcz) kk
  · intro w hw a' U hW
    rcases List.mem_cons.mp hw with rfl | hw
    · exact mTbl_pay hts _ w1 a' U hW
    · exact mTbl_pay hts w hw a' U hW
  · unfold mNpar at hn
    rw [hsig] at hn
    exact (Option.some.inj hn).symm
  · refine (hT.moved hW.alike).kept fun a q1 q2 => ?_
    rw [hU]
    exact hS.2.1 a q1 q2
theorem s_lchar {G : mG} {l : Launch} {v : Nat} {N : Nat} {f : Nat → Value} {i x : Int32} (h0 : ¬ i < 0) (h1 : i < Int32.ofNat N) (hin : vp_in i N) (hf : f i.toNatClampNeg = .int x) (hx1 : ((x &&& 255).toUInt32 % 65536).toInt32 = x) (hx2 : narrow .char (Value.int x) = .int x) : s_MetT G v N f l 3 sy_lchar prog_26_method_2_code 2 (some .char) [.ref v, .int i] (some (.int x)) := by
  refine Met.ofW (cc := prog_26_method_2_code) (maxL := 2) (ret := (some .char)) (by decide +kernel) rfl ?_
  intro p e s m args below meth c s₁ B hml hv
  obtain ⟨rfl, hE, k4⟩ := hv
  have hx := B.exec
  have hb := B.bytes
  have hr := B.returns
  have hts : ∀ w ∈ mTbl, w.before _ s = true := fun w hw => atoms_spec (ws := Cond.code sy_lchar prog_26_method_2_code 2 (some .char) :: mTbl) B.pre w (List.mem_cons_of_mem _ hw)
  have hown : s.vm.findClass sy_lchar.cls = some m.cls := findClass_of_methodNamed B.named
  have hlocks := B.notSynchronized
  have hS : va_S (g_A G) s.heap s.heap [] := va_S.rf
  have hfix : CallFix p m c prog_26_method_2_code 2 s [.ref v, .int i].toArray mTbl sy_lchar.cls := ⟨hx, hb, hml, hown, hts⟩
  have hl := lv_entry ([.ref v, .int i]) (n := 2) (Nat.le_of_ble_eq_true rfl)
  rw [lg_entry_eq]
  generalize (lg_sl ([.ref v, .int i]) ++ List.replicate (2 - (lg_sl ([.ref v, .int i])).length) Slot.unset).toArray = ls at hl ⊢
  have hl : lv_has ls 2 [(0, .ref v), (1, .int i)] := hl
  refine lv_iload_n hx hb (show decode prog_26_method_2_code 0 = .ok (.iload_n 1, 1) by decide +kernel) rfl (lv_at hl 1 rfl) ?_
  refine lv_aload_n hx hb (show decode prog_26_method_2_code 1 = .ok (.aload_n 0, 1) by decide +kernel) rfl (lv_at hl 0 rfl) ?_
  refine va_tlen (A := g_A G) hx hb k4 hS rfl (show decode prog_26_method_2_code 2 = .ok (.arraylength, 1) by decide +kernel) ?_
  refine s_callS (G := G) (As := [.int i, .int (Int32.ofNat N)]) (rest := []) (pc := 3) hfix hE hS (s_chk h0 h1) sw_chk sw_14 sw_15 sw_7 ⟨by decide, by decide⟩ rfl ⟨Nat.le_refl _, Nat.le_of_ble_eq_true rfl⟩ hl.1 (Nat.le_of_ble_eq_true rfl) (show decode prog_26_method_2_code 3 = .ok (.invokestatic 9, 3) by decide +kernel) ⟨Nat.le_refl _, Nat.le_refl _⟩ ?_
  refine lv_aload_n hx hb (show decode prog_26_method_2_code 6 = .ok (.aload_n 0, 1) by decide +kernel) rfl (lv_at hl 0 rfl) ?_
  refine lv_iload_n hx hb (show decode prog_26_method_2_code 7 = .ok (.iload_n 1, 1) by decide +kernel) rfl (lv_at hl 1 rfl) ?_
  refine va_tb (A := g_A G) hx hb k4 hS hin hf (show decode prog_26_method_2_code 8 = .ok (.baload, 1) by decide +kernel) ?_
  refine lv_sipush (v := 255) hx hb (show decode prog_26_method_2_code 9 = .ok (.sipush 255, 3) by decide +kernel) rfl ?_
  refine lv_iand hx hb (show decode prog_26_method_2_code 12 = .ok (.iand, 1) by decide +kernel) ?_
  refine lv_i2c (v := x) hx hb (show decode prog_26_method_2_code 13 = .ok (.i2c, 1) by decide +kernel) hx1 ?_
  exact W.zret (ty := .char) hx hb hr hx2 (fun t ht _ => ⟨rfl, ht⟩) (fun q hq => by cases hq) (show decode prog_26_method_2_code 14 = .ok (.ireturn, 1) by decide +kernel) hlocks
theorem s_okc : (mStrs.drop 22).all (fun q => Nat.blt q.2.2.length 1000 && q.2.2.toList.all fun ch => Nat.blt ch.toNat 128) = true := by decide +kernel
theorem s_ok1 {t : Nat} {q : String × Nat × String} (h22 : 22 ≤ t) (hq : mStrs[t]? = some q) : q.2.2.length < 1000 ∧ ∀ ch ∈ q.2.2.toList, ch.toNat < 128 := by
  have h := s_okc
  rw [List.all_eq_true] at h
  have hm : q ∈ mStrs.drop 22 := by
    refine List.mem_of_getElem? (i := t - 22) ?_
    rw [List.getElem?_drop]
    have e : 22 + (t - 22) = t := by omega
    rw [e]
    exact hq
  have h1 := h q hm
  rw [Bool.and_eq_true, List.all_eq_true] at h1
  exact ⟨Nat.blt_eq.mp h1.1, fun ch hc => Nat.blt_eq.mp (h1.2 ch hc)⟩
theorem s_chF : ∀ x : Fin 128, (((Int32.ofNat x.val) &&& 255).toUInt32 % 65536).toInt32 = Int32.ofNat x.val ∧ narrow .char (Value.int (Int32.ofNat x.val)) = .int (Int32.ofNat x.val) := by decide +kernel
theorem s_char {G : mG} {l : Launch} {t : Nat} {q : String × Nat × String} (h22 : 22 ≤ t) (hq : mStrs[t]? = some q) {i x : Int32} (h0 : ¬ i < 0) (hx0 : m_sat t i.toNatClampNeg = some x) : s_Met G l 4 sy_char prog_25_method_56_code 2 (some .char) [.ref (G.2.2.2.1 (1000001 + t)), .int i] (some (.int x)) := by
  refine Met.ofW (cc := prog_25_method_56_code) (maxL := 2) (ret := (some .char)) (by decide +kernel) rfl ?_
  intro p e s m args below meth c s₁ B hml hv
  obtain ⟨rfl, hE⟩ := hv
  have hx := B.exec
  have hb := B.bytes
  have hr := B.returns
  have hts : ∀ w ∈ mTbl, w.before _ s = true := fun w hw => atoms_spec (ws := Cond.code sy_char prog_25_method_56_code 2 (some .char) :: mTbl) B.pre w (List.mem_cons_of_mem _ hw)
  have hown : s.vm.findClass sy_char.cls = some m.cls := findClass_of_methodNamed B.named
  have hlocks := B.notSynchronized
  have hS : va_S (g_A G) s.heap s.heap [] := va_S.rf
  have hfix : CallFix p m c prog_25_method_56_code 2 s [.ref (G.2.2.2.1 (1000001 + t)), .int i].toArray mTbl sy_char.cls := ⟨hx, hb, hml, hown, hts⟩
  have hl := lv_entry ([.ref (G.2.2.2.1 (1000001 + t)), .int i]) (n := 2) (Nat.le_of_ble_eq_true rfl)
  rw [lg_entry_eq]
  generalize (lg_sl ([.ref (G.2.2.2.1 (1000001 + t)), .int i]) ++ List.replicate (2 - (lg_sl ([.ref (G.2.2.2.1 (1000001 + t)), .int i])).length) Slot.unset).toArray = ls at hl ⊢
  have hl : lv_has ls 2 [(0, .ref (G.2.2.2.1 (1000001 + t))), (1, .int i)] := hl
  obtain ⟨vv, k1, k2, k3, k4⟩ := hE.2.2.2.2.2.2.2.2.2.2.2.2.1 t q h22 hq
  have hsat := hx0
  unfold m_sat at hsat
  rw [if_pos h22, hq] at hsat
  simp only at hsat
  obtain ⟨ch, hch, hxe⟩ := Option.map_eq_some_iff.mp hsat
  obtain ⟨ho1, ho2⟩ := s_ok1 h22 hq
  have hchn := ho2 ch (List.mem_of_getElem? hch)
  have hlt : i.toNatClampNeg < q.2.2.length := by
    have := (List.getElem?_eq_some_iff.mp hch).1
    rwa [String.length_toList] at this
  obtain ⟨hx1, hx2⟩ := s_chF ⟨ch.toNat, hchn⟩
  simp only [hxe] at hx1 hx2
  have hf : (fun j => Value.int (m_chr q.2.2 j)) i.toNatClampNeg = .int x := by
    show Value.int (m_chr q.2.2 i.toNatClampNeg) = .int x
    unfold m_chr
    rw [hch]
    show Value.int (Int32.ofNat ch.toNat) = .int x
    rw [hxe]
  have hin : vp_in i q.2.2.length := by
    unfold vp_in
    intro z
    rcases z with z | z
    · exact h0 z
    · omega
  have hi1 : i < Int32.ofNat q.2.2.length := by
    rw [Int32.lt_iff_toInt_lt]
    have e1 : (Int32.ofNat q.2.2.length).toInt = (q.2.2.length : Int) := Int32.toInt_ofNat_of_lt (by omega)
    rw [e1]
    have e2 : i.toInt = (i.toNatClampNeg : Int) := by
      have e3 : ¬ i.toInt < 0 := fun z => h0 (Int32.lt_iff_toInt_lt.mpr (by simpa using z))
      unfold Int32.toNatClampNeg
      omega
    omega
  refine lv_aload_n hx hb (show decode prog_25_method_56_code 0 = .ok (.aload_n 0, 1) by decide +kernel) rfl (lv_at hl 0 rfl) ?_
  refine s_callV (G := G) (As := []) (rest := []) (pc := 1) (d := 1) hfix hE hS k1 (s_lat h22 hq) sw_lat sw_8 sw_9 sw_10 sw_7 ⟨by decide, by decide⟩ rfl ⟨Nat.le_of_ble_eq_true rfl, Nat.le_of_ble_eq_true rfl⟩ hl.1 (Nat.le_of_ble_eq_true rfl) (show decode prog_25_method_56_code 1 = .ok (.invokevirtual 492, 3) by decide +kernel) ⟨Nat.le_refl _, Nat.le_refl _⟩ ?_
  refine lv_if_eq (tgt := 16) (x := 1) (rest := []) hx hb (show decode prog_25_method_56_code 4 = .ok (.ifCond .eq 12, 3) by decide +kernel) (by decide) (fun z => absurd z (by decide)) (fun _ => ?_)
  refine lv_aload_n hx hb (show decode prog_25_method_56_code 7 = .ok (.aload_n 0, 1) by decide +kernel) rfl (lv_at hl 0 rfl) ?_
  refine vk_getf (A := g_A G) hx hb k3 hS hown (hts _ sw_3) (fun _ z => z) (show decode prog_25_method_56_code 8 = .ok (.getfield 9, 3) by decide +kernel) ?_
  refine lv_iload_n hx hb (show decode prog_25_method_56_code 11 = .ok (.iload_n 1, 1) by decide +kernel) rfl (lv_at hl 1 rfl) ?_
  refine s_callT (G := G) (As := [.ref vv, .int i]) (rest := []) (pc := 12) hfix hE k4 hS (s_lchar h0 hi1 hin hf hx1 hx2) sw_lchar sw_11 sw_12 sw_13 ⟨by decide, by decide⟩ rfl ⟨Nat.le_refl _, Nat.le_of_ble_eq_true rfl⟩ hl.1 (Nat.le_of_ble_eq_true rfl) (show decode prog_25_method_56_code 12 = .ok (.invokestatic 495, 3) by decide +kernel) ⟨Nat.le_refl _, Nat.le_refl _⟩ ?_
  exact W.zret (ty := .char) hx hb hr hx2 (fun t ht _ => ⟨rfl, ht⟩) (fun q hq => by cases hq) (show decode prog_25_method_56_code 15 = .ok (.ireturn, 1) by decide +kernel) hlocks
theorem mcp_slen {o i a b : Nat} (h : mcp o i = some (13, a, b)) : Cond.methodLink (mOw o) i sy_len ∈ mTbl := by
  obtain ⟨hs, h1⟩ := mcp_ok h
  simp only [mCp1] at h1
  exact mAt_ok h1
theorem mcp_schar {o i a b : Nat} (h : mcp o i = some (14, a, b)) : Cond.methodLink (mOw o) i sy_char ∈ mTbl := by
  obtain ⟨hs, h1⟩ := mcp_ok h
  simp only [mCp1] at h1
  exact mAt_ok h1
theorem s_SL {G : mG} {l : Launch} : g_SL G l := by
  intro k d p e R s m args below meth c Q nL c0 z0 pc idx a b t z ls r M hF hnL hdg hm hz hr hd hR hk
  obtain ⟨hx, hb, hml, hown, hts, -, hE, -, hfr, hlo⟩ := id hF
  intro H locs lsA cells slots hA
  unfold m_slen at hz
  split at hz
  · next h22 =>
    obtain ⟨q, hq, hqz⟩ := Option.map_eq_some_iff.mp hz
    subst hqz
    obtain ⟨vv, k1, k2, k3, k4⟩ := hE.2.2.2.2.2.2.2.2.2.2.2.2.1 t q h22 hq
    have hfix : CallFix p m c (mprog k).2.1 (mprog k).2.2.1 s args mTbl (mOw (mprog k).2.2.2.2.1) := ⟨hx, hb, hml, hown, hts⟩
    have hs := m_small_ok (G := G) hr
    have c1 : cells ≤ R.cells := by have := hR.1; have := hA.2.2.2.1; omega
    have c2 : slots ≤ R.slots := by have := hR.2; have := hA.2.2.2.2; omega
    exact s_callV (G := G) (As := []) (rest := r.map (g_rv G)) (d := 2) hfix hE hA.2.1 k1 (s_leng h22 hq) sw_len (mcp_slen hm) sw_20 sw_21 sw_7 ⟨by decide, by decide⟩ rfl ⟨by omega, by omega⟩ (by rw [← hnL]; exact hA.2.2.1.1) (by omega) hdg ⟨c1, c2⟩ (hk H locs lsA cells slots hA)
  · cases hz
theorem s_SC {G : mG} {l : Launch} : g_SC G l := by
  intro k d p e R s m args below meth c Q nL c0 z0 pc idx a b t i z ls r M hF hnL hdg hm hz h0 hr hd hR hk
  obtain ⟨hx, hb, hml, hown, hts, -, hE, -, hfr, hlo⟩ := id hF
  intro H locs lsA cells slots hA
  have hz1 := hz
  unfold m_sat at hz1
  split at hz1
  · next h22 =>
    split at hz1
    · next q hq =>
      obtain ⟨vv, k1, k2, k3, k4⟩ := hE.2.2.2.2.2.2.2.2.2.2.2.2.1 t q h22 hq
      have hfix : CallFix p m c (mprog k).2.1 (mprog k).2.2.1 s args mTbl (mOw (mprog k).2.2.2.2.1) := ⟨hx, hb, hml, hown, hts⟩
      have hs := m_small_ok (G := G) hr
      have c1 : cells ≤ R.cells := by have := hR.1; have := hA.2.2.2.1; omega
      have c2 : slots ≤ R.slots := by have := hR.2; have := hA.2.2.2.2; omega
      exact s_callV (G := G) (As := [.int i]) (rest := r.map (g_rv G)) (d := 4) hfix hE hA.2.1 k1 (s_char h22 hq h0 hz) sw_char (mcp_schar hm) sw_22 sw_23 sw_7 ⟨by decide, by decide⟩ rfl ⟨by omega, by omega⟩ (by rw [← hnL]; exact hA.2.2.1.1) (by omega) hdg ⟨c1, c2⟩ (hk H locs lsA cells slots hA)
    · cases hz1
  · cases hz1
