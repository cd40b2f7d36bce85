/-! JUDGING A TRAIN in the model -/
theorem c260g {L : Nat} {xs : Nat → Int32} (hL : L ≤ 3072) {D : Nat} {J : zJ} {K : zK} {Q : zR → Nat → zJ → zK → Prop} {s : zJ} (hM : ML s J) (h : LW s) {t : Int} (t0 : 0 ≤ t ∧ t < 4) {a : Int → Int} {fr to : Int} (f0 : 0 ≤ fr) (f1 : fr ≤ to) (f2 : to ≤ 7) (ha : ∀ i : Int, fr ≤ i → i < to → J 229 t i = a i ∧ 0 ≤ a i ∧ a i < s 18 0 6) (hD : 1 ≤ D) (hQ : Q (.inl (some (zi (lns s a fr to)))) 0 J K) : zCall L xs D 260 [zr 142, zw 229 t, zi fr, zi to] J K Q := by
  obtain ⟨D, rfl⟩ : ∃ d, D = d + 1 := ⟨D - 1, by omega⟩
  have hn := lw_n h
  refine z260 hL ?_
  have key : ∀ (n : Nat) (i : Int), n = (to - i).toNat → fr ≤ i → i ≤ to → zGo L xs (D + 1) 260 6 [some (zr 142), some (zw 229 t), none, some (zi to), some (zi (lns s a fr i)), some (zi i)] [] J K Q := by
    intro n; induction n using Nat.strongRecOn with
  | _ n ih =>
    intro i hm h0 h1
    refine z260_6 hL ⟨⟨by omega, by omega⟩, ⟨by omega, by omega⟩, fun q => ?_, fun q => ?_⟩
    · have e : i = to := by omega
      rw [e]
      exact hQ
    · obtain ⟨g1, g2, g3⟩ := ha i h0 q
      rw [g1, (ml_k hM g2 g3).2.1]
      have hi := ih _ (by omega) (i + 1) rfl (by omega) (by omega)
      unfold lns at hi
      rw [sm_next (by omega), if_pos h0] at hi
      exact ⟨by omega, by omega, by omega, by omega, by omega, by omega, by omega, by omega, by decide, by decide, hi⟩
  have h0 := key _ fr rfl (Int.le_refl _) f1
  have e : lns s a fr fr = 0 := sm_zero fun i i0 i1 => if_neg (by omega)
  rw [e] at h0
  exact h0
def TkM (J : zJ) (tk : Int) : Prop := ∀ e : Int, 0 ≤ e → e < 8 → J 258 0 e = zb (bt tk e)
theorem zbol_1 : zbol 1 = 1 := by decide
theorem zbol_0 : zbol 0 = 0 := by decide
theorem c296 {L : Nat} {xs : Nat → Int32} (hL : L ≤ 3072) {D : Nat} {J : zJ} {K : zK} {Q : zR → Nat → zJ → zK → Prop} {s : zJ} (hM : ML s J) (h : LW s) {x1 x2 tk : Int} (a1 : zin x1) (a2 : zin x2) (t0 : 0 ≤ tk) (t1 : tk < 256) (ht : TkM J tk) (hD : 1 ≤ D) (h0 : frE s x1 x2 tk = -1 → Q (.inl (some (zi (-1)))) 0 J K) (h1 : ∀ J' : zJ, frE s x1 x2 tk ≠ -1 → 0 ≤ frE s x1 x2 tk → frE s x1 x2 tk < 8 → (∀ b : Nat, b ≠ 258 → J' b = J b) → TkM J' (tke tk (frE s x1 x2 tk)) → Q (.inl (some (zi (frE s x1 x2 tk)))) 0 J' K) : zCall L xs D 296 [zr 142, zi x1, zi x2] J K Q := by
  obtain ⟨D, rfl⟩ : ∃ d, D = d + 1 := ⟨D - 1, by omega⟩
  have hn := lw_n h
  obtain ⟨-, -, hm2, -⟩ := ml_n hM
  refine z296 hL ?_
  have key : ∀ (n : Nat) (e : Int), n = (s 18 0 11 - e).toNat → 0 ≤ e → e ≤ s 18 0 11 → (∀ i : Int, 0 ≤ i → i < e → (decide (s 28 0 i = x1) && !bt tk i && decide (x2 ≤ s 29 0 i)) = false) → zGo L xs (D + 1) 296 2 [some (zr 142), some (zi x1), some (zi x2), some (zi e)] [] J K Q := by
    intro n; induction n using Nat.strongRecOn with
  | _ n ih =>
    intro e hm e0 e1 hf
    refine z296_2 hL ?_
    rw [hm2]
    have stp : e < s 18 0 11 → (decide (s 28 0 e = x1) && !bt tk e && decide (x2 ≤ s 29 0 e)) = false → zGo L xs (D + 1) 296 2 [some (zr 142), some (zi x1), some (zi x2), some (zi (e + 1))] [] J K Q := by
      intro hc hb
      refine ih _ (by omega) (e + 1) rfl (by omega) (by omega) fun i i0 i1 => ?_
      by_cases q : i = e
      · rw [q]
        exact hb
      · exact hf i i0 (by omega)
    by_cases hc : e < s 18 0 11
    · have he := lw_e h e0 hc
      have hme := ml_e hM e0 hc
      rw [hme.1, hme.2, ht e e0 (by omega)]
      refine ⟨by decide, by decide, ⟨by omega, by omega⟩, ⟨by omega, by omega⟩, fun q => by omega, fun _ => ⟨e0, by omega, e0, by omega, by decide, by decide, ⟨by omega, by omega⟩, a1, fun q => stp hc (by rw [decide_eq_false q]; rfl), fun q => ⟨e0, by omega, zin_zb _, fun q2 => stp hc (by rw [zb_1.mp q2, Bool.not_true, Bool.and_false, Bool.false_and]), fun q2 => ⟨e0, by omega, e0, by omega, by decide, by decide, ⟨by omega, by omega⟩, a2, fun q3 => ⟨e0, by omega, ?_⟩, fun q3 => stp hc (by rw [decide_eq_false (p := x2 ≤ s 29 0 e) (by omega), Bool.and_false])⟩⟩⟩⟩
      have hfe : frE s x1 x2 tk = e := by
        unfold frE
        exact fnd_at e0 (by omega) (by rw [decide_eq_true q, zb_0.mp q2, decide_eq_true q3]; rfl) hf
      have := h1 (zup J 258 0 e (zbol 1)) (by rw [hfe]; omega) (by rw [hfe]; omega) (by rw [hfe]; omega) (fun b hb => zup_ne _ _ _ _ hb) (by
        intro j j0 j1
        rw [hfe, (tke_ok t0 t1 e0 (by omega)).2 j j0]
        by_cases ej : j = e
        · rw [ej, zup_eq, decide_eq_true rfl, Bool.or_true, zbol_1]
          rfl
        · rw [zup_nk _ _ ej, ht j j0 j1, decide_eq_false (fun z => ej z.symm), Bool.or_false])
      rw [hfe] at this
      exact this
    · refine ⟨by decide, by decide, ⟨by omega, by omega⟩, ⟨by omega, by omega⟩, fun _ => h0 ?_, fun q => by omega⟩
      unfold frE
      exact fnd_no fun i i0 i1 => hf i i0 (by omega)
  exact key _ 0 rfl (by decide) (by omega) fun i i0 i1 => by omega
/-- cells that judging doesn't change -/
def FmJ (J J1 : zJ) : Prop := ∀ b : Nat, b ≠ 256 → b ≠ 257 → b ≠ 258 → b ≠ 261 → J1 b = J b
theorem fmj_tr {J J1 J2 : zJ} (h1 : FmJ J J1) (h2 : FmJ J1 J2) : FmJ J J2 := fun b w x y z => (h2 b w x y z).trans (h1 b w x y z)
theorem fmj_ml {s J J1 : zJ} (h : ML s J) (f : FmJ J J1) : ML s J1 := ml_eq h (f _ (by decide) (by decide) (by decide) (by decide)) (f _ (by decide) (by decide) (by decide) (by decide)) (f _ (by decide) (by decide) (by decide) (by decide)) (f _ (by decide) (by decide) (by decide) (by decide)) (f _ (by decide) (by decide) (by decide) (by decide))
theorem jdW_1 {s : zJ} (h : LW s) {a : Int → Int} {v : It} {tk : Int} (t0 : 0 ≤ tk) (t1 : tk < 256) (hS : Seg s a v.1 v.2.1 v.2.2.1) : (∀ e t2, jhr s a v tk = .inl (e, t2) → jdW s a 84 [v] tk = (e, t2, [])) ∧ ∀ ks t2 st e0, jhr s a v tk = .inr (ks, t2, st, e0) → jdW s a 84 [v] tk = ((jdW s a 84 ks t2).1, (jdW s a 84 ks t2).2.1, (st, v.2.2.1, v.2.2.2.1, e0) :: (jdW s a 84 ks t2).2.2) := by
  have hn := lw_n h
  refine ⟨fun e t2 hj => by rw [jdW, hj], fun ks t2 st e0 hj => ?_⟩
  have hk := jhr_ks h t0 t1 hS hj
  have h4 := ((jhr_ok h t0 t1 hS).2 ks t2 st e0 hj).1
  have hm : (12 - v.1) * (v.2.2.1 - v.2.1) ≤ 12 * 7 := Int.mul_le_mul (by have := hS.1.1; omega) (by have := hS.2.1; omega) (by have := hS.2.1; omega) (by decide)
  rw [jdW, hj]
  simp only [List.append_nil]
  rw [jdW_fuel h 83 84 ks t2 h4.1 h4.2 hk.1 (by omega) (by omega)]
theorem jdW_e {s : zJ} (h : LW s) {a : Int → Int} : ∀ (n : Nat) (l : List It) (tk : Int), 0 ≤ tk → tk < 256 → Its s a l → 0 ≤ (jdW s a n l tk).1 ∧ (jdW s a n l tk).1 < 412 := by
  have hn := lw_n h
  intro n
  induction n with
  | zero =>
    intro l tk t0 t1 hi
    exact ⟨Int.le_refl 0, by show (0 : Int) < 412; decide⟩
  | succ n ih =>
    intro l tk t0 t1 hi
    cases l with
    | nil => exact ⟨Int.le_refl 0, by show (0 : Int) < 412; decide⟩
    | cons v r =>
      have hS := hi v List.mem_cons_self
      rw [jdW]
      cases hj : jhr s a v tk with
      | inl x =>
        obtain ⟨e, t2⟩ := x
        have h5 := jhr_err hS.1.1 (by have := hS.1.2; omega) hj
        exact ⟨by show 0 ≤ e; omega, h5.2⟩
      | inr x =>
        obtain ⟨ks, t2, st, e0⟩ := x
        have h3 := jhr_ks h t0 t1 hS hj
        have h4 := ((jhr_ok h t0 t1 hS).2 ks t2 st e0 hj).1
        exact ih (ks ++ r) t2 h4.1 h4.2 (its_app h3.1 (its_tl hi))
theorem c256 {L : Nat} {xs : Nat → Int32} (hL : L ≤ 3072) {K : zK} {s : zJ} (h : LW s) {t : Int} (t0 : 0 ≤ t ∧ t < 4) {a : Int → Int} {N : Int} (N7 : N ≤ 7) (hinj : Inj a 0 N) : ∀ (n D : Nat) (p lo hi mi en tk : Int) (J : zJ) (Q : zR → Nat → zJ → zK → Prop), ML s J → (∀ p : Int, 0 ≤ p → p < 12 → J 236 0 p = zb (bt (s 40 0 10) p)) → Seg s a p lo hi → hi ≤ N → (∀ j : Int, lo ≤ j → j < hi → J 229 t j = a j) → s 18 0 0 - p ≤ n → n + 8 ≤ D → 0 ≤ tk → tk < 256 → TkM J tk → (p ≠ 0 → 0 ≤ en) → (-1 ≤ en ∧ en < 8) → (∀ J' : zJ, FmJ J J' → (∀ r : Int, r < p → ∀ c : Int, J' 261 r c = J 261 r c) → TkM J' (jdW s a 84 [(p, lo, hi, mi, en)] tk).2.1 → (∀ k : Int, sgP a lo hi k = false → J' 256 0 k = J 256 0 k ∧ J' 257 0 k = J 257 0 k) → ((jdW s a 84 [(p, lo, hi, mi, en)] tk).1 = 0 → J' 256 0 = wrV (fun w => w.2.2.1) a (jdW s a 84 [(p, lo, hi, mi, en)] tk).2.2 (J 256 0) ∧ J' 257 0 = wrV (fun w => w.2.2.2) a (jdW s a 84 [(p, lo, hi, mi, en)] tk).2.2 (J 257 0)) → Q (.inl (some (zi ((jdW s a 84 [(p, lo, hi, mi, en)] tk).1)))) 0 J' K) → zCall L xs D 256 [zr 142, zw 229 t, zi lo, zi hi, zi p, zi mi, zi en] J K Q := by
  have hn := lw_n h
  intro n
  induction n with
  | zero =>
    intro D p lo hi mi en tk J Q hM hsh hS hN hA hpn
    have := hS.1.2
    omega
  | succ n ihn =>
  intro D p lo hi mi en tk J Q hM hsh hS hN hA hpn hD k0 k1 hTk hen0 hen hQ
  obtain ⟨D, rfl⟩ : ∃ d, D = d + 1 := ⟨D - 1, by omega⟩
  obtain ⟨⟨p0, p1⟩, ⟨l0, l1, l2⟩, hrow⟩ := id hS
  have hp21 := lw_p h p0 p1
  have hpl := ml_p hM p0 p1
  have hi' : Inj a lo hi := inj_wk hinj l0 hN
  have hAr : ∀ i : Int, lo ≤ i → i < hi → J 229 t i = a i ∧ 0 ≤ a i ∧ a i < s 18 0 6 := fun i i0 i1 => ⟨hA i i0 i1, (hrow i i0 i1).1, (hrow i i0 i1).2.1⟩
  have hlr := lns_rng h (a := a) (fr := lo) (to := hi) l0 l2 fun i i0 i1 => ⟨(hrow i i0 i1).1, (hrow i i0 i1).2.1⟩
  have hsp := spl_ok (f := ky s a p) p0 l1 fun i h0 h1 => (ky_rng h hS h0 h1).1
  obtain ⟨jw1, jw2⟩ := jdW_1 h (v := (p, lo, hi, mi, en)) k0 k1 hS
  -- an end with an error, nothing written
  have stop : ∀ (J' : zJ) (e t2 : Int), jhr s a (p, lo, hi, mi, en) tk = .inl (e, t2) → FmJ J J' → (∀ r : Int, r < p → ∀ c : Int, J' 261 r c = J 261 r c) → TkM J' t2 → J' 256 = J 256 → J' 257 = J 257 → Q (.inl (some (zi (e)))) 0 J' K := by
    intro J' e t2 hj f1 f2 ht e6 e7
    have hw := jw1 e t2 hj
    have he := jhr_err (v := (p, lo, hi, mi, en)) p0 (by show p < 12; omega) hj
    rw [hw] at hQ
    refine hQ J' f1 f2 ht (fun k _ => by rw [e6, e7]; exact ⟨rfl, rfl⟩) fun z => ?_
    have z2 : e = 0 := z
    omega
  refine z256 hL ?_
  refine c260g hL hM h t0 l0 (by omega) l2 hAr (by omega) (zaI_of ?_)
  rw [hpl.2.2.1]
  refine ⟨p0, by omega, p0, by omega, by decide, by decide, ⟨by omega, by omega⟩, ⟨by omega, by omega⟩, fun q => ?_, fun q => ?_⟩
  · refine c251a hL hM h t0 hS hA (by omega) (zaI_of ⟨zin_zb _, fun q1 => ?_, fun q1 => ?_⟩)
    · have q1 := zb_0.mp q1
      cases hs : spl (ky s a p) p lo hi with
      | none =>
        unfold shi at q1
        rw [hs] at q1
        cases q1
      | some x =>
      obtain ⟨gs, st⟩ := x
      obtain ⟨hc, hglo, hsth, hsi⟩ := hsp.2 gs st hs
      have hcl := chn_len hc
      rw [hglo] at hcl
      have hnc := ncu_rng hc hglo l1
      have hjr : jhr s a (p, lo, hi, mi, en) tk = if 0 < ncu gs st hi ∧ (isF s p && !bt (s 40 0 10) p) = false then .inl (400 + p, tk) else jhe s a p lo hi mi en tk gs st := by
        unfold jhr
        simp only
        rw [if_neg (by omega), hs]
      -- the end of a group
      have endG : ∀ (J1 : zJ) (c : Nat) (Q' : zR → Nat → zJ → zK → Prop), FmJ J J1 → c < gs.length → Q' (.inl (some (zi (hdo (gs.drop (c + 1)) st)))) 0 J1 K → zCall L xs D 216 [zr 142, zw 229 t, zi (hdo (gs.drop c) st), zi hi, zi p] J1 K Q' := by
        intro J1 c Q' f1 hcl2 hq
        have hdc : gs.drop c = gs[c] :: gs.drop (c + 1) := List.drop_eq_getElem_cons hcl2
        have hcd := chn_drop (st := st) c hc
        rw [hdc, hglo] at hcd
        obtain ⟨⟨c1, c2, c3, c4, c5, c6⟩, hle⟩ := hcd
        have hle2 : lo ≤ gs[c] := hle
        rw [hdc]
        show zCall L xs D 216 [zr 142, zw 229 t, zi gs[c], zi hi, zi p] J1 K Q'
        exact c216a hL (fmj_ml hM f1) h t0 hS (fun j j0 j1 => by rw [f1 229 (by decide) (by decide) (by decide) (by decide)]; exact hA j j0 j1) hle2 c1 c2 c3 c5 (by omega) hq
      have endS : ∀ (J1 : zJ) (Q' : zR → Nat → zJ → zK → Prop), FmJ J J1 → st < hi → Q' (.inl (some (zi hi))) 0 J1 K → zCall L xs D 216 [zr 142, zw 229 t, zi st, zi hi, zi p] J1 K Q' := by
        intro J1 Q' f1 hlt hq
        have hks := chn_st hc
        exact c216a hL (fmj_ml hM f1) h t0 hS (fun j j0 j1 => by rw [f1 229 (by decide) (by decide) (by decide) (by decide)]; exact hA j j0 j1) (by omega) hlt (Int.le_refl _) (fun j j0 j1 => by rw [hks j j0 j1, hks st (Int.le_refl _) hlt]) (fun z => by omega) (by omega) hq
      have keyG : ∀ (J1 : zJ) (k : Int) (Q' : zR → Nat → zJ → zK → Prop), FmJ J J1 → lo ≤ k → k < hi → Q' (.inl (some (zi (ky s a p k)))) 0 J1 K → zCall L xs D 272 [zr 142, zi (J1 229 t k), zi p] J1 K Q' := by
        intro J1 k Q' f1 g0 g1 hq
        exact cka hL (fmj_ml hM f1) h t0 hS (fun j j0 j1 => by rw [f1 229 (by decide) (by decide) (by decide) (by decide)]; exact hA j j0 j1) g0 g1 (by omega) hq
      -- the rows that go on
      have goR : ∀ (es : List Int) (t2 e0 : Int) (J2 : zJ), jhr s a (p, lo, hi, mi, en) tk = .inr (kdm (ky s a p) (s 20 0) (lat (e0 :: es)) mi (if 0 < ncu gs st hi then s 22 0 p else 0) gs st 0, t2, st, e0) → es.length = (gs.drop 1).length → (0 ≤ e0 ∧ e0 < 8) → (∀ e ∈ es, 0 ≤ e ∧ e < 8) → 0 ≤ t2 → t2 < 256 → FmJ J J2 → (∀ r : Int, r < p → ∀ c : Int, J2 261 r c = J 261 r c) → TkM J2 t2 → J2 256 = J 256 → J2 257 = J 257 → (∀ c : Nat, c < gs.length → J2 261 p c = lat (e0 :: es) c) → zGo L xs (D + 1) 256 287 [some (zr 142), some (zw 229 t), none, some (zi hi), some (zi p), some (zi mi), none, some (zi e0), some (zi (ncu gs st hi)), some (zi (s 22 0 p)), some (zi 0), none, some (zi lo), none, none, none] [] J2 K Q := by
        intro es t2 e0 J2 hj hel he0 hes t20 t21 f2 r2 ht2 e26 e27 hpu
        have hw := jw2 _ t2 st e0 hj
        have hks := jhr_ks h (v := (p, lo, hi, mi, en)) k0 k1 hS hj
        rw [hw] at hQ
        have mle : ∀ l : List It, Its s a l → (∀ w ∈ l, True) → mus l ≤ mus (kdm (ky s a p) (s 20 0) (lat (e0 :: es)) mi (if 0 < ncu gs st hi then s 22 0 p else 0) gs st 0) → mus l ≤ 84 := fun l _ _ hm => by
          have h5 := hks.2.1
          have hm2 : (12 - p) * (hi - lo) ≤ 12 * 7 := Int.mul_le_mul (by omega) (by omega) (by omega) (by decide)
          have h6 : mus (kdm (ky s a p) (s 20 0) (lat (e0 :: es)) mi (if 0 < ncu gs st hi then s 22 0 p else 0) gs st 0) + 1 ≤ (12 - p) * (hi - lo) := h5
          omega
        have eng : ∀ c : Nat, c < gs.length → 0 ≤ lat (e0 :: es) c ∧ lat (e0 :: es) c < 8 := fun c hcg => by
          have hmem : lat (e0 :: es) (c : Int) ∈ e0 :: es := lat_mem (by omega) (by rw [List.length_cons, hel, List.length_drop]; omega)
          rcases List.mem_cons.mp hmem with y | y
          · rw [y]
            exact he0
          · exact hes _ y
        -- the end: those that stay are written
        have fin : ∀ (ws : List Wr) (J3 : zJ), FmJ J J3 → (∀ r : Int, r < p → ∀ c : Int, J3 261 r c = J 261 r c) → TkM J3 (jdW s a 84 (kdm (ky s a p) (s 20 0) (lat (e0 :: es)) mi (if 0 < ncu gs st hi then s 22 0 p else 0) gs st 0) t2).2.1 → (jdW s a 84 (kdm (ky s a p) (s 20 0) (lat (e0 :: es)) mi (if 0 < ncu gs st hi then s 22 0 p else 0) gs st 0) t2).1 = 0 → (jdW s a 84 (kdm (ky s a p) (s 20 0) (lat (e0 :: es)) mi (if 0 < ncu gs st hi then s 22 0 p else 0) gs st 0) t2).2.2 = ws → J3 256 0 = wr1 mi a (st, hi, mi, e0) (wrV (fun w => w.2.2.1) a ws (J 256 0)) → J3 257 0 = wr1 e0 a (st, hi, mi, e0) (wrV (fun w => w.2.2.2) a ws (J 257 0)) → Q (.inl (some (zi (0)))) 0 J3 K := by
          intro ws J3 f3 r3 ht3 hz hws e6 e7
          have hin := jdW_in h (a := a) (lo := lo) (hi := st) 84 _ t2 t20 t21 hks.1 hks.2.2.2.2
          rw [hws] at hin
          have c6 : J3 256 0 = wrV (fun w => w.2.2.1) a ((st, hi, mi, e0) :: ws) (J 256 0) := by
            rw [e6, wr1_last l0 hi' (m := st) (w := (st, hi, mi, e0)) (Int.le_refl st) (Int.le_refl hi) (by omega) mi _ ws _ hin]
            rfl
          have c7 : J3 257 0 = wrV (fun w => w.2.2.2) a ((st, hi, mi, e0) :: ws) (J 257 0) := by
            rw [e7, wr1_last l0 hi' (m := st) (w := (st, hi, mi, e0)) (Int.le_refl st) (Int.le_refl hi) (by omega) e0 _ ws _ hin]
            rfl
          have hout : ∀ k : Int, sgP a lo hi k = false → ∀ w ∈ ((st, hi, mi, e0) : Wr) :: ws, sgP a w.1 w.2.1 k = false := by
            intro k hk w hw2
            rw [← Bool.not_eq_true] at hk ⊢
            intro z
            apply hk
            rcases List.mem_cons.mp hw2 with y | y
            · rw [y] at z
              obtain ⟨j, j0, j1, j2⟩ := (sgP_t (show 0 ≤ st by omega)).mp z
              have j0' : st ≤ j := j0
              have j1' : j < hi := j1
              exact (sgP_t l0).mpr ⟨j, by omega, j1', j2⟩
            · have := hin w y
              obtain ⟨j, j0, j1, j2⟩ := (sgP_t (by omega)).mp z
              exact (sgP_t l0).mpr ⟨j, by omega, by omega, j2⟩
          have hq := hQ J3 f3 r3 ht3 (fun k hk => ⟨by rw [c6]; exact wrV_out _ _ _ (hout k hk), by rw [c7]; exact wrV_out _ _ _ (hout k hk)⟩) (fun _ => ⟨by rw [c6, ← hws], by rw [c7, ← hws]⟩)
          rw [hz] at hq
          exact hq
        -- behind the groups
        have tail : ∀ (ws : List Wr) (c : Int) (J3 : zJ), FmJ J J3 → (∀ r : Int, r < p → ∀ c : Int, J3 261 r c = J 261 r c) → TkM J3 (jdW s a 84 (kdm (ky s a p) (s 20 0) (lat (e0 :: es)) mi (if 0 < ncu gs st hi then s 22 0 p else 0) gs st 0) t2).2.1 → (jdW s a 84 (kdm (ky s a p) (s 20 0) (lat (e0 :: es)) mi (if 0 < ncu gs st hi then s 22 0 p else 0) gs st 0) t2).1 = 0 → (jdW s a 84 (kdm (ky s a p) (s 20 0) (lat (e0 :: es)) mi (if 0 < ncu gs st hi then s 22 0 p else 0) gs st 0) t2).2.2 = ws → J3 256 0 = wrV (fun w => w.2.2.1) a ws (J 256 0) → J3 257 0 = wrV (fun w => w.2.2.2) a ws (J 257 0) → zGo L xs (D + 1) 256 287 [some (zr 142), some (zw 229 t), none, some (zi hi), some (zi p), some (zi mi), none, some (zi e0), some (zi (ncu gs st hi)), some (zi (s 22 0 p)), some (zi c), none, some (zi st), none, none, none] [] J3 K Q := by
          intro ws c J3 f3 r3 ht3 hz hws e6 e7
          by_cases hlt : st < hi
          · refine z256_287 hL ⟨⟨by omega, by omega⟩, ⟨by omega, by omega⟩, fun z => by omega, fun _ => ?_⟩
            refine endS J3 _ f3 hlt (zaI_of ⟨t0.1, t0.2, by omega, by omega, ?_⟩)
            refine keyG J3 st _ f3 (by omega) hlt (zaI_of ?_)
            rw [chn_st hc st (Int.le_refl _) hlt]
            refine ⟨⟨by omega, by omega⟩, ⟨by omega, by omega⟩, fun z => absurd rfl z, fun _ => ?_⟩
            have stay : ∀ (m : Nat) (k : Int) (J4 : zJ), m = (hi - k).toNat → st ≤ k → k ≤ hi → (∀ b : Nat, b ≠ 256 → b ≠ 257 → J4 b = J3 b) → J4 256 0 = wr1 mi a (st, k, mi, e0) (J3 256 0) → J4 257 0 = wr1 e0 a (st, k, mi, e0) (J3 257 0) → zGo L xs (D + 1) 256 328 [some (zr 142), some (zw 229 t), none, some (zi hi), some (zi p), some (zi mi), none, some (zi e0), some (zi (ncu gs st hi)), some (zi (s 22 0 p)), some (zi c), none, some (zi st), some (zi hi), none, some (zi k)] [] J4 K Q := by
              intro m; induction m using Nat.strongRecOn with
              | _ m ihm =>
              intro k J4 hmk a0 a1 f4 e44 e43
              have f4' : FmJ J J4 := fun b w x y z => (f4 b w x).trans (f3 b w x y z)
              refine z256_328 hL ⟨⟨by omega, by omega⟩, ⟨by omega, by omega⟩, fun q => ?_, fun q => ?_⟩
              · have ek : k = hi := by omega
                subst ek
                refine z256_429 hL (endS J4 _ f4' hlt (zaI_of ?_))
                refine z256_287 hL ⟨⟨by omega, by omega⟩, ⟨by omega, by omega⟩, fun _ => ?_, fun z => by omega⟩
                refine fin ws J4 f4' (fun r hr c => by rw [f4 261 (by decide) (by decide)]; exact r3 r hr c) (fun e x y => by rw [f4 258 (by decide) (by decide)]; exact ht3 e x y) hz hws ?_ ?_
                · rw [e44, e6]
                · rw [e43, e7]
              · have hr := hrow k (by omega) q
                have e229 : J4 229 t k = a k := by
                  rw [f4' 229 (by decide) (by decide) (by decide) (by decide)]
                  exact hA k (by omega) q
                rw [e229]
                have wr : ∀ (c : Int) (M : Int → Int), dup (wr1 c a (st, k, mi, e0) M) (a k) c = wr1 c a (st, k + 1, mi, e0) M := by
                  intro c M
                  funext x
                  unfold dup wr1
                  by_cases ex : x = a k
                  · have : sgP a st (k + 1) x = true := (sgP_t (by omega)).mpr ⟨k, a0, by omega, ex.symm⟩
                    simp only [ex, if_true]
                    rw [← ex, if_pos this]
                  · simp only [ex, if_false]
                    have : sgP a st (k + 1) x = sgP a st k x := by
                      rw [Bool.eq_iff_iff, sgP_t (by omega), sgP_t (by omega)]
                      constructor
                      · rintro ⟨j, j0, j1, j2⟩
                        have : j ≠ k := fun z => ex (by rw [← j2, z])
                        exact ⟨j, j0, by omega, j2⟩
                      · rintro ⟨j, j0, j1, j2⟩
                        exact ⟨j, j0, by omega, j2⟩
                    rw [this]
                refine ⟨t0.1, t0.2, by omega, by omega, hr.1, by omega, t0.1, t0.2, by omega, by omega, hr.1, by omega, ihm _ (by omega) (k + 1) _ rfl (by omega) (by omega) (fun b x y => by rw [zup_ne _ _ _ _ y, zup_ne _ _ _ _ x]; exact f4 b x y) ?_ ?_⟩
                · rw [zup_ne _ _ _ _ (by decide), zup_dup, e44]
                  exact wr mi _
                · rw [zup_dup, zup_ne _ _ _ _ (by decide), e43]
                  exact wr e0 _
            have w0 : ∀ (c : Int) (M : Int → Int), M = wr1 c a (st, st, mi, e0) M := by
              intro c M
              funext x
              unfold wr1
              rw [if_neg]
              intro z
              obtain ⟨j, j0, j1, _⟩ := (sgP_t (show 0 ≤ st by omega)).mp z
              have j1' : j < st := j1
              have j0' : st ≤ j := j0
              omega
            exact stay _ st J3 rfl (Int.le_refl _) hsth (fun _ _ _ => rfl) (w0 mi _) (w0 e0 _)
          · have est : st = hi := by omega
            refine z256_287 hL ⟨⟨by omega, by omega⟩, ⟨by omega, by omega⟩, fun _ => ?_, fun z => by omega⟩
            have w0 : ∀ (c : Int) (M : Int → Int), M = wr1 c a (st, hi, mi, e0) M := by
              intro c M
              funext x
              unfold wr1
              rw [if_neg]
              intro z
              obtain ⟨j, j0, j1, _⟩ := (sgP_t (show 0 ≤ st by omega)).mp z
              have j1' : j < hi := j1
              have j0' : st ≤ j := j0
              omega
            exact fin ws J3 f3 r3 ht3 hz hws (by rw [e6]; exact w0 mi _) (by rw [e7]; exact w0 e0 _)
        have loop : ∀ (m c : Nat) (tkn : Int) (ws : List Wr) (J3 : zJ), m = gs.length - c → c ≤ gs.length → 0 ≤ tkn → tkn < 256 → FmJ J J3 → (∀ r : Int, r < p → ∀ c : Int, J3 261 r c = J 261 r c) → (∀ c : Nat, c < gs.length → J3 261 p c = lat (e0 :: es) c) → TkM J3 tkn → (∀ w ∈ ws, lo ≤ w.1 ∧ w.2.1 ≤ st) → J3 256 0 = wrV (fun w => w.2.2.1) a ws (J 256 0) → J3 257 0 = wrV (fun w => w.2.2.2) a ws (J 257 0) → (jdW s a 84 (kdm (ky s a p) (s 20 0) (lat (e0 :: es)) mi (if 0 < ncu gs st hi then s 22 0 p else 0) gs st 0) t2).1 = (jdW s a 84 (kdm (ky s a p) (s 20 0) (lat (e0 :: es)) mi (if 0 < ncu gs st hi then s 22 0 p else 0) (gs.drop c) st c) tkn).1 → (jdW s a 84 (kdm (ky s a p) (s 20 0) (lat (e0 :: es)) mi (if 0 < ncu gs st hi then s 22 0 p else 0) gs st 0) t2).2.1 = (jdW s a 84 (kdm (ky s a p) (s 20 0) (lat (e0 :: es)) mi (if 0 < ncu gs st hi then s 22 0 p else 0) (gs.drop c) st c) tkn).2.1 → ((jdW s a 84 (kdm (ky s a p) (s 20 0) (lat (e0 :: es)) mi (if 0 < ncu gs st hi then s 22 0 p else 0) gs st 0) t2).1 = 0 → (jdW s a 84 (kdm (ky s a p) (s 20 0) (lat (e0 :: es)) mi (if 0 < ncu gs st hi then s 22 0 p else 0) gs st 0) t2).2.2 = ws ++ (jdW s a 84 (kdm (ky s a p) (s 20 0) (lat (e0 :: es)) mi (if 0 < ncu gs st hi then s 22 0 p else 0) (gs.drop c) st c) tkn).2.2) → mus (kdm (ky s a p) (s 20 0) (lat (e0 :: es)) mi (if 0 < ncu gs st hi then s 22 0 p else 0) (gs.drop c) st c) ≤ 84 → zGo L xs (D + 1) 256 287 [some (zr 142), some (zw 229 t), none, some (zi hi), some (zi p), some (zi mi), none, some (zi e0), some (zi (ncu gs st hi)), some (zi (s 22 0 p)), some (zi (c : Int)), none, some (zi (hdo (gs.drop c) st)), none, none, none] [] J3 K Q := by
          intro m
          induction m with
          | zero =>
            intro c tkn ws J3 hm hc1 n0 n1 f3 r3 hpu3 ht3 hws e6 e7 x1 x2 x3 hmu
            have hd : gs.drop c = [] := List.drop_eq_nil_of_le (by omega)
            rw [hd] at x1 x2 x3 ⊢
            rw [kdm, jdW_nil] at x1 x2 x3
            exact tail ws c J3 f3 r3 (by rw [x2]; exact ht3) x1 (by rw [x3 x1]; exact List.append_nil ws) e6 e7
          | succ m ihm =>
            intro c tkn ws J3 hm hc1 n0 n1 f3 r3 hpu3 ht3 hws e6 e7 x1 x2 x3 hmu
            have hcg : c < gs.length := by omega
            have hdc : gs.drop c = gs[c] :: gs.drop (c + 1) := List.drop_eq_getElem_cons hcg
            have hcd := chn_drop (st := st) c hc
            have hcd2 := hcd
            rw [hdc, hglo] at hcd
            obtain ⟨⟨c1, c2, c3, c4, c5, c6⟩, hle⟩ := hcd
            have hle2 : lo ≤ gs[c] := hle
            have hkc := ky_rng h hS hle2 (show gs[c] < hi by omega)
            have hkk := hkc.2.2.2.2 c4
            have hSk := seg_kid (b := gs[c]) (e := hdo (gs.drop (c + 1)) st) h hS hle2 c1 c2 c3 c4
            have hcl6 := chn_len c6
            have ec : (c : Int) + 1 = ((c + 1 : Nat) : Int) := by omega
            have hh : hdo (gs.drop c) st = gs[c] := by rw [hdc]; rfl
            have hkd : kdm (ky s a p) (s 20 0) (lat (e0 :: es)) mi (if 0 < ncu gs st hi then s 22 0 p else 0) (gs.drop c) st c = [(ky s a p gs[c], gs[c], hdo (gs.drop (c + 1)) st, mi + (if 0 < ncu gs st hi then s 22 0 p else 0) * ((c : Int) + 1) + s 20 0 (ky s a p gs[c]), lat (e0 :: es) c)] ++ kdm (ky s a p) (s 20 0) (lat (e0 :: es)) mi (if 0 < ncu gs st hi then s 22 0 p else 0) (gs.drop (c + 1)) st ((c + 1 : Nat) : Int) := by
              rw [hdc, kdm, ← ec]
              rfl
            have hItr := (kdm_ok h hS (s 20 0) (lat (e0 :: es)) mi (if 0 < ncu gs st hi then s 22 0 p else 0) (gs.drop (c + 1)) st ((c + 1 : Nat) : Int) c6 (by omega)).1
            have hItv : Its s a [(ky s a p gs[c], gs[c], hdo (gs.drop (c + 1)) st, mi + (if 0 < ncu gs st hi then s 22 0 p else 0) * ((c : Int) + 1) + s 20 0 (ky s a p gs[c]), lat (e0 :: es) c)] := fun v hv => by
              rw [List.mem_singleton] at hv
              rw [hv]
              exact hSk.1
            rw [hkd] at x1 x2 x3 hmu
            rw [mus_app] at hmu
            have m1 := mus_0 h hItv
            have m2 := mus_0 h hItr
            obtain ⟨y1, y2, y3⟩ := jdW_app h (a := a) 84 _ _ tkn n0 n1 hItv hItr (by omega)
            have hgap : mi + (if 0 < ncu gs st hi then s 22 0 p else 0) * ((c : Int) + 1) + s 20 0 (ky s a p gs[c]) = mi + (if 0 < ncu gs st hi then s 22 0 p * ((c : Int) + 1) else 0) + s 20 0 (ky s a p gs[c]) := by
              split
              · rfl
              · rw [Int.zero_mul]
            have henc := eng c hcg
            rw [hh]
            refine z256_287 hL ⟨⟨by omega, by omega⟩, ⟨by omega, by omega⟩, fun z => by omega, fun _ => ?_⟩
            have hgo := endG J3 c (fun r1 e1 J1 K1 => zaI r1 e1 (fun x1_ => 0 ≤ t ∧ t < 4 ∧ 0 ≤ gs[c] ∧ gs[c] < 8 ∧ zCall L xs D 272 [zr 142, zi (J1 229 t gs[c]), zi p] J1 K1 fun r2 e2 J2 K2 => zaI r2 e2 (fun x2_ => zin x2_ ∧ zin p ∧ (x2_ ≠ p → zin (ncu gs st hi) ∧ (ncu gs st hi ≤ (0 : Int) → zGo L xs (D + 1) 256 392 [some (zr 142), some (zw 229 t), none, some (zi hi), some (zi p), some (zi mi), none, some (zi e0), some (zi (ncu gs st hi)), some (zi (s 22 0 p)), some (zi (c : Int)), none, some (zi gs[c]), none, some (zi x2_), none] [zi 0, zi mi, zi x2_, zi x1_, zi gs[c], zw 229 t, zr 142] J2 K2 Q) ∧ ((0 : Int) < ncu gs st hi → zGo L xs (D + 1) 256 392 [some (zr 142), some (zw 229 t), none, some (zi hi), some (zi p), some (zi mi), none, some (zi e0), some (zi (ncu gs st hi)), some (zi (s 22 0 p)), some (zi (c : Int)), none, some (zi gs[c]), none, some (zi x2_), none] [zi (s 22 0 p * ((c : Int) + 1)), zi mi, zi x2_, zi x1_, zi gs[c], zw 229 t, zr 142] J2 K2 Q)) ∧ (x2_ = p → zGo L xs (D + 1) 256 328 [some (zr 142), some (zw 229 t), none, some (zi hi), some (zi p), some (zi mi), none, some (zi e0), some (zi (ncu gs st hi)), some (zi (s 22 0 p)), some (zi (c : Int)), none, some (zi gs[c]), some (zi x1_), none, some (zi gs[c])] [] J2 K2 Q)) (fun E => Q (.inr E) e2 J2 K2)) (fun E => Q (.inr E) e1 J1 K1)) f3 hcg
            rw [hh] at hgo
            refine hgo (zaI_of ⟨t0.1, t0.2, by omega, by omega, ?_⟩)
            refine keyG J3 gs[c] _ f3 hle2 (by omega) (zaI_of ?_)
            have kid : ∀ g : Int, g = (if 0 < ncu gs st hi then s 22 0 p * ((c : Int) + 1) else 0) → zGo L xs (D + 1) 256 392 [some (zr 142), some (zw 229 t), none, some (zi hi), some (zi p), some (zi mi), none, some (zi e0), some (zi (ncu gs st hi)), some (zi (s 22 0 p)), some (zi (c : Int)), none, some (zi gs[c]), none, some (zi (ky s a p gs[c])), none] [zi g, zi mi, zi (ky s a p gs[c]), zi (hdo (gs.drop (c + 1)) st), zi gs[c], zw 229 t, zr 142] J3 K Q := by
              intro g hg
              have hM3 := fmj_ml hM f3
              refine z256_392 hL ?_
              rw [(ml_p hM3 hkc.1 hkc.2.1).2.1, hpu3 c hcg, hg, ← hgap]
              refine ⟨hkc.1, by omega, hkc.1, by omega, by decide, by decide, p0, by omega, p0, by omega, by omega, by omega, ?_⟩
              refine ihn D _ _ _ _ _ tkn J3 _ hM3 (fun p x y => by rw [f3 236 (by decide) (by decide) (by decide) (by decide)]; exact hsh p x y) hSk.1 (by omega) (fun j j0 j1 => by rw [f3 229 (by decide) (by decide) (by decide) (by decide)]; exact hA j (by omega) (by omega)) (by omega) (by omega) n0 n1 ht3 (fun _ => henc.1) ⟨by omega, henc.2⟩ fun J4 f4 r4 ht4 hout4 hz4 => zaI_of ?_
              generalize hRv : jdW s a 84 [(ky s a p gs[c], gs[c], hdo (gs.drop (c + 1)) st, mi + (if 0 < ncu gs st hi then s 22 0 p else 0) * ((c : Int) + 1) + s 20 0 (ky s a p gs[c]), lat (e0 :: es) c)] tkn = Rv at ht4 hz4 y1 y2 y3 ⊢
              have zRv : zin Rv.1 := by
                rw [← hRv]
                have := jdW_e h (a := a) 84 _ tkn n0 n1 hItv
                exact ⟨by omega, by omega⟩
              have rr4 : ∀ r : Int, r ≤ p → ∀ c : Int, J4 261 r c = J3 261 r c := fun r hr c => r4 r (by omega) c
              have f34 := fmj_tr f3 f4
              have hin4 : ∀ w ∈ Rv.2.2, lo ≤ w.1 ∧ w.2.1 ≤ st := by
                rw [← hRv]
                refine jdW_in h (a := a) 84 _ tkn n0 n1 hItv fun v hv => ?_
                rw [List.mem_singleton] at hv
                rw [hv]
                exact ⟨hle2, by show hdo (gs.drop (c + 1)) st ≤ st; omega⟩
              refine ⟨zRv, fun z => ?_, fun z => ?_⟩
              · obtain ⟨w1, w2, w3⟩ := y2 z
                obtain ⟨b6, b7⟩ := hz4 z
                refine z256_429 hL ?_
                have hgo2 := endG J4 c (fun r1 e1 J1 K1 => zaI r1 e1 (fun x1_ => zGo L xs (D + 1) 256 287 [some (zr 142), some (zw 229 t), none, some (zi hi), some (zi p), some (zi mi), none, some (zi e0), some (zi (ncu gs st hi)), some (zi (s 22 0 p)), some (zi ((c : Int) + 1)), none, some (zi x1_), none, none, none] [] J1 K1 Q) (fun E => Q (.inr E) e1 J1 K1)) f34 hcg
                rw [hh] at hgo2
                refine hgo2 (zaI_of ?_)
                rw [ec]
                refine ihm (c + 1) Rv.2.1 (ws ++ Rv.2.2) J4 (by omega) (by omega) y3.1 y3.2 f34 (fun r hr c => by rw [rr4 r (by omega) c]; exact r3 r hr c) (fun c hc => by rw [rr4 p (Int.le_refl _) c]; exact hpu3 c hc) ht4 ?_ ?_ ?_ ?_ ?_ ?_ (by omega)
                · intro w hw
                  rcases List.mem_append.mp hw with y | y
                  · exact hws w y
                  · exact hin4 w y
                · rw [b6, e6, wrV_app]
                · rw [b7, e7, wrV_app]
                · rw [x1, w1]
                · rw [x2, w2]
                · intro zz
                  rw [x3 zz, w3, List.append_assoc]
              · obtain ⟨w1, w2⟩ := y1 z
                have hq := hQ J4 f34 (fun r hr c => by rw [rr4 r (by omega) c]; exact r3 r hr c) (by show TkM J4 (jdW s a 84 _ t2).2.1; rw [x2, w2]; exact ht4) (fun k hk => ?_) (fun zz => ?_)
                · have e : Rv.1 = (jdW s a 84 (kdm (ky s a p) (s 20 0) (lat (e0 :: es)) mi (if 0 < ncu gs st hi then s 22 0 p else 0) gs st 0) t2).1 := by rw [x1, w1]
                  rw [e]
                  exact hq
                · have hk2 : sgP a gs[c] (hdo (gs.drop (c + 1)) st) k = false := by
                    rw [← Bool.not_eq_true] at hk ⊢
                    intro zz
                    apply hk
                    obtain ⟨j, j0, j1, j2⟩ := (sgP_t (by omega)).mp zz
                    exact (sgP_t l0).mpr ⟨j, by omega, by omega, j2⟩
                  have hk3 : ∀ w ∈ ws, sgP a w.1 w.2.1 k = false := fun w hw => by
                    rw [← Bool.not_eq_true] at hk ⊢
                    intro zz
                    apply hk
                    have := hws w hw
                    obtain ⟨j, j0, j1, j2⟩ := (sgP_t (by omega)).mp zz
                    exact (sgP_t l0).mpr ⟨j, by omega, by omega, j2⟩
                  obtain ⟨o1, o2⟩ := hout4 k hk2
                  rw [o1, o2, e6, e7, wrV_out _ _ _ hk3, wrV_out _ _ _ hk3]
                  exact ⟨rfl, rfl⟩
                · have zz2 : (jdW s a 84 (kdm (ky s a p) (s 20 0) (lat (e0 :: es)) mi (if 0 < ncu gs st hi then s 22 0 p else 0) gs st 0) t2).1 = 0 := zz
                  rw [x1, w1] at zz2
                  exact absurd zz2 z
            refine ⟨⟨by omega, by omega⟩, ⟨by omega, by omega⟩, fun _ => ⟨⟨by omega, by omega⟩, fun z => kid 0 (by rw [if_neg (by omega)]), fun z => kid _ (by rw [if_pos z])⟩, fun z => absurd z c4⟩
        have l0' := loop _ 0 t2 [] J2 rfl (by omega) t20 t21 f2 r2 hpu ht2 (fun w hw => by cases hw) (by rw [e26]; rfl) (by rw [e27]; rfl) rfl rfl (fun _ => rfl) (mle _ hks.1 (fun _ _ => trivial) (Int.le_refl _))
        have e0h : hdo (gs.drop 0) st = lo := hglo
        rw [e0h] at l0'
        exact l0'
      -- the engines
      have engs : ∀ (tk1 e0 : Int) (J2 : zJ), ¬ (0 < ncu gs st hi ∧ (isF s p && !bt (s 40 0 10) p) = false) → ¬ (p = 0 ∧ frE s 0 (lns s a lo hi) tk = -1) → tk1 = (if p = 0 then tke tk (frE s 0 (lns s a lo hi) tk) else tk) → e0 = (if p = 0 then frE s 0 (lns s a lo hi) tk else en) → (0 ≤ e0 ∧ e0 < 8) → 0 ≤ tk1 → tk1 < 256 → (∀ b : Nat, b ≠ 258 → J2 b = J b) → TkM J2 tk1 → zGo L xs (D + 1) 256 173 [some (zr 142), some (zw 229 t), some (zi lo), some (zi hi), some (zi p), some (zi mi), none, some (zi e0), some (zi (ncu gs st hi)), some (zi (s 22 0 p)), some (zi 0), none, none, none, none, none] [] J2 K Q := by
        intro tk1 e0 J2 hn1 hn2 htk1 he0 he08 k10 k11 f2 ht2
        rw [if_neg hn1] at hjr
        -- behind the last group
        have tail : ∀ (c : Nat) (acc : List Int) (tkn : Int) (J3 : zJ), 0 ≤ tkn → tkn < 256 → FmJ J J3 → (∀ r : Int, r < p → ∀ c : Int, J3 261 r c = J 261 r c) → TkM J3 tkn → J3 256 = J 256 → J3 257 = J 257 → (∀ c : Nat, c < gs.length → J3 261 p c = lat (e0 :: acc) c) → jeg s p (lns s a) (gs.drop 1) st tk1 = (some acc, tkn) → zGo L xs (D + 1) 256 176 [some (zr 142), some (zw 229 t), some (zi lo), some (zi hi), some (zi p), some (zi mi), none, some (zi e0), some (zi (ncu gs st hi)), some (zi (s 22 0 p)), some (zi (c : Int)), none, some (zi st), none, none, none] [] J3 K Q := by
          intro c acc tkn J3 n0 n1 f3 r3 ht3 e6 e7 hpu hj
          have hjk := jeg_ok h p (lns s a) (gs.drop 1) st tk1 k10 k11
          rw [hj] at hjk
          have hj2 : jhr s a (p, lo, hi, mi, en) tk = .inr (kdm (ky s a p) (s 20 0) (lat (e0 :: acc)) mi (if 0 < ncu gs st hi then s 22 0 p else 0) gs st 0, tkn, st, e0) := by
            rw [hjr]
            unfold jhe
            rw [if_neg hn2, ← htk1, hj, ← he0]
          have go := goR acc tkn e0 J3 hj2 (hjk.2 acc rfl).1 he08 (hjk.2 acc rfl).2 n0 n1 f3 r3 ht3 e6 e7 hpu
          by_cases hlt : st < hi
          · refine z256_176 hL ⟨⟨by omega, by omega⟩, ⟨by omega, by omega⟩, fun z => by omega, fun _ => ⟨t0.1, t0.2, by omega, by omega, ?_⟩⟩
            refine keyG J3 st _ f3 (by omega) hlt (zaI_of ?_)
            rw [chn_st hc st (Int.le_refl _) hlt]
            refine ⟨⟨by omega, by omega⟩, ⟨by omega, by omega⟩, fun z => absurd rfl z, fun _ => z256_266 hL (endS J3 _ f3 hlt (zaI_of ?_))⟩
            exact z256_176 hL ⟨⟨by omega, by omega⟩, ⟨by omega, by omega⟩, fun _ => go, fun z => by omega⟩
          · exact z256_176 hL ⟨⟨by omega, by omega⟩, ⟨by omega, by omega⟩, fun _ => go, fun z => by omega⟩
        have loop : ∀ (m c : Nat) (acc : List Int) (tkn : Int) (J3 : zJ), m = gs.length - c → 1 ≤ c → c ≤ gs.length → 0 ≤ tkn → tkn < 256 → FmJ J J3 → (∀ r : Int, r < p → ∀ c : Int, J3 261 r c = J 261 r c) → TkM J3 tkn → J3 256 = J 256 → J3 257 = J 257 → acc.length = c - 1 → (∀ j : Nat, j < c → J3 261 p j = lat (e0 :: acc) j) → jeg s p (lns s a) (gs.drop 1) st tk1 = jpre acc (jeg s p (lns s a) (gs.drop c) st tkn) → zGo L xs (D + 1) 256 176 [some (zr 142), some (zw 229 t), some (zi lo), some (zi hi), some (zi p), some (zi mi), none, some (zi e0), some (zi (ncu gs st hi)), some (zi (s 22 0 p)), some (zi (c : Int)), none, some (zi (hdo (gs.drop c) st)), none, none, none] [] J3 K Q := by
          intro m
          induction m with
          | zero =>
            intro c acc tkn J3 hm c1 c2 n0 n1 f3 r3 ht3 e6 e7 hal hpu hj
            have hd : gs.drop c = [] := List.drop_eq_nil_of_le (by omega)
            rw [hd] at hj ⊢
            rw [jeg] at hj
            refine tail c acc tkn J3 n0 n1 f3 r3 ht3 e6 e7 (fun j hj2 => hpu j (by omega)) ?_
            rw [hj]
            unfold jpre
            simp
          | succ m ihm =>
            intro c acc tkn J3 hm c1 c2 n0 n1 f3 r3 ht3 e6 e7 hal hpu hj
            have hcg : c < gs.length := by omega
            have hdc : gs.drop c = gs[c] :: gs.drop (c + 1) := List.drop_eq_getElem_cons hcg
            have hcd := chn_drop (st := st) c hc
            rw [hdc, hglo] at hcd
            obtain ⟨⟨d1, d2, d3, d4, d5, d6⟩, hle⟩ := hcd
            have hle2 : lo ≤ gs[c] := hle
            have hcl6 := chn_len d6
            have ec : (c : Int) + 1 = ((c + 1 : Nat) : Int) := by omega
            have hh : hdo (gs.drop c) st = gs[c] := by rw [hdc]; rfl
            have hM3 := fmj_ml hM f3
            have hkc := ky_rng h hS hle2 (show gs[c] < hi by omega)
            have hA3 : ∀ i : Int, gs[c] ≤ i → i < hdo (gs.drop (c + 1)) st → J3 229 t i = a i ∧ 0 ≤ a i ∧ a i < s 18 0 6 := fun i i0 i1 => by
              rw [f3 229 (by decide) (by decide) (by decide) (by decide)]
              exact hAr i (by omega) (by omega)
            have hl2 := lns_rng h (a := a) (fr := gs[c]) (to := hdo (gs.drop (c + 1)) st) (by omega) (by omega) fun i i0 i1 => (hA3 i i0 i1).2
            rw [hdc, jeg] at hj
            rw [hh]
            refine z256_176 hL ⟨⟨by omega, by omega⟩, ⟨by omega, by omega⟩, fun z => by omega, fun _ => ⟨t0.1, t0.2, by omega, by omega, ?_⟩⟩
            refine keyG J3 gs[c] _ f3 hle2 (by omega) (zaI_of ⟨⟨by omega, by omega⟩, ⟨by omega, by omega⟩, fun _ => ⟨p0, by omega, ⟨by omega, by omega⟩, fun _ => ?_, fun z => by omega⟩, fun z => absurd z d4⟩)
            have hgo := endG J3 c (fun r2 e2 J2 K2 => zaI r2 e2 (fun x2_ => zCall L xs D 260 [zr 142, zw 229 t, zi gs[c], zi x2_] J2 K2 fun r3 e3 J3 K3 => zaI r3 e3 (fun x3_ => zCall L xs D 296 [zr 142, zi p, zi x3_] J3 K3 fun r4 e4 J4 K4 => zaI r4 e4 (fun x4_ => zGo L xs (D + 1) 256 242 [some (zr 142), some (zw 229 t), some (zi lo), some (zi hi), some (zi p), some (zi mi), none, some (zi e0), some (zi (ncu gs st hi)), some (zi (s 22 0 p)), some (zi (c : Int)), none, some (zi gs[c]), none, none, none] [zi x4_, zi (c : Int), zw 261 p] J4 K4 Q) (fun E => Q (.inr E) e4 J4 K4)) (fun E => Q (.inr E) e3 J3 K3)) (fun E => Q (.inr E) e2 J2 K2)) f3 hcg
            rw [hh] at hgo
            refine hgo (zaI_of ?_)
            refine c260g hL hM3 h t0 (by omega) (by omega) (by omega) hA3 (by omega) (zaI_of ?_)
            refine c296 hL hM3 h ⟨by omega, by omega⟩ ⟨by omega, by omega⟩ n0 n1 ht3 (by omega) (fun q2 => zaI_of (z256_242 hL ?_)) (fun J4 q2 r0 r1 f4 ht4 => zaI_of (z256_242 hL ?_))
            · rw [zup_eq]
              refine ⟨p0, by omega, by omega, by omega, p0, by omega, p0, by omega, by omega, by omega, ⟨by decide, by decide⟩, ⟨by decide, by decide⟩, fun z => absurd rfl z, fun _ => ?_⟩
              rw [if_pos q2] at hj
              refine stop _ (100 + p) tkn ?_ (fun b w x y z => by rw [zup_ne _ _ _ _ z]; exact f3 b w x y z) (fun r hr c => by rw [zup_nj _ _ (by omega)]; exact r3 r hr c) (fun e x y => by rw [zup_ne _ _ _ _ (by decide)]; exact ht3 e x y) (by rw [zup_ne _ _ _ _ (by decide)]; exact e6) (by rw [zup_ne _ _ _ _ (by decide)]; exact e7)
              rw [hjr]
              unfold jhe
              rw [if_neg hn2, ← htk1, hj]
              rfl
            · rw [zup_eq]
              refine ⟨p0, by omega, by omega, by omega, p0, by omega, p0, by omega, by omega, by omega, ⟨by omega, by omega⟩, ⟨by decide, by decide⟩, fun _ => ?_, fun z => absurd z q2⟩
              rw [if_neg q2, ← jpre_app] at hj
              have htn := (tke_ok n0 n1 r0 r1).1
              have f5 : FmJ J (zup J4 261 p (c : Int) (frE s p (lns s a gs[c] (hdo (gs.drop (c + 1)) st)) tkn)) := fun b w x y z => by rw [zup_ne _ _ _ _ z, f4 b y]; exact f3 b w x y z
              refine z256_266 hL ?_
              have hgo2 := endG _ c (fun r1 e1 J1 K1 => zaI r1 e1 (fun x1_ => zGo L xs (D + 1) 256 176 [some (zr 142), some (zw 229 t), some (zi lo), some (zi hi), some (zi p), some (zi mi), none, some (zi e0), some (zi (ncu gs st hi)), some (zi (s 22 0 p)), some (zi ((c : Int) + 1)), none, some (zi x1_), none, none, none] [] J1 K1 Q) (fun E => Q (.inr E) e1 J1 K1)) f5 hcg
              rw [hh] at hgo2
              refine hgo2 (zaI_of ?_)
              rw [ec]
              refine ihm (c + 1) _ _ _ (by omega) (by omega) (by omega) htn.1 htn.2 f5 (fun r hr c => by rw [zup_nj _ _ (by omega), f4 261 (by decide)]; exact r3 r hr c) (fun e x y => by rw [zup_ne _ _ _ _ (by decide)]; exact ht4 e x y) (by rw [zup_ne _ _ _ _ (by decide), f4 256 (by decide)]; exact e6) (by rw [zup_ne _ _ _ _ (by decide), f4 257 (by decide)]; exact e7) (by rw [List.length_append, hal]; simp; omega) (fun j hj2 => ?_) hj
              have lat_app : ∀ (l : List Int) (x : Int) (j : Nat), lat (l ++ [x]) (j : Int) = if j < l.length then lat l j else if j = l.length then x else 0 := by
                intro l x j
                unfold lat
                rw [Int.toNat_natCast, List.getD_eq_getElem?_getD, List.getD_eq_getElem?_getD]
                by_cases q : j < l.length
                · rw [if_pos q, List.getElem?_append_left q]
                · rw [if_neg q, List.getElem?_append_right (by omega)]
                  by_cases q2 : j = l.length
                  · rw [if_pos q2, q2, Nat.sub_self]
                    rfl
                  · rw [if_neg q2, List.getElem?_eq_none (by simp; omega)]
                    rfl
              rw [← List.cons_append, lat_app, List.length_cons, hal]
              by_cases ej : j = c
              · rw [ej, zup_eq, if_neg (by omega), if_pos (by omega)]
              · rw [zup_nk _ _ (by omega), f4 261 (by decide), if_pos (by omega)]
                exact hpu j (by omega)
        refine z256_173 hL ?_
        have f2' : FmJ J J2 := fun b w x y z => f2 b y
        cases hgs : gs with
        | nil =>
          have est : st = lo := by
            rw [hgs] at hglo
            exact hglo
          have := tail 0 [] tk1 J2 k10 k11 f2' (fun r hr c => by rw [f2 261 (by decide)]) ht2 (f2 256 (by decide)) (f2 257 (by decide)) (fun c hc2 => by rw [hgs] at hc2; simp at hc2) (by rw [hgs]; rfl)
          rw [est] at this
          rw [hgs] at this
          rw [est]
          exact this
        | cons b0 r0 =>
          rw [← hgs]
          have hlen : 0 < gs.length := by rw [hgs]; simp
          have hcd := hc
          rw [hgs] at hcd
          obtain ⟨d1, d2, d3, d4, d5, d6⟩ := hcd
          have hb0 : b0 = lo := by
            rw [hgs] at hglo
            exact hglo
          rw [hb0] at d1 d3 d4
          have hkc := ky_rng h hS (Int.le_refl lo) l1
          refine z256_176 hL ⟨⟨by omega, by omega⟩, ⟨by omega, by omega⟩, fun z => by omega, fun _ => ⟨t0.1, t0.2, by omega, by omega, ?_⟩⟩
          refine keyG J2 lo _ f2' (Int.le_refl _) l1 (zaI_of ⟨⟨by omega, by omega⟩, ⟨by omega, by omega⟩, fun _ => ⟨p0, by omega, zin_0, fun z => absurd rfl z, fun _ => z256_242 hL ?_⟩, fun z => absurd z d4⟩)
          rw [zup_eq]
          refine ⟨p0, by omega, by decide, by decide, p0, by omega, p0, by omega, by decide, by decide, ⟨by omega, by omega⟩, ⟨by decide, by decide⟩, fun _ => ?_, fun z => by omega⟩
          have f5 : FmJ J (zup J2 261 p 0 e0) := fun b w x y z => by rw [zup_ne _ _ _ _ z, f2 b y]
          refine z256_266 hL ?_
          have hgo2 := endG _ 0 (fun r1 e1 J1 K1 => zaI r1 e1 (fun x1_ => zGo L xs (D + 1) 256 176 [some (zr 142), some (zw 229 t), some (zi lo), some (zi hi), some (zi p), some (zi mi), none, some (zi e0), some (zi (ncu gs st hi)), some (zi (s 22 0 p)), some (zi ((0 : Int) + 1)), none, some (zi x1_), none, none, none] [] J1 K1 Q) (fun E => Q (.inr E) e1 J1 K1)) f5 hlen
          have hh0 : hdo (gs.drop 0) st = lo := hglo
          rw [hh0] at hgo2
          refine hgo2 (zaI_of ?_)
          exact loop _ 1 [] tk1 _ rfl (by omega) (by omega) k10 k11 f5 (fun r hr c => by rw [zup_nj _ _ (by omega), f2 261 (by decide)]) (fun e x y => by rw [zup_ne _ _ _ _ (by decide)]; exact ht2 e x y) (by rw [zup_ne _ _ _ _ (by decide), f2 256 (by decide)]) (by rw [zup_ne _ _ _ _ (by decide), f2 257 (by decide)]) rfl (fun j hj => by
            have : j = 0 := by omega
            rw [this]
            exact zup_eq _ _ _ _ _) (by rw [jpre_nil])
      -- from the check of the fork on
      have onw : ¬ (0 < ncu gs st hi ∧ (isF s p && !bt (s 40 0 10) p) = false) → zGo L xs (D + 1) 256 145 [some (zr 142), some (zw 229 t), some (zi lo), some (zi hi), some (zi p), some (zi mi), none, some (zi en), some (zi (ncu gs st hi)), some (zi (s 22 0 p)), some (zi 0), none, none, none, none, none] [] J K Q := by
        intro hn1
        refine z256_145 hL ⟨⟨by omega, by omega⟩, fun z => ?_, fun z => ?_⟩
        · exact engs tk en J hn1 (fun y => z y.1) (by rw [if_neg z]) (by rw [if_neg z]) ⟨hen0 z, hen.2⟩ k0 k1 (fun _ _ => rfl) hTk
        · refine c260g hL hM h t0 l0 (by omega) l2 hAr (by omega) (zaI_of ?_)
          refine c296 hL hM h zin_0 ⟨by omega, by omega⟩ k0 k1 hTk (by omega) (fun q2 => zaI_of ⟨⟨by decide, by decide⟩, ⟨by decide, by decide⟩, fun y => absurd rfl y, fun _ => ?_⟩) (fun J4 q2 r0 r1 f4 ht4 => zaI_of ⟨⟨by omega, by omega⟩, ⟨by decide, by decide⟩, fun _ => ?_, fun y => absurd y q2⟩)
          · refine stop J 100 tk ?_ (fun _ _ _ _ _ => rfl) (fun _ _ _ => rfl) hTk rfl rfl
            rw [hjr, if_neg hn1]
            unfold jhe
            rw [if_pos ⟨z, q2⟩]
          · have htn := (tke_ok k0 k1 r0 r1).1
            exact engs _ (frE s 0 (lns s a lo hi) tk) J4 hn1 (fun y => q2 y.2) (by rw [if_pos z]) (by rw [if_pos z]) ⟨r0, r1⟩ htn.1 htn.2 f4 ht4
      have fork : zGo L xs (D + 1) 256 82 [some (zr 142), some (zw 229 t), some (zi lo), some (zi hi), some (zi p), some (zi mi), none, some (zi en), some (zi (ncu gs st hi)), none, none, none, none, none, none, none] [zi (s 22 0 p)] J K Q := by
        have hkc := ky_rng h hS (Int.le_refl lo) l1
        have fj : FmJ J J := fun _ _ _ _ _ => rfl
        refine z256_82 hL ⟨t0.1, t0.2, l0, by omega, ?_⟩
        have bad : 0 < ncu gs st hi → (isF s p && !bt (s 40 0 10) p) = false → Q (.inl (some (zi (400 + p)))) 0 J K := by
          intro q1 q2
          refine stop J (400 + p) tk ?_ fj (fun _ _ _ => rfl) hTk rfl rfl
          rw [hjr, if_pos ⟨q1, q2⟩]
        refine keyG J lo _ fj (Int.le_refl _) l1 (zaI_of ⟨⟨by omega, by omega⟩, ⟨by omega, by omega⟩, fun z => z256_106 hL ⟨⟨by omega, by omega⟩, fun z2 => onw fun y => by omega, fun z2 => ?_⟩, fun z => z256_106 hL ⟨⟨by omega, by omega⟩, fun z2 => onw fun y => by omega, fun z2 => ⟨zin_1, fun y => absurd y (by decide), fun _ => ?_⟩⟩⟩)
        · exfalso
          have hgn : gs = [] := by
            cases hgs : gs with
            | nil => rfl
            | cons b0 r0 =>
              rw [hgs] at hc hglo
              have hb0 : b0 = lo := hglo
              have := hc.2.2.2.1
              rw [hb0] at this
              exact absurd z this
          rw [hgn] at hglo z2
          have est : st = lo := hglo
          unfold ncu at z2
          rw [if_pos (by omega)] at z2
          simp at z2
        · refine c245 hL hM h (by omega) p0 p1 (zaI_of ⟨zin_zb _, fun y => z256_138 hL (bad z2 ?_), fun y => ⟨p0, by omega, ?_⟩⟩)
          · rw [zb_0.mp y]
            rfl
          · rw [hsh p p0 (by omega)]
            refine ⟨zin_zb _, zin_1, fun w => onw fun v => ?_, fun w => z256_138 hL (bad z2 ?_)⟩
            · rw [zb_1.mp y, zb_n1.mp w] at v
              simp at v
            · rw [zb_e1.mp w]
              simp
      refine c210a hL hM h t0 hS hA hc hglo (by omega) (zaI_of ?_)
      refine c245 hL hM h (by omega) p0 p1 (zaI_of ⟨zin_zb _, fun y => ?_, fun y => ⟨p0, by omega, p0, by omega, by decide, by decide, ?_⟩⟩)
      · have e22 : s 22 0 p = 0 := by
          have := zb_0.mp y
          unfold isF at this
          rw [decide_eq_false_iff_not] at this
          omega
        rw [e22] at fork
        exact fork
      · rw [hpl.2.2.2.1]
        exact fork
    · have q1 := zb_1.mp q1
      unfold shi at q1
      have hs : spl (ky s a p) p lo hi = none := by
        cases hs : spl (ky s a p) p lo hi with
        | none => rfl
        | some x =>
          rw [hs] at q1
          cases q1
      refine stop J (200 + p) tk ?_ (fun _ _ _ _ _ => rfl) (fun _ _ _ => rfl) hTk rfl rfl
      unfold jhr
      simp only
      rw [if_neg (by omega), hs]
  · refine stop J (300 + p) tk ?_ (fun _ _ _ _ _ => rfl) (fun _ _ _ => rfl) hTk rfl rfl
    unfold jhr
    simp only
    rw [if_pos q]
