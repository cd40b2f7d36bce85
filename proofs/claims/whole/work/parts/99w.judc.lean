/-! JUDGING in the class -/
theorem c124 {L : Nat} {xs : Nat → Int32} (hL : L ≤ 3072) {D : Nat} {J : zJ} {K : zK} {Q : zR → Nat → zJ → zK → Prop} {a : Int → Int} {fr to : Int} (f0 : 0 ≤ fr) (f1 : fr ≤ to) (f2 : to ≤ 7) (ha : ∀ i : Int, fr ≤ i → i < to → J 93 0 i = a i ∧ 0 ≤ a i ∧ a i < 7) (hD : 1 ≤ D) (hQ : Q (.inl (some (zi (sgb a fr to)))) 0 J K) : zCall L xs D 124 [zr 92, zi fr, zi to] J K Q := by
  obtain ⟨D, rfl⟩ : ∃ d, D = d + 1 := ⟨D - 1, by omega⟩
  refine z124 hL ?_
  have key : ∀ (n : Nat) (i : Int), n = (to - i).toNat → fr ≤ i → i ≤ to → zGo L xs (D + 1) 124 5 [some (zr 92), none, some (zi to), some (zi (sgb a fr i)), some (zi i)] [] J K Q := by
    intro n; induction n using Nat.strongRecOn with
  | _ n ih =>
    intro i hm h0 h1
    refine z124_5 hL ⟨⟨by omega, by omega⟩, ⟨by omega, by omega⟩, fun q => ?_, fun q => ?_⟩
    · have e : i = to := by omega
      rw [e]
      exact hQ
    · obtain ⟨g1, g2, g3⟩ := ha i h0 q
      have hb := sgb_lt a fr i
      have ho := bt_or1 (t := sgb a fr i) (k := a i) (n := 7) (by decide) hb.1 (by omega) g2 (by omega)
      rw [g1]
      refine ⟨by omega, by omega, g2, by omega, ?_⟩
      have e : zor (sgb a fr i) (1 * 2 ^ (a i).toNat) = sgb a fr (i + 1) := by
        unfold sgb
        refine bs_of ho.1.1 fun k k0 => ?_
        have h5 := ho.2 k k0
        unfold sgb at h5
        rw [h5, bt_bs _ _ k k0]
        by_cases hk : k < ((7 : Nat) : Int)
        · rw [decide_eq_true hk, Bool.true_and, Bool.true_and, Bool.eq_iff_iff, Bool.or_eq_true, sgP_t f0, sgP_t f0, decide_eq_true_iff]
          constructor
          · rintro (⟨j, j0, j1, j2⟩ | z)
            · exact ⟨j, j0, by omega, j2⟩
            · exact ⟨i, h0, by omega, z⟩
          · rintro ⟨j, j0, j1, j2⟩
            by_cases e : j = i
            · right
              rw [← e]
              exact j2
            · exact Or.inl ⟨j, j0, by omega, j2⟩
        · rw [decide_eq_false hk, Bool.false_and, Bool.false_and, Bool.false_or]
          exact decide_eq_false (by omega)
      rw [e]
      exact ih _ (by omega) (i + 1) rfl (by omega) (by omega)
  have h0 := key _ fr rfl (Int.le_refl _) f1
  have e : sgb a fr fr = 0 := by
    symm
    unfold sgb
    refine bs_of (by decide) fun k k0 => ?_
    rw [bt_z]
    have : sgP a fr fr k = false := by
      rw [← Bool.not_eq_true, sgP_t f0]
      rintro ⟨i, i0, i1, _⟩
      omega
    rw [this, Bool.and_false]
  rw [e] at h0
  exact h0
theorem ld_seg {s : zJ} (h : LW s) (hT : TW s) {a : Int → Int} {fr to : Int} (f0 : 0 ≤ fr) (f1 : fr ≤ to) (hi : Inj a fr to) (hr : ∀ i : Int, fr ≤ i → i < to → 0 ≤ a i ∧ a i < s 18 0 6) : s 39 0 (sgb a fr to) = lns s a fr to := by
  have hn := lw_n h
  have hb := bs_lt (sgP a fr to) 7
  have hlt : sgb a fr to < 2 ^ (s 18 0 6).toNat := bt_bound hb.1 fun k hk => by
    have k0 : 0 ≤ k := by omega
    show bt (bs (sgP a fr to) 7) k = false
    rw [bt_bs _ _ k k0, ← Bool.not_eq_true, Bool.and_eq_true, sgP_t f0]
    rintro ⟨_, i, i0, i1, i2⟩
    have := hr i i0 i1
    omega
  rw [hT.2.2.2.2.2 _ (sgb_lt a fr to).1 hlt]
  exact ldf_sgb h f0 (to - fr).toNat to (by omega) hi hr
theorem c130 {L : Nat} {xs : Nat → Int32} (hL : L ≤ 3072) {D : Nat} {J : zJ} {K : zK} {Q : zR → Nat → zJ → zK → Prop} {s : zJ} (hE : EqS s J) (h : LW s) (hT : TW s) {a : Int → Int} {p lo hi : Int} (hS : Seg s a p lo hi) (hi' : Inj a lo hi) (ha : ∀ i : Int, lo ≤ i → i < hi → J 93 0 i = a i) (hlo : J 92 0 10 = lo) (hhi : J 92 0 11 = hi) (hD : 2 ≤ D) (hQ : Q (.inl (some (zi (lns s a lo hi)))) 0 J K) : zCall L xs D 130 [zr 92] J K Q := by
  obtain ⟨D, rfl⟩ : ∃ d, D = d + 1 := ⟨D - 1, by omega⟩
  have hn := lw_n h
  obtain ⟨⟨p0, p1⟩, ⟨l0, l1, l2⟩, hrow⟩ := id hS
  refine z130 hL ?_
  rw [hlo, hhi]
  refine c124 hL l0 (by omega) l2 (fun i i0 i1 => ⟨ha i i0 i1, (hrow i i0 i1).1, by have := (hrow i i0 i1).2.1; omega⟩) (by omega) (zaI_of ?_)
  have hb := sgb_lt a lo hi
  rw [hE 39 (by decide) (by decide), ld_seg h hT l0 (by omega) hi' fun i i0 i1 => ⟨(hrow i i0 i1).1, (hrow i i0 i1).2.1⟩]
  exact ⟨hb.1, hb.2, hQ⟩
theorem c131 {L : Nat} {xs : Nat → Int32} (hL : L ≤ 3072) {D : Nat} {J : zJ} {K : zK} {Q : zR → Nat → zJ → zK → Prop} {s : zJ} (hE : EqS s J) (h : LW s) (hT : TW s) {a : Int → Int} {p lo hi fr to : Int} {g : Int} (hS : Seg s a p lo hi) (hi' : Inj a lo hi) (ha : ∀ i : Int, lo ≤ i → i < hi → J 93 0 i = a i) (g0 : 0 ≤ g) (g1 : g < 7) (h1 : J 99 0 g = fr) (h2 : J 99 0 (g + 1) = to) (f0 : lo ≤ fr) (f1 : fr ≤ to) (f2 : to ≤ hi) (hD : 2 ≤ D) (hQ : Q (.inl (some (zi (lns s a fr to)))) 0 J K) : zCall L xs D 131 [zr 92, zi g] J K Q := by
  obtain ⟨D, rfl⟩ : ∃ d, D = d + 1 := ⟨D - 1, by omega⟩
  have hn := lw_n h
  obtain ⟨⟨p0, p1⟩, ⟨l0, l1, l2⟩, hrow⟩ := id hS
  refine z131 hL ⟨by omega, by omega, by omega, by omega, ?_⟩
  rw [h1, h2]
  refine c124 hL (by omega) f1 (by omega) (fun i i0 i1 => ⟨ha i (by omega) (by omega), (hrow i (by omega) (by omega)).1, by have := (hrow i (by omega) (by omega)).2.1; omega⟩) (by omega) (zaI_of ?_)
  have hb := sgb_lt a fr to
  rw [hE 39 (by decide) (by decide), ld_seg h hT (by omega) f1 (inj_wk hi' f0 f2) fun i i0 i1 => ⟨(hrow i (by omega) (by omega)).1, (hrow i (by omega) (by omega)).2.1⟩]
  exact ⟨hb.1, hb.2, hQ⟩
theorem c49 {L : Nat} {xs : Nat → Int32} (hL : L ≤ 3072) {D : Nat} {J : zJ} {K : zK} {Q : zR → Nat → zJ → zK → Prop} {s : zJ} (hE : EqS s J) (h : LW s) {x1 x2 tk : Int} (a1 : zin x1) (a2 : zin x2) (t0 : 0 ≤ tk) (t1 : tk < 256) (ht : J 101 0 7 = tk) (hD : 2 ≤ D) (h0 : frE s x1 x2 tk = -1 → Q (.inl (some (zi (-1)))) 0 J K) (h1 : frE s x1 x2 tk ≠ -1 → 0 ≤ frE s x1 x2 tk → frE s x1 x2 tk < 8 → Q (.inl (some (zi (frE s x1 x2 tk)))) 0 (zup J 101 0 7 (tke tk (frE s x1 x2 tk))) K) : zCall L xs D 49 [zr 101, zi x1, zi x2] J K Q := by
  obtain ⟨D, rfl⟩ : ∃ d, D = d + 1 := ⟨D - 1, by omega⟩
  refine z49 hL ?_
  rw [ht]
  refine c59 hL hE h (by omega) a1 a2 ⟨t0, by omega⟩ (zaI_of ?_)
  have hr := frE_rng h x1 x2 tk
  rw [ht]
  refine ⟨by rcases hr with z | z <;> exact ⟨by omega, by omega⟩, ⟨by decide, by decide⟩, fun q => ?_, fun q => ?_⟩
  · rw [q]
    exact h0 q
  · have hr := hr.resolve_left q
    exact ⟨hr.1, by omega, h1 q hr.1 hr.2⟩
/-- engines at the place at hand -/
theorem c50 {L : Nat} {xs : Nat → Int32} (hL : L ≤ 3072) {D : Nat} {J : zJ} {K : zK} {Q : zR → Nat → zJ → zK → Prop} {s : zJ} (hE : EqS s J) (h : LW s) (hT : TW s) {a : Int → Int} {p lo hi mi en tk st : Int} {gs : List Int} (hS : Seg s a p lo hi) (hi' : Inj a lo hi) (hc : Chn (ky s a p) p hi gs st) (hglo : hdo gs st = lo) (ha : ∀ i : Int, lo ≤ i → i < hi → J 93 0 i = a i) (hp : J 92 0 9 = p) (hlo : J 92 0 10 = lo) (hhi : J 92 0 11 = hi) (hen : J 92 0 13 = en) (hg : J 92 0 14 = gs.length) (har : Ar (J 99 0) (gs ++ [st])) (t0 : 0 ≤ tk) (t1 : tk < 256) (ht : J 101 0 7 = tk) (zen : zin en) (hD : 4 ≤ D)
  (h0 : ∀ (J' : zJ) (e t2 : Int), jhe s a p lo hi mi en tk gs st = .inl (e, t2) → (∀ b : Nat, b ≠ 92 → b ≠ 100 → b ≠ 101 → J' b = J b) → (∀ k : Int, k ≠ 13 → J' 92 0 k = J 92 0 k) → J' 101 0 7 = t2 → Q (.inl (some (zi (0)))) 0 J' K)
  (h1 : ∀ (J' : zJ) (es : List Int) (t2 e0 : Int), jhe s a p lo hi mi en tk gs st = .inr (kdm (ky s a p) (s 20 0) (lat (e0 :: es)) mi (if 0 < ncu gs st hi then s 22 0 p else 0) gs st 0, t2, st, e0) → (∀ b : Nat, b ≠ 92 → b ≠ 100 → b ≠ 101 → J' b = J b) → (∀ k : Int, k ≠ 13 → J' 92 0 k = J 92 0 k) → J' 101 0 7 = t2 → J' 92 0 13 = e0 → es.length = (gs.drop 1).length → Ar (J' 100 0) (e0 :: es) → Q (.inl (some (zi (1)))) 0 J' K) : zCall L xs D 50 [zr 101] J K Q := by
  obtain ⟨D, rfl⟩ : ∃ d, D = d + 1 := ⟨D - 1, by omega⟩
  have hn := lw_n h
  obtain ⟨⟨p0, p1⟩, ⟨l0, l1, l2⟩, hrow⟩ := id hS
  have hcl := chn_len hc
  rw [hglo] at hcl
  -- the groups behind the first
  have loop : ∀ (m g : Nat) (acc : List Int) (tk1 tkn e0 : Int) (J1 : zJ), m = gs.length - g → 1 ≤ g → g ≤ gs.length ∨ g = 1 → ¬ (p = 0 ∧ frE s 0 (lns s a lo hi) tk = -1) → tk1 = (if p = 0 then tke tk (frE s 0 (lns s a lo hi) tk) else tk) → e0 = (if p = 0 then frE s 0 (lns s a lo hi) tk else en) → 0 ≤ tkn → tkn < 256 → acc.length = g - 1 → jeg s p (lns s a) (gs.drop 1) st tk1 = jpre acc (jeg s p (lns s a) (gs.drop g) st tkn) → (∀ b : Nat, b ≠ 92 → b ≠ 100 → b ≠ 101 → J1 b = J b) → (∀ k : Int, k ≠ 13 → J1 92 0 k = J 92 0 k) → J1 101 0 7 = tkn → J1 92 0 13 = e0 → Ar (J1 100 0) (e0 :: acc) → zGo L xs (D + 1) 50 60 [some (zr 101), some (zi (g : Int)), none] [] J1 K Q := by
    intro m
    induction m with
    | zero =>
      intro g acc tk1 tkn e0 J1 hm g1 g2 hne htk1 he0 n0 n1 hal hj f1 k1 f7 f13 har1
      refine z50_60 hL ?_
      rw [k1 14 (by decide), hg]
      refine ⟨⟨by omega, by omega⟩, ⟨by omega, by omega⟩, fun _ => ⟨Or.inr rfl, ?_⟩, fun q => by omega⟩
      have hd : gs.drop g = [] := List.drop_eq_nil_of_le (by omega)
      rw [hd, jeg] at hj
      have hj2 : jeg s p (lns s a) (gs.drop 1) st tk1 = (some acc, tkn) := by
        rw [hj]
        unfold jpre
        simp
      refine h1 J1 acc tkn e0 ?_ f1 k1 f7 f13 ?_ har1
      · unfold jhe
        rw [if_neg hne, ← htk1, hj2, ← he0]
      · have hjo := (jeg_ok h p (lns s a) (gs.drop 1) st tk1 (by
          rw [htk1]
          split
          · rename_i qp
            have hf := (frE_rng h 0 (lns s a lo hi) tk).resolve_left fun z => hne ⟨qp, z⟩
            exact (tke_ok t0 t1 hf.1 hf.2).1.1
          · exact t0) (by
          rw [htk1]
          split
          · rename_i qp
            have hf := (frE_rng h 0 (lns s a lo hi) tk).resolve_left fun z => hne ⟨qp, z⟩
            exact (tke_ok t0 t1 hf.1 hf.2).1.2
          · exact t1)).2 acc (by rw [hj2])
        exact hjo.1
    | succ m ih =>
      intro g acc tk1 tkn e0 J1 hm g1 g2 hne htk1 he0 n0 n1 hal hj f1 k1 f7 f13 har1
      have hgl : g < gs.length := by omega
      have hE1 : EqS s J1 := fun b x y => (f1 b (by omega) (by omega) (by omega)).trans (hE b x y)
      have hdg : gs.drop g = gs[g] :: gs.drop (g + 1) := List.drop_eq_getElem_cons hgl
      have hcd := chn_drop (st := st) g hc
      rw [hdg, hglo] at hcd
      obtain ⟨⟨c1, c2, c3, c4, c5, c6⟩, hle⟩ := hcd
      have hle2 : lo ≤ gs[g] := hle
      have hb1 : J 99 0 (g : Int) = gs[g] := har g _ (by rw [List.getElem?_append_left hgl]; exact List.getElem?_eq_getElem hgl)
      have hb2 : J 99 0 ((g : Int) + 1) = hdo (gs.drop (g + 1)) st := by
        have := har (g + 1) _ (hdo_drop st gs (g + 1) (by omega))
        have e : ((g + 1 : Nat) : Int) = (g : Int) + 1 := by omega
        rw [e] at this
        exact this
      have hlr := lns_rng h (a := a) (fr := gs[g]) (to := hdo (gs.drop (g + 1)) st) (by omega) (by omega) fun i i0 i1 => ⟨(hrow i (by omega) (by omega)).1, (hrow i (by omega) (by omega)).2.1⟩
      refine z50_60 hL ?_
      rw [k1 14 (by decide), hg]
      refine ⟨⟨by omega, by omega⟩, ⟨by omega, by omega⟩, fun q => by omega, fun _ => ?_⟩
      refine c131 (fr := gs[g]) (to := hdo (gs.drop (g + 1)) st) hL hE1 h hT hS hi' (fun i i0 i1 => by rw [f1 93 (by decide) (by decide) (by decide)]; exact ha i i0 i1) (by omega) (by omega) (by rw [f1 99 (by decide) (by decide) (by decide)]; exact hb1) (by rw [f1 99 (by decide) (by decide) (by decide)]; exact hb2) hle2 (by omega) (by omega) (by omega) (zaI_of ?_)
      rw [k1 9 (by decide), hp]
      rw [hdg, jeg] at hj
      refine c49 hL hE1 h ⟨by omega, by omega⟩ ⟨by omega, by omega⟩ n0 n1 f7 (by omega) (fun q => zaI_of ⟨⟨by decide, by decide⟩, ⟨by decide, by decide⟩, fun z => absurd rfl z, fun _ => ⟨Or.inl rfl, ?_⟩⟩) (fun q r0 r1 => zaI_of ⟨⟨by omega, by omega⟩, ⟨by decide, by decide⟩, fun _ => ⟨by omega, by omega, ?_⟩, fun z => absurd z q⟩)
      · rw [if_pos q] at hj
        have hj2 : jeg s p (lns s a) (gs.drop 1) st tk1 = (none, tkn) := hj
        refine h0 J1 (100 + p) tkn ?_ f1 k1 f7
        unfold jhe
        rw [if_neg hne, ← htk1, hj2]
      · rw [if_neg q, ← jpre_app] at hj
        have htn := (tke_ok n0 n1 r0 r1).1
        have e : (g : Int) + 1 = ((g + 1 : Nat) : Int) := by omega
        rw [e]
        refine ih (g + 1) (acc ++ [frE s p (lns s a gs[g] (hdo (gs.drop (g + 1)) st)) tkn]) tk1 _ e0 _ (by omega) (by omega) (by omega) hne htk1 he0 htn.1 htn.2 (by rw [List.length_append, hal]; simp; omega) hj (fun b x y z => by rw [zup_ne _ _ _ _ y, zup_ne _ _ _ _ z]; exact f1 b x y z) (fun k hk => by rw [zup_ne _ _ _ _ (by decide), zup_ne _ _ _ _ (by decide)]; exact k1 k hk) (by rw [zup_ne _ _ _ _ (by decide), zup_eq]) (by rw [zup_ne _ _ _ _ (by decide), zup_ne _ _ _ _ (by decide)]; exact f13) ?_
        rw [← List.cons_append]
        refine ar_snoc (ar_cong har1 fun j hj2 => ?_) ?_
        · rw [zup_nk _ _ (by rw [List.length_cons, hal] at hj2; omega), zup_ne _ _ _ _ (by decide)]
        · rw [List.length_cons, hal]
          have e2 : ((g - 1 + 1 : Nat) : Int) = g := by omega
          rw [e2, zup_eq]
  have arr1 : ∀ (f : Int → Int) (x : Int), f 0 = x → Ar f (x :: []) := fun f x hf j v hv => by
    cases j with
    | zero =>
      have : x = v := Option.some.inj hv
      rw [← this]
      exact hf
    | succ j => simp at hv
  have hlr := lns_rng h (a := a) (fr := lo) (to := hi) l0 l2 fun i i0 i1 => ⟨(hrow i i0 i1).1, (hrow i i0 i1).2.1⟩
  refine z50 hL ?_
  rw [hp, hen]
  refine ⟨⟨by omega, by omega⟩, fun q => ⟨by decide, by decide, ?_⟩, fun q => ?_⟩
  · refine loop _ 1 [] tk tk en _ rfl (by omega) (by omega) (fun z => q z.1) (by rw [if_neg q]) (by rw [if_neg q]) t0 t1 rfl (by rw [jpre_nil]) (fun b x y z => zup_ne _ _ _ _ y) (fun k hk => by rw [zup_ne _ _ _ _ (by decide)]) (by rw [zup_ne _ _ _ _ (by decide)]; exact ht) (by rw [zup_ne _ _ _ _ (by decide)]; exact hen) (arr1 _ _ (zup_eq _ _ _ _ _))
  · refine c130 hL hE h hT hS hi' ha hlo hhi (by omega) (zaI_of ?_)
    refine c49 hL hE h zin_0 ⟨by omega, by omega⟩ t0 t1 ht (by omega) (fun q2 => zaI_of ⟨⟨by decide, by decide⟩, ⟨by decide, by decide⟩, fun z => absurd rfl z, fun _ => ⟨Or.inl rfl, ?_⟩⟩) (fun q2 r0 r1 => zaI_of ⟨⟨by omega, by omega⟩, ⟨by decide, by decide⟩, fun _ => ⟨by decide, by decide, ?_⟩, fun z => absurd z q2⟩)
    · refine h0 _ 100 tk ?_ (fun b x y z => zup_ne _ _ _ _ x) (fun k hk => zup_nk _ _ hk) (by rw [zup_ne _ _ _ _ (by decide)]; exact ht)
      unfold jhe
      rw [if_pos ⟨q, q2⟩]
    · have htn := (tke_ok t0 t1 r0 r1).1
      refine loop _ 1 [] _ (tke tk (frE s 0 (lns s a lo hi) tk)) (frE s 0 (lns s a lo hi) tk) _ rfl (by omega) (by omega) (fun z => q2 z.2) rfl (by rw [if_pos q]) htn.1 htn.2 rfl (by rw [if_pos q, jpre_nil]) (fun b x y z => by rw [zup_ne _ _ _ _ y, zup_ne _ _ _ _ x, zup_ne _ _ _ _ z]) (fun k hk => by rw [zup_ne _ _ _ _ (by decide), zup_nk _ _ hk, zup_ne _ _ _ _ (by decide)]) (by rw [zup_ne _ _ _ _ (by decide), zup_ne _ _ _ _ (by decide), zup_eq]) (by rw [zup_ne _ _ _ _ (by decide), zup_eq]) (arr1 _ _ (zup_eq _ _ _ _ _))
/-- what is wrong at the place at hand -/
theorem c44 {L : Nat} {xs : Nat → Int32} (hL : L ≤ 3072) {D : Nat} {J : zJ} {K : zK} {Q : zR → Nat → zJ → zK → Prop} {s : zJ} (hE : EqS s J) (h : LW s) (hT : TW s) (hP : PW s) {a : Int → Int} {p lo hi mi en tk : Int} (hS : Seg s a p lo hi) (hi' : Inj a lo hi) (ha : ∀ i : Int, lo ≤ i → i < hi → J 93 0 i = a i) (hp : J 92 0 9 = p) (hlo : J 92 0 10 = lo) (hhi : J 92 0 11 = hi) (hen : J 92 0 13 = en) (t0 : 0 ≤ tk) (t1 : tk < 256) (ht : J 101 0 7 = tk) (zen : zin en) (hD : 6 ≤ D)
  (h0 : ∀ (J' : zJ) (e t2 : Int), jhr s a (p, lo, hi, mi, en) tk = .inl (e, t2) → (∀ b : Nat, b ≠ 92 → b ≠ 99 → b ≠ 100 → b ≠ 101 → J' b = J b) → (∀ k : Int, k ≠ 13 → k ≠ 14 → J' 92 0 k = J 92 0 k) → J' 101 0 7 = t2 → Q (.inl (some (zi (e - p)))) 0 J' K)
  (h1 : ∀ (J' : zJ) (gs es : List Int) (st t2 e0 : Int), jhr s a (p, lo, hi, mi, en) tk = .inr (kdm (ky s a p) (s 20 0) (lat (e0 :: es)) mi (if 0 < ncu gs st hi then s 22 0 p else 0) gs st 0, t2, st, e0) → spl (ky s a p) p lo hi = some (gs, st) → (∀ b : Nat, b ≠ 92 → b ≠ 99 → b ≠ 100 → b ≠ 101 → J' b = J b) → (∀ k : Int, k ≠ 13 → k ≠ 14 → J' 92 0 k = J 92 0 k) → J' 101 0 7 = t2 → J' 92 0 13 = e0 → J' 92 0 14 = gs.length → Ar (J' 99 0) (gs ++ [st]) → es.length = (gs.drop 1).length → Ar (J' 100 0) (e0 :: es) → Q (.inl (some (zi (0)))) 0 J' K) : zCall L xs D 44 [zr 101] J K Q := by
  obtain ⟨D, rfl⟩ : ∃ d, D = d + 1 := ⟨D - 1, by omega⟩
  have hn := lw_n h
  have hpn := pw_n hP
  obtain ⟨⟨p0, p1⟩, ⟨l0, l1, l2⟩, hrow⟩ := id hS
  have hp21 := lw_p h p0 p1
  have hlr := lns_rng h (a := a) (fr := lo) (to := hi) l0 l2 fun i i0 i1 => ⟨(hrow i i0 i1).1, (hrow i i0 i1).2.1⟩
  have hsp := spl_ok (f := ky s a p) p0 l1 fun i h0 h1 => (ky_rng h hS h0 h1).1
  refine z44 hL ?_
  refine c130 hL hE h hT hS hi' ha hlo hhi (by omega) (zaI_of ?_)
  rw [hp, hE 21 (by decide) (by decide)]
  refine ⟨p0, by omega, ⟨by omega, by omega⟩, ⟨by omega, by omega⟩, fun q => ?_, fun q => ?_⟩
  · refine c135 hL hE h hT hS (by omega) ha hp hlo hhi fun J3 f3 k3 g3 => zaI_of ?_
    have hE3 : EqS s J3 := fun b x y => (f3 b (by omega) (by omega)).trans (hE b x y)
    cases hs : spl (ky s a p) p lo hi with
    | none =>
      refine ⟨zin_0, fun z => absurd rfl z, fun _ => ?_⟩
      have e : (200 : Int) = 200 + p - p := by omega
      rw [e]
      refine h0 J3 (200 + p) tk ?_ (fun b x y z w => f3 b x y) (fun k x y => k3 k y) (by rw [f3 101 (by decide) (by decide)]; exact ht)
      unfold jhr
      simp only
      rw [if_neg (by omega), hs]
    | some x =>
      obtain ⟨gs, st⟩ := x
      obtain ⟨hcn, hglo, hsth, _⟩ := hsp.2 gs st hs
      obtain ⟨g31, g32⟩ := g3 gs st hs
      have hcl := chn_len hcn
      rw [hglo] at hcl
      have hnc := ncu_rng hcn hglo l1
      have k93 : J3 92 0 9 = p := (k3 9 (by decide)).trans hp
      have k113 : J3 92 0 11 = hi := (k3 11 (by decide)).trans hhi
      have hjr : jhr s a (p, lo, hi, mi, en) tk = if 0 < ncu gs st hi ∧ (isF s p && !bt (s 40 0 10) p) = false then .inl (400 + p, tk) else jhe s a p lo hi mi en tk gs st := by
        unfold jhr
        simp only
        rw [if_neg (by omega), hs]
      have bad : 0 < ncu gs st hi → (isF s p && !bt (s 40 0 10) p) = false → Q (.inl (some (zi 400))) 0 J3 K := by
        intro q1 q2
        have e : (400 : Int) = 400 + p - p := by omega
        rw [e]
        refine h0 J3 (400 + p) tk ?_ (fun b x y z w => f3 b x y) (fun k x y => k3 k y) (by rw [f3 101 (by decide) (by decide)]; exact ht)
        rw [hjr, if_pos ⟨q1, q2⟩]
      have good : ¬ (0 < ncu gs st hi ∧ (isF s p && !bt (s 40 0 10) p) = false) → zCall L xs D 50 [zr 101] J3 K fun r5 e5 J5 K5 => zaI r5 e5 (fun x5_ => zin x5_ ∧ (x5_ = (0 : Int) → Q (.inl (some (zi 100))) 0 J5 K5) ∧ (x5_ ≠ (0 : Int) → Q (.inl (some (zi 0))) 0 J5 K5)) (fun E => Q (.inr E) e5 J5 K5) := by
        intro q1
        rw [if_neg q1] at hjr
        refine c50 (mi := mi) hL hE3 h hT hS hi' hcn hglo (fun i i0 i1 => by rw [f3 93 (by decide) (by decide)]; exact ha i i0 i1) k93 ((k3 10 (by decide)).trans hlo) k113 ((k3 13 (by decide)).trans hen) g31 g32 t0 t1 (by rw [f3 101 (by decide) (by decide)]; exact ht) zen (by omega) (fun J5 e t2 hj f5 k5 f7 => zaI_of ⟨zin_0, fun _ => ?_, fun z => absurd rfl z⟩) (fun J5 es t2 e0 hj f5 k5 f7 f13 hel har5 => zaI_of ⟨zin_1, fun z => absurd z (by decide), fun _ => ?_⟩)
        · have he := jhe_err p0 hj
          have e1 : (100 : Int) = e - p := by omega
          rw [e1]
          exact h0 J5 e t2 (by rw [hjr]; exact hj) (fun b x y z w => (f5 b x z w).trans (f3 b x y)) (fun k x y => (k5 k x).trans (k3 k y)) f7
        · exact h1 J5 gs es st t2 e0 (by rw [hjr]; exact hj) hs (fun b x y z w => (f5 b x z w).trans (f3 b x y)) (fun k x y => (k5 k x).trans (k3 k y)) f7 f13 ((k5 14 (by decide)).trans g31) (by rw [f5 99 (by decide) (by decide) (by decide)]; exact g32) hel har5
      refine ⟨zin_1, fun _ => ?_, fun z => absurd (show (1 : Int) = 0 from z) (by decide)⟩
      rw [k93]
      refine c62 hL hE3 h (by omega) p0 p1 (zaI_of ⟨zin_zb _, fun q1 => ?_, fun q1 => ?_⟩)
      · have q1 := zb_0.mp q1
        refine c126 hL g31 g32 k113 (by omega) (by omega) (by omega) (by omega) (zaI_of ⟨⟨by omega, by omega⟩, fun q2 => good fun z => by omega, fun q2 => ⟨zin_0, fun z => absurd rfl z, fun _ => bad q2 ?_⟩⟩)
        rw [q1]
        rfl
      · have q1 := zb_1.mp q1
        rw [k93]
        refine c81 hL hE3 (by omega) ⟨by omega, by omega⟩ p0 (by omega) (zaI_of ⟨zin_zb _, fun q2 => ?_, fun q2 => ?_⟩)
        · have q2 := zb_1.mp q2
          refine c126 hL g31 g32 k113 (by omega) (by omega) (by omega) (by omega) (zaI_of ⟨⟨by omega, by omega⟩, fun q3 => good fun z => by omega, fun q3 => ⟨zin_0, fun z => absurd rfl z, fun _ => bad q3 ?_⟩⟩)
          rw [q2]
          simp
        · have q2 := zb_0.mp q2
          refine c126 hL g31 g32 k113 (by omega) (by omega) (by omega) (by omega) (zaI_of ⟨⟨by omega, by omega⟩, fun q3 => good fun z => by omega, fun q3 => ⟨zin_1, fun _ => good fun z => ?_, fun z => absurd z (by decide)⟩⟩)
          rw [q1, q2] at z
          simp at z
  · have e : (300 : Int) = 300 + p - p := by omega
    rw [e]
    refine h0 J (300 + p) tk ?_ (fun _ _ _ _ _ => rfl) (fun _ _ _ => rfl) ht
    unfold jhr
    simp only
    rw [if_pos q]
theorem kdm_en (f up : Int → Int) (mi gap : Int) {e0 : Int} {es : List Int} : ∀ (gs : List Int) (st : Int) (j : Nat), j + gs.length ≤ es.length + 1 → (-1 ≤ e0 ∧ e0 < 8) → (∀ e ∈ es, 0 ≤ e ∧ e < 8) → ∀ w ∈ kdm f up (lat (e0 :: es)) mi gap gs st j, -1 ≤ w.2.2.2.2 ∧ w.2.2.2.2 < 8
  | [], _, _, _, _, _, w, hw => (by cases hw)
  | b :: r, st, j, hl, h0, h1, w, hw => by
    rw [kdm] at hw
    rw [List.length_cons] at hl
    rcases List.mem_cons.mp hw with z | z
    · rw [z]
      show -1 ≤ lat (e0 :: es) j ∧ lat (e0 :: es) j < 8
      have hmem : lat (e0 :: es) j ∈ e0 :: es := lat_mem (by omega) (by
        rw [List.length_cons]
        omega)
      rcases List.mem_cons.mp hmem with y | y
      · rw [y]
        exact h0
      · have := h1 _ y
        omega
    · have e : (j : Int) + 1 = ((j + 1 : Nat) : Int) := by omega
      rw [e] at z
      exact kdm_en f up mi gap r st (j + 1) (by omega) h0 h1 w z
/-- the class's cells of arrivals and engines: A and E but for a row's portions -/
theorem c47w {L : Nat} {xs : Nat → Int32} (hL : L ≤ 3072) {D : Nat} {J : zJ} {K : zK} {Q : zR → Nat → zJ → zK → Prop} {s : zJ} (h : LW s) (hT : TW s) (hP : PW s) {a : Int → Int} {N : Int} (N7 : N ≤ 7) (hinj : Inj a 0 N) (hE : EqS s J) (hD : 8 ≤ D) {R : Int × Int × List Wr} (hQ : ∀ J' : zJ, (∀ b : Nat, b < 92 ∨ (100 < b ∧ b ≠ 101 ∧ b ≠ 103 ∧ b ≠ 104) → J' b = J b) → J' 101 0 7 = R.2.1 → (∀ k : Int, sgP a 0 N k = false → J' 104 0 k = J 104 0 k ∧ J' 103 0 k = J 103 0 k) → (R.1 = 0 → J' 104 0 = wrV (fun w => w.2.2.1) a R.2.2 (J 104 0) ∧ J' 103 0 = wrV (fun w => w.2.2.2) a R.2.2 (J 103 0)) → Q (.inl (some (zi (R.1)))) 0 J' K) : ∀ (n : Nat) (i tk : Int) (l : List It) (ws : List Wr) (J1 : zJ), n = (84 - i).toNat → 0 ≤ i → i ≤ 84 → mus l ≤ n → lens l ≤ 7 → Its s a l → (∀ v ∈ l, 0 ≤ v.2.1 ∧ v.2.2.1 ≤ N) → (∀ v ∈ l, -1 ≤ v.2.2.2.2 ∧ v.2.2.2.2 < 8) → Stk J1 l → (∀ b : Nat, b < 92 ∨ (100 < b ∧ b ≠ 101 ∧ b ≠ 103 ∧ b ≠ 104) → J1 b = J b) → (∀ w ∈ l, ∀ k : Int, w.2.1 ≤ k → k < w.2.2.1 → J1 93 0 k = a k) → 0 ≤ tk → tk < 256 → J1 101 0 7 = tk → (∀ w ∈ ws, 0 ≤ w.1 ∧ w.2.1 ≤ N) → J1 104 0 = wrV (fun w => w.2.2.1) a ws (J 104 0) → J1 103 0 = wrV (fun w => w.2.2.2) a ws (J 103 0) → R.1 = (jdW s a n l tk).1 → R.2.1 = (jdW s a n l tk).2.1 → R.2.2 = ws ++ (jdW s a n l tk).2.2 → zGo L xs (D + 1) 47 38 [some (zr 101), none, some (zi i), none, none] [] J1 K Q := by
  have hn := lw_n h
  have out : ∀ (ws : List Wr) (k : Int) (g : Wr → Int) (A : Int → Int), (∀ w ∈ ws, 0 ≤ w.1 ∧ w.2.1 ≤ N) → sgP a 0 N k = false → wrV g a ws A k = A k := by
    intro ws k g A hw hk
    refine wrV_out g ws A fun w hw2 => ?_
    rw [← Bool.not_eq_true] at hk ⊢
    intro z
    apply hk
    obtain ⟨i, i0, i1, i2⟩ := (sgP_t (hw w hw2).1).mp z
    have := hw w hw2
    exact (sgP_t (Int.le_refl 0)).mpr ⟨i, by omega, by omega, i2⟩
  have fin : ∀ (ws : List Wr) (J1 : zJ), (∀ b : Nat, b < 92 ∨ (100 < b ∧ b ≠ 101 ∧ b ≠ 103 ∧ b ≠ 104) → J1 b = J b) → J1 101 0 7 = R.2.1 → (∀ w ∈ ws, 0 ≤ w.1 ∧ w.2.1 ≤ N) → J1 104 0 = wrV (fun w => w.2.2.1) a ws (J 104 0) → J1 103 0 = wrV (fun w => w.2.2.2) a ws (J 103 0) → (R.1 = 0 → R.2.2 = ws) → Q (.inl (some (zi (R.1)))) 0 J1 K := by
    intro ws J1 f1 f7 hws e4 e3 hr
    refine hQ J1 f1 f7 (fun k hk => ?_) fun z => ?_
    · rw [e4, e3, out ws k _ _ hws hk, out ws k _ _ hws hk]
      exact ⟨rfl, rfl⟩
    · rw [hr z]
      exact ⟨e4, e3⟩
  intro n
  induction n with
  | zero =>
    intro i tk l ws J1 hm h0 h1 hmu hle hit hin hze hst hF1 har t0 t1 f7 hws e4 e3 r1 r2 r3
    refine z47_38 hL ⟨⟨by omega, by omega⟩, ⟨by omega, by omega⟩, fun _ => ?_, fun q => by omega⟩
    rw [jdW] at r1 r2 r3
    have r1' : R.1 = 0 := r1
    rw [← r1']
    refine fin ws J1 hF1 (by rw [r2]; exact f7) hws e4 e3 fun _ => by rw [r3]; exact List.append_nil ws
  | succ n ih =>
    intro i tk l ws J1 hm h0 h1 hmu hle hit hin hze hst hF1 har t0 t1 f7 hws e4 e3 r1 r2 r3
    have hE1 : EqS s J1 := fun b x y => (hF1 b (by omega)).trans (hE b x y)
    have hg1 := lens_ge hit
    refine z47_38 hL ⟨⟨by omega, by omega⟩, ⟨by omega, by omega⟩, fun _ => by omega, fun _ => ?_⟩
    refine c125 hL hst (by omega) (by omega) (fun e => zaI_of ⟨zin_0, fun _ => ?_, fun q => absurd rfl q⟩) fun w r J2 hl f2 k2 k9 k10 k11 k12 k13 s2 => zaI_of ⟨zin_1, fun q => absurd q (by decide), fun _ => ?_⟩
    · subst e
      rw [jdW] at r1 r2 r3
      have r1' : R.1 = 0 := r1
      rw [← r1']
      exact fin ws J1 hF1 (by rw [r2]; exact f7) hws e4 e3 fun _ => by rw [r3]; exact List.append_nil ws
    · subst hl
      obtain ⟨p, lo, hi, mi, en⟩ := w
      have k9 : J2 92 0 9 = p := k9
      have k10 : J2 92 0 10 = lo := k10
      have k11 : J2 92 0 11 = hi := k11
      have k12 : J2 92 0 12 = mi := k12
      have k13 : J2 92 0 13 = en := k13
      have hS : Seg s a p lo hi := hit _ List.mem_cons_self
      have hlh : 0 ≤ lo ∧ hi ≤ N := hin _ List.mem_cons_self
      have zen2 : -1 ≤ en ∧ en < 8 := hze _ List.mem_cons_self
      have zen : zin en := ⟨by omega, by omega⟩
      have hitr := its_tl hit
      have hE2 : EqS s J2 := fun b x y => (f2 b (by omega)).trans (hE1 b x y)
      have hrow : ∀ j : Int, lo ≤ j → j < hi → J2 93 0 j = a j := fun j j0 j1 => by
        rw [f2 93 (by decide)]
        exact har _ List.mem_cons_self j j0 j1
      obtain ⟨⟨p0, p1⟩, ⟨l0, l1, l2⟩, hro⟩ := id hS
      rw [jdW] at r1 r2 r3
      refine c44 (mi := mi) hL hE2 h hT hP hS (inj_wk hinj hlh.1 hlh.2) hrow k9 k10 k11 k13 t0 t1 (by rw [f2 101 (by decide)]; exact f7) zen (by omega) (fun J3 e t2 hj f3 k3 g7 => zaI_of ?_) (fun J3 gs es st t2 e0 hj hs f3 k3 g7 g13 g14 g99 hel g100 => zaI_of ?_)
      · rw [hj] at r1 r2 r3
        have r1' : R.1 = e := r1
        have he := jhr_err p0 (by show p < 12; omega) hj
        refine ⟨⟨by omega, by omega⟩, fun z => ?_, fun _ => ?_⟩
        · have hv : (100 : Int) ≤ e := he.1
          omega
        · rw [k3 9 (by decide) (by decide), k9]
          have e1 : e - p + p = R.1 := by omega
          rw [e1]
          refine fin ws J3 (fun b x => ?_) (by rw [r2]; exact g7) hws ?_ ?_ (fun z => by omega)
          · rw [f3 b (by omega) (by omega) (by omega) (by omega), f2 b (by omega)]
            exact hF1 b x
          · rw [f3 104 (by decide) (by decide) (by decide) (by decide), f2 104 (by decide)]
            exact e4
          · rw [f3 103 (by decide) (by decide) (by decide) (by decide), f2 103 (by decide)]
            exact e3
      · rw [hj] at r1 r2 r3
        simp only at r1 r2 r3
        have hks := jhr_ks h (v := (p, lo, hi, mi, en)) t0 t1 hS hj
        obtain ⟨m1, m2, -⟩ := (jhr_ok h (v := (p, lo, hi, mi, en)) t0 t1 hS).2 _ t2 st e0 hj
        obtain ⟨hcn, hglo, hsth, _⟩ := (spl_ok (f := ky s a p) p0 l1 fun i h0 h1 => (ky_rng h hS h0 h1).1).2 gs st hs
        have hcl := chn_len hcn
        rw [hglo] at hcl
        have hE3 : EqS s J3 := fun b x y => (f3 b (by omega) (by omega) (by omega) (by omega)).trans (hE2 b x y)
        have hst2 : J3 99 0 (gs.length : Int) = st := g99 gs.length st (by rw [List.getElem?_append_right (by omega)]; simp)
        have hrow3 : ∀ j : Int, lo ≤ j → j < hi → J3 93 0 j = a j := fun j j0 j1 => by
          rw [f3 93 (by decide) (by decide) (by decide) (by decide)]
          exact hrow j j0 j1
        have s3 : Stk J3 r := stk_eq s2 (k3 3 (by decide) (by decide)) (f3 _ (by decide) (by decide) (by decide) (by decide)) (f3 _ (by decide) (by decide) (by decide) (by decide)) (f3 _ (by decide) (by decide) (by decide) (by decide)) (f3 _ (by decide) (by decide) (by decide) (by decide)) (f3 _ (by decide) (by decide) (by decide) (by decide))
        refine ⟨zin_0, fun _ => ?_, fun z => absurd rfl z⟩
        rw [g14, hst2]
        refine ⟨by omega, by omega, ?_⟩
        -- those that stay
        have stay : ∀ (m : Nat) (k : Int) (J4 : zJ), m = (hi - k).toNat → st ≤ k → k ≤ hi → (∀ b : Nat, b ≠ 103 → b ≠ 104 → J4 b = J3 b) → J4 104 0 = wr1 mi a (st, k, mi, e0) (J3 104 0) → J4 103 0 = wr1 e0 a (st, k, mi, e0) (J3 103 0) → zGo L xs (D + 1) 47 90 [some (zr 101), none, some (zi i), none, some (zi k)] [] J4 K Q := by
          intro m; induction m using Nat.strongRecOn with
          | _ m ihm =>
          intro k J4 hmk a0 a1 f4 e44 e43
          refine z47_90 hL ?_
          rw [f4 92 (by decide) (by decide), k3 11 (by decide) (by decide), k11, f4 93 (by decide) (by decide), k3 12 (by decide) (by decide), k12, g13]
          refine ⟨⟨by omega, by omega⟩, ⟨by omega, by omega⟩, fun q => ?_, fun q => ?_⟩
          · have ek : k = hi := by omega
            subst ek
            have hE4 : EqS s J4 := fun b x y => (f4 b (by omega) (by omega)).trans (hE3 b x y)
            have s4 : Stk J4 r := stk_eq s3 (by rw [f4 92 (by decide) (by decide)]) (f4 _ (by decide) (by decide)) (f4 _ (by decide) (by decide)) (f4 _ (by decide) (by decide)) (f4 _ (by decide) (by decide)) (f4 _ (by decide) (by decide))
            have hgr := lens_ge hitr
            have hll : lens ((p, lo, k, mi, en) :: r) = (k - lo) + lens r := rfl
            have hml : mus ((p, lo, k, mi, en) :: r) = (12 - p) * (k - lo) + mus r := rfl
            refine c128 hL hE4 h hT hS hcn hglo (fun j j0 j1 => by rw [f4 93 (by decide) (by decide)]; exact hrow3 j j0 j1) (by rw [f4 92 (by decide) (by decide), k3 9 (by decide) (by decide)]; exact k9) (by rw [f4 92 (by decide) (by decide), k3 11 (by decide) (by decide)]; exact k11) (mi := mi) (by rw [f4 92 (by decide) (by decide), k3 12 (by decide) (by decide)]; exact k12) (by rw [f4 92 (by decide) (by decide)]; exact g14) (by rw [f4 99 (by decide) (by decide)]; exact g99) s4 (by omega) (by omega) fun J5 f5 k5 s5 => zaV_of ?_
            have hkc : kdm (ky s a p) (s 20 0) (J4 100 0) mi (if 0 < ncu gs st k then s 22 0 p else 0) gs st 0 = kdm (ky s a p) (s 20 0) (lat (e0 :: es)) mi (if 0 < ncu gs st k then s 22 0 p else 0) gs st 0 := by
              have gen : ∀ (gs' : List Int) (j : Nat), gs.length = j + gs'.length → kdm (ky s a p) (s 20 0) (J4 100 0) mi (if 0 < ncu gs st k then s 22 0 p else 0) gs' st j = kdm (ky s a p) (s 20 0) (lat (e0 :: es)) mi (if 0 < ncu gs st k then s 22 0 p else 0) gs' st j := by
                intro gs'
                induction gs' with
                | nil => intro j _; rfl
                | cons b r2 ihk =>
                  intro j hj2
                  rw [List.length_cons] at hj2
                  rw [kdm, kdm]
                  have ej : (j : Int) + 1 = ((j + 1 : Nat) : Int) := by omega
                  rw [ej, ihk (j + 1) (by omega), f4 100 (by decide) (by decide), lat_ar g100 (by omega) (by rw [List.length_cons, hel, List.length_drop]; omega)]
              exact gen gs 0 (by omega)
            rw [hkc] at s5
            have hks2 : lens (kdm (ky s a p) (s 20 0) (lat (e0 :: es)) mi (if 0 < ncu gs st k then s 22 0 p else 0) gs st 0) ≤ k - lo := hks.2.2.1
            have hks1 : mus (kdm (ky s a p) (s 20 0) (lat (e0 :: es)) mi (if 0 < ncu gs st k then s 22 0 p else 0) gs st 0) + 1 ≤ (12 - p) * (k - lo) := hks.2.1
            have kid : ∀ w ∈ kdm (ky s a p) (s 20 0) (lat (e0 :: es)) mi (if 0 < ncu gs st k then s 22 0 p else 0) gs st 0, lo ≤ w.2.1 ∧ w.2.2.1 ≤ st := hks.2.2.2.2
            refine ih (i + 1) t2 _ (ws ++ [(st, k, mi, e0)]) J5 (by omega) (by omega) (by omega) ?_ ?_ (its_app hks.1 hitr) ?_ ?_ s5 (fun b x => ?_) ?_ m1.1 m1.2 ?_ ?_ ?_ ?_ r1 r2 ?_
            · rw [mus_app]
              omega
            · rw [lens_app]
              omega
            · intro w hw
              rcases List.mem_append.mp hw with z | z
              · have := kid w z
                omega
              · exact hin w (List.mem_cons_of_mem _ z)
            · intro w hw
              rcases List.mem_append.mp hw with z | z
              · obtain ⟨_, q2, gs2, es2, hsp2, hel2, hes2, hkk⟩ := (jhr_ok h (v := (p, lo, k, mi, en)) t0 t1 hS).2 _ t2 st e0 hj
                rw [hkk] at z
                exact kdm_en (ky s a p) (s 20 0) mi (if 0 < ncu gs2 st k then s 22 0 p else 0) gs2 st 0 (by rw [hel2, List.length_drop]; omega) (q2 zen2.1 zen2.2) hes2 w z
              · exact hze w (List.mem_cons_of_mem _ z)
            · rw [f5 b (by omega) (by omega), f4 b (by omega) (by omega), f3 b (by omega) (by omega) (by omega) (by omega), f2 b (by omega)]
              exact hF1 b x
            · intro w hw j j0 j1
              rw [f5 93 (by decide) (by decide), f4 93 (by decide) (by decide)]
              rcases List.mem_append.mp hw with z | z
              · have := kid w z
                exact hrow3 j (by omega) (by omega)
              · rw [f3 93 (by decide) (by decide) (by decide) (by decide), f2 93 (by decide)]
                exact har w (List.mem_cons_of_mem _ z) j j0 j1
            · rw [f5 101 (by decide) (by decide), f4 101 (by decide) (by decide)]
              exact g7
            · intro w hw
              rcases List.mem_append.mp hw with z | z
              · exact hws w z
              · rw [List.mem_singleton] at z
                rw [z]
                exact ⟨by show 0 ≤ st; omega, hlh.2⟩
            · rw [f5 104 (by decide) (by decide), e44, f3 104 (by decide) (by decide) (by decide) (by decide), f2 104 (by decide), e4, wrV_app]
              rfl
            · rw [f5 103 (by decide) (by decide), e43, f3 103 (by decide) (by decide) (by decide) (by decide), f2 103 (by decide), e3, wrV_app]
              rfl
            · rw [r3, List.append_assoc]
              rfl
          · have hr := hro k (by omega) q
            rw [hrow3 k (by omega) q]
            have wr : ∀ (c : Int) (M : Int → Int), dup (wr1 c a (st, k, mi, e0) M) (a k) c = wr1 c a (st, k + 1, mi, e0) M := by
              intro c M
              funext x
              unfold dup wr1
              by_cases ex : x = a k
              · have : sgP a st (k + 1) x = true := (sgP_t (by omega)).mpr ⟨k, a0, by omega, ex.symm⟩
                simp only [ex, if_true]
                rw [← ex, if_pos this]
              · simp only [ex, if_false]
                have : sgP a st (k + 1) x = sgP a st k x := by
                  rw [Bool.eq_iff_iff, sgP_t (by omega), sgP_t (by omega)]
                  constructor
                  · rintro ⟨j, j0, j1, j2⟩
                    have : j ≠ k := fun z => ex (by rw [← j2, z])
                    exact ⟨j, j0, by omega, j2⟩
                  · rintro ⟨j, j0, j1, j2⟩
                    exact ⟨j, j0, by omega, j2⟩
                rw [this]
            refine ⟨by omega, by omega, hr.1, by omega, by omega, by omega, hr.1, by omega, ihm _ (by omega) (k + 1) _ rfl (by omega) (by omega) (fun b x y => by rw [zup_ne _ _ _ _ x, zup_ne _ _ _ _ y]; exact f4 b x y) ?_ ?_⟩
            · rw [zup_ne _ _ _ _ (by decide), zup_dup, e44]
              exact wr mi _
            · rw [zup_dup, zup_ne _ _ _ _ (by decide), e43]
              exact wr e0 _
        have w0 : ∀ (c : Int) (M : Int → Int), M = wr1 c a (st, st, mi, e0) M := by
          intro c M
          funext x
          unfold wr1
          rw [if_neg]
          intro z
          obtain ⟨j, j0, j1, _⟩ := (sgP_t (show 0 ≤ st by omega)).mp z
          have j1' : j < st := j1
          have j0' : st ≤ j := j0
          omega
        exact stay _ st J3 rfl (Int.le_refl _) hsth (fun _ _ _ => rfl) (w0 mi _) (w0 e0 _)
