/-! WHAT A SET NEEDS: the class learns it -/
def ndx : List (Int × Int) → Int
  | [] => 0
  | e :: r => 2 ^ (5 * e.1).toNat + ndx r
theorem ndx_app : ∀ (l r : List (Int × Int)), ndx (l ++ r) = ndx l + ndx r
  | [], r => (Int.zero_add _).symm
  | e :: l, r => by
    rw [List.cons_append, ndx, ndx, ndx_app l r]
    omega
/-- forks that a place needs; 12: too long -/
def fkU (s : zJ) (a : Int → Int) (u : Vu) (p : Int) : Bool := (decide (p = 12) && decide (s 21 0 u.1 < lns s a u.2.1 u.2.2.1)) || (decide (p = u.1) && decide (0 < ncu u.2.2.2.1 u.2.2.2.2 u.2.2.1))
def fkL (s : zJ) (a : Int → Int) : List Vu → Int → Bool
  | [], _ => false
  | u :: r, p => fkU s a u p || fkL s a r p
theorem fkL_app (s : zJ) (a : Int → Int) (p : Int) : ∀ (l r : List Vu), fkL s a (l ++ r) p = (fkL s a l p || fkL s a r p)
  | [], r => (Bool.false_or _).symm
  | u :: l, r => by rw [List.cons_append, fkL, fkL, fkL_app s a p l r, Bool.or_assoc]
theorem fkL_t {s : zJ} {a : Int → Int} {p : Int} : ∀ {l : List Vu}, fkL s a l p = true ↔ ∃ u ∈ l, fkU s a u p = true
  | [] => ⟨fun z => (by cases z), fun ⟨u, hu, _⟩ => (by cases hu)⟩
  | u :: l => by
    rw [fkL, Bool.or_eq_true, fkL_t]
    constructor
    · rintro (z | ⟨w, hw, z⟩)
      · exact ⟨u, List.mem_cons_self, z⟩
      · exact ⟨w, List.mem_cons_of_mem _ hw, z⟩
    · rintro ⟨w, hw, z⟩
      rcases List.mem_cons.mp hw with e | e
      · rw [e] at z
        exact Or.inl z
      · exact Or.inr ⟨w, e, z⟩
/-- the tables of a set, so far -/
def Tb (J : zJ) (K : zK) (x : Int) (T : List (Int × Int)) : Prop := J 109 0 x = T.length ∧ (∀ (i : Nat) (e : Int × Int), T[i]? = some e → J 110 0 (x * 7 + i) = e.1 ∧ J 111 0 (x * 7 + i) = e.2) ∧ K 112 x = ndx T
def FrX (x : Int) (J : zJ) (K : zK) (J' : zJ) (K' : zK) : Prop := (∀ b : Nat, b < 89 ∨ (100 < b ∧ b < 106) ∨ (111 < b ∧ b ≠ 115) → J' b = J b) ∧ (∀ y : Int, y ≠ x → J' 106 0 y = J 106 0 y ∧ J' 107 0 y = J 107 0 y ∧ J' 108 0 y = J 108 0 y ∧ J' 109 0 y = J 109 0 y) ∧ (∀ i : Int, i < x * 7 ∨ x * 7 + 7 ≤ i → J' 110 0 i = J 110 0 i ∧ J' 111 0 i = J 111 0 i) ∧ (∀ b : Nat, b ≠ 112 → K' b = K b) ∧ ∀ y : Int, y ≠ x → K' 112 y = K 112 y
theorem frx_rfl (x : Int) (J : zJ) (K : zK) : FrX x J K J K := ⟨fun _ _ => rfl, fun _ _ => ⟨rfl, rfl, rfl, rfl⟩, fun _ _ => ⟨rfl, rfl⟩, fun _ _ => rfl, fun _ _ => rfl⟩
theorem frx_tr {x : Int} {J J1 J2 : zJ} {K K1 K2 : zK} (h1 : FrX x J K J1 K1) (h2 : FrX x J1 K1 J2 K2) : FrX x J K J2 K2 := by
  obtain ⟨a1, a2, a3, a4, a5⟩ := h1
  obtain ⟨b1, b2, b3, b4, b5⟩ := h2
  refine ⟨fun b hb => (b1 b hb).trans (a1 b hb), fun y hy => ?_, fun i hi => ?_, fun b hb => (b4 b hb).trans (a4 b hb), fun y hy => (b5 y hy).trans (a5 y hy)⟩
  · obtain ⟨c1, c2, c3, c4⟩ := a2 y hy
    obtain ⟨d1, d2, d3, d4⟩ := b2 y hy
    exact ⟨d1.trans c1, d2.trans c2, d3.trans c3, d4.trans c4⟩
  · obtain ⟨c1, c2⟩ := a3 i hi
    obtain ⟨d1, d2⟩ := b3 i hi
    exact ⟨d1.trans c1, d2.trans c2⟩
theorem frx_of {x : Int} {J J1 : zJ} {K : zK} (h : ∀ b : Nat, b < 89 ∨ (100 < b ∧ b ≠ 115) → J1 b = J b) : FrX x J K J1 K := ⟨fun b hb => h b (by omega), fun y _ => ⟨by rw [h 106 (by decide)], by rw [h 107 (by decide)], by rw [h 108 (by decide)], by rw [h 109 (by decide)]⟩, fun i _ => ⟨by rw [h 110 (by decide)], by rw [h 111 (by decide)]⟩, fun _ _ => rfl, fun _ _ => rfl⟩
theorem frx_up {x : Int} {J : zJ} {K : zK} {b : Nat} (hb : 106 ≤ b ∧ b ≤ 109) (v : Int) : FrX x J K (zup J b 0 x v) K := by
  have key : ∀ (c : Nat) (y : Int), y ≠ x → zup J b 0 x v c 0 y = J c 0 y := fun c y hy => by
    by_cases e : c = b
    · rw [e, zup_nk _ _ hy]
    · rw [zup_ne _ _ _ _ e]
  exact ⟨fun c hc => zup_ne _ _ _ _ (by omega), fun y hy => ⟨key _ y hy, key _ y hy, key _ y hy, key _ y hy⟩, fun i _ => ⟨by rw [zup_ne _ _ _ _ (by omega)], by rw [zup_ne _ _ _ _ (by omega)]⟩, fun _ _ => rfl, fun _ _ => rfl⟩
theorem c38 {L : Nat} {xs : Nat → Int32} (hL : L ≤ 3072) {D : Nat} {J : zJ} {K : zK} {Q : zR → Nat → zJ → zK → Prop} {x p c : Int} {T : List (Int × Int)} (x0 : 0 ≤ x) (x1 : x < 128) (p0 : 0 ≤ p) (p1 : p < 12) (hp : J 92 0 9 = p) (hT : Tb J K x T) (hl : T.length < 7) (hD : 1 ≤ D) (hQ : ∀ (J' : zJ) (K' : zK), FrX x J K J' K' → (∀ b : Nat, b < 109 → J' b = J b) → Tb J' K' x (T ++ [(p, c)]) → Q (.inl none) 0 J' K') : zCall L xs D 38 [zr 105, zi x, zi c] J K Q := by
  obtain ⟨D, rfl⟩ : ∃ d, D = d + 1 := ⟨D - 1, by omega⟩
  obtain ⟨t1, t2, t3⟩ := hT
  refine z38 hL ?_
  rw [t1, hp]
  refine ⟨x0, x1, ⟨by omega, by omega⟩, ⟨by decide, by decide⟩, fun q => by omega, fun _ => ⟨x0, x1, by omega, by omega, by omega, by omega, x0, x1, x0, x1, x0, x1, by omega, by omega, x0, x1, ?_⟩⟩
  refine hQ _ _ ⟨fun b hb => ?_, fun y hy => ?_, fun i hi => ?_, fun b hb => ?_, fun y hy => ?_⟩ (fun b hb => ?_) ⟨?_, fun i e he => ?_, ?_⟩
  · rw [zup_ne _ _ _ _ (by omega), zup_ne _ _ _ _ (by omega), zup_ne _ _ _ _ (by omega)]
  · refine ⟨?_, ?_, ?_, ?_⟩
    · rw [zup_ne _ _ _ _ (by decide), zup_ne _ _ _ _ (by decide), zup_ne _ _ _ _ (by decide)]
    · rw [zup_ne _ _ _ _ (by decide), zup_ne _ _ _ _ (by decide), zup_ne _ _ _ _ (by decide)]
    · rw [zup_ne _ _ _ _ (by decide), zup_ne _ _ _ _ (by decide), zup_ne _ _ _ _ (by decide)]
    · rw [zup_nk _ _ hy, zup_ne _ _ _ _ (by decide), zup_ne _ _ _ _ (by decide)]
  · refine ⟨?_, ?_⟩
    · rw [zup_ne _ _ _ _ (by decide), zup_ne _ _ _ _ (by decide), zup_nk _ _ (by omega)]
    · rw [zup_ne _ _ _ _ (by decide), zup_nk _ _ (by omega), zup_ne _ _ _ _ (by decide)]
  · funext y
    rw [zku_at, if_neg fun z => hb z.1]
  · rw [zku_at, if_neg fun z => hy z.2]
  · rw [zup_ne _ _ _ _ (by omega), zup_ne _ _ _ _ (by omega), zup_ne _ _ _ _ (by omega)]
  · rw [zup_eq, List.length_append]
    simp
  · have e110 : ∀ (A B C : Int) (y : Int), zup (zup (zup J 110 0 A p) 111 0 A c) 109 0 B C 110 0 y = zup J 110 0 A p 110 0 y := fun A B C y => by rw [zup_ne _ _ _ _ (by decide), zup_ne _ _ _ _ (by decide)]
    have e111 : ∀ (A B C : Int) (y : Int), zup (zup (zup J 110 0 A p) 111 0 A c) 109 0 B C 111 0 y = if y = A then c else J 111 0 y := fun A B C y => by
      rw [zup_ne _ _ _ _ (by decide)]
      by_cases z : y = A
      · rw [z, if_pos rfl, zup_eq]
      · rw [if_neg z, zup_nk _ _ z, zup_ne _ _ _ _ (by decide)]
    rw [e110, e111]
    by_cases q : i < T.length
    · rw [List.getElem?_append_left q] at he
      obtain ⟨g1, g2⟩ := t2 i e he
      rw [zup_nk _ _ (by omega), if_neg (by omega)]
      exact ⟨g1, g2⟩
    · rw [List.getElem?_append_right (by omega)] at he
      have hi : i = T.length := by
        by_cases e2 : i = T.length
        · exact e2
        · have : [(p, c)][i - T.length]? = none := List.getElem?_eq_none (by simp; omega)
          rw [this] at he
          cases he
      rw [hi, Nat.sub_self] at he
      have e3 : e = (p, c) := (Option.some.inj he).symm
      rw [hi, e3, zup_eq, if_pos rfl]
      exact ⟨rfl, rfl⟩
  · rw [zku_at, if_pos ⟨rfl, rfl⟩, t3, ndx_app, ndx, ndx]
    show _ + 1 * 2 ^ (5 * p).toNat = _ + (2 ^ (5 * p).toNat + 0)
    rw [Int.one_mul, Int.add_zero]
theorem tb_eq {J J' : zJ} {K : zK} {x : Int} {T : List (Int × Int)} (hT : Tb J K x T) (e1 : J' 109 = J 109) (e2 : J' 110 = J 110) (e3 : J' 111 = J 111) : Tb J' K x T := by
  unfold Tb
  rw [e1, e2, e3]
  exact hT
/-- the forks of one more place -/
theorem fk_one (s : zJ) (a : Int → Int) (W : List Vu) (u : Vu) (u0 : 0 ≤ u.1) (u1 : u.1 < 12) : (¬ s 21 0 u.1 < lns s a u.2.1 u.2.2.1 → ¬ 0 < ncu u.2.2.2.1 u.2.2.2.2 u.2.2.1 → bs (fkL s a W) 13 = bs (fkL s a (W ++ [u])) 13) ∧ (¬ s 21 0 u.1 < lns s a u.2.1 u.2.2.1 → 0 < ncu u.2.2.2.1 u.2.2.2.2 u.2.2.1 → zor (bs (fkL s a W) 13) (1 * 2 ^ u.1.toNat) = bs (fkL s a (W ++ [u])) 13) ∧ (s 21 0 u.1 < lns s a u.2.1 u.2.2.1 → ¬ 0 < ncu u.2.2.2.1 u.2.2.2.2 u.2.2.1 → zor (bs (fkL s a W) 13) 4096 = bs (fkL s a (W ++ [u])) 13) ∧ (s 21 0 u.1 < lns s a u.2.1 u.2.2.1 → 0 < ncu u.2.2.2.1 u.2.2.2.2 u.2.2.1 → zor (zor (bs (fkL s a W) 13) 4096) (1 * 2 ^ u.1.toNat) = bs (fkL s a (W ++ [u])) 13) := by
  have hb := bs_lt (fkL s a W) 13
  have o1 := bt_or1 (t := bs (fkL s a W) 13) (k := u.1) (n := 13) (by decide) hb.1 hb.2 u0 (by omega)
  have o2 : (0 ≤ zor (bs (fkL s a W) 13) 4096 ∧ zor (bs (fkL s a W) 13) 4096 < 2 ^ 13) ∧ ∀ y : Int, 0 ≤ y → bt (zor (bs (fkL s a W) 13) 4096) y = (bt (bs (fkL s a W) 13) y || decide (12 = y)) := bt_or1 (t := bs (fkL s a W) 13) (k := 12) (n := 13) (by decide) hb.1 hb.2 (by decide) (by decide)
  have o3 := bt_or1 (t := zor (bs (fkL s a W) 13) 4096) (k := u.1) (n := 13) (by decide) o2.1.1 o2.1.2 u0 (by omega)
  have key : ∀ y : Int, fkL s a (W ++ [u]) y = (fkL s a W y || fkU s a u y) := fun y => by rw [fkL_app, fkL, fkL, Bool.or_false]
  have e12 : ∀ y : Int, decide ((12 : Int) = y) = decide (y = 12) := fun y => by
    rw [Bool.eq_iff_iff, decide_eq_true_iff, decide_eq_true_iff]
    exact eq_comm
  have eu : ∀ y : Int, decide (u.1 = y) = decide (y = u.1) := fun y => by
    rw [Bool.eq_iff_iff, decide_eq_true_iff, decide_eq_true_iff]
    exact eq_comm
  have lt1 : ∀ y : Int, y = u.1 → decide (y < ((13 : Nat) : Int)) = true := fun y z => decide_eq_true (by omega)
  have lt2 : ∀ y : Int, y = 12 → decide (y < ((13 : Nat) : Int)) = true := fun y z => decide_eq_true (by omega)
  refine ⟨fun q1 q2 => ?_, fun q1 q2 => ?_, fun q1 q2 => ?_, fun q1 q2 => ?_⟩
  · refine bs_cong fun y _ _ => ?_
    rw [key, fkU, decide_eq_false q1, decide_eq_false q2, Bool.and_false, Bool.and_false, Bool.or_false, Bool.or_false]
  · refine bs_of o1.1.1 fun y y0 => ?_
    rw [o1.2 y y0, bt_bs _ _ y y0, key, fkU, decide_eq_false q1, decide_eq_true q2, Bool.and_false, Bool.and_true, Bool.false_or, eu]
    by_cases e : y = u.1
    · rw [lt1 y e, decide_eq_true e, Bool.or_true, Bool.or_true, Bool.true_and]
    · rw [decide_eq_false e, Bool.or_false, Bool.or_false]
  · refine bs_of o2.1.1 fun y y0 => ?_
    rw [o2.2 y y0, bt_bs _ _ y y0, key, fkU, decide_eq_true q1, decide_eq_false q2, Bool.and_false, Bool.and_true, Bool.or_false, e12]
    by_cases e : y = 12
    · rw [lt2 y e, decide_eq_true e, Bool.or_true, Bool.or_true, Bool.true_and]
    · rw [decide_eq_false e, Bool.or_false, Bool.or_false]
  · refine bs_of o3.1.1 fun y y0 => ?_
    rw [o3.2 y y0, o2.2 y y0, bt_bs _ _ y y0, key, fkU, decide_eq_true q1, decide_eq_true q2, Bool.and_true, Bool.and_true, e12, eu]
    by_cases e : y = 12
    · rw [lt2 y e, decide_eq_true e, Bool.or_true, Bool.true_or, Bool.or_true]
      rfl
    · by_cases e2 : y = u.1
      · rw [lt1 y e2, decide_eq_true e2, Bool.or_true, Bool.or_true, Bool.or_true]
        rfl
      · rw [decide_eq_false e, decide_eq_false e2, Bool.or_false, Bool.or_false, Bool.or_false, Bool.or_false]
theorem c39 {L : Nat} {xs : Nat → Int32} (hL : L ≤ 3072) {D : Nat} {J : zJ} {K : zK} {Q : zR → Nat → zJ → zK → Prop} {s : zJ} (hE : EqS s J) (h : LW s) (hT : TW s) {a : Int → Int} {x p lo hi st : Int} {gs : List Int} {W : List Vu} {T : List (Int × Int)} (x0 : 0 ≤ x) (x1 : x < 128) (hS : Seg s a p lo hi) (hi' : Inj a lo hi) (hc : Chn (ky s a p) p hi gs st) (hglo : hdo gs st = lo) (ha : ∀ i : Int, lo ≤ i → i < hi → J 93 0 i = a i) (hp : J 92 0 9 = p) (hlo : J 92 0 10 = lo) (hhi : J 92 0 11 = hi) (hg : J 92 0 14 = gs.length) (har : Ar (J 99 0) (gs ++ [st])) (hV : J 106 0 x = bs (fkL s a W) 13) (hTb : Tb J K x T) (hl : T.length + (tkU s a (p, lo, hi, gs, st)).length ≤ 7) (hD : 4 ≤ D) (hQ : ∀ (J' : zJ) (K' : zK), FrX x J K J' K' → (∀ b : Nat, b < 106 → J' b = J b) → J' 106 0 x = bs (fkL s a (W ++ [(p, lo, hi, gs, st)])) 13 → Tb J' K' x (T ++ tkU s a (p, lo, hi, gs, st)) → Q (.inl none) 0 J' K') : zCall L xs D 39 [zr 105, zi x] J K Q := by
  obtain ⟨D, rfl⟩ : ∃ d, D = d + 1 := ⟨D - 1, by omega⟩
  have hn := lw_n h
  obtain ⟨⟨p0, p1⟩, ⟨l0, l1, l2⟩, hrow⟩ := id hS
  have hpp := lw_p h p0 p1
  have hcl := chn_len hc
  rw [hglo] at hcl
  have hfk : (¬ s 21 0 p < lns s a lo hi → ¬ 0 < ncu gs st hi → bs (fkL s a W) 13 = bs (fkL s a (W ++ [(p, lo, hi, gs, st)])) 13) ∧ (¬ s 21 0 p < lns s a lo hi → 0 < ncu gs st hi → zor (bs (fkL s a W) 13) (1 * 2 ^ p.toNat) = bs (fkL s a (W ++ [(p, lo, hi, gs, st)])) 13) ∧ (s 21 0 p < lns s a lo hi → ¬ 0 < ncu gs st hi → zor (bs (fkL s a W) 13) 4096 = bs (fkL s a (W ++ [(p, lo, hi, gs, st)])) 13) ∧ (s 21 0 p < lns s a lo hi → 0 < ncu gs st hi → zor (zor (bs (fkL s a W) 13) 4096) (1 * 2 ^ p.toNat) = bs (fkL s a (W ++ [(p, lo, hi, gs, st)])) 13) := fk_one s a W (p, lo, hi, gs, st) p0 (by show p < 12; omega)
  have hV2 : ∀ V : Int, V = bs (fkL s a (W ++ [(p, lo, hi, gs, st)])) 13 → V = bs (fkL s a (W ++ [(p, lo, hi, gs, st)])) 13 := fun _ e => e
  generalize hV' : bs (fkL s a (W ++ [(p, lo, hi, gs, st)])) 13 = V' at hfk hQ
  clear hV2
  generalize bs (fkL s a W) 13 = V0 at hfk hV
  have hT0 : ((tkU s a (p, lo, hi, gs, st)).length : Int) = zb (decide (p = 0)) + ((gs.drop 1).length : Nat) := tkU_len (s := s) (a := a) (p, lo, hi, gs, st)
  -- the groups behind the first
  have loop : ∀ (m g : Nat) (J1 : zJ) (K1 : zK) (T1 : List (Int × Int)), m = gs.length - g → 1 ≤ g → g ≤ gs.length ∨ g = 1 → T1 ++ gld (lns s a) p (gs.drop g) st = T ++ tkU s a (p, lo, hi, gs, st) → FrX x J K J1 K1 → (∀ b : Nat, b < 106 → J1 b = J b) → J1 106 0 x = V' → Tb J1 K1 x T1 → zGo L xs (D + 1) 39 89 [some (zr 105), some (zi x), some (zi (g : Int))] [] J1 K1 Q := by
    intro m
    induction m with
    | zero =>
      intro g J1 K1 T1 hm g1 g2 hT1 f1 k1 v1 tb
      refine z39_89 hL ?_
      rw [k1 92 (by decide), hg]
      refine ⟨⟨by omega, by omega⟩, ⟨by omega, by omega⟩, fun _ => ?_, fun q => by omega⟩
      have hd : gs.drop g = [] := List.drop_eq_nil_of_le (by omega)
      rw [hd, gld, List.append_nil] at hT1
      rw [hT1] at tb
      exact hQ J1 K1 f1 k1 v1 tb
    | succ m ih =>
      intro g J1 K1 T1 hm g1 g2 hT1 f1 k1 v1 tb
      have hgl : g < gs.length := by omega
      have hE1 : EqS s J1 := fun b x y => (k1 b (by omega)).trans (hE b x y)
      have hdg : gs.drop g = gs[g] :: gs.drop (g + 1) := List.drop_eq_getElem_cons hgl
      have hcd := chn_drop (st := st) g hc
      rw [hdg, hglo] at hcd
      obtain ⟨⟨c1, c2, c3, c4, c5, c6⟩, hle⟩ := hcd
      have hle2 : lo ≤ gs[g] := hle
      have hb1 : J 99 0 (g : Int) = gs[g] := har g _ (by rw [List.getElem?_append_left hgl]; exact List.getElem?_eq_getElem hgl)
      have hb2 : J 99 0 ((g : Int) + 1) = hdo (gs.drop (g + 1)) st := by
        have := har (g + 1) _ (hdo_drop st gs (g + 1) (by omega))
        have e : ((g + 1 : Nat) : Int) = (g : Int) + 1 := by omega
        rw [e] at this
        exact this
      rw [hdg, gld] at hT1
      have hlen : T1.length < 7 := by
        have := congrArg List.length hT1
        rw [List.length_append, List.length_append, List.length_cons] at this
        omega
      refine z39_89 hL ?_
      rw [k1 92 (by decide), hg]
      refine ⟨⟨by omega, by omega⟩, ⟨by omega, by omega⟩, fun q => by omega, fun _ => ?_⟩
      refine c131 (fr := gs[g]) (to := hdo (gs.drop (g + 1)) st) hL hE1 h hT hS hi' (fun i i0 i1 => by rw [k1 93 (by decide)]; exact ha i i0 i1) (by omega) (by omega) (by rw [k1 99 (by decide)]; exact hb1) (by rw [k1 99 (by decide)]; exact hb2) hle2 (by omega) (by omega) (by omega) (zaI_of ?_)
      refine c38 hL x0 x1 p0 (by omega) (by rw [k1 92 (by decide)]; exact hp) tb hlen (by omega) fun J2 K2 f2 k2 tb2 => zaV_of ?_
      have e : (g : Int) + 1 = ((g + 1 : Nat) : Int) := by omega
      rw [e]
      refine ih (g + 1) J2 K2 _ (by omega) (by omega) (by omega) ?_ (frx_tr f1 f2) (fun b hb => (k2 b (by omega)).trans (k1 b hb)) (by rw [k2 106 (by decide)]; exact v1) tb2
      rw [List.append_assoc]
      exact hT1
  have tail : ∀ (J2 : zJ), FrX x J K J2 K → (∀ b : Nat, b < 106 → J2 b = J b) → J2 106 0 x = V' → Tb J2 K x T → zin (J2 92 0 9) ∧ ((J2 92 0 9) ≠ (0 : Int) → zGo L xs (D + 1) 39 89 [some (zr 105), some (zi x), some (zi 1)] [] J2 K Q) ∧ ((J2 92 0 9) = (0 : Int) → zCall L xs D 130 [zr 92] J2 K fun r3 e3 J3 K3 => zaI r3 e3 (fun x3_ => zCall L xs D 38 [zr 105, zi x, zi x3_] J3 K3 fun r4 e4 J4 K4 => zaV r4 e4 (zGo L xs (D + 1) 39 89 [some (zr 105), some (zi x), some (zi 1)] [] J4 K4 Q) (fun E => Q (.inr E) e4 J4 K4)) (fun E => Q (.inr E) e3 J3 K3)) := by
    intro J2 f2 k2 v2 tb
    have hE2 : EqS s J2 := fun b x y => (k2 b (by omega)).trans (hE b x y)
    rw [k2 92 (by decide), hp]
    refine ⟨⟨by omega, by omega⟩, fun q => ?_, fun q => ?_⟩
    · refine loop _ 1 J2 K T rfl (Nat.le_refl _) (Or.inr rfl) ?_ f2 k2 v2 tb
      show T ++ _ = T ++ ((if p = 0 then [(0, lns s a lo hi)] else []) ++ gld (lns s a) p (gs.drop 1) st)
      rw [if_neg q, List.nil_append]
    · refine c130 hL hE2 h hT hS hi' (fun i i0 i1 => by rw [k2 93 (by decide)]; exact ha i i0 i1) (by rw [k2 92 (by decide)]; exact hlo) (by rw [k2 92 (by decide)]; exact hhi) (by omega) (zaI_of ?_)
      refine c38 hL x0 x1 p0 (by omega) (by rw [k2 92 (by decide)]; exact hp) tb (by
        rw [decide_eq_true q] at hT0
        have : zb true = 1 := rfl
        omega) (by omega) fun J3 K3 f3 k3 tb3 => zaV_of ?_
      refine loop _ 1 J3 K3 _ rfl (Nat.le_refl _) (Or.inr rfl) ?_ (frx_tr f2 f3) (fun b hb => (k3 b (by omega)).trans (k2 b hb)) (by rw [k3 106 (by decide)]; exact v2) tb3
      show _ = T ++ ((if p = 0 then [(0, lns s a lo hi)] else []) ++ gld (lns s a) p (gs.drop 1) st)
      rw [if_pos q, List.append_assoc, q]
  have hlr := lns_rng h (a := a) (fr := lo) (to := hi) l0 l2 fun i i0 i1 => ⟨(hrow i i0 i1).1, (hrow i i0 i1).2.1⟩
  have hnc : zin (ncu gs st hi) := by
    unfold ncu
    constructor <;> split <;> omega
  refine z39 hL ?_
  refine c130 hL hE h hT hS hi' ha hlo hhi (by omega) (zaI_of ?_)
  have e21 := hE 21 (by decide) (by decide)
  rw [hp, e21]
  refine ⟨p0, by omega, ⟨by omega, by omega⟩, ⟨by omega, by omega⟩, fun q => ?_, fun q => ⟨x0, x1, x0, x1, ?_⟩⟩
  · refine c126 hL hg har hhi (by omega) (by omega) (by omega) (by omega) (zaI_of ⟨hnc, fun q2 => ?_, fun q2 => ⟨x0, x1, by rw [hp]; exact p0, by rw [hp]; omega, x0, x1, ?_⟩⟩)
    · exact tail J (frx_rfl x J K) (fun _ _ => rfl) (hV.trans (hfk.1 (by omega) (by omega))) hTb
    · have := tail (zup J 106 0 x (zor (J 106 0 x) (1 * 2 ^ (J 92 0 9).toNat))) (frx_up (by decide) _) (fun b hb => zup_ne _ _ _ _ (by omega)) (by
        rw [zup_eq, hV, hp]
        exact hfk.2.1 (by omega) (by omega)) (tb_eq hTb (zup_ne _ _ _ _ (by decide)) (zup_ne _ _ _ _ (by decide)) (zup_ne _ _ _ _ (by decide)))
      exact this
  · have f1 : FrX x J K (zup J 106 0 x (zor (J 106 0 x) 4096)) K := frx_up (by decide) _
    have k1 : ∀ b : Nat, b ≠ 106 → zup J 106 0 x (zor (J 106 0 x) 4096) b = J b := fun b hb => zup_ne _ _ _ _ hb
    have v1 : zup J 106 0 x (zor (J 106 0 x) 4096) 106 0 x = zor V0 4096 := by rw [zup_eq, hV]
    generalize zup J 106 0 x (zor (J 106 0 x) 4096) = J1 at f1 k1 v1 ⊢
    have tb1 : Tb J1 K x T := tb_eq hTb (k1 _ (by decide)) (k1 _ (by decide)) (k1 _ (by decide))
    have n92 := k1 92 (by decide)
    refine c126 hL (by rw [n92]; exact hg) (by rw [k1 99 (by decide)]; exact har) (by rw [n92]; exact hhi) (by omega) (by omega) (by omega) (by omega) (zaI_of ⟨hnc, fun q2 => ?_, fun q2 => ⟨x0, x1, by rw [n92, hp]; exact p0, by rw [n92, hp]; omega, x0, x1, ?_⟩⟩)
    · exact tail J1 f1 (fun b hb => k1 b (by omega)) (v1.trans (hfk.2.2.1 (by omega) (by omega))) tb1
    · have f2 : FrX x J1 K (zup J1 106 0 x (zor (J1 106 0 x) (1 * 2 ^ (J1 92 0 9).toNat))) K := frx_up (by decide) _
      have k2 : ∀ b : Nat, b ≠ 106 → zup J1 106 0 x (zor (J1 106 0 x) (1 * 2 ^ (J1 92 0 9).toNat)) b = J1 b := fun b hb => zup_ne _ _ _ _ hb
      have v2 : zup J1 106 0 x (zor (J1 106 0 x) (1 * 2 ^ (J1 92 0 9).toNat)) 106 0 x = zor (zor V0 4096) (1 * 2 ^ p.toNat) := by rw [zup_eq, v1, n92, hp]
      have w92 := k2 92 (by decide)
      generalize zup J1 106 0 x (zor (J1 106 0 x) (1 * 2 ^ (J1 92 0 9).toNat)) = J2 at f2 k2 v2 w92 ⊢
      have hh := tail J2 (frx_tr f1 f2) (fun b hb => (k2 b (by omega)).trans (k1 b (by omega))) (v2.trans (hfk.2.2.2 (by omega) (by omega))) (tb_eq tb1 (k2 _ (by decide)) (k2 _ (by decide)) (k2 _ (by decide)))
      rw [w92] at hh
      exact hh
