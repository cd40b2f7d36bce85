/-! THE EVENING in the class: rows join, and leave -/
/-- cells that the way from place to place leaves as they are -/
def FrT (J J' : zJ) : Prop := (∀ b : Nat, b ≠ 117 → b < 122 ∨ (126 < b ∧ b ≠ 133) → J' b = J b) ∧ ∀ k : Int, k ≠ 10 → J' 117 0 k = J 117 0 k
theorem ft_rfl (J : zJ) : FrT J J := ⟨fun _ _ _ => rfl, fun _ _ => rfl⟩
theorem ft_tr {J J1 J2 : zJ} (h1 : FrT J J1) (h2 : FrT J1 J2) : FrT J J2 := ⟨fun b x y => (h2.1 b x y).trans (h1.1 b x y), fun k hk => (h2.2 k hk).trans (h1.2 k hk)⟩
theorem ft_up {J J1 : zJ} (h : FrT J J1) {a : Nat} (ha : (122 ≤ a ∧ a ≤ 126) ∨ a = 133) (i k v : Int) : FrT J (zup J1 a i k v) := ⟨fun b x y => by rw [zup_ne _ _ _ _ (by omega)]; exact h.1 b x y, fun q hq => by rw [zup_ne _ _ _ _ (by omega)]; exact h.2 q hq⟩
theorem ft_eqs {s J J' : zJ} (hE : EqS s J) (h : FrT J J') : EqS s J' := fun b h1 h2 => (h.1 b (by omega) (by omega)).trans (hE b h1 h2)
theorem ft_pr {s J J' : zJ} {w : Int → Int} (hP : PR s J w) (h : FrT J J') : PR s J' w := by
  unfold PR at hP ⊢
  rw [h.2 4 (by decide), h.1 118 (by decide) (by decide), h.1 119 (by decide) (by decide)]
  exact hP
theorem cr_nil {s J : zJ} {E : Ev} {p q : Int} (h : CR s J E p []) : CR s J E q [] := fun g g0 g1 => ⟨(h g g0 g1).1, fun z => ⟨⟨fun y => absurd y (by simp), ((h g g0 g1).2 z).1.2⟩, ((h g g0 g1).2 z).2⟩⟩
/-- a row that is no more may be counted among those that have left -/
theorem cr_dead {s J : zJ} {E : Ev} {p : Int} {t u : List Int} (h : CR s J E p t) (h1 : ∀ x ∈ t, x ∈ u) (h2 : ∀ x, 0 ≤ x → x < s 18 0 6 → x ∈ u → x ∉ t → E.2.2 x < 0) : CR s J E p u := by
  intro g g0 g1
  have hg := h g g0 g1
  refine ⟨hg.1, fun z => ⟨⟨fun y => ?_, fun y => (hg.2 z).1.2 fun q => y (h1 g q)⟩, (hg.2 z).2⟩⟩
  by_cases e : g ∈ t
  · exact (hg.2 z).1.1 e
  · have := h2 g g0 g1 y e
    omega
theorem ris_cong {f f' : Int → Int} : ∀ {l : List Int}, ris f l → (∀ x ∈ l, f' x = f x) → ris f' l
  | [], _, _ => trivial
  | e :: r, h, hc => by
    refine ⟨fun x hx => ?_, ris_cong h.2 fun x hx => hc x (List.mem_cons_of_mem _ hx)⟩
    rw [hc e List.mem_cons_self, hc x (List.mem_cons_of_mem _ hx)]
    exact h.1 x hx
theorem ris_drop {f : Int → Int} : ∀ {l : List Int}, ris f l → ∀ k : Nat, ris f (l.drop k)
  | [], _, k => by
    rw [List.drop_nil]
    trivial
  | _ :: _, h, 0 => h
  | _ :: r, h, k + 1 => ris_drop (l := r) h.2 k
theorem joinP_skip {s : zJ} {w L p g : Int} : ∀ (l : List Int) (E : Ev) (la n : Int), (∀ o ∈ l, E.2.1 g + w < E.2.1 o) → joinP s w L p g l E la n = (E, la, n)
  | [], _, _, _, _ => rfl
  | o :: r, E, la, n, h => by
    have := h o List.mem_cons_self
    rw [joinP, if_neg (fun q => by omega)]
    exact joinP_skip r E la n fun x hx => h x (List.mem_cons_of_mem _ hx)
/-- a row joins another one, in the class -/
theorem cr_join {s J : zJ} (hW : LW s) {E : Ev} {p T g o : Int} {t : List Int} (hE : EO s E p T) (hC : CR s J E p t) (hp : 0 ≤ p) (h0 : 0 ≤ g) (h1 : g < s 18 0 6) (h2 : E.2.2 g = p) (o0 : 0 ≤ o) (o1 : o < s 18 0 6) (o2 : E.2.2 o = p) (hgo : g ≠ o) : CR s (zup (zup (zup (zup J 126 0 (J 125 0 g) o) 125 0 g (J 125 0 o)) 124 0 g (zor (J 124 0 g) (J 124 0 o))) 122 0 o (-1)) (eup E.1 g (E.1 g ++ E.1 o), E.2.1, eup E.2.2 o (-1)) p t := by
  have hn := lw_n hW
  have bg := hE.2.1 g h0 h1 (by omega)
  have bo := hE.2.1 o o0 o1 (by omega)
  have rg := ((hC g h0 h1).2 (by omega)).2
  have ro := ((hC o o0 o1).2 (by omega)).2
  obtain ⟨rg1, hrg⟩ := bg.2.1
  obtain ⟨ro1, hro⟩ := bo.2.1
  have ng : E.1 g ≠ [] := by rw [hrg]; simp
  have no : E.1 o ≠ [] := by rw [hro]; simp
  rw [rg.2.1]
  intro x x0 x1
  have hx := hC x x0 x1
  simp only
  by_cases f : x = o
  · subst f
    rw [eup_eq]
    exact ⟨fun _ => zup_eq _ _ _ _ _, fun q => absurd q (by decide)⟩
  · rw [eup_ne _ _ f]
    refine ⟨fun q => ?_, fun q => ⟨⟨fun y => ?_, fun y => ?_⟩, ?_⟩⟩
    · rw [zup_nk _ _ f]
      simp only [zup_at, Nat.reduceEqDiff, Int.reduceEq, eq_self, true_and, and_true, false_and, and_false, if_true, if_false]
      exact hx.1 q
    · have := (hx.2 q).1.1 y
      rw [zup_nk _ _ f]
      simp only [zup_at, Nat.reduceEqDiff, Int.reduceEq, eq_self, true_and, and_true, false_and, and_false, if_true, if_false]
      exact this
    · have := (hx.2 q).1.2 y
      rw [zup_nk _ _ f]
      simp only [zup_at, Nat.reduceEqDiff, Int.reduceEq, eq_self, true_and, and_true, false_and, and_false, if_true, if_false]
      exact this
    · have hr := (hx.2 q).2
      unfold Rc at hr ⊢
      by_cases f2 : x = g
      · subst f2
        rw [eup_eq]
        refine ⟨?_, ?_, ?_⟩
        · simp only [zup_at, Nat.reduceEqDiff, Int.reduceEq, eq_self, true_and, and_true, false_and, and_false, if_true, if_false]
          rw [rg.1, ro.1, lbt_or (fun k hk => by have := bg.2.2.2.1 k hk; omega) (fun k hk => by have := bo.2.2.2.1 k hk; omega)]
        · simp only [zup_at, Nat.reduceEqDiff, Int.reduceEq, eq_self, true_and, and_true, false_and, and_false, if_true, if_false]
          rw [ro.2.1, lst_app _ no]
        · have hc := ch_app (a := J 126 0) (o := o) (r := ro1) (l := E.1 x) ng bg.2.2.1 rg.2.2 (by rw [← hro]; exact ro.2.2) (fun k hk hk2 => by
            rw [← hro] at hk
            exact hE.2.2.1 x o x0 x1 o0 o1 (by omega) (by omega) hgo k hk2 hk)
          rw [hro]
          refine ch_cong hc fun k _ => ?_
          simp only [zup_at, Nat.reduceEqDiff, Int.reduceEq, eq_self, true_and, and_true, false_and, and_false, if_true, if_false]
      · rw [eup_ne _ _ f2]
        refine ⟨?_, ?_, ?_⟩
        · simp only [zup_at, Nat.reduceEqDiff, Int.reduceEq, eq_self, true_and, and_true, false_and, and_false, if_true, if_false]
          rw [if_neg f2]
          exact hr.1
        · simp only [zup_at, Nat.reduceEqDiff, Int.reduceEq, eq_self, true_and, and_true, false_and, and_false, if_true, if_false]
          rw [if_neg f2]
          exact hr.2.1
        · refine ch_cong hr.2.2 fun k hk => ?_
          simp only [zup_at, Nat.reduceEqDiff, Int.reduceEq, eq_self, true_and, and_true, false_and, and_false, if_true, if_false]
          rw [if_neg]
          intro e
          rw [e] at hk
          exact hE.2.2.1 g x h0 h1 x0 x1 (by omega) q (Ne.symm f2) _ (lst_mem ng) hk
/-- a row's leaving in the picture alone -/
theorem cr_left {s J J' : zJ} (hW : LW s) {E : Ev} {p T g u : Int} {t t' : List Int} (hE : EO s E p T) (hC : CR s J E p t) (hp : 1 ≤ p) (hp2 : p < s 18 0 0) (hh : hlt s p = true) (h2 : E.2.2 g = p) (hg : g ∉ t) (e1 : J' 122 = J 122) (e4 : J' 124 = J 124) (e5 : J' 125 = J 125) (e6 : J' 126 = J 126) (e3 : ∀ k, J' 123 0 k = if k = g then u - s 20 0 p else J 123 0 k) (ht : ∀ x, x ∈ t' ↔ x ∈ t ∨ x = g) : CR s J' (E.1, eup E.2.1 g u, eup E.2.2 g (s 19 0 p)) p t' := by
  have hu := lw_up hW hp hp2
  have hq := lw_p hW (p := p) (by omega) hp2
  intro x x0 x1
  have hx := hC x x0 x1
  simp only
  by_cases f : x = g
  · subst f
    rw [eup_eq, eup_eq]
    have hr := hx.2 (by omega)
    refine ⟨fun q => by omega, fun _ => ⟨⟨fun _ => ⟨?_, rfl, ?_⟩, fun y => absurd ((ht x).mpr (Or.inr rfl)) y⟩, ?_⟩⟩
    · rw [e1, (hr.1.2 hg).1, h2, ath_h hh]
    · rw [e3, if_pos rfl]
    · unfold Rc
      rw [e4, e5, e6]
      exact hr.2
  · rw [eup_ne _ _ f, eup_ne _ _ f]
    have hm : x ∈ t' ↔ x ∈ t := by
      rw [ht]
      constructor
      · rintro (q | q)
        · exact q
        · exact absurd q f
      · exact Or.inl
    refine ⟨fun q => by rw [e1]; exact hx.1 q, fun q => ⟨⟨fun y => ?_, fun y => ?_⟩, ?_⟩⟩
    · have := (hx.2 q).1.1 (hm.mp y)
      rw [e1, e3, if_neg f]
      exact this
    · have := (hx.2 q).1.2 (fun z => y (hm.mpr z))
      rw [e1, e3, if_neg f]
      exact this
    · unfold Rc
      rw [e4, e5, e6]
      exact (hx.2 q).2
theorem hlt_1 {s : zJ} {p : Int} (h : hlt s p = true) : 1 ≤ p ∧ opn s p = true := by
  unfold hlt at h
  simp only [Bool.and_eq_true, decide_eq_true_eq] at h
  exact h.1
section JB
variable {s : zJ}
/-- what holds while rows join at p: E the picture, l all rows in order, those before i are done -/
def Jn (s J : zJ) (E : Ev) (p T : Int) (l : List Int) (i : Nat) : Prop := EO s E p T ∧ CR s J E p (l.take i) ∧ Ar (J 133 0) l ∧ J 117 0 10 = l.length ∧ (∀ x ∈ l.drop i, E.2.2 x = p ∨ E.2.2 x = -1) ∧ (∀ x ∈ l.drop i, J 123 0 x = E.2.1 x ∧ 0 ≤ E.2.1 x ∧ E.2.1 x ≤ T) ∧ ris E.2.1 (l.drop i)
/-- the picture behind a row's going on -/
def stp (s : zJ) (w : Int → Int) (p g : Int) (r : List Int) (E : Ev) : Ev := ((joinP s (w p) (s 21 0 p) p g r E (E.2.1 g) 0).1.1, eup (joinP s (w p) (s 21 0 p) p g r E (E.2.1 g) 0).1.2.1 g ((joinP s (w p) (s 21 0 p) p g r E (E.2.1 g) 0).2.1 + s 23 0 p * (joinP s (w p) (s 21 0 p) p g r E (E.2.1 g) 0).2.2 + s 20 0 p), eup (joinP s (w p) (s 21 0 p) p g r E (E.2.1 g) 0).1.2.2 g (s 19 0 p))
end JB
theorem take_mem {l : List Int} {i : Nat} (hi : i < l.length) (x : Int) : x ∈ l.take (i + 1) ↔ x ∈ l.take i ∨ x = l[i] := by
  rw [take_snoc hi, List.mem_append, List.mem_singleton]
theorem drop_no {l : List Int} (hd : l.Nodup) {i : Nat} (hi : i < l.length) : (∀ x ∈ l.drop (i + 1), x ≠ l[i]) ∧ (∀ x ∈ l.drop i, x ∉ l.take i) := by
  constructor
  · have h2 : (l.drop i).Nodup := List.Sublist.nodup (List.drop_sublist i l) hd
    rw [List.drop_eq_getElem_cons hi, List.nodup_cons] at h2
    exact fun x hx e => h2.1 (by rw [← e]; exact hx)
  · have h2 := hd
    rw [← List.take_append_drop i l, List.nodup_append] at h2
    exact fun x hx hy => h2.2.2 x hy x hx rfl
theorem c15 {L : Nat} {xs : Nat → Int32} (hL : L ≤ 3072) {D : Nat} {J : zJ} {K : zK} {Q : zR → Nat → zJ → zK → Prop} {s : zJ} (hE : EqS s J) (h : LW s) (hT : TW s) {w : Int → Int} {E : Ev} {p T : Int} {l : List Int} {i : Nat} (hD : 3 ≤ D) (hTT : T ≤ 20000) (hp2 : p < s 18 0 0) (hh : hlt s p = true) (hPR : PR s J w) (hl : ∀ x ∈ l, 0 ≤ x ∧ x < s 18 0 6) (hnd : l.Nodup) (hll : l.length ≤ 7) (hi : i < l.length) (hJ : Jn s J E p T l i) (hg : E.2.2 l[i] = p) (hQ : ∀ J', FrT J J' → Jn s J' (stp s w p l[i] (l.drop (i + 1)) E) p T l (i + 1) → Q (.inl none) 0 J' K) : zCall L xs D 15 [zr 117, zi (i : Int), zi p] J K Q := by
  obtain ⟨D, rfl⟩ : ∃ d, D = d + 1 := ⟨D - 1, by omega⟩
  have hn := lw_n h
  obtain ⟨hp, hop⟩ := hlt_1 hh
  have hq := lw_p h (p := p) (by omega) hp2
  obtain ⟨hO, hC, har, hlen, hal, hmin, hris⟩ := hJ
  have hgl := hl _ (List.getElem_mem hi)
  obtain ⟨hdn1, hdn2⟩ := drop_no hnd hi
  have hdi := List.drop_eq_getElem_cons hi
  have hgm : l[i] ∈ l.drop i := by rw [hdi]; exact List.mem_cons_self
  have hgt := hdn2 _ hgm
  have bg := hO.2.1 _ hgl.1 hgl.2 (by omega)
  have hwp := hPR.2.2 p hp hp2
  have mg := (hmin _ hgm).1
  have hrr : ∀ o ∈ l.drop (i + 1), 0 ≤ o ∧ o < s 18 0 6 ∧ o ≠ l[i] := fun o ho => ⟨(hl o (List.mem_of_mem_drop ho)).1, (hl o (List.mem_of_mem_drop ho)).2, hdn1 o ho⟩
  have hjo := joinP_ok (w := w p) (L := s 21 0 p) (T := T) (by omega) hgl.1 hgl.2 (l.drop (i + 1)) E (E.2.1 l[i]) 0 hO hg hrr bg.2.2.2.2.1 (bg.2.2.2.2.2.2 hg) (Int.le_refl 0)
  have hFin : ∀ J', FrT J J' → Jn s J' ((joinP s (w p) (s 21 0 p) p l[i] (l.drop (i + 1)) E (E.2.1 l[i]) 0).1.1, eup (joinP s (w p) (s 21 0 p) p l[i] (l.drop (i + 1)) E (E.2.1 l[i]) 0).1.2.1 l[i] ((joinP s (w p) (s 21 0 p) p l[i] (l.drop (i + 1)) E (E.2.1 l[i]) 0).2.1 + s 23 0 p * (joinP s (w p) (s 21 0 p) p l[i] (l.drop (i + 1)) E (E.2.1 l[i]) 0).2.2 + s 20 0 p), eup (joinP s (w p) (s 21 0 p) p l[i] (l.drop (i + 1)) E (E.2.1 l[i]) 0).1.2.2 l[i] (s 19 0 p)) p T l (i + 1) → Q (.inl none) 0 J' K := hQ
  generalize hRe : joinP s (w p) (s 21 0 p) p l[i] (l.drop (i + 1)) E (E.2.1 l[i]) 0 = R at hjo hFin
  have ei : ((i + 1 : Nat) : Int) = (i : Int) + 1 := by omega
  have eg : l[i] = l[i] := rfl
  generalize hge : l[i] = g at hgl hgt bg mg hrr hjo hFin hRe eg hdi hdn1 hg hgm
  rw [List.length_drop] at hjo
  have inner : ∀ (m j : Nat) (J3 : zJ) (E3 : Ev) (la n3 : Int), m = l.length - j → i + 1 ≤ j → j ≤ l.length → FrT J J3 → EO s E3 p T → CR s J3 E3 p (l.take i) → E3.2.2 g = p → E3.2.1 = E.2.1 → J3 123 = J 123 → J3 133 = J 133 → J3 117 0 10 = l.length → (∀ x ∈ l.drop (i + 1), E3.2.2 x = p ∨ E3.2.2 x = -1) → joinP s (w p) (s 21 0 p) p g (l.drop j) E3 la n3 = R → zGo L xs (D + 1) 15 44 [some (zr 117), none, some (zi p), some (zi g), some (zi (E.2.1 g + w p)), some (zi la), some (zi n3), some (zi (j : Int)), none, none] [] J3 K Q := by
    intro m; induction m using Nat.strongRecOn with
    | _ m ihm =>
    intro j J3 E3 la n3 hmj hij hj hF3 hO3 hC3 hg3 hte e123 e133 e10 hal3 hjR
    have hE3 := ft_eqs hE hF3
    have e21 := hE3 21 (by decide) (by decide)
    have e23 := hE3 23 (by decide) (by decide)
    have e39 := hE3 39 (by decide) (by decide)
    -- the end
    have done : (E3, la, n3) = R → 0 ≤ g ∧ g < 7 → Q (.inl none) 0 (zup J3 123 0 g (la + n3 * J3 23 0 p)) K := by
      intro hR2 _
      rw [← hR2] at hFin hjo
      refine hFin _ (ft_up hF3 (Or.inl (by decide)) _ _ _) ?_
      have hm1 : 0 ≤ s 23 0 p * n3 := Int.mul_nonneg (by omega) hjo.2.2.2.2.2.2.1
      have hm2 : s 23 0 p * n3 ≤ 60 * 6 := Int.mul_le_mul (by omega) (by have := hjo.2.2.2.2.2.2.2; simp only at this; omega) hjo.2.2.2.2.2.2.1 (by omega)
      have hla0 := hjo.2.2.2.2.1
      have hla1 := hjo.2.2.2.2.2.1
      simp only at hla0 hla1
      refine ⟨eo_leave h hO3 hgl.1 hgl.2 hg3 hp hp2 (by simp only; omega) (by simp only; omega), ?_, ?_, ?_, fun x hx => ?_, fun x hx => ?_, ?_⟩
      · refine cr_left h hO3 hC3 hp hp2 hh hg3 hgt (zup_ne _ _ _ _ (by decide)) (zup_ne _ _ _ _ (by decide)) (zup_ne _ _ _ _ (by decide)) (zup_ne _ _ _ _ (by decide)) (fun k => ?_) (fun x => by rw [take_mem hi x, hge])
        simp only [zup_at, Nat.reduceEqDiff, Int.reduceEq, eq_self, true_and, and_true, false_and, and_false, if_true, if_false]
        rw [e23]
        have ec : n3 * s 23 0 p = s 23 0 p * n3 := Int.mul_comm _ _
        split
        · omega
        · rfl
      · rw [zup_ne _ _ _ _ (by decide), e133]
        exact har
      · rw [zup_ne _ _ _ _ (by decide)]
        exact e10
      · simp only
        rw [eup_ne _ _ (hdn1 x hx)]
        exact hal3 x hx
      · simp only
        rw [eup_ne _ _ (hdn1 x hx), zup_nk _ _ (hdn1 x hx), e123, hte]
        exact hmin x (by rw [hdi]; exact List.mem_cons_of_mem _ hx)
      · rw [hdi] at hris
        refine ris_cong hris.2 fun x hx => ?_
        simp only
        rw [eup_ne _ _ (hdn1 x hx), hte]
    refine z15_44 hL ?_
    rw [e10]
    by_cases hcj : j < l.length
    · have hdj := List.drop_eq_getElem_cons hcj
      have hom : l[j] ∈ l.drop (i + 1) := by
        rw [List.mem_drop_iff_getElem]
        refine ⟨j - (i + 1), by omega, ?_⟩
        congr 1
        omega
      have ho := hrr _ hom
      have hmo := hmin _ (by rw [hdi]; exact List.mem_cons_of_mem _ hom)
      have hot := hdn2 _ (by rw [hdi]; exact List.mem_cons_of_mem _ hom)
      have eq133 : J3 133 0 (j : Int) = l[j] := by
        rw [e133]
        exact ar_at har hcj
      have halo := hal3 _ hom
      have ej : ((j + 1 : Nat) : Int) = (j : Int) + 1 := by omega
      have hrj : ris E.2.1 (l.drop j) := by
        have e9 : l.drop j = (l.drop i).drop (j - i) := by
          rw [List.drop_drop]
          congr 1
          omega
        rw [e9]
        exact ris_drop hris _
      rw [hdj] at hrj
      rw [eq133, e123]
      generalize hoe : l[j] = o at hdj ho hmo hot halo hrj hom
      have bg3 := hO3.2.1 g hgl.1 hgl.2 (by omega)
      have rg3 := (hC3 g hgl.1 hgl.2).2 (by omega)
      have skip : ¬ (E3.2.2 o = p ∧ E3.2.1 o ≤ E3.2.1 g + w p ∧ lln s (E3.1 g) + lln s (E3.1 o) ≤ s 21 0 p) → zGo L xs (D + 1) 15 44 [some (zr 117), none, some (zi p), some (zi g), some (zi (E.2.1 g + w p)), some (zi la), some (zi n3), some (zi ((j : Int) + 1)), none, none] [] J3 K Q := by
        intro hno
        rw [hdj, joinP, if_neg hno] at hjR
        rw [← ej]
        exact ihm _ (by omega) (j + 1) J3 E3 la n3 rfl (by omega) (by omega) hF3 hO3 hC3 hg3 hte e123 e133 e10 hal3 hjR
      rw [hmo.1]
      refine ⟨⟨by omega, by omega⟩, ⟨by omega, by omega⟩, fun _ => by omega, fun _ => ⟨by omega, by omega, by omega, by omega, ⟨by omega, by omega⟩, ⟨by omega, by omega⟩, fun z => ⟨by omega, by omega, by omega, by omega, done ?_ (by omega)⟩, fun z => ⟨by omega, by omega, by omega, by omega, ?_⟩⟩⟩
      · rw [← hjR, hdj, joinP_skip]
        intro x hx
        rw [hte]
        rw [List.mem_cons] at hx
        rcases hx with q | q
        · rw [q]
          exact z
        · have := hrj.1 x q
          omega
      · rcases halo with q | q
        · have bo3 := hO3.2.1 o ho.1 ho.2.1 (by omega)
          have ro3 := (hC3 o ho.1 ho.2.1).2 (by omega)
          have hat : J3 122 0 o = p := by rw [(ro3.1.2 hot).1, q, ath_h hh]
          have kg : ∀ k ∈ E3.1 g, 0 ≤ k ∧ k < 7 := fun k hk => by
            have := bg3.2.2.2.1 k hk
            omega
          have ko : ∀ k ∈ E3.1 o, 0 ≤ k ∧ k < 7 := fun k hk => by
            have := bo3.2.2.2.1 k hk
            omega
          have two := eo_two h hO3 hgl.1 hgl.2 (by omega) ho.1 ho.2.1 (by omega) (Ne.symm ho.2.2)
          have kgo : ∀ k ∈ E3.1 g ++ E3.1 o, 0 ≤ k ∧ k < s 18 0 6 := fun k hk => by
            rw [List.mem_append] at hk
            rcases hk with y | y
            · have := bg3.2.2.2.1 k y
              omega
            · have := bo3.2.2.2.1 k y
              omega
          have hlb := lbt_rng (E3.1 g ++ E3.1 o)
          have hlb2 : lbt (E3.1 g ++ E3.1 o) < 2 ^ (s 18 0 6).toNat := by
            refine bt_bound hlb.1 fun k hk => ?_
            rw [bt_lbt (fun k hk => by have := kgo k hk; omega) (by omega)]
            simp only [decide_eq_false_iff_not]
            intro y
            have := kgo k y
            omega
          have eld : J3 39 0 (zor (J3 124 0 g) (J3 124 0 o)) = lln s (E3.1 g) + lln s (E3.1 o) := by
            rw [rg3.2.1, ro3.2.1, lbt_or kg ko, e39, hT.2.2.2.2.2 _ hlb.1 hlb2, ldf_lbt h two.1 kgo, lln_app]
          have sg := lln_rng h (l := E3.1 g) fun k hk => ⟨(bg3.2.2.2.1 k hk).1, (bg3.2.2.2.1 k hk).2.1⟩
          have so := lln_rng h (l := E3.1 o) fun k hk => ⟨(bo3.2.2.2.1 k hk).1, (bo3.2.2.2.1 k hk).2.1⟩
          have lg3 := eo_len h hO3 hgl.1 hgl.2 (by omega)
          have lo3 := eo_len h hO3 ho.1 ho.2.1 (by omega)
          have ezor : zor (J3 124 0 g) (J3 124 0 o) = lbt (E3.1 g ++ E3.1 o) := by rw [rg3.2.1, ro3.2.1, lbt_or kg ko]
          rw [hat, eld, ezor, e21]
          refine ⟨⟨by omega, by omega⟩, ⟨by omega, by omega⟩, fun y => absurd rfl y, fun _ => ⟨zin_1, fun y => absurd y (by decide), fun _ => ⟨by omega, by omega, by omega, by omega, by omega, by omega, by omega, by omega, ⟨by omega, by omega⟩, ⟨by omega, by omega⟩, fun y => ?_, fun y => ?_⟩⟩⟩
          · exact skip (fun v => by omega)
          · obtain ⟨D', rfl⟩ : ∃ d, D = d + 1 := ⟨D - 1, by omega⟩
            have hlst : 0 ≤ J3 125 0 g ∧ J3 125 0 g < 7 := by
              rw [rg3.2.2.1]
              obtain ⟨r, hr⟩ := bg3.2.1
              have := kg _ (lst_mem (l := E3.1 g) (by rw [hr]; simp))
              omega
            refine z4 hL ⟨by omega, by omega, hlst.1, hlst.2, by omega, by omega, by omega, by omega, by omega, by omega, by omega, by omega, by omega, by omega, by omega, by omega, zaV_of ⟨by omega, by omega, ?_⟩⟩
            rw [hdj, joinP, if_pos ⟨q, by rw [hte]; exact z, y⟩] at hjR
            have e5 : (zup (zup (zup (zup J3 126 0 (J3 125 0 g) o) 125 0 g (J3 125 0 o)) 124 0 g (zor (J3 124 0 g) (J3 124 0 o))) 122 0 o (-1)) 123 0 o = E3.2.1 o := by
              simp only [zup_at, Nat.reduceEqDiff, Int.reduceEq, eq_self, true_and, and_true, false_and, and_false, if_true, if_false]
              rw [e123, hmo.1, hte]
            rw [e5, ← ej]
            refine ihm _ (by omega) (j + 1) _ _ _ _ rfl (by omega) (by omega) (ft_up (ft_up (ft_up (ft_up hF3 (Or.inl (by decide)) _ _ _) (Or.inl (by decide)) _ _ _) (Or.inl (by decide)) _ _ _) (Or.inl (by decide)) _ _ _) (eo_join hO3 hgl.1 hgl.2 hg3 (by omega) ho.1 ho.2.1 q (Ne.symm ho.2.2)) (cr_join h hO3 hC3 (by omega) hgl.1 hgl.2 hg3 ho.1 ho.2.1 q (Ne.symm ho.2.2)) ?_ hte ?_ ?_ ?_ (fun x hx => ?_) hjR
            · simp only
              rw [eup_ne _ _ (Ne.symm ho.2.2)]
              exact hg3
            · rw [zup_ne _ _ _ _ (by decide), zup_ne _ _ _ _ (by decide), zup_ne _ _ _ _ (by decide), zup_ne _ _ _ _ (by decide)]
              exact e123
            · rw [zup_ne _ _ _ _ (by decide), zup_ne _ _ _ _ (by decide), zup_ne _ _ _ _ (by decide), zup_ne _ _ _ _ (by decide)]
              exact e133
            · simp only [zup_at, Nat.reduceEqDiff, Int.reduceEq, eq_self, true_and, and_true, false_and, and_false, if_true, if_false]
              exact e10
            · simp only
              by_cases ex : x = o
              · rw [ex, eup_eq]
                exact Or.inr rfl
              · rw [eup_ne _ _ ex]
                exact hal3 x hx
        · have hat := (hC3 o ho.1 ho.2.1).1 (by omega)
          rw [hat]
          exact ⟨⟨by omega, by omega⟩, ⟨by omega, by omega⟩, fun _ => ⟨zin_0, fun _ => skip (fun v => by omega), fun y => absurd rfl y⟩, fun y => by omega⟩
    · have ej : j = l.length := by omega
      rw [ej, List.drop_length, joinP] at hjR
      refine ⟨⟨by omega, by omega⟩, ⟨by omega, by omega⟩, fun _ => ⟨by omega, by omega, by omega, by omega, done hjR (by omega)⟩, fun _ => by omega⟩
  have e133 : J 133 0 (i : Int) = g := by
    rw [← hge]
    exact ar_at har hi
  refine z15 hL ?_
  rw [e133, mg, hwp.1, ← ei]
  refine ⟨by omega, by omega, by omega, by omega, by omega, by omega, by omega, by omega, ?_⟩
  refine inner _ (i + 1) J E (E.2.1 g) 0 rfl (by omega) (by omega) (ft_rfl J) hO hC hg rfl rfl rfl hlen (fun x hx => hal x (by rw [hdi]; exact List.mem_cons_of_mem _ hx)) hRe
