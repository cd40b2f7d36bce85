/-! THE EVENING in the class: joinRows, leave, travel, prepare, setLate, setOut, play -/
theorem goP_cons {s : zJ} {b : Bool} {w p g : Int} {r : List Int} {E : Ev} (hb : b = true) (h : E.2.2 g = p) : goP s b w p (g :: r) E = goP s b w p r (stp s (fun _ => w) p g r E) := by
  subst hb
  rw [goP, if_pos h]
  rfl
theorem goP_skip {s : zJ} {b : Bool} {w p g : Int} {r : List Int} {E : Ev} (h : E.2.2 g ≠ p) : goP s b w p (g :: r) E = goP s b w p r E := by rw [goP, if_neg h]
theorem c16 {L : Nat} {xs : Nat → Int32} (hL : L ≤ 3072) {D : Nat} {J : zJ} {K : zK} {Q : zR → Nat → zJ → zK → Prop} {s : zJ} (hE : EqS s J) (h : LW s) (hT : TW s) {w : Int → Int} {E : Ev} {p T : Int} {l : List Int} (hD : 4 ≤ D) (hTT : T ≤ 20000) (hp2 : p < s 18 0 0) (hh : hlt s p = true) (hPR : PR s J w) (hl : ∀ x ∈ l, 0 ≤ x ∧ x < s 18 0 6) (hnd : l.Nodup) (hll : l.length ≤ 7) (hJ : Jn s J E p T l 0) (hQ : ∀ J', FrT J J' → CR s J' (goP s true (w p) p l E) p l → J' 117 0 10 = l.length → Ar (J' 133 0) l → Q (.inl none) 0 J' K) : zCall L xs D 16 [zr 117, zi p] J K Q := by
  obtain ⟨D, rfl⟩ : ∃ d, D = d + 1 := ⟨D - 1, by omega⟩
  have hn := lw_n h
  obtain ⟨hp, hop⟩ := hlt_1 hh
  have hq := lw_p h (p := p) (by omega) hp2
  generalize hF : goP s true (w p) p l E = F at hQ
  have key : ∀ (n i : Nat) (J1 : zJ) (E1 : Ev), n = l.length - i → i ≤ l.length - 1 → FrT J J1 → Jn s J1 E1 p T l i → goP s true (w p) p (l.drop i) E1 = F → zGo L xs (D + 1) 16 2 [some (zr 117), some (zi p), some (zi (i : Int))] [] J1 K Q := by
    intro n; induction n using Nat.strongRecOn with
    | _ n ih =>
    intro i J1 E1 hm hi hF1 hJ1 hgo
    have hE1 := ft_eqs hE hF1
    have hPR1 := ft_pr hPR hF1
    obtain ⟨hO, hC, har, hlen, hal, hmin, hris⟩ := id hJ1
    refine z16_2 hL ?_
    rw [hlen]
    by_cases hc : i < l.length - 1
    · have hi2 : i < l.length := by omega
      have hdi := List.drop_eq_getElem_cons hi2
      have hgm : l[i] ∈ l.drop i := by rw [hdi]; exact List.mem_cons_self
      have hg := hl _ (List.getElem_mem hi2)
      obtain ⟨hdn1, hdn2⟩ := drop_no hnd hi2
      have ei : ((i + 1 : Nat) : Int) = (i : Int) + 1 := by omega
      have hrow := hC _ hg.1 hg.2
      rw [ar_at har hi2]
      rw [hdi] at hgo
      rcases hal _ hgm with q | q
      · have hat : J1 122 0 l[i] = p := by
          rw [((hrow.2 (by omega)).1.2 (hdn2 _ hgm)).1, q, ath_h hh]
        rw [hat]
        refine ⟨⟨by omega, by omega⟩, ⟨by omega, by omega⟩, fun _ => by omega, fun _ => ⟨by omega, by omega, by omega, by omega, ⟨by omega, by omega⟩, ⟨by omega, by omega⟩, fun z => absurd rfl z, fun _ => ?_⟩⟩
        refine c15 hL hE1 h hT (by omega) hTT hp2 hh hPR1 hl hnd hll hi2 hJ1 q fun J2 hF2 hJ2 => zaV_of ?_
        rw [goP_cons rfl q] at hgo
        rw [← ei]
        exact ih _ (by omega) (i + 1) J2 _ rfl (by omega) (ft_tr hF1 hF2) hJ2 hgo
      · have hat := hrow.1 (by omega)
        rw [hat]
        refine ⟨⟨by omega, by omega⟩, ⟨by omega, by omega⟩, fun _ => by omega, fun _ => ⟨by omega, by omega, by omega, by omega, ⟨by omega, by omega⟩, ⟨by omega, by omega⟩, fun _ => ?_, fun z => by omega⟩⟩
        rw [goP_skip (by omega)] at hgo
        rw [← ei]
        refine ih _ (by omega) (i + 1) J1 E1 rfl (by omega) hF1 ⟨hO, ?_, har, hlen, fun x hx => hal x ?_, fun x hx => hmin x ?_, ?_⟩ hgo
        · refine cr_dead hC (fun x hx => (take_mem hi2 x).mpr (Or.inl hx)) fun x x0 x1 hx hy => ?_
          rcases (take_mem hi2 x).mp hx with z | z
          · exact absurd z hy
          · rw [z]
            omega
        · rw [hdi]
          exact List.mem_cons_of_mem _ hx
        · rw [hdi]
          exact List.mem_cons_of_mem _ hx
        · rw [hdi] at hris
          exact hris.2
    · refine ⟨⟨by omega, by omega⟩, ⟨by omega, by omega⟩, fun _ => ?_, fun _ => by omega⟩
      have e : i = l.length - 1 := by omega
      by_cases h0 : l.length = 0
      · have hnil : l = [] := List.length_eq_zero_iff.mp h0
        subst hnil
        rw [List.drop_nil, goP] at hgo
        rw [hgo] at hC
        exact hQ J1 hF1 (by simpa using hC) hlen har
      · have hi2 : i < l.length := by omega
        have hdi := List.drop_eq_getElem_cons hi2
        have hnil : l.drop (i + 1) = [] := by
          rw [List.drop_eq_nil_iff]
          omega
        rw [hnil] at hdi
        have hgm : l[i] ∈ l.drop i := by rw [hdi]; exact List.mem_cons_self
        have hg := hl _ (List.getElem_mem hi2)
        obtain ⟨hdn1, hdn2⟩ := drop_no hnd hi2
        have hall : ∀ x, x ∈ l ↔ x ∈ l.take i ∨ x = l[i] := by
          intro x
          rw [← take_mem hi2 x, List.take_of_length_le (by omega)]
        rw [hdi] at hgo
        rcases hal _ hgm with q | q
        · rw [goP_cons rfl q, goP] at hgo
          rw [← hgo] at hQ
          refine hQ J1 hF1 ?_ hlen har
          have hmm := hmin _ hgm
          refine cr_left h hO hC hp hp2 hh q (hdn2 _ hgm) rfl rfl rfl rfl (fun k => ?_) hall
          simp only [joinP, Int.mul_zero, Int.add_zero]
          split
          · next e2 =>
            rw [e2, hmm.1]
            omega
          · rfl
        · rw [goP_skip (by omega), goP] at hgo
          rw [hgo] at hC q
          refine hQ J1 hF1 (cr_dead hC (fun x hx => (hall x).mpr (Or.inl hx)) fun x x0 x1 hx hy => ?_) hlen har
          rcases (hall x).mp hx with z | z
          · exact absurd z hy
          · rw [z]
            omega
  exact z16 hL (key _ 0 J E rfl (by omega) (ft_rfl J) hJ hF)
theorem c17 {L : Nat} {xs : Nat → Int32} (hL : L ≤ 3072) {D : Nat} {J : zJ} {K : zK} {Q : zR → Nat → zJ → zK → Prop} {s : zJ} (hE : EqS s J) (h : LW s) (hT : TW s) {w : Int → Int} {E : Ev} {p : Int} {l : List Int} (hD : 2 ≤ D) (hp2 : p < s 18 0 0) (hh : hlt s p = true) (hPR : PR s J w) (hl : ∀ x ∈ l, 0 ≤ x ∧ x < s 18 0 6) (hnd : l.Nodup) (hll : l.length ≤ 7) (hC : CR s J E p l) (hlen : J 117 0 10 = l.length) (har : Ar (J 133 0) l) (hQ : ∀ J', FrT J J' → CR s J' E p [] → Q (.inl none) 0 J' K) : zCall L xs D 17 [zr 117, zi p] J K Q := by
  obtain ⟨D, rfl⟩ : ∃ d, D = d + 1 := ⟨D - 1, by omega⟩
  have hn := lw_n h
  obtain ⟨hp, hop⟩ := hlt_1 hh
  have hu := lw_up h hp hp2
  have hq := lw_p h (p := p) (by omega) hp2
  have hnx := nxh_up h hp hp2
  have har2 := ath_rng h (s 19 0 p) (by omega) (by omega)
  have hwy : way s p (nxh s p) = way s (s 19 0 p) (nxh s p) + s 20 0 p := by
    rw [way_up h (by rw [hnx]; omega) (by rw [hnx]; omega) hp2]
  have key : ∀ (n i : Nat) (J1 : zJ), n = l.length - i → i ≤ l.length → FrT J J1 → CR s J1 E p (l.drop i) → J1 117 0 10 = l.length → Ar (J1 133 0) l → zGo L xs (D + 1) 17 20 [some (zr 117), some (zi p), some (zi (nxh s p)), some (zi (way s p (nxh s p))), some (zi (i : Int)), none] [] J1 K Q := by
    intro n; induction n using Nat.strongRecOn with
    | _ n ih =>
    intro i J1 hm hi hF1 hC1 hlen1 har1
    refine z17_20 hL ?_
    rw [hlen1]
    by_cases hc : i < l.length
    · have hdi := List.drop_eq_getElem_cons hc
      have hgm : l[i] ∈ l.drop i := by rw [hdi]; exact List.mem_cons_self
      have hg := hl _ (List.getElem_mem hc)
      obtain ⟨hdn1, hdn2⟩ := drop_no hnd hc
      have ei : ((i + 1 : Nat) : Int) = (i : Int) + 1 := by omega
      have hrow := hC1 _ hg.1 hg.2
      have hsub : ∀ x, x ∈ l.drop i ↔ x = l[i] ∨ x ∈ l.drop (i + 1) := fun x => by rw [hdi, List.mem_cons]
      rw [ar_at har1 hc]
      rcases Int.lt_or_le (E.2.2 l[i]) 0 with q | q
      · rw [hrow.1 q]
        refine ⟨⟨by omega, by omega⟩, ⟨by omega, by omega⟩, fun _ => by omega, fun _ => ⟨by omega, by omega, by omega, by omega, ⟨by omega, by omega⟩, ⟨by omega, by omega⟩, fun _ => ?_, fun z => by omega⟩⟩
        rw [← ei]
        refine ih _ (by omega) (i + 1) J1 rfl (by omega) hF1 (fun x x0 x1 => ?_) hlen1 har1
        have hx := hC1 x x0 x1
        refine ⟨hx.1, fun y => ⟨⟨fun z => (hx.2 y).1.1 ((hsub x).mpr (Or.inr z)), fun z => (hx.2 y).1.2 fun v => ?_⟩, (hx.2 y).2⟩⟩
        rcases (hsub x).mp v with v | v
        · rw [v] at y
          omega
        · exact z v
      · have hr := hrow.2 q
        have hr1 := hr.1.1 hgm
        rw [hr1.1]
        refine ⟨⟨by omega, by omega⟩, ⟨by omega, by omega⟩, fun _ => by omega, fun _ => ⟨by omega, by omega, by omega, by omega, ⟨by omega, by omega⟩, ⟨by omega, by omega⟩, fun z => absurd rfl z, fun _ => ⟨by omega, by omega, by omega, by omega, by omega, by omega, ?_⟩⟩⟩
        rw [← ei]
        refine ih _ (by omega) (i + 1) _ rfl (by omega) (ft_up (ft_up hF1 (Or.inl (by decide)) _ _ _) (Or.inl (by decide)) _ _ _) (fun x x0 x1 => ?_) (by simp only [zup_at, Nat.reduceEqDiff, Int.reduceEq, eq_self, true_and, and_true, false_and, and_false, if_true, if_false]; exact hlen1) (by
          refine ar_cong har1 fun k _ => ?_
          simp only [zup_at, Nat.reduceEqDiff, Int.reduceEq, eq_self, true_and, and_true, false_and, and_false, if_true, if_false])
        have hx := hC1 x x0 x1
        by_cases f : x = l[i]
        · subst f
          refine ⟨fun y => by omega, fun _ => ⟨⟨fun z => absurd rfl (hdn1 _ z), fun _ => ⟨?_, ?_⟩⟩, ?_⟩⟩
          · simp only [zup_at, Nat.reduceEqDiff, Int.reduceEq, eq_self, true_and, and_true, false_and, and_false, if_true, if_false]
            rw [hr1.2.1, hnx]
          · simp only [zup_at, Nat.reduceEqDiff, Int.reduceEq, eq_self, true_and, and_true, false_and, and_false, if_true, if_false]
            rw [hr1.2.2, hr1.2.1, hwy]
            unfold mnt
            rw [hnx]
            omega
          · unfold Rc
            rw [zup_ne _ _ _ _ (by decide), zup_ne _ _ _ _ (by decide), zup_ne _ _ _ _ (by decide), zup_ne _ _ _ _ (by decide), zup_ne _ _ _ _ (by decide), zup_ne _ _ _ _ (by decide)]
            exact hr.2
        · have e2 : zup (zup J1 122 0 l[i] (nxh s p)) 123 0 l[i] (J1 123 0 l[i] + way s p (nxh s p)) 122 0 x = J1 122 0 x := by
            rw [zup_ne _ _ _ _ (by decide), zup_nk _ _ f]
          have e3 : zup (zup J1 122 0 l[i] (nxh s p)) 123 0 l[i] (J1 123 0 l[i] + way s p (nxh s p)) 123 0 x = J1 123 0 x := by
            rw [zup_nk _ _ f, zup_ne _ _ _ _ (by decide)]
          rw [e2, e3]
          have hm2 : x ∈ l.drop i ↔ x ∈ l.drop (i + 1) := by
            rw [hsub]
            constructor
            · rintro (v | v)
              · exact absurd v f
              · exact v
            · exact Or.inr
          refine ⟨hx.1, fun y => ⟨⟨fun z => (hx.2 y).1.1 (hm2.mpr z), fun z => (hx.2 y).1.2 fun v => z (hm2.mp v)⟩, ?_⟩⟩
          unfold Rc
          rw [zup_ne _ _ _ _ (by decide), zup_ne _ _ _ _ (by decide), zup_ne _ _ _ _ (by decide), zup_ne _ _ _ _ (by decide), zup_ne _ _ _ _ (by decide), zup_ne _ _ _ _ (by decide)]
          exact (hx.2 y).2
    · have e : i = l.length := by omega
      rw [e, List.drop_length] at hC1
      exact ⟨⟨by omega, by omega⟩, ⟨by omega, by omega⟩, fun _ => hQ J1 hF1 hC1, fun _ => by omega⟩
  refine z17 hL ⟨by omega, by omega, ?_⟩
  rw [hPR.2.1 p hp hp2]
  refine c121 hL hE h hT (by omega) (by omega) hp2 (by rw [hnx]; omega) (by rw [hnx]; omega) (zaI_of ?_)
  exact key _ 0 J rfl (by omega) (ft_rfl J) hC hlen har
/-- at a place that rows run through each goes on by itself -/
theorem goP_run {s : zJ} {b : Bool} {w p : Int} (hu : s 19 0 p ≠ p) : ∀ (l : List Int) (E : Ev), (b = false ∨ l.length ≤ 1) → l.Nodup → (goP s b w p l E).1 = E.1 ∧ ∀ x, (x ∈ l → E.2.2 x = p → (goP s b w p l E).2.1 x = E.2.1 x + s 20 0 p ∧ (goP s b w p l E).2.2 x = s 19 0 p) ∧ (x ∉ l ∨ E.2.2 x ≠ p → (goP s b w p l E).2.1 x = E.2.1 x ∧ (goP s b w p l E).2.2 x = E.2.2 x)
  | [], E, _, _ => ⟨rfl, fun x => ⟨fun q => (by cases q), fun _ => ⟨rfl, rfl⟩⟩⟩
  | g :: r, E, hb, hd => by
    rw [List.nodup_cons] at hd
    have hj : joinB s b w (s 21 0 p) p g r E = (E, E.2.1 g, 0) := by
      unfold joinB
      rcases hb with q | q
      · rw [q]
        rfl
      · have : r = [] := by
          simp only [List.length_cons] at q
          exact List.length_eq_zero_iff.mp (by omega)
        rw [this]
        split <;> rfl
    have hb2 : b = false ∨ r.length ≤ 1 := by
      rcases hb with q | q
      · exact Or.inl q
      · simp only [List.length_cons] at q
        exact Or.inr (by omega)
    by_cases hg : E.2.2 g = p
    · rw [goP, if_pos hg, hj]
      simp only [Int.mul_zero, Int.add_zero]
      obtain ⟨h1, h2⟩ := goP_run hu r (E.1, eup E.2.1 g (E.2.1 g + s 20 0 p), eup E.2.2 g (s 19 0 p)) hb2 hd.2
      refine ⟨h1, fun x => ?_⟩
      have h3 := h2 x
      simp only at h3
      by_cases e : x = g
      · subst e
        have h4 := h3.2 (Or.inl hd.1)
        rw [eup_eq, eup_eq] at h4
        exact ⟨fun _ _ => h4, fun q => by
          rcases q with q | q
          · exact absurd List.mem_cons_self q
          · exact absurd hg q⟩
      · rw [eup_ne _ _ e, eup_ne _ _ e] at h3
        refine ⟨fun q y => h3.1 ?_ y, fun q => h3.2 ?_⟩
        · rw [List.mem_cons] at q
          rcases q with q | q
          · exact absurd q e
          · exact q
        · rcases q with q | q
          · exact Or.inl fun y => q (List.mem_cons_of_mem _ y)
          · exact Or.inr q
    · rw [goP, if_neg hg]
      obtain ⟨h1, h2⟩ := goP_run hu r E hb2 hd.2
      refine ⟨h1, fun x => ?_⟩
      have h3 := h2 x
      refine ⟨fun q y => h3.1 ?_ y, fun q => h3.2 ?_⟩
      · rw [List.mem_cons] at q
        rcases q with q | q
        · rw [q] at y
          exact absurd y hg
        · exact q
      · rcases q with q | q
        · exact Or.inl fun y => q (List.mem_cons_of_mem _ y)
        · exact Or.inr q
/-- a row that runs through p: the class's cells hold it as they are -/
theorem cr_run {s J : zJ} (h : LW s) {w : Int → Int} {E : Ev} {p T : Int} (hp : 1 ≤ p) (hp2 : p < s 18 0 0) (hh : hlt s p = false) (hO : EO s E p T) (hC : CR s J E p []) : CR s J (evs s w p E) p [] := by
  have hn := lw_n h
  have hu := lw_up h hp hp2
  have hq := lw_p h (p := p) (by omega) hp2
  have hb : opn s p = false ∨ (ord E p (s 18 0 6).toNat).length ≤ 1 := by
    cases ho : opn s p with
    | false => exact Or.inl rfl
    | true =>
      right
      unfold hlt at hh
      rw [ho, decide_eq_true hp] at hh
      simp only [Bool.true_and, decide_eq_false_iff_not] at hh
      have hnd := nodup_ord E p (s 18 0 6).toNat
      have hmm : ∀ x ∈ ord E p (s 18 0 6).toNat, 0 ≤ x ∧ x < s 18 0 6 ∧ onb s p (s 24 0 x) = true := by
        intro x hx
        have hm := mem_ord.mp hx
        have hbx := hO.2.1 x hm.1 (by omega) (by omega)
        obtain ⟨r, hr⟩ := hbx.2.1
        have := hbx.2.2.2.1 x (by rw [hr]; exact List.mem_cons_self)
        rw [hm.2.2] at this
        exact ⟨this.1, this.2.1, onb_t.mpr this.2.2⟩
      generalize ord E p (s 18 0 6).toNat = l at hnd hmm
      rcases Nat.lt_or_ge 1 l.length with q | q
      · exfalso
        apply hh
        have a := hmm _ (List.getElem_mem (n := 0) (by omega : 0 < l.length))
        have b := hmm _ (List.getElem_mem (n := 1) (by omega : 1 < l.length))
        have hne := List.pairwise_iff_getElem.mp hnd 0 1 (by omega) (by omega) (by omega)
        generalize l[0] = x at a hne
        generalize l[1] = y at b hne
        have h2 : sm (fun i => zb (decide (i = x)) + zb (decide (i = y))) (s 18 0 6).toNat ≤ cnt (fun k => onb s p (s 24 0 k)) (s 18 0 6).toNat := by
          refine sm_mono fun i i0 i1 => ?_
          by_cases e1 : i = x
          · have e2 : i ≠ y := by omega
            rw [e1] at e2
            simp [e1, e2, a.2.2, zb]
          · by_cases e2 : i = y
            · rw [e2] at e1
              simp [e1, e2, b.2.2, zb]
            · simp only [e1, e2, decide_false, zb_f]
              rcases zb_01 (onb s p (s 24 0 i)) with v | v <;> omega
        rw [sm_add, sm_one (k := x) a.1 (by omega) fun i _ _ v => by simp [v, zb], sm_one (k := y) b.1 (by omega) fun i _ _ v => by simp [v, zb]] at h2
        simp only [decide_true, zb_t] at h2
        omega
      · exact q
  obtain ⟨h1, h2⟩ := goP_run (s := s) (p := p) (w := w p) (show s 19 0 p ≠ p by omega) (ord E p (s 18 0 6).toNat) E hb (nodup_ord E p _)
  have hx2 : ∀ x, 0 ≤ x → x < s 18 0 6 → (E.2.2 x = p → (evs s w p E).2.1 x = E.2.1 x + s 20 0 p ∧ (evs s w p E).2.2 x = s 19 0 p) ∧ (E.2.2 x ≠ p → (evs s w p E).2.1 x = E.2.1 x ∧ (evs s w p E).2.2 x = E.2.2 x) := by
    intro x x0 x1
    exact ⟨fun y => (h2 x).1 (mem_ord.mpr ⟨x0, by omega, y⟩) y, fun y => (h2 x).2 (Or.inr y)⟩
  have h1' : (evs s w p E).1 = E.1 := h1
  intro x x0 x1
  have hx := hC x x0 x1
  rw [h1']
  by_cases e : E.2.2 x = p
  · obtain ⟨a, b⟩ := (hx2 x x0 x1).1 e
    rw [a, b]
    have hr := hx.2 (by omega)
    refine ⟨fun y => by omega, fun _ => ⟨⟨fun y => absurd y (by simp), fun _ => ?_⟩, hr.2⟩⟩
    have := hr.1.2 (by simp)
    rw [e] at this
    rw [(ath_n h hp hp2 hh).1, mnt_n h hp hp2 hh] at this
    exact this
  · obtain ⟨a, b⟩ := (hx2 x x0 x1).2 e
    rw [a, b]
    exact hx
/-- from the place m on, c places -/
def evT (s : zJ) (w : Int → Int) : Nat → Int → Ev → Ev
  | 0, _, E => E
  | c + 1, m, E => evT s w c (m - 1) (evs s w m E)
theorem evD_T {s : zJ} {w : Int → Int} : ∀ (c m : Nat) (E : Ev), evD s w (m + c) E = evD s w m (evT s w c ((m : Int) + c) E)
  | 0, m, E => rfl
  | c + 1, m, E => by
    have e1 : ((m + c : Nat) : Int) + 1 = (m : Int) + ((c + 1 : Nat) : Int) := by omega
    have e2 : (m : Int) + ((c + 1 : Nat) : Int) - 1 = (m : Int) + c := by omega
    show evD s w (m + c + 1) E = _
    rw [evD, evD_T c m, evT, e1, e2]
theorem evT_ok {s : zJ} (hW : LW s) {w : Int → Int} : ∀ (c : Nat) (m : Int) (E : Ev) (T : Int), m < s 18 0 0 → (c : Int) ≤ m → EO s E m T → EO s (evT s w c m E) (m - c) (T + 1000 * c)
  | 0, m, E, T, _, _, hE => by
    rw [evT]
    simpa using hE
  | c + 1, m, E, T, hm, hc, hE => by
    rw [evT]
    have h1 := evs_ok hW (w := w) (p := m) (by omega) hm hE
    have h2 := evT_ok hW (w := w) c (m - 1) _ _ (by omega) (by omega) h1
    have e1 : m - 1 - (c : Int) = m - ((c + 1 : Nat) : Int) := by omega
    have e2 : T + 1000 + 1000 * (c : Int) = T + 1000 * ((c + 1 : Nat) : Int) := by omega
    rw [e1, e2] at h2
    exact h2
theorem c27 {L : Nat} {xs : Nat → Int32} (hL : L ≤ 3072) {D : Nat} {J : zJ} {K : zK} {Q : zR → Nat → zJ → zK → Prop} {s : zJ} (hE : EqS s J) (h : LW s) (hT : TW s) {w : Int → Int} {m : Int} {c : Nat} {E : Ev} {T : Int} (hD : 6 ≤ D) (hm : m < s 18 0 0 ∨ (m = -1 ∧ c = 0)) (hc : (c : Int) ≤ m ∨ (c = 0 ∧ -1 ≤ m)) (hO : 0 < c → EO s E m T) (hTT : T + 1000 * c ≤ 20000) (hT0 : 0 ≤ T) (hPR : PR s J w) (hC : CR s J E 0 []) {x2 : Int} (hx2 : x2 = m - c + 1 ∨ (c = 0 ∧ m < x2 ∧ zin x2)) (hQ : ∀ J', FrT J J' → CR s J' (evT s w c m E) 0 [] → Q (.inl none) 0 J' K) : zCall L xs D 27 [zr 117, zi m, zi x2] J K Q := by
  obtain ⟨D, rfl⟩ : ∃ d, D = d + 1 := ⟨D - 1, by omega⟩
  have hn := lw_n h
  have key : ∀ (c : Nat) (m : Int) (J1 : zJ) (E1 : Ev) (T : Int), m < s 18 0 0 ∨ (m = -1 ∧ c = 0) → (c : Int) ≤ m ∨ (c = 0 ∧ -1 ≤ m) → (0 < c → EO s E1 m T) → T + 1000 * c ≤ 20000 → 0 ≤ T → FrT J J1 → CR s J1 E1 0 [] → (x2 = m - c + 1 ∨ (c = 0 ∧ m < x2 ∧ zin x2)) → (∀ J', FrT J J' → CR s J' (evT s w c m E1) 0 [] → Q (.inl none) 0 J' K) → zGo L xs (D + 1) 27 2 [some (zr 117), none, some (zi x2), some (zi m)] [] J1 K Q := by
    intro c
    induction c with
    | zero =>
      intro m J1 E1 T hm hc hO hTT hT0 hF1 hC1 hx hQ1
      refine z27_2 hL ⟨⟨by omega, by omega⟩, ?_, fun _ => hQ1 J1 hF1 hC1, fun q => by omega⟩
      rcases hx with q | q
      · exact ⟨by omega, by omega⟩
      · exact q.2.2
    | succ c ih =>
      intro m J1 E1 T hm hc hO hTT hT0 hF1 hC1 hx hQ1
      have hE1 := ft_eqs hE hF1
      have hPR1 := ft_pr hPR hF1
      have hO1 := hO (by omega)
      have hm2 : m < s 18 0 0 := by omega
      have hos := evs_ok h (w := w) (p := m) (by omega) hm2 hO1
      have e2 : m + (-1) = m - 1 := by omega
      refine z27_2 hL ⟨⟨by omega, by omega⟩, ⟨by omega, by omega⟩, fun q => by omega, fun _ => ?_⟩
      rw [e2]
      refine c14 hL h hPR1 (by omega) (by omega) hm2 (zaI_of ⟨zin_zb _, fun q => ?_, fun q => ?_⟩)
      · exact ih (m - 1) J1 _ (T + 1000) (by omega) (by omega) (fun _ => hos) (by omega) (by omega) hF1 (cr_nil (cr_run h (w := w) (by omega) hm2 (zb_0.mp q) hO1 (cr_nil hC1))) (by omega) hQ1
      · have hh := zb_1.mp q
        refine c11 hL hE1 h (by omega) hO1 (by omega) hm2 hh (cr_nil hC1) fun J2 f1 f2 hlen har => zaV_of ?_
        have hF2 : FrT J1 J2 := ⟨fun b x y => f1 b x (by omega), f2⟩
        have hmem : ∀ x ∈ ord E1 m (s 18 0 6).toNat, 0 ≤ x ∧ x < s 18 0 6 := fun x hx => by
          have := mem_ord.mp hx
          omega
        have hnd := nodup_ord E1 m (s 18 0 6).toNat
        have hll := len_ord E1 m (s 18 0 6).toNat
        have hC2 : CR s J2 E1 m [] := cr_eq (cr_nil hC1) (f1 _ (by decide) (by decide)) (f1 _ (by decide) (by decide)) (f1 _ (by decide) (by decide)) (f1 _ (by decide) (by decide)) (f1 _ (by decide) (by decide))
        have hev : evs s w m E1 = goP s true (w m) m (ord E1 m (s 18 0 6).toNat) E1 := by
          unfold evs
          rw [(hlt_1 hh).2]
        have hJn : Jn s J2 E1 m T (ord E1 m (s 18 0 6).toNat) 0 := by
          refine ⟨hO1, by simpa using hC2, har, hlen, fun x hx => Or.inl ?_, fun x hx => ?_, ris_ord E1 m _⟩
          · rw [List.drop_zero] at hx
            exact (mem_ord.mp hx).2.2
          · rw [List.drop_zero] at hx
            have hm3 := mem_ord.mp hx
            have hb := hO1.2.1 x hm3.1 (by omega) (by omega)
            have hr := (hC2 x hm3.1 (by omega)).2 (by omega)
            refine ⟨?_, hb.2.2.2.2.1, hb.2.2.2.2.2.2 hm3.2.2⟩
            rw [(hr.1.2 (by simp)).2, hm3.2.2, mnt_h hh]
        generalize ord E1 m (s 18 0 6).toNat = l at hlen har hmem hnd hll hev hJn
        refine c16 hL (ft_eqs hE1 hF2) h hT (by omega) (by omega) hm2 hh (ft_pr hPR1 hF2) hmem hnd (by omega) hJn fun J3 hF3 hC3 hlen3 har3 => zaV_of ?_
        refine c17 hL (ft_eqs (ft_eqs hE1 hF2) hF3) h hT (by omega) hm2 hh (ft_pr (ft_pr hPR1 hF2) hF3) hmem hnd (by omega) hC3 hlen3 har3 fun J4 hF4 hC4 => zaV_of ?_
        rw [← hev] at hC4
        exact ih (m - 1) J4 _ (T + 1000) (by omega) (by omega) (fun _ => hos) (by omega) (by omega) (ft_tr hF1 (ft_tr hF2 (ft_tr hF3 hF4))) (cr_nil hC4) (by omega) hQ1
  exact z27 hL (key c m J E T hm hc hO hTT hT0 (ft_rfl J) hC hx2 hQ)
