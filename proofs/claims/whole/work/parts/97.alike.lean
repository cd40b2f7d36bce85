/-! A TRAIN'S ROW, TURNED ROUND -/
def rv (s : zJ) (t : Int) : Nat → List Int
  | 0 => []
  | m + 1 => s 43 0 (t * 7 + m) :: rv s t m
theorem rv_len (s : zJ) (t : Int) : ∀ m, (rv s t m).length = m
  | 0 => rfl
  | m + 1 => by rw [rv, List.length_cons, rv_len s t m]
theorem rv_get (s : zJ) (t : Int) : ∀ (m j : Nat), j < m → (rv s t m)[j]? = some (s 43 0 (t * 7 + ((m : Int) - 1 - j)))
  | 0, j, h => by omega
  | m + 1, 0, _ => by
    rw [rv, List.getElem?_cons_zero]
    have e : ((m + 1 : Nat) : Int) - 1 - ((0 : Nat) : Int) = m := by omega
    rw [e]
  | m + 1, j + 1, h => by
    rw [rv, List.getElem?_cons_succ, rv_get s t m j (by omega)]
    have e : ((m + 1 : Nat) : Int) - 1 - ((j + 1 : Nat) : Int) = (m : Int) - 1 - j := by omega
    rw [e]
theorem rv_eq {s : zJ} {t : Int} {m : Nat} {l : List Int} (h : l.length = m) (hj : ∀ j : Nat, j < m → ∀ v, l[j]? = some v → v = s 43 0 (t * 7 + ((m : Int) - 1 - j))) : l = rv s t m := by
  apply List.ext_getElem?
  intro j
  by_cases q : j < m
  · rw [rv_get s t m j q, List.getElem?_eq_getElem (by omega)]
    congr 1
    exact hj j q _ (List.getElem?_eq_getElem (by omega))
  · rw [List.getElem?_eq_none (by omega), List.getElem?_eq_none (by rw [rv_len]; omega)]
def hd0 : List Int → Int
  | [] => -1
  | x :: _ => x
theorem ch_hd {a : Int → Int} {x : Int} : ∀ {r : List Int}, Ch a (x :: r) → a x = hd0 r ∧ Ch a r
  | [], h => ⟨h, trivial⟩
  | _ :: _, h => h
def alk (s : zJ) (E : Ev) (t g : Int) : Bool := decide (E.2.2 g = 0) && decide (E.1 g = rv s t (s 42 0 t).toNat)
/-- whether a train's row comes back turned -/
def alv (s : zJ) (t : Int) : Bool := decide (0 < s 42 0 t) && alk s (evF s (fun p => s 49 0 p) (stl s 0)) t (s 43 0 (t * 7 + (s 42 0 t - 1)))
theorem c8 {L : Nat} {xs : Nat → Int32} (hL : L ≤ 3072) {D : Nat} {J : zJ} {K : zK} {Q : zR → Nat → zJ → zK → Prop} {s : zJ} (hE : EqS s J) (h : LW s) (hP : PW s) {E : Ev} {T t : Int} (hO : EO s E 0 T) (hC : CR s J E 0 []) (hD : 1 ≤ D) (t0 : 0 ≤ t) (t1 : t < s 40 0 0) (hs : 0 < s 42 0 t) (hQ : Q (.inl (some (zi (zb (alk s E t (s 43 0 (t * 7 + (s 42 0 t - 1)))))))) 0 J K) : zCall L xs D 8 [zr 117, zi t] J K Q := by
  obtain ⟨D, rfl⟩ : ∃ d, D = d + 1 := ⟨D - 1, by omega⟩
  have hn := lw_n h
  have hpn := pw_n hP
  have ht := pw_t hP t0 t1
  have hr := pw_r hP t0 t1 (i := s 42 0 t - 1) (by omega) (by omega)
  refine z8 hL ?_
  have e42 := hE 42 (by decide) (by decide)
  have e43 := hE 43 (by decide) (by decide)
  rw [e42, e43]
  have ei : t * 7 + s 42 0 t - 1 = t * 7 + (s 42 0 t - 1) := by omega
  rw [ei]
  generalize hg : s 43 0 (t * 7 + (s 42 0 t - 1)) = g at hr hQ
  have hcr := cr_root hO hC hr.1 hr.2.1
  refine ⟨by omega, by omega, by omega, by omega, by omega, by omega, hcr.1, fun q => ?_, fun q => ⟨Or.inl rfl, ?_⟩⟩
  · rcases hcr.2 with z | z
    · have hb := hO.2.1 g hr.1 hr.2.1 (by omega)
      have walk : ∀ (m : Nat) (l : List Int) (x4 x5 : Int), (m : Int) ≤ s 42 0 t → x4 = hd0 l → x5 = (m : Int) - 1 → Ch (J 126 0) l → (∀ k ∈ l, 0 ≤ k ∧ k < 7) → (Q (.inl (some (zi (zb (decide (l = rv s t m)))))) 0 J K) → zGo L xs (D + 1) 8 50 [some (zr 117), none, none, some (zi (t * 7)), some (zi x4), some (zi x5)] [] J K Q := by
        intro m
        induction m with
        | zero =>
          intro l x4 x5 hm h4 h5 hc hl hR
          subst h4
          subst h5
          refine z8_50 hL ⟨⟨by omega, by omega⟩, fun _ => ⟨?_, ⟨by decide, by decide⟩, fun q => ⟨Or.inl rfl, ?_⟩, fun q => ⟨Or.inr rfl, ?_⟩⟩, fun q => by omega⟩
          · cases l with
            | nil => exact ⟨by decide, by decide⟩
            | cons x r =>
              have := hl x List.mem_cons_self
              exact ⟨by show -2147483648 ≤ x; omega, by show x < 2147483648; omega⟩
          · cases l with
            | nil => exact absurd rfl q
            | cons x r =>
              rw [rv, decide_eq_false (by simp)] at hR
              exact hR
          · cases l with
            | nil =>
              rw [rv, decide_eq_true rfl] at hR
              exact hR
            | cons x r =>
              have := hl x List.mem_cons_self
              have e : x = -1 := q
              omega
        | succ m ih =>
          intro l x4 x5 hm h4 h5 hc hl hR
          have e5 : x5 = m := by omega
          subst e5
          have hrm := pw_r hP t0 t1 (i := m) (by omega) (by omega)
          rw [rv] at hR
          refine z8_50 hL ?_
          rw [e43]
          refine ⟨⟨by omega, by omega⟩, fun q => by omega, fun _ => ⟨by omega, by omega, ?_, ⟨by omega, by omega⟩, fun q => ?_, fun q => ⟨Or.inl rfl, ?_⟩⟩⟩
          · subst h4
            cases l with
            | nil => exact ⟨by decide, by decide⟩
            | cons x r =>
              have := hl x List.mem_cons_self
              exact ⟨by show -2147483648 ≤ x; omega, by show x < 2147483648; omega⟩
          · cases l with
            | nil =>
              have e : x4 = -1 := h4
              omega
            | cons x r =>
              have e : x4 = x := h4
              have hx := hl x List.mem_cons_self
              have hch := ch_hd hc
              subst e
              refine ⟨by omega, by omega, ?_⟩
              refine ih r _ _ (by omega) hch.1 (by omega) hch.2 (fun k hk => hl k (List.mem_cons_of_mem _ hk)) ?_
              have e9 : decide (x4 :: r = s 43 0 (t * 7 + m) :: rv s t m) = decide (r = rv s t m) := by
                rw [← q]
                simp
              rw [e9] at hR
              exact hR
          · cases l with
            | nil =>
              rw [decide_eq_false (by simp)] at hR
              exact hR
            | cons x r =>
              have e : x4 = x := h4
              subst e
              have e9 : decide (x4 :: r = s 43 0 (t * 7 + m) :: rv s t m) = false := by
                rw [decide_eq_false_iff_not]
                intro y
                exact q (List.cons.inj y).1
              rw [e9] at hR
              exact hR
      obtain ⟨r, hr2⟩ := hb.2.1
      refine walk (s 42 0 t).toNat (E.1 g) _ _ (by omega) (by rw [hr2]; rfl) (by omega) z.2.2.2.2.2 (fun k hk => by have := hb.2.2.2.1 k hk; omega) ?_
      unfold alk at hQ
      rw [z.2.1] at hQ
      simpa using hQ
    · exact absurd q z.1
  · rcases hcr.2 with z | z
    · exact absurd z.1 q
    · unfold alk at hQ
      rw [decide_eq_false z.2] at hQ
      exact hQ
theorem op29 {G : zJ → zK → Prop} (hG : GOk G) : ∀ a : Int, zin a → OpW (Inv G) 321 4 137 191 (fun v => v = 0 ∨ v = 1) [zi a] := by
  intro a ha
  intro L xs D D2 J K hL hD hD2 hI; obtain ⟨⟨hW, hT, hP, hM, hC, hTp, hF, hIm⟩, hg⟩ := id hI; have hE := eqs_rfl J; have hn := lw_n hW; have hpn := pw_n hP
  obtain ⟨D, rfl⟩ : ∃ d, D = d + 1 := ⟨D - 1, by omega⟩
  obtain ⟨D2, rfl⟩ : ∃ d, D2 = d + 1 := ⟨D2 - 1, by omega⟩
  have hO : EO J (evF J (fun p => J 49 0 p) (stl J 0)) 0 13000 := ev_ok hW hP 0
  have good : 0 ≤ a → a < J 40 0 0 → ∀ J1 : zJ, Fr 117 133 J J1 → ∀ x : Int, zCall L xs (D2 + 1) 191 [zr 142, zi a] J1 (zku K 561 0 x) fun r2 e2 J2 K2 => r2 = .inl (some (zi (zb (alv J a)))) ∧ e2 = 0 ∧ J2 142 0 0 = 0 ∧ K2 561 0 = x ∧ Inv G J2 K2 := by
    intro h0 h1 J1 hF1 x
    have ht := pw_t hP h0 h1
    have f1 : FrC J J1 := fc_fr (fc_rfl J) hF1 (by decide)
    have f2 := fm_t J1 0
    have hM1 := ml_fm (ml_fc hM f1) f2
    have hC2 := mc_fm (mc_fc hC f1) f2
    have t0 : zup J1 142 0 0 0 142 0 0 = 0 := zup_eq _ _ _ _ _
    refine z191 hL ?_
    refine c252 hL (by omega) hC2.1 (by omega) ha (zaI_of ⟨zin_zb _, fun _ => ?_, fun q => by rw [zb_0, decide_eq_false_iff_not] at q; omega⟩)
    refine c195F hL (by omega) t0 (zaI_of ⟨zin_0, fun _ => ?_, fun q => absurd rfl q⟩)
    refine c229 hL hM1 hW hP (me_of hC2) (by omega) (w := fun p => J 49 0 p) (by decide) (mw_ok hW hP hC2) fun J2 hF2 hR2 _ => zaV_of ⟨by omega, by omega, ?_⟩
    replace hR2 : MR J J2 (evF J (fun p => J 49 0 p) (stl J 0)) := hR2
    have f3 : FrM J1 J2 := fm_tr f2 (fg_fm hF2)
    have t2 : J2 142 0 0 = 0 := by rw [hF2.2 0 (by decide) (by decide)]; exact t0
    have hC3 := mc_fm (mc_fc hC f1) f3
    have hrow := mc_t hC3 h0 h1
    have fin := inv_q hG hI f1 f3 (K2 := zku K 561 0 x) (zku_n _ _ (by decide))
    have em : ((J 42 0 a).toNat : Int) = J 42 0 a := by omega
    rw [hrow.1]
    have hv0 : (∀ g : Int, 0 ≤ g → g < J 18 0 6 → alk J (evF J (fun p => J 49 0 p) (stl J 0)) a g = false) ∨ J 42 0 a ≤ 0 → zb (alv J a) = 0 := by
      intro hz
      unfold alv
      by_cases q : 0 < J 42 0 a
      · rcases hz with z | z
        · have hr := pw_r hP h0 h1 (i := J 42 0 a - 1) (by omega) (by omega)
          rw [z _ hr.1 hr.2.1, Bool.and_false]
          rfl
        · omega
      · rw [decide_eq_false q]
        rfl
    have hv1 : ∀ g : Int, 0 ≤ g → g < J 18 0 6 → 0 < J 42 0 a → alk J (evF J (fun p => J 49 0 p) (stl J 0)) a g = true → zb (alv J a) = 1 := by
      intro g g0 g1 hs hk
      have hk2 := hk
      unfold alk at hk2
      simp only [Bool.and_eq_true, decide_eq_true_eq] at hk2
      obtain ⟨r, hr⟩ := (hO.2.1 g g0 g1 (by omega)).2.1
      have e : g = J 43 0 (a * 7 + (J 42 0 a - 1)) := by
        have h5 := rv_get J a (J 42 0 a).toNat 0 (by omega)
        rw [← hk2.2, hr, List.getElem?_cons_zero] at h5
        have h6 := Option.some.inj h5
        rw [em] at h6
        have e7 : J 42 0 a - 1 - ((0 : Nat) : Int) = J 42 0 a - 1 := by omega
        rw [e7] at h6
        exact h6
      unfold alv
      rw [← e, hk, decide_eq_true hs]
      rfl
    have outer : ∀ (n : Nat) (x3 : Int), n = (J 18 0 6 - x3).toNat → 0 ≤ x3 → x3 ≤ J 18 0 6 → (∀ g : Int, 0 ≤ g → g < x3 → alk J (evF J (fun p => J 49 0 p) (stl J 0)) a g = false) → zGo L xs (D2 + 1) 191 42 [some (zr 142), some (zi a), some (zi (J 42 0 a)), some (zi x3), none, none] [] J2 (zku K 561 0 x) fun r2 e2 J2 K2 => r2 = .inl (some (zi (zb (alv J a)))) ∧ e2 = 0 ∧ J2 142 0 0 = 0 ∧ K2 561 0 = x ∧ Inv G J2 K2 := by
      intro n; induction n using Nat.strongRecOn with
      | _ n ih =>
      intro x3 hm g0 g1 hno
      refine z191_42 hL ?_
      rw [hR2.1]
      by_cases hc : x3 < J 18 0 6
      · have hg := hR2.2 x3 g0 hc
        have hl1 := hO.1 x3 g0 hc
        have next : alk J (evF J (fun p => J 49 0 p) (stl J 0)) a x3 = false → zGo L xs (D2 + 1) 191 42 [some (zr 142), some (zi a), some (zi (J 42 0 a)), some (zi (x3 + 1)), none, none] [] J2 (zku K 561 0 x) fun r2 e2 J2 K2 => r2 = .inl (some (zi (zb (alv J a)))) ∧ e2 = 0 ∧ J2 142 0 0 = 0 ∧ K2 561 0 = x ∧ Inv G J2 K2 := fun hf => ih _ (by omega) (x3 + 1) rfl (by omega) (by omega) fun g a0 a1 => by
          by_cases e : g = x3
          · rw [e]
            exact hf
          · exact hno g a0 (by omega)
        have stop : alk J (evF J (fun p => J 49 0 p) (stl J 0)) a x3 = false → zGo L xs (D2 + 1) 191 83 [some (zr 142), some (zi a), some (zi (J 42 0 a)), some (zi x3), some (zi 0), some (zi 0)] [] J2 (zku K 561 0 x) fun r2 e2 J2 K2 => r2 = .inl (some (zi (zb (alv J a)))) ∧ e2 = 0 ∧ J2 142 0 0 = 0 ∧ K2 561 0 = x ∧ Inv G J2 K2 := fun hf => by
          refine z191_83 hL ⟨zin_0, ⟨by omega, by omega⟩, fun _ => ⟨zin_0, fun _ => next hf, fun q => absurd rfl q⟩, fun _ => ⟨zin_0, fun _ => ⟨zin_0, fun _ => next hf, fun q => absurd rfl q⟩, fun q => absurd rfl q⟩⟩
        refine ⟨⟨by omega, by omega⟩, ⟨by omega, by omega⟩, fun _ => by omega, fun _ => ⟨⟨by omega, by omega⟩, fun q => ⟨Or.inl rfl, ?_⟩, fun q => ⟨by omega, by omega, ?_⟩⟩⟩
        · rw [hv0 (Or.inr q)]
          exact ⟨rfl, rfl, t2, zku_o K x, fin⟩
        · rw [hg.1]
          have hb0 : zin ((evF J (fun p => J 49 0 p) (stl J 0)).2.2 x3) := by
            rcases Int.lt_or_le ((evF J (fun p => J 49 0 p) (stl J 0)).2.2 x3) 0 with z | z
            · exact ⟨by omega, by omega⟩
            · have := (hO.2.1 x3 g0 hc z).1
              exact ⟨by omega, by omega⟩
          refine ⟨hb0, fun q2 => ?_, fun q2 => ?_⟩
          · refine stop ?_
            unfold alk
            rw [decide_eq_false q2, Bool.false_and]
          · have hro := (hg.2.1 (by omega)).2
            refine ⟨by omega, by omega, ⟨by omega, by omega⟩, ⟨by omega, by omega⟩, fun q3 => ?_, fun q3 => ?_⟩
            · refine stop ?_
              unfold alk
              rw [Bool.and_eq_false_iff]
              right
              rw [decide_eq_false_iff_not]
              intro e
              apply q3
              rw [hro.1, e, rv_len]
              exact em
            · have hlen : ((evF J (fun p => J 49 0 p) (stl J 0)).1 x3).length = (J 42 0 a).toNat := by
                have := hro.1
                omega
              have har := hro.2
              have hb := hO.2.1 x3 g0 hc (by omega)
              have inner : ∀ (m j : Nat) (x4 : Int), m = (J 42 0 a).toNat - j → j ≤ (J 42 0 a).toNat → x4 = 0 ∨ x4 = 1 → (x4 = 0 → alk J (evF J (fun p => J 49 0 p) (stl J 0)) a x3 = false) → (x4 = 1 → ∀ i : Nat, i < j → ∀ v, ((evF J (fun p => J 49 0 p) (stl J 0)).1 x3)[i]? = some v → v = J 43 0 (a * 7 + (((J 42 0 a).toNat : Int) - 1 - i))) → zGo L xs (D2 + 1) 191 83 [some (zr 142), some (zi a), some (zi (J 42 0 a)), some (zi x3), some (zi x4), some (zi (j : Int))] [] J2 (zku K 561 0 x) fun r2 e2 J2 K2 => r2 = .inl (some (zi (zb (alv J a)))) ∧ e2 = 0 ∧ J2 142 0 0 = 0 ∧ K2 561 0 = x ∧ Inv G J2 K2 := by
                intro m; induction m using Nat.strongRecOn with
                | _ m ihm =>
                intro j x4 hmj hj hx4 hx0 hx1
                have z4 : zin x4 := by rcases hx4 with z | z <;> rw [z] <;> first | exact zin_0 | exact zin_1
                refine z191_83 hL ?_
                by_cases hjc : j < (J 42 0 a).toNat
                · have ej : ((j + 1 : Nat) : Int) = (j : Int) + 1 := by omega
                  refine ⟨⟨by omega, by omega⟩, ⟨by omega, by omega⟩, fun _ => by omega, fun _ => ⟨z4, fun q5 => ⟨z4, fun q6 => next (hx0 q5), fun q6 => absurd q5 q6⟩, fun q5 => ?_⟩⟩
                  have x41 : x4 = 1 := by omega
                  have hel : ((evF J (fun p => J 49 0 p) (stl J 0)).1 x3)[j]? = some (J2 541 x3 j) := by
                    have h8 := List.getElem?_eq_getElem (l := (evF J (fun p => J 49 0 p) (stl J 0)).1 x3) (i := j) (by omega)
                    rw [har j _ h8]
                    exact h8
                  have hrw := hrow.2.2 (J 42 0 a - 1 - j) (by omega) (by omega)
                  have hk := hb.2.2.2.1 (J2 541 x3 j) (List.mem_of_getElem? hel)
                  have hrr := pw_r hP h0 h1 (i := J 42 0 a - 1 - j) (by omega) (by omega)
                  rw [hrw]
                  refine ⟨by omega, by omega, by omega, by omega, by omega, by omega, by omega, by omega, by omega, by omega, by omega, by omega, ⟨by omega, by omega⟩, ⟨by omega, by omega⟩, fun q6 => ?_, fun q6 => ?_⟩
                  · rw [← ej]
                    refine ihm _ (by omega) (j + 1) 0 rfl (by omega) (Or.inl rfl) (fun _ => ?_) (fun y => absurd y (by decide))
                    unfold alk
                    rw [Bool.and_eq_false_iff]
                    right
                    rw [decide_eq_false_iff_not]
                    intro e
                    rw [e, rv_get J a _ j hjc, em] at hel
                    exact q6 (Option.some.inj hel).symm
                  · rw [← ej]
                    refine ihm _ (by omega) (j + 1) 1 rfl (by omega) (Or.inr rfl) (fun y => absurd y (by decide)) (fun _ i hi v hv => ?_)
                    by_cases e : i = j
                    · subst e
                      rw [hel] at hv
                      rw [← Option.some.inj hv, q6, em]
                    · exact hx1 x41 i (by omega) v hv
                · have e : j = (J 42 0 a).toNat := by omega
                  refine ⟨⟨by omega, by omega⟩, ⟨by omega, by omega⟩, fun _ => ⟨z4, fun q5 => next (hx0 q5), fun q5 => ⟨Or.inr rfl, ?_⟩⟩, fun q5 => by omega⟩
                  rw [hv1 x3 g0 hc q ?_]
                  · exact ⟨rfl, rfl, t2, zku_o K x, fin⟩
                  · unfold alk
                    rw [decide_eq_true q2, Bool.true_and, decide_eq_true_iff]
                    exact rv_eq hlen fun i hi v hv => hx1 (by omega) i (by omega) v hv
              exact inner _ 0 1 rfl (by omega) (Or.inr rfl) (fun y => absurd y (by decide)) (fun _ i hi => by omega)
      · have e : x3 = J 18 0 6 := by omega
        subst e
        refine ⟨⟨by omega, by omega⟩, ⟨by omega, by omega⟩, fun _ => ⟨Or.inl rfl, ?_⟩, fun q => by omega⟩
        rw [hv0 (Or.inl hno)]
        exact ⟨rfl, rfl, t2, zku_o K x, fin⟩
    exact outer _ 0 rfl (by decide) (by omega) fun g a0 a1 => by omega
  refine z137 hL ?_
  refine c169 hL hE (by omega) (by omega) ha (fun h0 h1 => zaV_of ?_) fun hc => zaV_ex (Or.inr ⟨3, 1, rfl, rfl, zonb_ok (by decide +kernel), by decide, by decide, ?_⟩)
  · have ht := pw_t hP h0 h1
    refine ⟨by omega, by omega, ⟨by omega, by omega⟩, fun q => ?_, fun q => ⟨Or.inl rfl, ?_⟩⟩
    · refine c19 hL hE hW hT hP (by omega) (by decide) fun J1 hF1 _ _ _ hC1 => zaV_of ?_
      have f1 : FrC J J1 := fc_fr (fc_rfl J) hF1 (by decide)
      have e : alk J (evF J (fun p => J 49 0 p) (stl J 0)) a (J 43 0 (a * 7 + (J 42 0 a - 1))) = alv J a := by
        unfold alv
        rw [decide_eq_true (by omega), Bool.true_and]
      refine c8 hL (fc_eqs f1) hW hP hO hC1 (by omega) h0 h1 (by omega) (zaI_of ?_)
      rw [e]
      exact ⟨zb_01 _, Or.inl ⟨_, rfl, rfl, zb_01 _, good h0 h1 J1 hF1⟩⟩
    · have e : zb (alv J a) = 0 := by
        unfold alv
        rw [decide_eq_false (by omega)]
        rfl
      have := good h0 h1 J (fr_rfl _ _ J)
      rw [e] at this
      exact Or.inl ⟨_, rfl, rfl, Or.inl rfl, this⟩
  · have t0 : zup J 142 0 0 0 142 0 0 = 0 := zup_eq _ _ _ _ _
    have fin := fin_x hG hI (fc_rfl J) (fm_t2 J 0 1) rfl (zup_eq _ _ _ _ _) 0 zin_0
    refine z191 hL ?_
    refine c252 hL (by omega) (mc_fm hC (fm_t J 0)).1 (by omega) ha (zaI_of ⟨zin_zb _, fun q => by rw [zb_1, decide_eq_true_iff] at q; omega, fun _ => ?_⟩)
    exact c195T hL (by omega) t0 (by decide) (zaI_of ⟨zin_1, fun q => absurd q (by decide), fun _ => ⟨Or.inl rfl, fin⟩⟩)
