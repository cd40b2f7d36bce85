/-! THE MODEL'S EVENING as a whole: goes, goesLate, rowsNow, harmOf -/
def evF (s : zJ) (w st : Int → Int) : Ev := evD s w (s 18 0 0 - 1).toNat (ev0 s st)
/-- the row at the root in which a portion is -/
def own (s : zJ) (E : Ev) (k : Int) : Int := fnd (fun g => decide (E.2.2 g = 0) && decide (k ∈ E.1 g)) (s 18 0 6).toNat
def rch (s : zJ) (E : Ev) (k : Int) : Int := E.2.1 (own s E k)
def rws (s : zJ) (E : Ev) : Int := cnt (fun g => decide (E.2.2 g = 0)) (s 18 0 6).toNat
def hrm (s : zJ) (E : Ev) : Int := 60 * (if 0 < rws s E - 1 then rws s E - 1 else 0) + sm (fun k => s 25 0 k * (rch s E k - s 51 0 k - dep s (s 24 0 k))) (s 18 0 6).toNat
/-- starts, if those of a set are late -/
def stl (s : zJ) (x k : Int) : Int := s 51 0 k + (if bt x k then s 27 0 k else 0)
theorem own_ok {s : zJ} {E : Ev} {T k : Int} (hE : EO s E 0 T) (k0 : 0 ≤ k) (k1 : k < s 18 0 6) : 0 ≤ own s E k ∧ own s E k < s 18 0 6 ∧ E.2.2 (own s E k) = 0 ∧ k ∈ E.1 (own s E k) := by
  unfold own
  rcases fnd_is (fun g => decide (E.2.2 g = 0) && decide (k ∈ E.1 g)) (s 18 0 6).toNat with ⟨-, h⟩ | ⟨h1, h2, h3, -⟩
  · obtain ⟨g, g0, g1, g2, g3⟩ := hE.2.2.2 k k0 k1
    have hb := (hE.2.1 g g0 g1 g2).1
    have := h g g0 (by omega)
    have e : E.2.2 g = 0 := by omega
    simp [e, g3] at this
  · simp only [Bool.and_eq_true, decide_eq_true_eq] at h3
    exact ⟨h1, by omega, h3.1, h3.2⟩
theorem own_eq {s : zJ} {E : Ev} {T k g : Int} (hE : EO s E 0 T) (k0 : 0 ≤ k) (k1 : k < s 18 0 6) (g0 : 0 ≤ g) (g1 : g < s 18 0 6) (g2 : E.2.2 g = 0) (g3 : k ∈ E.1 g) : own s E k = g := by
  have h := own_ok hE k0 k1
  by_cases e : own s E k = g
  · exact e
  · exact absurd g3 (hE.2.2.1 _ _ h.1 h.2.1 g0 g1 (by omega) (by omega) e k h.2.2.2)
theorem rch_rng {s : zJ} {E : Ev} {T k : Int} (hE : EO s E 0 T) (k0 : 0 ≤ k) (k1 : k < s 18 0 6) : 0 ≤ rch s E k ∧ rch s E k ≤ T := by
  have h := own_ok hE k0 k1
  have hb := hE.2.1 _ h.1 h.2.1 (by omega)
  exact ⟨hb.2.2.2.2.1, hb.2.2.2.2.2.2 h.2.2.1⟩
theorem evF_ok {s : zJ} (hW : LW s) {w st : Int → Int} (hs : ∀ k, 0 ≤ k → k < s 18 0 6 → 0 ≤ st k ∧ st k ≤ 2000) : EO s (evF s w st) 0 13000 := by
  have hn := lw_n hW
  have h0 := ev0_ok hW hs
  by_cases hp : s 18 0 0 = 0
  · have e : (s 18 0 0 - 1).toNat = 0 := by omega
    unfold evF
    rw [e, evD]
    have hn0 : s 18 0 6 ≤ 0 := by
      rcases Int.lt_or_le 0 (s 18 0 6) with q | q
      · have := lw_k hW (k := 0) (by omega) q
        omega
      · exact q
    exact ⟨fun g a b => by omega, fun g a b => by omega, fun g h a b => by omega, fun k a b => by omega⟩
  · have e : (((s 18 0 0 - 1).toNat : Nat) : Int) = s 18 0 0 - 1 := by omega
    rw [← e] at h0
    have h1 := evD_ok hW (w := w) _ _ _ (by omega) h0
    unfold evF
    refine ⟨h1.1, fun g a b c => ?_, h1.2.2.1, h1.2.2.2⟩
    obtain ⟨c1, c2, c3, c4, c5, c6, c7⟩ := h1.2.1 g a b c
    exact ⟨c1, c2, c3, c4, c5, by omega, fun q => by have := c7 q; omega⟩
/-- cells that a whole evening of the model leaves as they are -/
def FrG (J J' : zJ) : Prop := (∀ b, b ≠ 142 → b < 541 ∨ 555 < b → J' b = J b) ∧ ∀ k, k ≠ 49 → k ≠ 50 → J' 142 0 k = J 142 0 k
theorem fg_rfl (J : zJ) : FrG J J := ⟨fun _ _ _ => rfl, fun _ _ _ => rfl⟩
theorem fg_tr {J J1 J2 : zJ} (h1 : FrG J J1) (h2 : FrG J1 J2) : FrG J J2 := ⟨fun b x y => (h2.1 b x y).trans (h1.1 b x y), fun k a b => (h2.2 k a b).trans (h1.2 k a b)⟩
theorem fg_fe {J J1 J2 : zJ} (h : FrG J J1) (h2 : FrE J1 J2) : FrG J J2 := ⟨fun b x y => (h2.1 b x (by omega)).trans (h.1 b x y), fun k a b => (h2.2 k b).trans (h.2 k a b)⟩
theorem fg_up {J J1 : zJ} (h : FrG J J1) {a : Nat} (ha : 541 ≤ a ∧ a ≤ 555) (i k v : Int) : FrG J (zup J1 a i k v) := ⟨fun b x y => by rw [zup_ne _ _ _ _ (by omega)]; exact h.1 b x y, fun q u v => by rw [zup_ne _ _ _ _ (by omega)]; exact h.2 q u v⟩
theorem fg_fm {J J1 : zJ} (h : FrG J J1) : FrM J J1 := ⟨fun b x y => h.1 b x (by omega), h.2 _ (by decide) (by decide), h.2 _ (by decide) (by decide), h.2 _ (by decide) (by decide), h.2 _ (by decide) (by decide), h.2 _ (by decide) (by decide), h.2 _ (by decide) (by decide)⟩
theorem c228 {L : Nat} {xs : Nat → Int32} (hL : L ≤ 3072) {D : Nat} {J : zJ} {K : zK} {Q : zR → Nat → zJ → zK → Prop} {s : zJ} (hM : ML s J) (h : LW s) {w st : Int → Int} (hD : 8 ≤ D) (hs : ∀ k, 0 ≤ k → k < s 18 0 6 → J 553 0 k = st k ∧ 0 ≤ st k ∧ st k ≤ 2000) (hw : ∀ p, 1 ≤ p → p < s 18 0 0 → J 237 0 p = w p ∧ 0 ≤ w p ∧ w p ≤ 60) (hsh : ∀ p, 1 ≤ p → p < s 18 0 0 → J 236 0 p = zb (bt (s 40 0 10) p)) (hQ : ∀ J', FrG J J' → MR s J' (evF s w st) → (∀ k, 0 ≤ k → k < s 18 0 6 → J' 554 0 k = rch s (evF s w st) k) → Q (.inl none) 0 J' K) : zCall L xs D 228 [zr 142] J K Q := by
  obtain ⟨D, rfl⟩ : ∃ d, D = d + 1 := ⟨D - 1, by omega⟩
  have hn := lw_n h
  have hmn := ml_n hM
  have hst : ∀ k, 0 ≤ k → k < s 18 0 6 → 0 ≤ st k ∧ st k ≤ 2000 := fun k a b => (hs k a b).2
  have hEF := evF_ok h (w := w) hst
  -- the last loops: who reaches when
  have last : ∀ (n : Nat) (g : Int) (J1 : zJ), n = (s 18 0 6 - g).toNat → 0 ≤ g → g ≤ s 18 0 6 → FrG J J1 → MR s J1 (evF s w st) → (∀ x, 0 ≤ x → x < g → (evF s w st).2.2 x = 0 → ∀ k ∈ (evF s w st).1 x, J1 554 0 k = (evF s w st).2.1 x) → zGo L xs (D + 1) 228 94 [some (zr 142), some (zi g), none] [] J1 K Q := by
    intro n; induction n using Nat.strongRecOn with
    | _ n ih =>
    intro g J1 hm g0 g1 hF hR hre
    refine z228_94 hL ?_
    rw [hR.1]
    by_cases hc : g < s 18 0 6
    · have rg := hR.2 g g0 hc
      have inner : ∀ (m : Nat) (j : Nat) (J2 : zJ), m = 8 - j → (j = 0 ∨ (evF s w st).2.2 g = 0 ∧ j ≤ ((evF s w st).1 g).length) → FrG J J2 → MR s J2 (evF s w st) → (∀ x, 0 ≤ x → x < g → (evF s w st).2.2 x = 0 → ∀ k ∈ (evF s w st).1 x, J2 554 0 k = (evF s w st).2.1 x) → ((evF s w st).2.2 g = 0 → ∀ k ∈ ((evF s w st).1 g).take j, J2 554 0 k = (evF s w st).2.1 g) → zGo L xs (D + 1) 228 104 [some (zr 142), some (zi g), some (zi (j : Int))] [] J2 K Q := by
        intro m; induction m using Nat.strongRecOn with
        | _ m ihm =>
        intro j J2 hmj hj hF2 hR2 hre2 hg2
        have rg2 := hR2.2 g g0 hc
        have hlo := hEF.1 g g0 hc
        have hup : (evF s w st).2.2 g ≤ 0 := by
          rcases Int.lt_or_le ((evF s w st).2.2 g) 0 with q | q
          · omega
          · exact (hEF.2.1 g g0 hc q).1
        have next : ((evF s w st).2.2 g = 0 → ((evF s w st).1 g).length ≤ j) → zGo L xs (D + 1) 228 94 [some (zr 142), some (zi (g + 1)), none] [] J2 K Q := by
          intro hq
          refine ih _ (by omega) (g + 1) J2 rfl (by omega) (by omega) hF2 hR2 fun x x0 x1 xw k hk => ?_
          by_cases e : x = g
          · subst e
            refine hg2 xw k ?_
            rw [List.take_of_length_le (hq xw)]
            exact hk
          · exact hre2 x x0 (by omega) xw k hk
        refine z228_104 hL ?_
        rw [rg2.1]
        have hj8 : j ≤ 7 := by
          rcases hj with q | q
          · omega
          · have := eo_len h hEF g0 hc (by omega)
            omega
        refine ⟨g0, by omega, ⟨by omega, by omega⟩, ⟨by omega, by omega⟩, fun q => ?_, fun q => ⟨g0, by omega, ⟨by omega, by omega⟩, fun q2 => ?_, fun q2 => ?_⟩⟩
        · refine next fun q3 => ?_
          have := (rg2.2.1 (by omega)).2.1
          omega
        · exact next fun q3 => absurd q3 q2
        · have rr := rg2.2.1 (by omega)
          have hlen := rr.2.1
          have bg := hEF.2.1 g g0 hc (by omega)
          have hjl : j < ((evF s w st).1 g).length := by omega
          have hk := bg.2.2.2.1 _ (List.getElem_mem hjl)
          have ej : ((j + 1 : Nat) : Int) = (j : Int) + 1 := by omega
          rw [ar_at rr.2.2 hjl, rr.1]
          refine ⟨g0, by omega, g0, by omega, by omega, by omega, g0, by omega, by omega, by omega, ?_⟩
          rw [← ej]
          refine ihm _ (by omega) (j + 1) _ rfl (Or.inr ⟨q2, hjl⟩) (fg_up hF2 (by decide) _ _ _) (mr_eq hR2 (by simp only [zup_at, Nat.reduceEqDiff, Int.reduceEq, eq_self, true_and, and_true, false_and, and_false, if_true, if_false]) (zup_ne _ _ _ _ (by decide)) (zup_ne _ _ _ _ (by decide)) (zup_ne _ _ _ _ (by decide)) (zup_ne _ _ _ _ (by decide))) (fun x x0 x1 xw k hkx => ?_) (fun _ k hkx => ?_)
          · have hne : k ≠ ((evF s w st).1 g)[j] := by
              intro e
              rw [e] at hkx
              exact hEF.2.2.1 x g x0 (by omega) g0 hc (by omega) (by omega) (by omega) _ hkx (List.getElem_mem hjl)
            rw [zup_nk _ _ hne]
            exact hre2 x x0 x1 xw k hkx
          · rw [zup_at]
            split
            · rfl
            · next e =>
              refine hg2 q2 k ?_
              rw [take_snoc hjl, List.mem_append, List.mem_singleton] at hkx
              rcases hkx with z | z
              · exact z
              · exact absurd ⟨rfl, rfl, z⟩ e
      refine ⟨⟨by omega, by omega⟩, ⟨by omega, by omega⟩, fun _ => by omega, fun _ => inner _ 0 J1 rfl (Or.inl rfl) hF hR hre (fun _ k hk => ?_)⟩
      rw [List.take_zero] at hk
      cases hk
    · refine ⟨⟨by omega, by omega⟩, ⟨by omega, by omega⟩, fun _ => hQ J1 hF hR fun k k0 k1 => ?_, fun _ => by omega⟩
      have ho := own_ok hEF k0 k1
      exact hre _ ho.1 (by omega) ho.2.2.1 k ho.2.2.2
  -- place by place
  have down : ∀ (m : Nat) (J1 : zJ) (E : Ev) (T : Int), (m : Int) < s 18 0 0 ∨ m = 0 → FrG J J1 → MR s J1 E → (0 < m → EO s E m T) → 0 ≤ T → T + 1000 * m ≤ 20000 → evD s w m E = evF s w st → ∀ x1 : Int, x1 = m ∨ (x1 ≤ 0 ∧ -1 ≤ x1 ∧ m = 0) → zGo L xs (D + 1) 228 77 [some (zr 142), some (zi x1), none] [] J1 K Q := by
    intro m
    induction m with
    | zero =>
      intro J1 E T hm hF hR _ hT0 hT hev x1 hx1
      rw [evD] at hev
      rw [hev] at hR
      refine z228_77 hL ⟨⟨by omega, by omega⟩, fun _ => ?_, fun _ => by omega⟩
      exact last _ 0 J1 rfl (by omega) (by omega) hF hR fun x x0 x1 => by omega
    | succ m ihm =>
      intro J1 E T hm hF hR hE hT0 hT hev x1 hx1
      have em : ((m + 1 : Nat) : Int) = (m : Int) + 1 := by omega
      have e1 : x1 = (m : Int) + 1 := by omega
      subst e1
      have e2 : (m : Int) + 1 + (-1) = m := by omega
      rw [evD] at hev
      have hE' := hE (by omega)
      rw [em] at hE'
      refine z228_77 hL ⟨⟨by omega, by omega⟩, fun _ => by omega, fun _ => ?_⟩
      have hwp := hw ((m : Int) + 1) (by omega) (by omega)
      refine c230 hL (ml_fm hM (fg_fm hF)) h (w := w) (by omega) hE' (by omega) hT0 (by omega) (by omega) hR ⟨by rw [hF.1 237 (by decide) (by decide)]; exact hwp.1, hwp.2⟩ (by rw [hF.1 236 (by decide) (by decide)]; exact hsh _ (by omega) (by omega)) fun J2 hF2 hR2 => zaV_of ?_
      rw [e2]
      refine ihm J2 _ (T + 1000) (by omega) (fg_fe hF hF2) hR2 (fun _ => ?_) (by omega) (by omega) hev m (Or.inl rfl)
      have := evs_ok h (w := w) (by omega) (by omega) hE'
      have e3 : (m : Int) + 1 - 1 = m := by omega
      rw [e3] at this
      exact this
  -- the beginning
  have first : ∀ (n : Nat) (x1 : Int) (J1 : zJ), n = (s 18 0 6 - x1).toNat → 0 ≤ x1 → x1 ≤ s 18 0 6 → FrG J J1 → J1 142 0 49 = s 18 0 6 → J1 553 = J 553 → (∀ g, 0 ≤ g → g < x1 → J1 552 0 g = s 24 0 g ∧ J1 551 0 g = st g ∧ J1 550 0 g = 1 ∧ J1 541 g 0 = g) → zGo L xs (D + 1) 228 12 [some (zr 142), some (zi x1), none] [] J1 K Q := by
    intro n; induction n using Nat.strongRecOn with
    | _ n ih =>
    intro x1 J1 hm h0 h1 hF e49 e553 hre
    refine z228_12 hL ?_
    rw [e49]
    by_cases hc : x1 < s 18 0 6
    · have hM1 := ml_fm hM (fg_fm hF)
      rw [e553, (hs x1 h0 hc).1, (ml_k hM1 h0 hc).1]
      refine ⟨⟨by omega, by omega⟩, ⟨by omega, by omega⟩, fun _ => by omega, fun _ => ⟨by omega, by omega, by omega, by omega, by decide, by decide, by omega, by omega, by omega, by omega, by omega, by omega, by omega, by omega, by omega, by omega, by decide, by decide, by omega, by omega, ?_⟩⟩
      refine ih _ (by omega) (x1 + 1) _ rfl (by omega) (by omega) (fg_up (fg_up (fg_up (fg_up hF (by decide) _ _ _) (by decide) _ _ _) (by decide) _ _ _) (by decide) _ _ _) (by simp only [zup_at, Nat.reduceEqDiff, Int.reduceEq, eq_self, true_and, and_true, false_and, and_false, if_true, if_false]; exact e49) (by rw [zup_ne _ _ _ _ (by decide), zup_ne _ _ _ _ (by decide), zup_ne _ _ _ _ (by decide), zup_ne _ _ _ _ (by decide)]; exact e553) (fun g g0 g1 => ?_)
      by_cases e : g = x1
      · subst e
        simp only [zup_at, Nat.reduceEqDiff, Int.reduceEq, eq_self, true_and, and_true, false_and, and_false, if_true, if_false]
      · have := hre g g0 (by omega)
        simp only [zup_at, Nat.reduceEqDiff, Int.reduceEq, eq_self, true_and, and_true, false_and, and_false, if_true, if_false]
        simp only [e, if_false, false_and]
        exact this
    · have e : x1 = s 18 0 6 := by omega
      subst e
      refine ⟨⟨by omega, by omega⟩, ⟨by omega, by omega⟩, fun _ => ⟨by decide, by decide, ?_⟩, fun _ => by omega⟩
      rw [(ml_n (ml_fm hM (fg_fm hF))).1]
      have hR : MR s J1 (ev0 s st) := by
        refine ⟨e49, fun g g0 g1 => ?_⟩
        have := hre g g0 g1
        refine ⟨this.1, fun _ => ⟨this.2.1, ?_, fun j v hv => ?_⟩, by rw [this.2.2.1]; decide⟩
        · rw [this.2.2.1]
          rfl
        · have hj : j = 0 := by
            have := (List.getElem?_eq_some_iff.mp hv).1
            simp only [ev0, List.length_cons, List.length_nil] at this
            omega
          subst hj
          have hv2 : some g = some v := hv
          rw [← Option.some.inj hv2]
          exact this.2.2.2
      refine down (s 18 0 0 - 1).toNat J1 (ev0 s st) 2000 (by omega) hF hR (fun hpos => ?_) (by decide) (by omega) rfl _ (by omega)
      have h00 := ev0_ok h hst
      have e : (((s 18 0 0 - 1).toNat : Nat) : Int) = s 18 0 0 - 1 := by omega
      rw [e]
      exact h00
  refine z228 hL ⟨by decide, by decide, ?_⟩
  rw [hmn.2.1]
  exact first _ 0 _ rfl (by omega) (by omega) ⟨fun b x y => zup_ne _ _ _ _ x, fun k a b => zup_nk _ _ a⟩ (zup_eq _ _ _ _ _) (zup_ne _ _ _ _ (by decide)) fun g g0 g1 => by omega
theorem stl_rng {s : zJ} (hW : LW s) (hP : PW s) (x : Int) {k : Int} (k0 : 0 ≤ k) (k1 : k < s 18 0 6) : 0 ≤ stl s x k ∧ stl s x k ≤ 2000 := by
  have hn := lw_n hW
  have h1 := pw_e hP k0 (by omega)
  have h2 := lw_k hW k0 k1
  unfold stl
  split <;> omega
/-- starts and what is shut, in the model -/
def ME (s J : zJ) : Prop := (∀ k, 0 ≤ k → k < s 18 0 6 → J 238 0 k = s 51 0 k) ∧ ∀ p, 0 ≤ p → p < 12 → J 236 0 p = zb (bt (s 40 0 10) p)
theorem me_of {s J : zJ} (h : MC s J) : ME s J := ⟨fun _ a b => (mc_k h a b).1, fun _ a b => (mc_p h a b).1⟩
theorem me_fm {s J J' : zJ} (h : ME s J) (f : FrM J J') : ME s J' := by
  unfold ME at h ⊢
  rw [f.1 238 (by decide) (by decide), f.1 236 (by decide) (by decide)]
  exact h
theorem c229 {L : Nat} {xs : Nat → Int32} (hL : L ≤ 3072) {D : Nat} {J : zJ} {K : zK} {Q : zR → Nat → zJ → zK → Prop} {s : zJ} (hM : ML s J) (h : LW s) (hP : PW s) (hC : ME s J) {w : Int → Int} {x : Int} (hD : 9 ≤ D) (hx : 0 ≤ x ∧ x < 2147483648) (hw : ∀ p, 1 ≤ p → p < s 18 0 0 → J 237 0 p = w p ∧ 0 ≤ w p ∧ w p ≤ 60) (hQ : ∀ J', FrG J J' → MR s J' (evF s w (stl s x)) → (∀ k, 0 ≤ k → k < s 18 0 6 → J' 554 0 k = rch s (evF s w (stl s x)) k) → Q (.inl none) 0 J' K) : zCall L xs D 229 [zr 142, zi x] J K Q := by
  obtain ⟨D, rfl⟩ : ∃ d, D = d + 1 := ⟨D - 1, by omega⟩
  have hn := lw_n h
  have key : ∀ (n : Nat) (x2 : Int) (J1 : zJ), n = (s 18 0 6 - x2).toNat → 0 ≤ x2 → x2 ≤ s 18 0 6 → FrG J J1 → (∀ k, 0 ≤ k → k < x2 → J1 553 0 k = stl s x k) → zGo L xs (D + 1) 229 2 [some (zr 142), some (zi x), some (zi x2)] [] J1 K Q := by
    intro n; induction n using Nat.strongRecOn with
    | _ n ih =>
    intro x2 J1 hm h0 h1 hF hre
    have hM1 := ml_fm hM (fg_fm hF)
    have hC1 := me_fm hC (fg_fm hF)
    refine z229_2 hL ?_
    rw [(ml_n hM1).2.1]
    simp only [bt_shz hx.1 hx.2, zb_e1, zb_n1]
    by_cases hc : x2 < s 18 0 6
    · have step : ∀ v, v = stl s x x2 → zGo L xs (D + 1) 229 2 [some (zr 142), some (zi x), some (zi (x2 + 1))] [] (zup J1 553 0 x2 v) K Q := by
        intro v hv
        refine ih _ (by omega) (x2 + 1) _ rfl (by omega) (by omega) (fg_up hF (by decide) _ _ _) fun k k0 k1 => ?_
        rw [zup_at]
        split
        · next e => rw [hv, e.2.2]
        · next e =>
          refine hre k k0 ?_
          rcases Int.lt_or_le k x2 with q | q
          · exact q
          · exact absurd ⟨rfl, rfl, by omega⟩ e
      rw [hC1.1 _ h0 hc, (ml_k hM1 h0 hc).2.2.2]
      refine ⟨by decide, by decide, ⟨by omega, by omega⟩, ⟨by omega, by omega⟩, fun _ => by omega, fun _ => ⟨by omega, by omega, ⟨by omega, by omega⟩, by omega, by omega, zin_zb _, zin_1, fun q => ⟨by omega, by omega, step _ ?_⟩, fun q => ⟨by omega, by omega, by omega, by omega, by decide, by decide, by omega, by omega, step _ ?_⟩⟩⟩
      · unfold stl
        rw [q]
        rfl
      · unfold stl
        rw [q]
        rfl
    · have e : x2 = s 18 0 6 := by omega
      subst e
      refine ⟨by decide, by decide, ⟨by omega, by omega⟩, ⟨by omega, by omega⟩, fun _ => ?_, fun _ => by omega⟩
      refine c228 hL hM1 h (w := w) (st := stl s x) (by omega) (fun k k0 k1 => ⟨hre k k0 k1, stl_rng h hP x k0 k1⟩) (fun p p0 p1 => ?_) (fun p p0 p1 => ?_) fun J2 hF2 hR2 hre2 => zaV_of (hQ J2 (fg_tr hF hF2) hR2 hre2)
      · rw [hF.1 237 (by decide) (by decide)]
        exact hw p p0 p1
      · exact hC1.2 _ (by omega) (by omega)
  exact z229 hL (key _ 0 J rfl (by omega) (by omega) (fg_rfl J) fun k k0 k1 => by omega)
theorem c286 {L : Nat} {xs : Nat → Int32} (hL : L ≤ 3072) {D : Nat} {J : zJ} {K : zK} {Q : zR → Nat → zJ → zK → Prop} {s : zJ} (h : LW s) {E : Ev} (hR : MR s J E) (hz : ∀ g, 0 ≤ g → g < s 18 0 6 → zin (E.2.2 g)) (hD : 1 ≤ D) (hQ : Q (.inl (some (zi (rws s E)))) 0 J K) : zCall L xs D 286 [zr 142] J K Q := by
  obtain ⟨D, rfl⟩ : ∃ d, D = d + 1 := ⟨D - 1, by omega⟩
  have hn := lw_n h
  have key : ∀ (n : Nat) (x2 : Int), n = (s 18 0 6 - x2).toNat → 0 ≤ x2 → x2 ≤ s 18 0 6 → zGo L xs (D + 1) 286 4 [some (zr 142), some (zi (cnt (fun g => decide (E.2.2 g = 0)) x2.toNat)), some (zi x2)] [] J K Q := by
    intro n; induction n using Nat.strongRecOn with
    | _ n ih =>
    intro x2 hm h0 h1
    refine z286_4 hL ?_
    rw [hR.1]
    by_cases hc : x2 < s 18 0 6
    · have hi := ih _ (by omega) (x2 + 1) rfl (by omega) (by omega)
      rw [cnt_next h0] at hi
      rw [(hR.2 x2 h0 hc).1]
      refine ⟨⟨by omega, by omega⟩, ⟨by omega, by omega⟩, fun _ => by omega, fun _ => ⟨h0, by omega, hz x2 h0 hc, fun q => ?_, fun q => ?_⟩⟩
      · rw [decide_eq_false q] at hi
        exact hi
      · rw [decide_eq_true q] at hi
        exact hi
    · have e : x2 = s 18 0 6 := by omega
      rw [e]
      exact ⟨⟨by omega, by omega⟩, ⟨by omega, by omega⟩, fun _ => hQ, fun _ => by omega⟩
  exact z286 hL (key _ 0 rfl (by omega) (by omega))
theorem eo_zin {s : zJ} {E : Ev} {p T : Int} (hE : EO s E p T) (hp : p ≤ 1000) {g : Int} (g0 : 0 ≤ g) (g1 : g < s 18 0 6) : zin (E.2.2 g) := by
  have h1 := hE.1 g g0 g1
  rcases Int.lt_or_le (E.2.2 g) 0 with q | q
  · exact ⟨by omega, by omega⟩
  · have := (hE.2.1 g g0 g1 q).1
    exact ⟨by omega, by omega⟩
theorem c236 {L : Nat} {xs : Nat → Int32} (hL : L ≤ 3072) {D : Nat} {J : zJ} {K : zK} {Q : zR → Nat → zJ → zK → Prop} {s : zJ} (hM : ML s J) (h : LW s) (hP : PW s) (hC : ME s J) {w : Int → Int} {x : Int} (hD : 10 ≤ D) (hx : 0 ≤ x ∧ x < 2147483648) (hw : ∀ p, 1 ≤ p → p < s 18 0 0 → J 237 0 p = w p ∧ 0 ≤ w p ∧ w p ≤ 60) (hQ : ∀ J', FrG J J' → Q (.inl (some (zi (hrm s (evF s w (stl s x)))))) 0 J' K) : zCall L xs D 236 [zr 142, zi x] J K Q := by
  obtain ⟨D, rfl⟩ : ∃ d, D = d + 1 := ⟨D - 1, by omega⟩
  have hn := lw_n h
  have hEF := evF_ok h (w := w) fun k k0 k1 => stl_rng h hP x k0 k1
  refine z236 hL ?_
  refine c229 hL hM h hP hC (w := w) (by omega) hx hw fun J1 hF hR hre => zaV_of ?_
  have hr := cnt_rng (fun g => decide ((evF s w (stl s x)).2.2 g = 0)) (s 18 0 6).toNat
  refine c286 hL h hR (fun g g0 g1 => eo_zin hEF (by decide) g0 g1) (by omega) (zaI_of ?_)
  have hr2 : 0 ≤ rws s (evF s w (stl s x)) ∧ rws s (evF s w (stl s x)) ≤ 7 := by
    unfold rws
    omega
  refine c268 hL (by omega) zin_0 ⟨by omega, by omega⟩ (zaI_of ?_)
  have hM1 := ml_fm hM (fg_fm hF)
  have hC1 := me_fm hC (fg_fm hF)
  have key : ∀ (n : Nat) (x3 : Int), n = (s 18 0 6 - x3).toNat → 0 ≤ x3 → x3 ≤ s 18 0 6 → zGo L xs (D + 1) 236 21 [some (zr 142), none, some (zi (60 * (if 0 < rws s (evF s w (stl s x)) - 1 then rws s (evF s w (stl s x)) - 1 else 0) + sm (fun k => s 25 0 k * (rch s (evF s w (stl s x)) k - s 51 0 k - dep s (s 24 0 k))) x3.toNat)), some (zi x3)] [] J1 K Q := by
    intro n; induction n using Nat.strongRecOn with
    | _ n ih =>
    intro x3 hm h0 h1
    refine z236_21 hL ?_
    rw [(ml_n hM1).2.1]
    by_cases hc : x3 < s 18 0 6
    · have hi := ih _ (by omega) (x3 + 1) rfl (by omega) (by omega)
      have hk := lw_k h h0 hc
      have hmk := ml_k hM1 h0 hc
      rw [sm_next h0, ← Int.add_assoc] at hi
      rw [hmk.1, hmk.2.1, hre x3 h0 hc, hC1.1 _ h0 hc]
      refine ⟨by decide, by decide, ⟨by omega, by omega⟩, ⟨by omega, by omega⟩, fun _ => by omega, fun _ => ⟨by omega, by omega, by omega, by omega, by decide, by decide, by omega, by omega, by omega, by omega, by omega, by omega, by omega, by omega, by decide, by decide, ?_⟩⟩
      exact c215 hL hM1 h (by omega) (by omega) (by omega) (zaI_of hi)
    · have e : x3 = s 18 0 6 := by omega
      rw [e]
      exact ⟨by decide, by decide, ⟨by omega, by omega⟩, ⟨by omega, by omega⟩, fun _ => hQ J1 hF, fun _ => by omega⟩
  have := key _ 0 rfl (by omega) (by omega)
  rw [show (0 : Int).toNat = 0 from rfl, sm, Int.add_zero] at this
  exact this
