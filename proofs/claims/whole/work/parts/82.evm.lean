/-! THE EVENING in the model -/
/-- an array holds a list -/
def Ar (a : Int → Int) (l : List Int) : Prop := ∀ (j : Nat) (v : Int), l[j]? = some v → a j = v
theorem ar_at {a : Int → Int} {l : List Int} (h : Ar a l) {j : Nat} (hj : j < l.length) : a j = l[j] := h j _ (List.getElem?_eq_getElem hj)
theorem ar_cong {a b : Int → Int} {l : List Int} (h : Ar a l) (e : ∀ j : Nat, j < l.length → b j = a j) : Ar b l := fun j v hv => by
  rw [e j (List.getElem?_eq_some_iff.mp hv).1]
  exact h j v hv
/-- a row of the model -/
def Ro (J : zJ) (g : Int) (l : List Int) : Prop := J 550 0 g = l.length ∧ Ar (J 541 g) l
def MR (s J : zJ) (E : Ev) : Prop := J 142 0 49 = s 18 0 6 ∧ ∀ g, 0 ≤ g → g < s 18 0 6 → J 552 0 g = E.2.2 g ∧ (0 ≤ E.2.2 g → J 551 0 g = E.2.1 g ∧ Ro J g (E.1 g)) ∧ 0 ≤ J 550 0 g ∧ J 550 0 g ≤ 7
/-- cells that the model's evening leaves as they are -/
def FrE (J J' : zJ) : Prop := (∀ b, b ≠ 142 → b < 541 ∨ (552 < b ∧ b ≠ 555) → J' b = J b) ∧ ∀ k, k ≠ 50 → J' 142 0 k = J 142 0 k
theorem fe_rfl (J : zJ) : FrE J J := ⟨fun _ _ _ => rfl, fun _ _ => rfl⟩
theorem fe_tr {J J1 J2 : zJ} (h1 : FrE J J1) (h2 : FrE J1 J2) : FrE J J2 := ⟨fun b x y => (h2.1 b x y).trans (h1.1 b x y), fun k hk => (h2.2 k hk).trans (h1.2 k hk)⟩
theorem fe_up {J J1 : zJ} (h : FrE J J1) {a : Nat} (ha : (541 ≤ a ∧ a ≤ 552) ∨ a = 555) (i k v : Int) : FrE J (zup J1 a i k v) := ⟨fun b x y => by rw [zup_ne _ _ _ _ (by omega)]; exact h.1 b x y, fun q hq => by rw [zup_ne _ _ _ _ (by omega)]; exact h.2 q hq⟩
theorem fe_50 {J J1 : zJ} (h : FrE J J1) (v : Int) : FrE J (zup J1 142 0 50 v) := ⟨fun b x y => by rw [zup_ne _ _ _ _ x]; exact h.1 b x y, fun q hq => by rw [zup_nk _ _ hq]; exact h.2 q hq⟩
theorem fe_fm {J J1 : zJ} (h : FrE J J1) : FrM J J1 := ⟨fun b x y => h.1 b x (by omega), h.2 _ (by decide), h.2 _ (by decide), h.2 _ (by decide), h.2 _ (by decide), h.2 _ (by decide), h.2 _ (by decide)⟩
theorem lmn_rng : ∀ {l : List Int}, (∀ k ∈ l, 0 ≤ k ∧ k < 7) → 0 ≤ lmn l ∧ lmn l ≤ 8
  | [], _ => by simp [lmn]
  | k :: r, h => by
    have h1 := lmn_rng (l := r) fun x hx => h x (List.mem_cons_of_mem _ hx)
    have h2 := h k List.mem_cons_self
    rw [lmn]
    split <;> omega
theorem lmn_snoc : ∀ (l : List Int) (k : Int), lmn (l ++ [k]) = if k < lmn l then k else lmn l
  | [], k => rfl
  | x :: r, k => by
    rw [List.cons_append, lmn, lmn_snoc r k, lmn]
    split <;> split <;> (try split) <;> (try split) <;> omega
theorem lln_app (s : zJ) : ∀ (l r : List Int), lln s (l ++ r) = lln s l + lln s r
  | [], r => by simp [lln]
  | x :: l, r => by
    rw [List.cons_append, lln, lln_app s l r, lln]
    omega
theorem lln_rng {s : zJ} (hW : LW s) : ∀ {l : List Int}, (∀ k ∈ l, 0 ≤ k ∧ k < s 18 0 6) → 0 ≤ lln s l ∧ lln s l ≤ 15 * l.length
  | [], _ => by simp [lln]
  | k :: r, h => by
    have h1 := lln_rng hW (l := r) fun x hx => h x (List.mem_cons_of_mem _ hx)
    have h2 := h k List.mem_cons_self
    have h3 := lw_k hW h2.1 h2.2
    rw [lln]
    simp only [List.length_cons]
    omega
theorem take_snoc {l : List Int} {j : Nat} (hj : j < l.length) : l.take (j + 1) = l.take j ++ [l[j]] := by
  rw [List.take_succ_eq_append_getElem hj]
theorem c259 {L : Nat} {xs : Nat → Int32} (hL : L ≤ 3072) {D : Nat} {J : zJ} {K : zK} {Q : zR → Nat → zJ → zK → Prop} {g : Int} {l : List Int} (hD : 2 ≤ D) (h0 : 0 ≤ g) (h1 : g < 7) (hr : Ro J g l) (hl : l.length ≤ 7) (hk : ∀ k ∈ l, 0 ≤ k ∧ k < 7) (hQ : Q (.inl (some (zi (lmn l)))) 0 J K) : zCall L xs D 259 [zr 142, zi g] J K Q := by
  obtain ⟨D, rfl⟩ : ∃ d, D = d + 1 := ⟨D - 1, by omega⟩
  have key : ∀ (n j : Nat), n = l.length - j → j ≤ l.length → zGo L xs (D + 1) 259 5 [some (zr 142), some (zi g), some (zi (lmn (l.take j))), some (zi (j : Int))] [] J K Q := by
    intro n; induction n using Nat.strongRecOn with
    | _ n ih =>
    intro j hm hj
    refine z259_5 hL ?_
    rw [hr.1]
    by_cases hc : j < l.length
    · have hv := hk _ (List.getElem_mem hc)
      have hi := ih _ (by omega) (j + 1) rfl (by omega)
      have hrg := lmn_rng (l := l.take j) fun x hx => hk x (List.mem_of_mem_take hx)
      rw [take_snoc hc, lmn_snoc] at hi
      have e : ((j + 1 : Nat) : Int) = (j : Int) + 1 := by omega
      rw [e] at hi
      rw [ar_at hr.2 hc]
      refine ⟨h0, by omega, ⟨by omega, by omega⟩, ⟨by omega, by omega⟩, fun _ => by omega, fun _ => ⟨h0, by omega, h0, by omega, by omega, by omega, ?_⟩⟩
      exact c261 hL (by omega) ⟨by omega, by omega⟩ ⟨by omega, by omega⟩ (zaI_of hi)
    · have e : j = l.length := by omega
      rw [e, List.take_length]
      exact ⟨h0, by omega, ⟨by omega, by omega⟩, ⟨by omega, by omega⟩, fun _ => hQ, fun _ => by omega⟩
  exact z259 hL (key _ 0 rfl (by omega))
theorem c233 {L : Nat} {xs : Nat → Int32} (hL : L ≤ 3072) {D : Nat} {J : zJ} {K : zK} {Q : zR → Nat → zJ → zK → Prop} {s : zJ} (hM : ML s J) (h : LW s) {g : Int} {l : List Int} (hD : 2 ≤ D) (h0 : 0 ≤ g) (h1 : g < 7) (hr : Ro J g l) (hl : l.length ≤ 7) (hk : ∀ k ∈ l, 0 ≤ k ∧ k < s 18 0 6) (hQ : Q (.inl (some (zi (lln s l)))) 0 J K) : zCall L xs D 233 [zr 142, zi g] J K Q := by
  obtain ⟨D, rfl⟩ : ∃ d, D = d + 1 := ⟨D - 1, by omega⟩
  obtain ⟨D', rfl⟩ : ∃ d, D = d + 1 := ⟨D - 1, by omega⟩
  have hn := lw_n h
  have key : ∀ (n j : Nat) (Q : zR → Nat → zJ → zK → Prop), n = l.length - j → j ≤ l.length → Q (.inl (some (zi (lln s l)))) 0 J K → zGo L xs (D' + 1) 260 6 [some (zr 142), some (zw 541 g), none, some (zi (l.length : Int)), some (zi (lln s (l.take j))), some (zi (j : Int))] [] J K Q := by
    intro n; induction n using Nat.strongRecOn with
    | _ n ih =>
    intro j Q hm hj hQ
    refine z260a_6 hL ?_
    by_cases hc : j < l.length
    · have hv := hk _ (List.getElem_mem hc)
      have hi := ih _ (by omega) (j + 1) Q rfl (by omega) hQ
      rw [take_snoc hc, lln_app, lln, lln, Int.add_zero] at hi
      have e : ((j + 1 : Nat) : Int) = (j : Int) + 1 := by omega
      rw [e] at hi
      rw [ar_at hr.2 hc, (ml_k hM hv.1 hv.2).2.1]
      exact ⟨⟨by omega, by omega⟩, ⟨by omega, by omega⟩, fun _ => by omega, fun _ => ⟨h0, by omega, by omega, by omega, by omega, by omega, by omega, by omega, by decide, by decide, hi⟩⟩
    · have e : j = l.length := by omega
      rw [e, List.take_length]
      exact ⟨⟨by omega, by omega⟩, ⟨by omega, by omega⟩, fun _ => hQ, fun _ => by omega⟩
  refine z233 hL ⟨h0, by omega, h0, by omega, ?_⟩
  rw [hr.1]
  exact z260a hL (key _ 0 _ rfl (by omega) (zaI_of hQ))
theorem c241 {L : Nat} {xs : Nat → Int32} (hL : L ≤ 3072) {D : Nat} {J : zJ} {K : zK} {Q : zR → Nat → zJ → zK → Prop} {s : zJ} (hM : ML s J) (h : LW s) {E : Ev} {p T g o : Int} (hD : 3 ≤ D) (hE : EO s E p T) (hT : T ≤ 20000) (hR : MR s J E) (h0 : 0 ≤ g) (h1 : g < s 18 0 6) (h2 : 0 ≤ E.2.2 g) (o0 : 0 ≤ o) (o1 : o < s 18 0 6) (o2 : 0 ≤ E.2.2 o) (hQ : Q (.inl (some (zi (zb (ahd E g o))))) 0 J K) : zCall L xs D 241 [zr 142, zi g, zi o] J K Q := by
  obtain ⟨D, rfl⟩ : ∃ d, D = d + 1 := ⟨D - 1, by omega⟩
  have hn := lw_n h
  have bg := hE.2.1 g h0 h1 h2
  have bo := hE.2.1 o o0 o1 o2
  have rg := (hR.2 g h0 h1).2.1 h2
  have ro := (hR.2 o o0 o1).2.1 o2
  have lg := eo_len h hE h0 h1 h2
  have lo := eo_len h hE o0 o1 o2
  have kg : ∀ k ∈ E.1 g, 0 ≤ k ∧ k < 7 := fun k hk => by
    have := bg.2.2.2.1 k hk
    omega
  have ko : ∀ k ∈ E.1 o, 0 ≤ k ∧ k < 7 := fun k hk => by
    have := bo.2.2.2.1 k hk
    omega
  have mg := lmn_rng kg
  have mo := lmn_rng ko
  refine z241 hL ?_
  rw [rg.1, ro.1]
  refine ⟨h0, by omega, o0, by omega, ⟨by omega, by omega⟩, ⟨by omega, by omega⟩, fun q => ⟨Or.inr rfl, ?_⟩, fun q => ⟨h0, by omega, o0, by omega, ⟨by omega, by omega⟩, ⟨by omega, by omega⟩, fun q2 => ⟨Or.inl rfl, ?_⟩, fun q2 => ?_⟩⟩
  · have e : ahd E g o = true := by simp [ahd, q]
    rw [e] at hQ
    exact hQ
  · have e : ahd E g o = false := by
      simp [ahd]
      omega
    rw [e] at hQ
    exact hQ
  · refine c259 hL (by omega) h0 (by omega) rg.2 (by omega) kg (zaI_of ?_)
    refine c259 hL (by omega) o0 (by omega) ro.2 (by omega) ko (zaI_of ?_)
    refine ⟨⟨by omega, by omega⟩, ⟨by omega, by omega⟩, fun q3 => ⟨Or.inl rfl, ?_⟩, fun q3 => ⟨Or.inr rfl, ?_⟩⟩
    · have e : ahd E g o = false := by
        simp [ahd]
        omega
      rw [e] at hQ
      exact hQ
    · have e : ahd E g o = true := by simp [ahd, q2, q3]
      rw [e] at hQ
      exact hQ
/-- the relation speaks of 541, 550 to 552 and of the rows' number -/
theorem mr_eq {s J J' : zJ} {E : Ev} (h : MR s J E) (e0 : J' 142 0 49 = J 142 0 49) (e1 : J' 541 = J 541) (e2 : J' 550 = J 550) (e3 : J' 551 = J 551) (e4 : J' 552 = J 552) : MR s J' E := by
  unfold MR Ro at h ⊢
  rw [e0, e1, e2, e3, e4]
  exact h
theorem ins_get {P : Int → Bool} {l : List Int} {g : Int} (j : Nat) : (ins P l g)[j]? = if j < cut P l then l[j]? else if j = cut P l then some g else l[j - 1]? := by
  have hle := cut_le P l
  unfold ins
  rw [List.getElem?_append, List.length_take, Nat.min_eq_left hle]
  split
  · next hj => rw [List.getElem?_take, if_pos hj]
  · next hj =>
    by_cases e : j = cut P l
    · rw [if_pos e, e, Nat.sub_self]
      rfl
    · rw [if_neg e]
      have e2 : j - cut P l = (j - 1 - cut P l) + 1 := by omega
      rw [e2, List.getElem?_cons_succ, List.getElem?_drop]
      congr 1
      omega
theorem c224 {L : Nat} {xs : Nat → Int32} (hL : L ≤ 3072) {D : Nat} {J : zJ} {K : zK} {Q : zR → Nat → zJ → zK → Prop} {s : zJ} (hM : ML s J) (h : LW s) {E : Ev} {p T : Int} (hD : 4 ≤ D) (hE : EO s E p T) (hT : T ≤ 20000) (hp : 0 ≤ p) (hp2 : p < s 18 0 0) (hR : MR s J E) (hQ : ∀ J', FrE J J' → MR s J' E → J' 142 0 50 = (ord E p (s 18 0 6).toNat).length → Ar (J' 555 0) (ord E p (s 18 0 6).toNat) → Q (.inl none) 0 J' K) : zCall L xs D 224 [zr 142, zi p] J K Q := by
  obtain ⟨D, rfl⟩ : ∃ d, D = d + 1 := ⟨D - 1, by omega⟩
  have hn := lw_n h
  have key : ∀ (n : Nat) (g : Nat) (J1 : zJ), n = (s 18 0 6).toNat - g → (g : Int) ≤ s 18 0 6 → FrE J J1 → MR s J1 E → J1 142 0 50 = (ord E p g).length → Ar (J1 555 0) (ord E p g) → zGo L xs (D + 1) 224 7 [some (zr 142), some (zi p), some (zi (g : Int)), none] [] J1 K Q := by
    intro n; induction n using Nat.strongRecOn with
    | _ n ih =>
    intro g J1 hm hg hF hR1 hlen har
    refine z224_7 hL ?_
    rw [hR1.1]
    by_cases hc : (g : Int) < s 18 0 6
    · have hw := (hR1.2 g (by omega) hc).1
      have hlo := hE.1 g (by omega) hc
      have hup : E.2.2 g ≤ p ∨ E.2.2 g < 0 := by
        rcases Int.lt_or_le (E.2.2 g) 0 with q | q
        · exact Or.inr q
        · exact Or.inl (hE.2.1 g (by omega) hc q).1
      have e1 : ((g + 1 : Nat) : Int) = (g : Int) + 1 := by omega
      rw [hw]
      refine ⟨⟨by omega, by omega⟩, ⟨by omega, by omega⟩, fun _ => by omega, fun _ => ⟨by omega, by omega, ⟨by omega, by omega⟩, ⟨by omega, by omega⟩, fun q => ?_, fun q => ?_⟩⟩
      · have hll := len_ord E p g
        have eo : ord E p (g + 1) = ins (fun e => ahd E g e) (ord E p g) g := by rw [ord, if_pos q]
        rw [hlen]
        generalize hl : ord E p g = l at hlen har eo hll
        have hmem : ∀ x ∈ l, 0 ≤ x ∧ x < (g : Int) ∧ E.2.2 x = p := fun x hx => by
          rw [← hl] at hx
          exact mem_ord.mp hx
        have inner : ∀ (i : Nat) (J2 : zJ), i ≤ l.length → FrE J J2 → MR s J2 E → J2 142 0 50 = l.length → (∀ (j : Nat) (v : Int), j < i → l[j]? = some v → J2 555 0 (j : Int) = v) → (∀ (j : Nat) (v : Int), i ≤ j → l[j]? = some v → J2 555 0 ((j : Int) + 1) = v) → (l.drop i).all (fun e => ahd E g e) = true → zGo L xs (D + 1) 224 33 [some (zr 142), some (zi p), some (zi (g : Int)), some (zi (i : Int))] [] J2 K Q := by
          intro i
          induction i with
          | zero =>
            intro J2 _ hF2 hR2 hl2 g1 g2 g3
            refine z224_33 hL ⟨⟨by omega, by omega⟩, fun _ => ⟨by omega, by omega, ?_⟩, fun q => by omega⟩
            rw [hl2, ← e1]
            have hcut : cut (fun e => ahd E g e) l = 0 := cut_at (Nat.zero_le _) g3 (Or.inl rfl)
            refine ih _ (by omega) (g + 1) _ rfl (by omega) (fe_50 (fe_up hF2 (Or.inr rfl) _ _ _) _) (mr_eq hR2 (by simp only [zup_at, Nat.reduceEqDiff, Int.reduceEq, eq_self, true_and, and_true, false_and, and_false, if_true, if_false]) (by rw [zup_ne _ _ _ _ (by decide), zup_ne _ _ _ _ (by decide)]) (by rw [zup_ne _ _ _ _ (by decide), zup_ne _ _ _ _ (by decide)]) (by rw [zup_ne _ _ _ _ (by decide), zup_ne _ _ _ _ (by decide)]) (by rw [zup_ne _ _ _ _ (by decide), zup_ne _ _ _ _ (by decide)])) ?_ ?_
            · rw [zup_eq, eo, len_ins]
              omega
            · intro j v hv
              rw [eo, ins_get, hcut, if_neg (by omega)] at hv
              rw [zup_ne _ _ _ _ (by decide), zup_at]
              by_cases e : j = 0
              · rw [if_pos e] at hv
                rw [if_pos ⟨rfl, rfl, by omega⟩]
                exact Option.some.inj hv
              · rw [if_neg e] at hv
                rw [if_neg (by rintro ⟨-, -, q⟩; omega)]
                have := g2 (j - 1) v (by omega) hv
                have e3 : ((j - 1 : Nat) : Int) + 1 = j := by omega
                rw [e3] at this
                exact this
          | succ i ihi =>
            intro J2 hi hF2 hR2 hl2 g1 g2 g3
            have hli : i < l.length := by omega
            have hx := hmem _ (List.getElem_mem hli)
            have ea : J2 555 0 (i : Int) = l[i] := g1 i _ (by omega) (List.getElem?_eq_getElem hli)
            have e3 : ((i + 1 : Nat) : Int) - 1 = i := by omega
            have e4 : ((i + 1 : Nat) : Int) + (-1) = i := by omega
            refine z224_33 hL ⟨⟨by omega, by omega⟩, fun q => by omega, fun _ => ⟨by omega, by omega, ?_⟩⟩
            rw [e3, e4, ea]
            have hE7 := hE
            refine c241 hL (ml_fm hM (fe_fm hF2)) h (by omega) hE hT hR2 (by omega) hc (by omega) hx.1 (by omega) (by omega) (zaI_of ⟨zin_zb _, fun z => ⟨by omega, by omega, ?_⟩, fun z => ⟨by omega, by omega, by omega, by omega, ?_⟩⟩)
            · rw [hl2, ← e1]
              have hcut : cut (fun e => ahd E g e) l = i + 1 := cut_at hi g3 (Or.inr ⟨l[i], List.getElem?_eq_getElem hli, zb_0.mp z⟩)
              refine ih _ (by omega) (g + 1) _ rfl (by omega) (fe_50 (fe_up hF2 (Or.inr rfl) _ _ _) _) (mr_eq hR2 (by simp only [zup_at, Nat.reduceEqDiff, Int.reduceEq, eq_self, true_and, and_true, false_and, and_false, if_true, if_false]) (by rw [zup_ne _ _ _ _ (by decide), zup_ne _ _ _ _ (by decide)]) (by rw [zup_ne _ _ _ _ (by decide), zup_ne _ _ _ _ (by decide)]) (by rw [zup_ne _ _ _ _ (by decide), zup_ne _ _ _ _ (by decide)]) (by rw [zup_ne _ _ _ _ (by decide), zup_ne _ _ _ _ (by decide)])) ?_ ?_
              · rw [zup_eq, eo, len_ins]
                omega
              · intro j v hv
                rw [eo, ins_get, hcut] at hv
                rw [zup_ne _ _ _ _ (by decide), zup_at]
                by_cases e5 : j < i + 1
                · rw [if_pos e5] at hv
                  rw [if_neg (by rintro ⟨-, -, q⟩; omega)]
                  exact g1 j v e5 hv
                · rw [if_neg e5] at hv
                  by_cases e6 : j = i + 1
                  · rw [if_pos e6] at hv
                    rw [if_pos ⟨rfl, rfl, by omega⟩]
                    exact Option.some.inj hv
                  · rw [if_neg e6] at hv
                    rw [if_neg (by rintro ⟨-, -, q⟩; omega)]
                    have := g2 (j - 1) v (by omega) hv
                    have e7 : ((j - 1 : Nat) : Int) + 1 = j := by omega
                    rw [e7] at this
                    exact this
            · refine ihi _ (by omega) (fe_up hF2 (Or.inr rfl) _ _ _) (mr_eq hR2 (by simp only [zup_at, Nat.reduceEqDiff, Int.reduceEq, eq_self, true_and, and_true, false_and, and_false, if_true, if_false]) (by rw [zup_ne _ _ _ _ (by decide)]) (by rw [zup_ne _ _ _ _ (by decide)]) (by rw [zup_ne _ _ _ _ (by decide)]) (by rw [zup_ne _ _ _ _ (by decide)])) (by rw [zup_ne _ _ _ _ (by decide)]; exact hl2) (fun j v hj hv => ?_) (fun j v hj hv => ?_) ?_
              · rw [zup_at, if_neg (by rintro ⟨-, -, q⟩; omega)]
                exact g1 j v (by omega) hv
              · rw [zup_at]
                by_cases e5 : j = i
                · subst e5
                  rw [if_pos ⟨rfl, rfl, by omega⟩, ea]
                  rw [List.getElem?_eq_getElem hli] at hv
                  exact Option.some.inj hv
                · rw [if_neg (by rintro ⟨-, -, q⟩; omega)]
                  exact g2 j v (by omega) hv
              · rw [List.drop_eq_getElem_cons hli, List.all_cons, zb_1.mp z]
                exact g3
        refine inner l.length J1 (Nat.le_refl _) hF hR1 hlen (fun j v _ hv => har j v hv) (fun j v hj hv => ?_) ?_
        · have := (List.getElem?_eq_some_iff.mp hv).1
          omega
        · rw [List.drop_length]
          rfl
      · have eo : ord E p (g + 1) = ord E p g := by rw [ord, if_neg q]
        rw [← e1]
        exact ih _ (by omega) (g + 1) J1 rfl (by omega) hF hR1 (by rw [eo]; exact hlen) (by rw [eo]; exact har)
    · have e : g = (s 18 0 6).toNat := by omega
      subst e
      exact ⟨⟨by omega, by omega⟩, ⟨by omega, by omega⟩, fun _ => hQ J1 hF hR1 hlen har, fun _ => by omega⟩
  refine z224 hL (key _ 0 _ rfl (by omega) (fe_50 (fe_rfl J) 0) (mr_eq hR (by simp only [zup_at, Nat.reduceEqDiff, Int.reduceEq, eq_self, true_and, and_true, false_and, and_false, if_true, if_false]) (zup_ne _ _ _ _ (by decide)) (zup_ne _ _ _ _ (by decide)) (zup_ne _ _ _ _ (by decide)) (zup_ne _ _ _ _ (by decide))) ?_ (fun j v hv => by cases hv))
  rw [zup_eq]
  rfl
/-- a row's end in the model -/
theorem mr_leave {s J : zJ} {E : Ev} (h : MR s J E) {g t u : Int} (h2 : 0 ≤ E.2.2 g) : MR s (zup (zup J 551 0 g t) 552 0 g u) (E.1, eup E.2.1 g t, eup E.2.2 g u) := by
  refine ⟨by simp only [zup_at, Nat.reduceEqDiff, Int.reduceEq, eq_self, true_and, and_true, false_and, and_false, if_true, if_false]; exact h.1, fun x x0 x1 => ?_⟩
  have hx := h.2 x x0 x1
  by_cases e : x = g
  · subst e
    simp only
    rw [eup_eq, eup_eq]
    refine ⟨zup_eq _ _ _ _ _, fun _ => ⟨by simp only [zup_at, Nat.reduceEqDiff, Int.reduceEq, eq_self, true_and, and_true, false_and, and_false, if_true, if_false], ?_⟩, by simp only [zup_at, Nat.reduceEqDiff, Int.reduceEq, eq_self, true_and, and_true, false_and, and_false, if_true, if_false]; exact hx.2.2⟩
    have hr := (hx.2.1 h2).2
    unfold Ro at hr ⊢
    rw [zup_ne _ _ _ _ (by decide), zup_ne _ _ _ _ (by decide), zup_ne _ _ _ _ (by decide), zup_ne _ _ _ _ (by decide)]
    exact hr
  · simp only
    rw [eup_ne _ _ e, eup_ne _ _ e]
    refine ⟨by rw [zup_nk _ _ e, zup_ne _ _ _ _ (by decide)]; exact hx.1, fun q => ?_, by simp only [zup_at, Nat.reduceEqDiff, Int.reduceEq, eq_self, true_and, and_true, false_and, and_false, if_true, if_false]; exact hx.2.2⟩
    have hr := hx.2.1 q
    unfold Ro at hr ⊢
    rw [zup_ne _ _ _ _ (by decide), zup_nk _ _ e, zup_ne _ _ _ _ (by decide), zup_ne _ _ _ _ (by decide), zup_ne _ _ _ _ (by decide), zup_ne _ _ _ _ (by decide)]
    exact hr
theorem c230 {L : Nat} {xs : Nat → Int32} (hL : L ≤ 3072) {D : Nat} {J : zJ} {K : zK} {Q : zR → Nat → zJ → zK → Prop} {s : zJ} (hM : ML s J) (h : LW s) {E : Ev} {p T : Int} {w : Int → Int} (hD : 6 ≤ D) (hE : EO s E p T) (hT : T ≤ 20000) (hT0 : 0 ≤ T) (hp : 1 ≤ p) (hp2 : p < s 18 0 0) (hR : MR s J E) (hw : J 237 0 p = w p ∧ 0 ≤ w p ∧ w p ≤ 60) (hs : J 236 0 p = zb (bt (s 40 0 10) p)) (hQ : ∀ J', FrE J J' → MR s J' (evs s w p E) → Q (.inl none) 0 J' K) : zCall L xs D 230 [zr 142, zi p] J K Q := by
  obtain ⟨D, rfl⟩ : ∃ d, D = d + 1 := ⟨D - 1, by omega⟩
  have hn := lw_n h
  have hq := lw_p h (p := p) (by omega) hp2
  refine z230 hL ?_
  refine c224 hL hM h (by omega) hE hT (by omega) hp2 hR fun J1 hF1 hR1 hlen1 har1 => zaV_of ?_
  have hll := len_ord E p (s 18 0 6).toNat
  have hmem : ∀ x ∈ ord E p (s 18 0 6).toNat, 0 ≤ x ∧ x < s 18 0 6 := fun x hx => by
    have := mem_ord.mp hx
    omega
  have hnd := nodup_ord E p (s 18 0 6).toNat
  have hFin : ∀ J', FrE J J' → MR s J' (goP s (opn s p) (w p) p (ord E p (s 18 0 6).toNat) E) → Q (.inl none) 0 J' K := hQ
  generalize ord E p (s 18 0 6).toNat = l at hll hmem hnd hlen1 har1 hFin
  generalize hF : goP s (opn s p) (w p) p l E = F at hFin
  have outer : ∀ (n i : Nat) (J2 : zJ) (E2 : Ev), n = l.length - i → i ≤ l.length → FrE J J2 → EO s E2 p T → MR s J2 E2 → J2 142 0 50 = l.length → Ar (J2 555 0) l → goP s (opn s p) (w p) p (l.drop i) E2 = F → zGo L xs (D + 1) 230 30 [some (zr 142), some (zi p), some (zi (zb (opn s p))), some (zi (i : Int)), none, none, none, none, none, none] [] J2 K Q := by
    intro n; induction n using Nat.strongRecOn with
    | _ n ih =>
    intro i J2 E2 hm hi hF2 hE2 hR2 hlen har hgo
    have hM2 := ml_fm hM (fe_fm hF2)
    refine z230_30 hL ?_
    rw [hlen]
    by_cases hc : i < l.length
    · have ei : ((i + 1 : Nat) : Int) = (i : Int) + 1 := by omega
      have hg := hmem _ (List.getElem_mem hc)
      have hdrop := List.drop_eq_getElem_cons hc
      rw [ar_at har hc]
      generalize hge : l[i] = g at hg hdrop
      have hgr : ∀ o ∈ l.drop (i + 1), 0 ≤ o ∧ o < s 18 0 6 ∧ o ≠ g := by
        intro o ho
        have h1 := hmem o (List.mem_of_mem_drop ho)
        refine ⟨h1.1, h1.2, fun e => ?_⟩
        have h2 : (l.drop i).Nodup := List.Sublist.nodup (List.drop_sublist i l) hnd
        rw [hdrop, List.nodup_cons] at h2
        exact h2.1 (by rw [← e]; exact ho)
      have hwg := (hR2.2 g hg.1 hg.2).1
      have hlo := hE2.1 g hg.1 hg.2
      have hup : E2.2.2 g ≤ p ∨ E2.2.2 g < 0 := by
        rcases Int.lt_or_le (E2.2.2 g) 0 with q | q
        · exact Or.inr q
        · exact Or.inl (hE2.2.1 g hg.1 hg.2 q).1
      rw [hwg]
      refine ⟨⟨by omega, by omega⟩, ⟨by omega, by omega⟩, fun _ => by omega, fun _ => ⟨by omega, by omega, by omega, by omega, by omega, by omega, ⟨by omega, by omega⟩, ⟨by omega, by omega⟩, fun q => ?_, fun q => ?_⟩⟩
      · rw [hdrop, goP, if_pos q] at hgo
        have bg := hE2.2.1 g hg.1 hg.2 (by omega)
        have rg := (hR2.2 g hg.1 hg.2).2.1 (by omega)
        obtain ⟨a1, a2, a3, a4, a5, a6, a7, a8⟩ := joinB_ok (b := opn s p) (w := w p) (L := s 21 0 p) (T := T) (by omega) hg.1 hg.2 hE2 q hgr
        rw [List.length_drop] at a8
        -- the row leaves
        have leave : ∀ J3, FrE J J3 → MR s J3 (joinB s (opn s p) (w p) (s 21 0 p) p g (l.drop (i + 1)) E2).1 → J3 142 0 50 = l.length → Ar (J3 555 0) l → zGo L xs (D + 1) 230 30 [some (zr 142), some (zi p), some (zi (zb (opn s p))), some (zi ((i : Int) + 1)), none, none, none, none, none, none] [] (zup (zup J3 551 0 g (((joinB s (opn s p) (w p) (s 21 0 p) p g (l.drop (i + 1)) E2).2.1 + ((J3 145 p 4) * (joinB s (opn s p) (w p) (s 21 0 p) p g (l.drop (i + 1)) E2).2.2)) + (J3 145 p 1))) 552 0 g (J3 145 p 0)) K Q := by
          intro J3 hF3 hR3 hlen3 har3
          have hM3 := ml_p (ml_fm hM (fe_fm hF3)) (p := p) (by omega) hp2
          rw [ml_u (ml_fm hM (fe_fm hF3)) hp hp2, hM3.2.1, hM3.2.2.2.2]
          generalize joinB s (opn s p) (w p) (s 21 0 p) p g (l.drop (i + 1)) E2 = R at a1 a2 a3 a4 a5 a6 a7 a8 hR3 hgo
          have hm1 : 0 ≤ s 23 0 p * R.2.2 := Int.mul_nonneg (by omega) a7
          have hm2 : s 23 0 p * R.2.2 ≤ 60 * 6 := Int.mul_le_mul (by omega) (by omega) a7 (by omega)
          rw [← ei]
          refine ih _ (by omega) (i + 1) _ _ rfl (by omega) (fe_up (fe_up hF3 (Or.inl (by decide)) _ _ _) (Or.inl (by decide)) _ _ _) (eo_leave h a2 hg.1 hg.2 a3 hp hp2 (by omega) (by omega)) (mr_leave hR3 (by omega)) ?_ ?_ hgo
          · simp only [zup_at, Nat.reduceEqDiff, Int.reduceEq, eq_self, true_and, and_true, false_and, and_false, if_true, if_false]
            exact hlen3
          · refine ar_cong har3 fun j _ => ?_
            simp only [zup_at, Nat.reduceEqDiff, Int.reduceEq, eq_self, true_and, and_true, false_and, and_false, if_true, if_false]
        -- others join
        have inner : ∀ (m j : Nat) (J3 : zJ) (E3 : Ev) (la n3 : Int), m = l.length - j → i + 1 ≤ j → j ≤ l.length → FrE J J3 → EO s E3 p T → MR s J3 E3 → E3.2.2 g = p → J3 142 0 50 = l.length → Ar (J3 555 0) l → 0 ≤ la → la ≤ T → 0 ≤ n3 → n3 ≤ j → (opn s p = true → joinP s (w p) (s 21 0 p) p g (l.drop j) E3 la n3 = joinB s (opn s p) (w p) (s 21 0 p) p g (l.drop (i + 1)) E2) → (opn s p = false → (E3, la, n3) = joinB s (opn s p) (w p) (s 21 0 p) p g (l.drop (i + 1)) E2) → zGo L xs (D + 1) 230 77 [some (zr 142), some (zi p), some (zi (zb (opn s p))), some (zi (i : Int)), some (zi g), some (zi la), some (zi n3), some (zi (j : Int)), none, none] [] J3 K Q := by
          intro m; induction m using Nat.strongRecOn with
          | _ m ihm =>
          intro j J3 E3 la n3 hmj hij hj hF3 hE3 hR3 hg3 hlen3 har3 la0 la1 n0 n1 hb1 hb2
          have hM3 := ml_fm hM (fe_fm hF3)
          have e237 : J3 237 = J 237 := hF3.1 237 (by decide) (by decide)
          refine z230_77 hL ?_
          rw [hlen3]
          by_cases hcj : j < l.length
          · refine ⟨⟨by omega, by omega⟩, ⟨by omega, by omega⟩, fun _ => by omega, fun _ => ⟨zin_zb _, fun hbz => ?_, fun hbz => ?_⟩⟩
            · have hl := leave J3 hF3 (by rw [← hb2 (zb_0.mp hbz)]; exact hR3) hlen3 har3
              rw [← hb2 (zb_0.mp hbz)] at hl
              exact ⟨by omega, by omega, by omega, by omega, by decide, by decide, by omega, by omega, by omega, by omega, by decide, by decide, by omega, by omega, by omega, by omega, by omega, by omega, by decide, by decide, by omega, by omega, hl⟩
            · have hbt := zb_1.mp hbz
              have hj1 := hb1 hbt
              have hdj := List.drop_eq_getElem_cons hcj
              have ej : ((j + 1 : Nat) : Int) = (j : Int) + 1 := by omega
              have ho := hgr l[j] (by
                rw [List.mem_drop_iff_getElem]
                refine ⟨j - (i + 1), by omega, ?_⟩
                congr 1
                omega)
              rw [ar_at har3 hcj]
              generalize hoe : l[j] = o at ho hdj
              rw [hdj, joinP] at hj1
              have hwo := (hR3.2 o ho.1 ho.2.1).1
              have hlo3 := hE3.1 o ho.1 ho.2.1
              have hup3 : E3.2.2 o ≤ p ∨ E3.2.2 o < 0 := by
                rcases Int.lt_or_le (E3.2.2 o) 0 with q | q
                · exact Or.inr q
                · exact Or.inl (hE3.2.1 o ho.1 ho.2.1 q).1
              rw [hwo, e237, hw.1]
              refine ⟨by omega, by omega, by omega, by omega, ⟨by omega, by omega⟩, ⟨by omega, by omega⟩, fun z => ?_, fun z => ?_⟩
              · rw [if_neg (fun y => z y.1)] at hj1
                rw [← ej]
                exact ihm _ (by omega) (j + 1) J3 E3 la n3 rfl (by omega) (by omega) hF3 hE3 hR3 hg3 hlen3 har3 la0 la1 n0 (by omega) (fun _ => hj1) (fun y => by rw [hbt] at y; cases y)
              · have bg3 := hE3.2.1 g hg.1 hg.2 (by omega)
                have bo3 := hE3.2.1 o ho.1 ho.2.1 (by omega)
                have rg3 := (hR3.2 g hg.1 hg.2).2.1 (by omega)
                have ro3 := (hR3.2 o ho.1 ho.2.1).2.1 (by omega)
                have lg3 := eo_len h hE3 hg.1 hg.2 (by omega)
                have lo3 := eo_len h hE3 ho.1 ho.2.1 (by omega)
                have two := eo_two h hE3 hg.1 hg.2 (by omega) ho.1 ho.2.1 (by omega) (Ne.symm ho.2.2)
                have tg := bg3.2.2.2.2.2.2 hg3
                have to := bo3.2.2.2.2.2.2 z
                rw [rg3.1, ro3.1]
                refine ⟨by omega, by omega, by omega, by omega, by omega, by omega, ⟨by omega, by omega⟩, ⟨by omega, by omega⟩, fun y => ?_, fun y => ?_⟩
                · rw [if_neg (fun q => by omega)] at hj1
                  rw [← ej]
                  exact ihm _ (by omega) (j + 1) J3 E3 la n3 rfl (by omega) (by omega) hF3 hE3 hR3 hg3 hlen3 har3 la0 la1 n0 (by omega) (fun _ => hj1) (fun y => by rw [hbt] at y; cases y)
                · have sg := lln_rng h (l := E3.1 g) fun k hk => ⟨(bg3.2.2.2.1 k hk).1, (bg3.2.2.2.1 k hk).2.1⟩
                  have so := lln_rng h (l := E3.1 o) fun k hk => ⟨(bo3.2.2.2.1 k hk).1, (bo3.2.2.2.1 k hk).2.1⟩
                  refine c233 hL hM3 h (by omega) hg.1 (by omega) rg3.2 (by omega) (fun k hk => ⟨(bg3.2.2.2.1 k hk).1, (bg3.2.2.2.1 k hk).2.1⟩) (zaI_of ?_)
                  refine c233 hL hM3 h (by omega) ho.1 (by omega) ro3.2 (by omega) (fun k hk => ⟨(bo3.2.2.2.1 k hk).1, (bo3.2.2.2.1 k hk).2.1⟩) (zaI_of ?_)
                  rw [(ml_p hM3 (p := p) (by omega) hp2).2.2.1]
                  refine ⟨by omega, by omega, by omega, by omega, by decide, by decide, ⟨by omega, by omega⟩, ⟨by omega, by omega⟩, fun v => ?_, fun v => ?_⟩
                  · rw [if_pos ⟨z, y, v⟩] at hj1
                    -- its portions are copied
                    have cp : ∀ (u c : Nat) (J4 : zJ), u = (E3.1 o).length - c → c ≤ (E3.1 o).length → (∀ b, b ≠ 541 → b ≠ 550 → J4 b = J3 b) → (∀ x, x ≠ g → J4 541 x = J3 541 x ∧ J4 550 0 x = J3 550 0 x) → J4 550 0 g = (E3.1 g).length + c → Ar (J4 541 g) (E3.1 g ++ (E3.1 o).take c) → zGo L xs (D + 1) 230 164 [some (zr 142), some (zi p), some (zi (zb (opn s p))), some (zi (i : Int)), some (zi g), none, some (zi n3), some (zi (j : Int)), some (zi o), some (zi (c : Int))] [] J4 K Q := by
                      intro u; induction u using Nat.strongRecOn with
                      | _ u ihu =>
                      intro c J4 hu hcl e4 e5 e6 e7
                      have ec : ((c + 1 : Nat) : Int) = (c : Int) + 1 := by omega
                      have eo4 := e5 o ho.2.2
                      refine z230_164 hL ?_
                      rw [eo4.2, ro3.2.1]
                      by_cases hcc : c < (E3.1 o).length
                      · refine ⟨by omega, by omega, ⟨by omega, by omega⟩, ⟨by omega, by omega⟩, fun _ => by omega, fun _ => ⟨by omega, by omega, by omega, by omega, by omega, by omega, by omega, by omega, by omega, by omega, by omega, by omega, by omega, by omega, by omega, by omega, by omega, by omega, ?_⟩⟩
                        rw [e6, eo4.1, ar_at ro3.2.2 hcc, ← ec]
                        refine ihu _ (by omega) (c + 1) _ rfl (by omega) (fun b q1 q2 => by rw [zup_ne _ _ _ _ q2, zup_ne _ _ _ _ q1]; exact e4 b q1 q2) (fun x hx => ⟨?_, ?_⟩) ?_ ?_
                        · rw [zup_ne _ _ _ _ (by decide)]
                          funext k
                          rw [zup_nj _ _ hx, (e5 x hx).1]
                        · rw [zup_nk _ _ hx, zup_ne _ _ _ _ (by decide)]
                          exact (e5 x hx).2
                        · rw [zup_eq]
                          omega
                        · rw [take_snoc hcc, ← List.append_assoc]
                          intro k v hv
                          rw [zup_ne _ _ _ _ (by decide), zup_at]
                          rw [List.getElem?_append] at hv
                          split at hv
                          · next hk =>
                            rw [List.length_append, List.length_take] at hk
                            rw [if_neg (by rintro ⟨-, -, q⟩; omega)]
                            exact e7 k v hv
                          · next hk =>
                            have hk2 : k - (E3.1 g ++ (E3.1 o).take c).length = 0 := by
                              have := (List.getElem?_eq_some_iff.mp hv).1
                              simp only [List.length_cons, List.length_nil] at this
                              omega
                            rw [hk2] at hv
                            rw [List.length_append, List.length_take] at hk hk2
                            rw [if_pos ⟨rfl, rfl, by omega⟩]
                            exact Option.some.inj hv
                      · have ecl : c = (E3.1 o).length := by omega
                        subst ecl
                        rw [List.take_length] at e7
                        have e551 := e4 551 (by decide) (by decide)
                        have e552 := e4 552 (by decide) (by decide)
                        rw [e551, ro3.1, ← ej]
                        have hF4 : FrE J (zup J4 552 0 o (-1)) := fe_up ⟨fun b q1 q2 => by rw [e4 b (by omega) (by omega)]; exact hF3.1 b q1 q2, fun k hk => by rw [e4 142 (by decide) (by decide)]; exact hF3.2 k hk⟩ (Or.inl (by decide)) _ _ _
                        have hR4 : MR s (zup J4 552 0 o (-1)) (eup E3.1 g (E3.1 g ++ E3.1 o), E3.2.1, eup E3.2.2 o (-1)) := by
                          refine ⟨by rw [zup_ne _ _ _ _ (by decide), e4 142 (by decide) (by decide)]; exact hR3.1, fun x x0 x1 => ?_⟩
                          have hx := hR3.2 x x0 x1
                          simp only
                          by_cases f : x = o
                          · rw [f, eup_eq]
                            refine ⟨zup_eq _ _ _ _ _, fun q => absurd q (by decide), ?_⟩
                            rw [zup_ne _ _ _ _ (by decide), (e5 o ho.2.2).2]
                            rw [f] at hx
                            exact hx.2.2
                          · rw [eup_ne _ _ f]
                            refine ⟨by rw [zup_nk _ _ f, e552]; exact hx.1, fun q => ⟨by rw [zup_ne _ _ _ _ (by decide), e551]; exact (hx.2.1 q).1, ?_⟩, ?_⟩
                            rotate_left
                            · rw [zup_ne _ _ _ _ (by decide)]
                              by_cases f2 : x = g
                              · rw [f2, e6]
                                omega
                              · rw [(e5 x f2).2]
                                exact hx.2.2
                            have hr := (hx.2.1 q).2
                            unfold Ro at hr ⊢
                            rw [zup_ne _ _ _ _ (by decide), zup_ne _ _ _ _ (by decide)]
                            by_cases f2 : x = g
                            · subst f2
                              rw [eup_eq, List.length_append]
                              exact ⟨by rw [e6]; omega, e7⟩
                            · rw [eup_ne _ _ f2, (e5 x f2).1, (e5 x f2).2]
                              exact hr
                        refine ⟨by omega, by omega, ⟨by omega, by omega⟩, ⟨by omega, by omega⟩, fun _ => ⟨by omega, by omega, by omega, by omega, ?_⟩, fun _ => by omega⟩
                        refine ihm _ (by omega) (j + 1) _ _ _ (n3 + 1) rfl (by omega) (by omega) hF4 (eo_join hE3 hg.1 hg.2 hg3 (by omega) ho.1 ho.2.1 z (Ne.symm ho.2.2)) hR4 ?_ ?_ ?_ bo3.2.2.2.2.1 to (by omega) (by omega) (fun _ => hj1) (fun y => by rw [hbt] at y; cases y)
                        · simp only
                          rw [eup_ne _ _ (Ne.symm ho.2.2)]
                          exact hg3
                        · rw [zup_ne _ _ _ _ (by decide), e4 142 (by decide) (by decide)]
                          exact hlen3
                        · rw [zup_ne _ _ _ _ (by decide), e4 555 (by decide) (by decide)]
                          exact har3
                    refine cp _ 0 J3 rfl (by omega) (fun _ _ _ => rfl) (fun _ _ => ⟨rfl, rfl⟩) (by rw [rg3.2.1]; simp) ?_
                    rw [List.take_zero, List.append_nil]
                    exact rg3.2.2
                  · rw [if_neg (fun q => by omega)] at hj1
                    rw [← ej]
                    exact ihm _ (by omega) (j + 1) J3 E3 la n3 rfl (by omega) (by omega) hF3 hE3 hR3 hg3 hlen3 har3 la0 la1 n0 (by omega) (fun _ => hj1) (fun y => by rw [hbt] at y; cases y)
          · have ej : j = l.length := by omega
            have hbb : (E3, la, n3) = joinB s (opn s p) (w p) (s 21 0 p) p g (l.drop (i + 1)) E2 := by
              cases hob : opn s p with
              | true =>
                have := hb1 hob
                rw [ej, List.drop_length, joinP] at this
                rw [hob] at this
                exact this
              | false =>
                have := hb2 hob
                rw [hob] at this
                exact this
            have hl := leave J3 hF3 (by rw [← hbb]; exact hR3) hlen3 har3
            rw [← hbb] at hl
            exact ⟨⟨by omega, by omega⟩, ⟨by omega, by omega⟩, fun _ => ⟨by omega, by omega, by omega, by omega, by decide, by decide, by omega, by omega, by omega, by omega, by decide, by decide, by omega, by omega, by omega, by omega, by omega, by omega, by decide, by decide, by omega, by omega, hl⟩, fun _ => by omega⟩
        rw [rg.1, ← ei]
        refine inner _ (i + 1) J2 E2 (E2.2.1 g) 0 rfl (by omega) (by omega) hF2 hE2 hR2 q hlen har bg.2.2.2.2.1 (bg.2.2.2.2.2.2 q) (by omega) (by omega) (fun hb => ?_) (fun hb => ?_)
        · unfold joinB
          rw [hb, if_pos rfl]
        · unfold joinB
          rw [hb, if_neg (by decide)]
      · rw [hdrop, goP, if_neg q] at hgo
        rw [← ei]
        exact ih _ (by omega) (i + 1) J2 E2 rfl (by omega) hF2 hE2 hR2 hlen har hgo
    · have e : i = l.length := by omega
      rw [e, List.drop_length, goP] at hgo
      rw [hgo] at hR2
      exact ⟨⟨by omega, by omega⟩, ⟨by omega, by omega⟩, fun _ => hFin J2 hF2 hR2, fun _ => by omega⟩
  have start := outer _ 0 J1 E rfl (by omega) hF1 hE hR1 hlen1 har1 hF
  refine c245 hL (ml_fm hM (fe_fm hF1)) h (by omega) (by omega) hp2 (zaI_of ⟨zin_zb _, fun z => ?_, fun z => ⟨by omega, by omega, ?_⟩⟩)
  · have hb : opn s p = false := by
      unfold opn
      rw [zb_0.mp z]
      rfl
    rw [hb] at start
    exact start
  · rw [hF1.1 236 (by decide) (by decide), hs]
    refine ⟨zin_zb _, fun y => ?_, fun y => ?_⟩
    · have hb : opn s p = false := by
        unfold opn
        rw [zb_1.mp z, zb_1.mp y]
        rfl
      rw [hb] at start
      exact start
    · have hb : opn s p = true := by
        unfold opn
        rw [zb_1.mp z, zb_0.mp y]
        rfl
      rw [hb] at start
      exact start
