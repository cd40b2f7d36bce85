/-! BEST WAITS in the class -/
theorem c26 {L : Nat} {xs : Nat → Int32} (hL : L ≤ 3072) {D : Nat} {J : zJ} {K : zK} {Q : zR → Nat → zJ → zK → Prop} {s : zJ} (hE : EqS s J) (h : LW s) {E : Ev} {p T : Int} (hD : 3 ≤ D) (hO : EO s E p T) (hT : T ≤ 20000) (hp : p < s 18 0 0) (hh : hlt s p = true) (hC : CR s J E p []) (hQ : ∀ (J' : zJ) (y : Int), (∀ b : Nat, b ≠ 117 → b ≠ 133 → J' b = J b) → (∀ k : Int, k ≠ 10 → J' 117 0 k = J 117 0 k) → 0 ≤ y → y < 8192 → bt y 0 = true → (∀ i : Int, 1 ≤ i → i ≤ 12 → bt y i = false → prq E.2.1 (5 * i) (5 * (i - 1)) (ord E p (s 18 0 6).toNat)) → Q (.inl (some (zi (y)))) 0 J' K) : zCall L xs D 26 [zr 117, zi p] J K Q := by
  obtain ⟨D, rfl⟩ : ∃ d, D = d + 1 := ⟨D - 1, by omega⟩
  have hn := lw_n h
  obtain ⟨hp1, hop⟩ := hlt_1 hh
  refine z26 hL ?_
  refine c11 hL hE h (by omega) hO hT hp hh hC fun J1 f1 f2 hlen har => zaV_of ?_
  have hll := len_ord E p (s 18 0 6).toNat
  have hmem : ∀ x ∈ ord E p (s 18 0 6).toNat, 0 ≤ x ∧ x < s 18 0 6 ∧ J1 123 0 x = E.2.1 x ∧ 0 ≤ E.2.1 x ∧ E.2.1 x ≤ T := fun x hx => by
    have hm := mem_ord.mp hx
    have hb := hO.2.1 x hm.1 (by omega) (by omega)
    have hr := (hC x hm.1 (by omega)).2 (by omega)
    refine ⟨hm.1, by omega, ?_, hb.2.2.2.2.1, hb.2.2.2.2.2.2 hm.2.2⟩
    rw [f1 123 (by decide) (by decide), (hr.1.2 (by simp)).2, hm.2.2, mnt_h hh]
  have hris := ris_ord E p (s 18 0 6).toNat
  generalize ord E p (s 18 0 6).toNat = l at hlen har hll hmem hris hQ
  have hpair : ∀ (y : Int), (∀ (a b : Nat) (hab : a < b) (hb : b < l.length), E.2.1 l[b] - E.2.1 (l[a]'(by omega)) ≤ 60 → bt y ((E.2.1 l[b] - E.2.1 (l[a]'(by omega)) + 5 - 1) / 5) = true) → ∀ i : Int, 1 ≤ i → i ≤ 12 → bt y i = false → prq E.2.1 (5 * i) (5 * (i - 1)) l := by
    intro y hy i i0 i1 hbi
    have gen : ∀ (n a : Nat), n = l.length - a → prq E.2.1 (5 * i) (5 * (i - 1)) (l.drop a) := by
      intro n
      induction n with
      | zero =>
        intro a ha
        have : l.drop a = [] := by
          rw [List.drop_eq_nil_iff]
          omega
        rw [this]
        trivial
      | succ n ih =>
        intro a ha
        have hal : a < l.length := by omega
        rw [List.drop_eq_getElem_cons hal]
        refine ⟨fun o ho => ?_, ih (a + 1) (by omega)⟩
        rw [List.mem_drop_iff_getElem] at ho
        obtain ⟨c, hc, rfl⟩ := ho
        have hb2 : a + 1 + c < l.length := by omega
        have h3 := hy a (a + 1 + c) (by omega) hb2
        constructor
        · intro z
          rcases Int.lt_or_le (E.2.1 l[a] + 5 * (i - 1)) (E.2.1 l[a + 1 + c]) with v | v
          · have h4 := h3 (by omega)
            have e5 : (E.2.1 l[a + 1 + c] - E.2.1 l[a] + 5 - 1) / 5 = i := by omega
            rw [e5, hbi] at h4
            cases h4
          · exact v
        · intro z
          omega
    have := gen _ 0 rfl
    rw [List.drop_zero] at this
    exact this
  have outer : ∀ (n a : Nat) (y : Int), n = l.length - a → a ≤ l.length → 0 ≤ y → y < 8192 → bt y 0 = true → (∀ (c d : Nat) (hcd : c < d) (hd : d < l.length), c < a → E.2.1 l[d] - E.2.1 (l[c]'(by omega)) ≤ 60 → bt y ((E.2.1 l[d] - E.2.1 (l[c]'(by omega)) + 5 - 1) / 5) = true) → zGo L xs (D + 1) 26 9 [some (zr 117), none, some (zi y), some (zi (a : Int)), none, none] [] J1 K Q := by
    intro n; induction n using Nat.strongRecOn with
    | _ n ih =>
    intro a y hm ha y0 y1 yb hy
    refine z26_9 hL ?_
    rw [hlen]
    by_cases hc : a < l.length
    · have inner : ∀ (m b : Nat) (y : Int), m = l.length - b → a + 1 ≤ b → b ≤ l.length → 0 ≤ y → y < 8192 → bt y 0 = true → (∀ (c d : Nat) (hcd : c < d) (hd : d < l.length), c < a ∨ (c = a ∧ d < b) → E.2.1 l[d] - E.2.1 (l[c]'(by omega)) ≤ 60 → bt y ((E.2.1 l[d] - E.2.1 (l[c]'(by omega)) + 5 - 1) / 5) = true) → zGo L xs (D + 1) 26 22 [some (zr 117), none, some (zi y), some (zi (a : Int)), some (zi (b : Int)), none] [] J1 K Q := by
        intro m; induction m using Nat.strongRecOn with
        | _ m ihm =>
        intro b y hmb hab hb y0 y1 yb hy
        refine z26_22 hL ?_
        rw [hlen]
        by_cases hcb : b < l.length
        · have eb : ((b + 1 : Nat) : Int) = (b : Int) + 1 := by omega
          have ga := hmem _ (List.getElem_mem hc)
          have gb := hmem _ (List.getElem_mem hcb)
          rw [ar_at har hc, ar_at har hcb, ga.2.2.1, gb.2.2.1]
          have hle : E.2.1 l[a] ≤ E.2.1 l[b] := by
            have h6 := List.take_append_drop (a + 1) l
            have h7 := hris
            rw [← h6, ris_app] at h7
            refine h7.2.2 _ ?_ _ ?_
            · rw [List.mem_take_iff_getElem]
              exact ⟨a, by omega, rfl⟩
            · rw [List.mem_drop_iff_getElem]
              refine ⟨b - (a + 1), by omega, ?_⟩
              congr 1
              omega
          refine ⟨⟨by omega, by omega⟩, ⟨by omega, by omega⟩, fun _ => by omega, fun _ => ⟨by omega, by omega, by omega, by omega, by omega, by omega, by omega, by omega, ⟨by omega, by omega⟩, ⟨by omega, by omega⟩, fun q => ?_, fun q => ⟨by omega, by omega, by decide, by decide, by omega, by omega, ?_⟩⟩⟩
          · rw [← eb]
            refine ihm _ (by omega) (b + 1) y rfl (by omega) (by omega) y0 y1 yb fun c d hcd hd hx hle2 => ?_
            rcases hx with z | ⟨z1, z2⟩
            · exact hy c d hcd hd (Or.inl z) hle2
            · by_cases e : d = b
              · subst e
                subst z1
                omega
              · exact hy c d hcd hd (Or.inr ⟨z1, by omega⟩) hle2
          · generalize hce : (E.2.1 l[b] - E.2.1 l[a] + 5 - 1) / 5 = ce
            have hce2 : 0 ≤ ce ∧ ce ≤ 12 := by omega
            have hpp : (2 : Int) ^ ce.toNat ≤ 2 ^ 12 := pw_le (by omega)
            have hp0 := pw_pos ce.toNat
            rw [Int.one_mul]
            have hz := zor_lt (x := y) (y := 2 ^ ce.toNat) (n := 13) (by decide) y0 (by omega) (by omega) (by omega)
            have hbz : ∀ k : Int, 0 ≤ k → bt (zor y (2 ^ ce.toNat)) k = (bt y k || decide (ce = k)) := fun k k0 => by rw [bt_or y0 (by omega) (by omega) (by omega), bt_pow hce2.1 k0]
            rw [← eb]
            refine ihm _ (by omega) (b + 1) _ rfl (by omega) (by omega) hz.1 (by omega) (by rw [hbz 0 (by decide), yb]; rfl) fun c d hcd hd hx hle2 => ?_
            have hgc := hmem _ (List.getElem_mem (show c < l.length by omega))
            have hgd := hmem _ (List.getElem_mem hd)
            have hlcd : E.2.1 l[c] ≤ E.2.1 l[d] := by
              have h6 := List.take_append_drop (c + 1) l
              have h7 := hris
              rw [← h6, ris_app] at h7
              refine h7.2.2 _ ?_ _ ?_
              · rw [List.mem_take_iff_getElem]
                exact ⟨c, by omega, rfl⟩
              · rw [List.mem_drop_iff_getElem]
                refine ⟨d - (c + 1), by omega, ?_⟩
                congr 1
                omega
            rw [hbz _ (by omega)]
            by_cases e : c = a ∧ d = b
            · obtain ⟨e1, e2⟩ := e
              subst e1
              subst e2
              rw [hce]
              simp
            · rw [hy c d hcd hd (by omega) hle2]
              rfl
        · have eb : b = l.length := by omega
          have ea : ((a + 1 : Nat) : Int) = (a : Int) + 1 := by omega
          refine ⟨⟨by omega, by omega⟩, ⟨by omega, by omega⟩, fun _ => ?_, fun _ => by omega⟩
          rw [← ea]
          exact ih _ (by omega) (a + 1) y rfl (by omega) y0 y1 yb fun c d hcd hd hx hle2 => hy c d hcd hd (by omega) hle2
      refine ⟨⟨by omega, by omega⟩, ⟨by omega, by omega⟩, fun _ => by omega, fun _ => ?_⟩
      have ea : ((a + 1 : Nat) : Int) = (a : Int) + 1 := by omega
      rw [← ea]
      exact inner _ (a + 1) y rfl (by omega) (by omega) y0 y1 yb fun c d hcd hd hx hle2 => hy c d hcd hd (by omega) hle2
    · have e : a = l.length := by omega
      exact ⟨⟨by omega, by omega⟩, ⟨by omega, by omega⟩, fun _ => hQ J1 y f1 f2 y0 y1 yb (hpair y fun c d hcd hd hle2 => hy c d hcd hd (by omega) hle2), fun _ => by omega⟩
  refine outer _ 0 1 rfl (by omega) (by decide) (by decide) (by decide) fun c d hcd hd hx => by omega
/-- the relation speaks of portions below 7 -/
theorem cr_ext {s J J' : zJ} (h : LW s) {E : Ev} {p q T : Int} (hO : EO s E q T) (hC : CR s J E p []) (e : ∀ k : Int, 0 ≤ k → k < 7 → J' 122 0 k = J 122 0 k ∧ J' 123 0 k = J 123 0 k ∧ J' 124 0 k = J 124 0 k ∧ J' 125 0 k = J 125 0 k ∧ J' 126 0 k = J 126 0 k) : CR s J' E p [] := by
  have hn := lw_n h
  intro g g0 g1
  have hg := hC g g0 g1
  obtain ⟨e1, e2, e3, e4, -⟩ := e g g0 (by omega)
  rw [e1, e2]
  refine ⟨hg.1, fun z => ⟨(hg.2 z).1, ?_⟩⟩
  have hr := (hg.2 z).2
  unfold Rc at hr ⊢
  rw [e3, e4]
  refine ⟨hr.1, hr.2.1, ch_cong hr.2.2 fun k hk => ?_⟩
  have := (hO.2.1 g g0 g1 z).2.2.2.1 k hk
  exact (e k (by omega) (by omega)).2.2.2.2
