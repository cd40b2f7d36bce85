/-! A WALK: the model's -/
def ncu (gs : List Int) (st hi : Int) : Int := gs.length + (if st < hi then 1 else 0) - 1
/-- the next place of a row's portion, in the model -/
theorem ck {L : Nat} {xs : Nat → Int32} (hL : L ≤ 3072) {D : Nat} {J : zJ} {K : zK} {Q : zR → Nat → zJ → zK → Prop} {s : zJ} (hM : ML s J) (h : LW s) {a : Int → Int} {p lo hi i : Int} (hS : Seg s a p lo hi) (hA : ∀ j : Int, lo ≤ j → j < hi → J 533 0 j = a j) (h0 : lo ≤ i) (h1 : i < hi) (hD : 2 ≤ D) (hQ : Q (.inl (some (zi (ky s a p i)))) 0 J K) : zCall L xs D 272 [zr 142, zi (J 533 0 i), zi p] J K Q := by
  have hr := hS.2.2 i h0 h1
  have hk := lw_k h hr.1 hr.2.1
  rw [hA i h0 h1]
  exact c272 hL hM h hD hr.1 hr.2.1 hS.1.1 hS.1.2 hr.2.2 hQ
theorem c216 {L : Nat} {xs : Nat → Int32} (hL : L ≤ 3072) {D : Nat} {J : zJ} {K : zK} {Q : zR → Nat → zJ → zK → Prop} {s : zJ} (hM : ML s J) (h : LW s) {a : Int → Int} {p lo hi b e : Int} (hS : Seg s a p lo hi) (hA : ∀ j : Int, lo ≤ j → j < hi → J 533 0 j = a j) (b0 : lo ≤ b) (b1 : b < e) (b2 : e ≤ hi) (he : ∀ j : Int, b ≤ j → j < e → ky s a p j = ky s a p b) (hn : e < hi → ky s a p e ≠ ky s a p b) (hD : 3 ≤ D) (hQ : Q (.inl (some (zi (e)))) 0 J K) : zCall L xs D 216 [zr 142, zr 533, zi b, zi hi, zi p] J K Q := by
  obtain ⟨D, rfl⟩ : ∃ d, D = d + 1 := ⟨D - 1, by omega⟩
  have hn0 := lw_n h
  obtain ⟨⟨p0, p1⟩, ⟨l0, l1, l2⟩, hrow⟩ := id hS
  refine z216 hL ?_
  have key : ∀ (n : Nat) (i : Int), n = (e - i).toNat → b < i → i ≤ e → zGo L xs (D + 1) 216 5 [some (zr 142), some (zr 533), some (zi b), some (zi hi), some (zi p), some (zi i)] [] J K Q := by
    intro n; induction n using Nat.strongRecOn with
    | _ n ih =>
    intro i hm h0 h1
    refine z216_5 hL ?_
    by_cases hc : i < hi
    · have hki := ky_rng h hS (i := i) (by omega) hc
      have hkb := ky_rng h hS (i := b) (by omega) (by omega)
      refine ⟨⟨by omega, by omega⟩, ⟨by omega, by omega⟩, fun _ => by omega, fun _ => ⟨by omega, by omega, ?_⟩⟩
      refine ck hL hM h hS hA (by omega) hc (by omega) (zaI_of ⟨by omega, by omega, ?_⟩)
      refine ck hL hM h hS hA (by omega) (by omega) (by omega) (zaI_of ⟨⟨by omega, by omega⟩, ⟨by omega, by omega⟩, fun q => ?_, fun q => ?_⟩)
      · have ee : i = e := by
          rcases Int.lt_or_le i e with z | z
          · exact absurd (he i (by omega) z) q
          · omega
        rw [ee]
        exact hQ
      · have hie : i < e := by
          rcases Int.lt_or_le i e with z | z
          · exact z
          · have ee : i = e := by omega
            rw [ee] at q hc
            exact absurd q (hn hc)
        exact ih _ (by omega) (i + 1) rfl (by omega) (by omega)
    · have ee : i = e := by omega
      refine ⟨⟨by omega, by omega⟩, ⟨by omega, by omega⟩, fun _ => ?_, fun q => by omega⟩
      rw [ee]
      exact hQ
  exact key _ (b + 1) rfl (by omega) (by omega)
theorem c251 {L : Nat} {xs : Nat → Int32} (hL : L ≤ 3072) {D : Nat} {J : zJ} {K : zK} {Q : zR → Nat → zJ → zK → Prop} {s : zJ} (hM : ML s J) (h : LW s) {a : Int → Int} {p lo hi : Int} (hS : Seg s a p lo hi) (hA : ∀ j : Int, lo ≤ j → j < hi → J 533 0 j = a j) (hD : 3 ≤ D) (hQ : Q (.inl (some (zi (zb (shi (ky s a p) p lo hi))))) 0 J K) : zCall L xs D 251 [zr 142, zr 533, zi lo, zi hi, zi p] J K Q := by
  obtain ⟨D, rfl⟩ : ∃ d, D = d + 1 := ⟨D - 1, by omega⟩
  have hn0 := lw_n h
  obtain ⟨⟨p0, p1⟩, ⟨l0, l1, l2⟩, hrow⟩ := id hS
  have hsi := shi_iff (f := ky s a p) p0 l1 fun i h0 h1 => (ky_rng h hS h0 h1).1
  have yes : SI (ky s a p) p lo hi → Q (.inl (some (zi (1)))) 0 J K := fun z => by
    rw [hsi.mpr z, zb_t] at hQ
    exact hQ
  have no : ¬ SI (ky s a p) p lo hi → Q (.inl (some (zi (0)))) 0 J K := fun z => by
    have e : shi (ky s a p) p lo hi = false := by
      rw [← Bool.not_eq_true]
      exact fun y => z (hsi.mp y)
    rw [e, zb_f] at hQ
    exact hQ
  refine z251 hL ?_
  -- from the first that stays
  have stay : ∀ (n : Nat) (x5 x7 : Int), n = (hi - x7).toNat → lo ≤ x5 → x5 ≤ x7 → x7 ≤ hi → x5 < hi → ky s a p x5 = p → (∀ j, lo ≤ j → j < x5 → ky s a p j ≠ p) → (∀ j, lo ≤ j → j < x5 → ∀ b, j + 2 ≤ b → b < hi → ¬ (ky s a p b = ky s a p j ∧ ky s a p (b - 1) ≠ ky s a p j)) → (∀ j, x5 ≤ j → j < x7 → ky s a p j = p) → zGo L xs (D + 1) 251 32 [some (zr 142), some (zr 533), none, some (zi hi), some (zi p), none, none, some (zi x7)] [] J K Q := by
    intro n; induction n using Nat.strongRecOn with
    | _ n ih =>
    intro x5 x7 hm h0 h1 h2 h3 h5 hb1 hb2 hb3
    refine z251_32 hL ?_
    by_cases hc : x7 < hi
    · have hkr := ky_rng h hS (i := x7) (by omega) hc
      refine ⟨⟨by omega, by omega⟩, ⟨by omega, by omega⟩, fun _ => by omega, fun _ => ⟨by omega, by omega, ?_⟩⟩
      refine ck hL hM h hS hA (by omega) hc (by omega) (zaI_of ⟨⟨by omega, by omega⟩, ⟨by omega, by omega⟩, fun q => ?_, fun q => ⟨Or.inr rfl, ?_⟩⟩)
      · exact ih _ (by omega) x5 (x7 + 1) rfl h0 (by omega) (by omega) h3 h5 hb1 hb2 fun j a1 a2 => by
          by_cases e : j = x7
          · rw [e, q]
          · exact hb3 j a1 (by omega)
      · refine yes ⟨x5, x7, h0, ?_, hc, Or.inl ⟨h5, q⟩⟩
        rcases Int.lt_or_le x5 x7 with z | z
        · exact z
        · have e : x5 = x7 := by omega
          rw [e] at h5
          exact absurd h5 q
    · refine ⟨⟨by omega, by omega⟩, ⟨by omega, by omega⟩, fun _ => ⟨Or.inl rfl, no ?_⟩, fun q => by omega⟩
      rintro ⟨c, d, a1, a2, a3, a4⟩
      rcases a4 with ⟨a5, a6⟩ | ⟨a5, a6, m, a7, a8, a9⟩
      · rcases Int.lt_or_le c x5 with z | z
        · exact hb1 c a1 z a5
        · exact a6 (hb3 d (by omega) (by omega))
      · rcases Int.lt_or_le c x5 with z | z
        · -- somewhere behind m the key comes again
          have find : ∀ (k : Nat) (b : Int), k = (d - b).toNat → m ≤ b → b < d → ky s a p b ≠ ky s a p c → False := by
            intro k; induction k using Nat.strongRecOn with
            | _ k ihk =>
            intro b hk g1 g2 g3
            by_cases e : ky s a p (b + 1) = ky s a p c
            · have e1 : b + 1 - 1 = b := by omega
              exact hb2 c a1 z (b + 1) (by omega) (by omega) ⟨e, by rw [e1]; exact g3⟩
            · have : b + 1 ≠ d := fun y => e (by rw [y]; exact a6)
              exact ihk _ (by omega) (b + 1) rfl (by omega) (by omega) e
          exact find _ m rfl (Int.le_refl m) a8 a9
        · exact a5 (hb3 c z (by omega))
  have outer : ∀ (n : Nat) (x5 : Int), n = (hi - x5).toNat → lo ≤ x5 → x5 ≤ hi → (∀ j, lo ≤ j → j < x5 → ky s a p j ≠ p) → (∀ j, lo ≤ j → j < x5 → ∀ b, j + 2 ≤ b → b < hi → ¬ (ky s a p b = ky s a p j ∧ ky s a p (b - 1) ≠ ky s a p j)) → zGo L xs (D + 1) 251 3 [some (zr 142), some (zr 533), none, some (zi hi), some (zi p), some (zi x5), none, none] [] J K Q := by
    intro n; induction n using Nat.strongRecOn with
    | _ n ih =>
    intro x5 hm h0 h1 hb1 hb2
    refine z251_3 hL ?_
    by_cases hc : x5 < hi
    · have hkr := ky_rng h hS (i := x5) (by omega) hc
      refine ⟨⟨by omega, by omega⟩, ⟨by omega, by omega⟩, fun _ => by omega, fun _ => ⟨by omega, by omega, ?_⟩⟩
      refine ck hL hM h hS hA (by omega) hc (by omega) (zaI_of ⟨⟨by omega, by omega⟩, ⟨by omega, by omega⟩, fun q => ?_, fun q => ?_⟩)
      · have inner : ∀ (m : Nat) (x7 : Int), m = (hi - x7).toNat → x5 + 2 ≤ x7 → x7 ≤ hi ∨ x7 = x5 + 2 → (∀ b, x5 + 2 ≤ b → b < x7 → b < hi → ¬ (ky s a p b = ky s a p x5 ∧ ky s a p (b - 1) ≠ ky s a p x5)) → zGo L xs (D + 1) 251 69 [some (zr 142), some (zr 533), none, some (zi hi), some (zi p), some (zi x5), some (zi (ky s a p x5)), some (zi x7)] [] J K Q := by
          intro m; induction m using Nat.strongRecOn with
          | _ m ihm =>
          intro x7 hm7 g0 g1 hb3
          refine z251_69 hL ?_
          by_cases hc7 : x7 < hi
          · have hk7 := ky_rng h hS (i := x7) (by omega) hc7
            have hk8 := ky_rng h hS (i := x7 - 1) (by omega) (by omega)
            have go : ¬ (ky s a p x7 = ky s a p x5 ∧ ky s a p (x7 - 1) ≠ ky s a p x5) → zGo L xs (D + 1) 251 69 [some (zr 142), some (zr 533), none, some (zi hi), some (zi p), some (zi x5), some (zi (ky s a p x5)), some (zi (x7 + 1))] [] J K Q := fun hz => ihm _ (by omega) (x7 + 1) rfl (by omega) (by omega) fun b c1 c2 c3 => by
              by_cases e : b = x7
              · rw [e]
                exact hz
              · exact hb3 b c1 (by omega) c3
            refine ⟨⟨by omega, by omega⟩, ⟨by omega, by omega⟩, fun _ => by omega, fun _ => ⟨by omega, by omega, ?_⟩⟩
            refine ck hL hM h hS hA (by omega) hc7 (by omega) (zaI_of ⟨⟨by omega, by omega⟩, ⟨by omega, by omega⟩, fun q1 => go (fun z => q1 z.1), fun q1 => ⟨by omega, by omega, ?_⟩⟩)
            refine ck hL hM h hS hA (by omega) (by omega) (by omega) (zaI_of ⟨⟨by omega, by omega⟩, ⟨by omega, by omega⟩, fun q2 => go (fun z => z.2 q2), fun q2 => ⟨Or.inr rfl, ?_⟩⟩)
            refine yes ⟨x5, x7, h0, by omega, hc7, Or.inr ⟨q, q1, x7 - 1, by omega, by omega, q2⟩⟩
          · refine ⟨⟨by omega, by omega⟩, ⟨by omega, by omega⟩, fun _ => ?_, fun z => by omega⟩
            refine ih _ (by omega) (x5 + 1) rfl (by omega) (by omega) (fun j c1 c2 => ?_) (fun j c1 c2 b c3 c4 => ?_)
            · by_cases e : j = x5
              · rw [e]
                exact q
              · exact hb1 j c1 (by omega)
            · by_cases e : j = x5
              · rw [e]
                exact hb3 b (by omega) (by omega) c4
              · exact hb2 j c1 (by omega) b c3 c4
        exact inner _ (x5 + 2) rfl (Int.le_refl _) (Or.inr rfl) (fun b c1 c2 => by omega)
      · exact stay _ x5 x5 rfl h0 (Int.le_refl _) h1 hc q hb1 hb2 (fun j a1 a2 => by omega)
    · have e : x5 = hi := by omega
      subst e
      refine ⟨⟨by omega, by omega⟩, ⟨by omega, by omega⟩, fun _ => ⟨Or.inl rfl, no ?_⟩, fun q => by omega⟩
      rintro ⟨c, d, a1, a2, a3, a4⟩
      rcases a4 with ⟨a5, a6⟩ | ⟨a5, a6, m, a7, a8, a9⟩
      · exact hb1 c a1 (by omega) a5
      · have find : ∀ (k : Nat) (b : Int), k = (d - b).toNat → m ≤ b → b < d → ky s a p b ≠ ky s a p c → False := by
          intro k; induction k using Nat.strongRecOn with
          | _ k ihk =>
          intro b hk g1 g2 g3
          by_cases e : ky s a p (b + 1) = ky s a p c
          · have e1 : b + 1 - 1 = b := by omega
            exact hb2 c a1 (by omega) (b + 1) (by omega) (by omega) ⟨e, by rw [e1]; exact g3⟩
          · have : b + 1 ≠ d := fun y => e (by rw [y]; exact a6)
            exact ihk _ (by omega) (b + 1) rfl (by omega) (by omega) e
        exact find _ m rfl (Int.le_refl m) a8 a9
  exact outer _ lo rfl (Int.le_refl lo) (by omega) (fun j a1 a2 => by omega) (fun j a1 a2 => by omega)
/-- how many cuts a row has at a place -/
theorem c210 {L : Nat} {xs : Nat → Int32} (hL : L ≤ 3072) {D : Nat} {J : zJ} {K : zK} {Q : zR → Nat → zJ → zK → Prop} {s : zJ} (hM : ML s J) (h : LW s) {a : Int → Int} {p lo hi st : Int} {gs : List Int} (hS : Seg s a p lo hi) (hA : ∀ j : Int, lo ≤ j → j < hi → J 533 0 j = a j) (hc : Chn (ky s a p) p hi gs st) (hlo : hdo gs st = lo) (hD : 4 ≤ D) (hQ : Q (.inl (some (zi (ncu gs st hi)))) 0 J K) : zCall L xs D 210 [zr 142, zr 533, zi lo, zi hi, zi p] J K Q := by
  obtain ⟨D, rfl⟩ : ∃ d, D = d + 1 := ⟨D - 1, by omega⟩
  obtain ⟨⟨p0, p1⟩, ⟨l0, l1, l2⟩, hrow⟩ := id hS
  refine z210 hL ?_
  have key : ∀ (g : List Int) (k c : Int), hdo g st = k → Chn (ky s a p) p hi g st → lo ≤ k → c + g.length = gs.length → zGo L xs (D + 1) 210 6 [some (zr 142), some (zr 533), none, some (zi hi), some (zi p), some (zi c), some (zi k)] [] J K Q := by
    intro g
    induction g with
    | nil =>
      intro k c hk hcn hlk hcl
      have hk2 : st = k := hk
      subst hk2
      have hs2 : st ≤ hi := hcn.1
      have hend : ∀ c2 : Int, c2 = gs.length + (if st < hi then 1 else 0) → zGo L xs (D + 1) 210 6 [some (zr 142), some (zr 533), none, some (zi hi), some (zi p), some (zi c2), some (zi hi)] [] J K Q := by
        intro c2 e
        refine z210_6 hL ⟨⟨by omega, by omega⟩, ⟨by omega, by omega⟩, fun _ => ?_, fun q => by omega⟩
        rw [e]
        exact hQ
      have hcg : c = gs.length := by simpa using hcl
      rcases Int.lt_or_le st hi with z | z
      · refine z210_6 hL ⟨⟨by omega, by omega⟩, ⟨by omega, by omega⟩, fun q => by omega, fun _ => ?_⟩
        refine c216 hL hM h hS hA hlk z (Int.le_refl hi) (fun j a1 a2 => ?_) (fun y => by omega) (by omega) (zaI_of ?_)
        · rw [hcn.2 j a1 a2, hcn.2 st (Int.le_refl _) z]
        · exact hend (c + 1) (by rw [if_pos z, hcg])
      · have e : st = hi := by omega
        have := hend c (by rw [if_neg (by omega), hcg]; omega)
        rw [← e] at this ⊢
        exact this
    | cons b r ih =>
      intro k c hk hcn hlk hcl
      have hk2 : b = k := hk
      subst hk2
      obtain ⟨g1, g2, g3, g4, g5, g6⟩ := hcn
      refine z210_6 hL ⟨⟨by omega, by omega⟩, ⟨by omega, by omega⟩, fun q => by omega, fun _ => ?_⟩
      refine c216 hL hM h hS hA hlk g1 g2 g3 g5 (by omega) (zaI_of ?_)
      refine ih (hdo r st) (c + 1) rfl g6 (by omega) ?_
      rw [List.length_cons] at hcl
      omega
  exact key gs lo 0 hlo hc (Int.le_refl lo) (by omega)
/-- the next place of a row's portion, in the model -/
theorem cka {L : Nat} {xs : Nat → Int32} (hL : L ≤ 3072) {D : Nat} {J : zJ} {K : zK} {Q : zR → Nat → zJ → zK → Prop} {s : zJ} (hM : ML s J) (h : LW s) {t : Int} (t0 : 0 ≤ t ∧ t < 4) {a : Int → Int} {p lo hi i : Int} (hS : Seg s a p lo hi) (hA : ∀ j : Int, lo ≤ j → j < hi → J 229 t j = a j) (h0 : lo ≤ i) (h1 : i < hi) (hD : 2 ≤ D) (hQ : Q (.inl (some (zi (ky s a p i)))) 0 J K) : zCall L xs D 272 [zr 142, zi (J 229 t i), zi p] J K Q := by
  have hr := hS.2.2 i h0 h1
  have hk := lw_k h hr.1 hr.2.1
  rw [hA i h0 h1]
  exact c272 hL hM h hD hr.1 hr.2.1 hS.1.1 hS.1.2 hr.2.2 hQ
theorem c216a {L : Nat} {xs : Nat → Int32} (hL : L ≤ 3072) {D : Nat} {J : zJ} {K : zK} {Q : zR → Nat → zJ → zK → Prop} {s : zJ} (hM : ML s J) (h : LW s) {t : Int} (t0 : 0 ≤ t ∧ t < 4) {a : Int → Int} {p lo hi b e : Int} (hS : Seg s a p lo hi) (hA : ∀ j : Int, lo ≤ j → j < hi → J 229 t j = a j) (b0 : lo ≤ b) (b1 : b < e) (b2 : e ≤ hi) (he : ∀ j : Int, b ≤ j → j < e → ky s a p j = ky s a p b) (hn : e < hi → ky s a p e ≠ ky s a p b) (hD : 3 ≤ D) (hQ : Q (.inl (some (zi (e)))) 0 J K) : zCall L xs D 216 [zr 142, zw 229 t, zi b, zi hi, zi p] J K Q := by
  obtain ⟨D, rfl⟩ : ∃ d, D = d + 1 := ⟨D - 1, by omega⟩
  have hn0 := lw_n h
  obtain ⟨⟨p0, p1⟩, ⟨l0, l1, l2⟩, hrow⟩ := id hS
  refine z216a hL ?_
  have key : ∀ (n : Nat) (i : Int), n = (e - i).toNat → b < i → i ≤ e → zGo L xs (D + 1) 216 5 [some (zr 142), some (zw 229 t), some (zi b), some (zi hi), some (zi p), some (zi i)] [] J K Q := by
    intro n; induction n using Nat.strongRecOn with
    | _ n ih =>
    intro i hm h0 h1
    refine z216a_5 hL ?_
    by_cases hc : i < hi
    · have hki := ky_rng h hS (i := i) (by omega) hc
      have hkb := ky_rng h hS (i := b) (by omega) (by omega)
      refine ⟨⟨by omega, by omega⟩, ⟨by omega, by omega⟩, fun _ => by omega, fun _ => ⟨by omega, by omega, by omega, by omega, ?_⟩⟩
      refine cka hL hM h t0 hS hA (by omega) hc (by omega) (zaI_of ⟨by omega, by omega, by omega, by omega, ?_⟩)
      refine cka hL hM h t0 hS hA (by omega) (by omega) (by omega) (zaI_of ⟨⟨by omega, by omega⟩, ⟨by omega, by omega⟩, fun q => ?_, fun q => ?_⟩)
      · have ee : i = e := by
          rcases Int.lt_or_le i e with z | z
          · exact absurd (he i (by omega) z) q
          · omega
        rw [ee]
        exact hQ
      · have hie : i < e := by
          rcases Int.lt_or_le i e with z | z
          · exact z
          · have ee : i = e := by omega
            rw [ee] at q hc
            exact absurd q (hn hc)
        exact ih _ (by omega) (i + 1) rfl (by omega) (by omega)
    · have ee : i = e := by omega
      refine ⟨⟨by omega, by omega⟩, ⟨by omega, by omega⟩, fun _ => ?_, fun q => by omega⟩
      rw [ee]
      exact hQ
  exact key _ (b + 1) rfl (by omega) (by omega)
theorem c251a {L : Nat} {xs : Nat → Int32} (hL : L ≤ 3072) {D : Nat} {J : zJ} {K : zK} {Q : zR → Nat → zJ → zK → Prop} {s : zJ} (hM : ML s J) (h : LW s) {t : Int} (t0 : 0 ≤ t ∧ t < 4) {a : Int → Int} {p lo hi : Int} (hS : Seg s a p lo hi) (hA : ∀ j : Int, lo ≤ j → j < hi → J 229 t j = a j) (hD : 3 ≤ D) (hQ : Q (.inl (some (zi (zb (shi (ky s a p) p lo hi))))) 0 J K) : zCall L xs D 251 [zr 142, zw 229 t, zi lo, zi hi, zi p] J K Q := by
  obtain ⟨D, rfl⟩ : ∃ d, D = d + 1 := ⟨D - 1, by omega⟩
  have hn0 := lw_n h
  obtain ⟨⟨p0, p1⟩, ⟨l0, l1, l2⟩, hrow⟩ := id hS
  have hsi := shi_iff (f := ky s a p) p0 l1 fun i h0 h1 => (ky_rng h hS h0 h1).1
  have yes : SI (ky s a p) p lo hi → Q (.inl (some (zi (1)))) 0 J K := fun z => by
    rw [hsi.mpr z, zb_t] at hQ
    exact hQ
  have no : ¬ SI (ky s a p) p lo hi → Q (.inl (some (zi (0)))) 0 J K := fun z => by
    have e : shi (ky s a p) p lo hi = false := by
      rw [← Bool.not_eq_true]
      exact fun y => z (hsi.mp y)
    rw [e, zb_f] at hQ
    exact hQ
  refine z251a hL ?_
  -- from the first that stays
  have stay : ∀ (n : Nat) (x5 x7 : Int), n = (hi - x7).toNat → lo ≤ x5 → x5 ≤ x7 → x7 ≤ hi → x5 < hi → ky s a p x5 = p → (∀ j, lo ≤ j → j < x5 → ky s a p j ≠ p) → (∀ j, lo ≤ j → j < x5 → ∀ b, j + 2 ≤ b → b < hi → ¬ (ky s a p b = ky s a p j ∧ ky s a p (b - 1) ≠ ky s a p j)) → (∀ j, x5 ≤ j → j < x7 → ky s a p j = p) → zGo L xs (D + 1) 251 32 [some (zr 142), some (zw 229 t), none, some (zi hi), some (zi p), none, none, some (zi x7)] [] J K Q := by
    intro n; induction n using Nat.strongRecOn with
    | _ n ih =>
    intro x5 x7 hm h0 h1 h2 h3 h5 hb1 hb2 hb3
    refine z251a_32 hL ?_
    by_cases hc : x7 < hi
    · have hkr := ky_rng h hS (i := x7) (by omega) hc
      refine ⟨⟨by omega, by omega⟩, ⟨by omega, by omega⟩, fun _ => by omega, fun _ => ⟨by omega, by omega, by omega, by omega, ?_⟩⟩
      refine cka hL hM h t0 hS hA (by omega) hc (by omega) (zaI_of ⟨⟨by omega, by omega⟩, ⟨by omega, by omega⟩, fun q => ?_, fun q => ⟨Or.inr rfl, ?_⟩⟩)
      · exact ih _ (by omega) x5 (x7 + 1) rfl h0 (by omega) (by omega) h3 h5 hb1 hb2 fun j a1 a2 => by
          by_cases e : j = x7
          · rw [e, q]
          · exact hb3 j a1 (by omega)
      · refine yes ⟨x5, x7, h0, ?_, hc, Or.inl ⟨h5, q⟩⟩
        rcases Int.lt_or_le x5 x7 with z | z
        · exact z
        · have e : x5 = x7 := by omega
          rw [e] at h5
          exact absurd h5 q
    · refine ⟨⟨by omega, by omega⟩, ⟨by omega, by omega⟩, fun _ => ⟨Or.inl rfl, no ?_⟩, fun q => by omega⟩
      rintro ⟨c, d, a1, a2, a3, a4⟩
      rcases a4 with ⟨a5, a6⟩ | ⟨a5, a6, m, a7, a8, a9⟩
      · rcases Int.lt_or_le c x5 with z | z
        · exact hb1 c a1 z a5
        · exact a6 (hb3 d (by omega) (by omega))
      · rcases Int.lt_or_le c x5 with z | z
        · -- somewhere behind m the key comes again
          have find : ∀ (k : Nat) (b : Int), k = (d - b).toNat → m ≤ b → b < d → ky s a p b ≠ ky s a p c → False := by
            intro k; induction k using Nat.strongRecOn with
            | _ k ihk =>
            intro b hk g1 g2 g3
            by_cases e : ky s a p (b + 1) = ky s a p c
            · have e1 : b + 1 - 1 = b := by omega
              exact hb2 c a1 z (b + 1) (by omega) (by omega) ⟨e, by rw [e1]; exact g3⟩
            · have : b + 1 ≠ d := fun y => e (by rw [y]; exact a6)
              exact ihk _ (by omega) (b + 1) rfl (by omega) (by omega) e
          exact find _ m rfl (Int.le_refl m) a8 a9
        · exact a5 (hb3 c z (by omega))
  have outer : ∀ (n : Nat) (x5 : Int), n = (hi - x5).toNat → lo ≤ x5 → x5 ≤ hi → (∀ j, lo ≤ j → j < x5 → ky s a p j ≠ p) → (∀ j, lo ≤ j → j < x5 → ∀ b, j + 2 ≤ b → b < hi → ¬ (ky s a p b = ky s a p j ∧ ky s a p (b - 1) ≠ ky s a p j)) → zGo L xs (D + 1) 251 3 [some (zr 142), some (zw 229 t), none, some (zi hi), some (zi p), some (zi x5), none, none] [] J K Q := by
    intro n; induction n using Nat.strongRecOn with
    | _ n ih =>
    intro x5 hm h0 h1 hb1 hb2
    refine z251a_3 hL ?_
    by_cases hc : x5 < hi
    · have hkr := ky_rng h hS (i := x5) (by omega) hc
      refine ⟨⟨by omega, by omega⟩, ⟨by omega, by omega⟩, fun _ => by omega, fun _ => ⟨by omega, by omega, by omega, by omega, ?_⟩⟩
      refine cka hL hM h t0 hS hA (by omega) hc (by omega) (zaI_of ⟨⟨by omega, by omega⟩, ⟨by omega, by omega⟩, fun q => ?_, fun q => ?_⟩)
      · have inner : ∀ (m : Nat) (x7 : Int), m = (hi - x7).toNat → x5 + 2 ≤ x7 → x7 ≤ hi ∨ x7 = x5 + 2 → (∀ b, x5 + 2 ≤ b → b < x7 → b < hi → ¬ (ky s a p b = ky s a p x5 ∧ ky s a p (b - 1) ≠ ky s a p x5)) → zGo L xs (D + 1) 251 69 [some (zr 142), some (zw 229 t), none, some (zi hi), some (zi p), some (zi x5), some (zi (ky s a p x5)), some (zi x7)] [] J K Q := by
          intro m; induction m using Nat.strongRecOn with
          | _ m ihm =>
          intro x7 hm7 g0 g1 hb3
          refine z251a_69 hL ?_
          by_cases hc7 : x7 < hi
          · have hk7 := ky_rng h hS (i := x7) (by omega) hc7
            have hk8 := ky_rng h hS (i := x7 - 1) (by omega) (by omega)
            have go : ¬ (ky s a p x7 = ky s a p x5 ∧ ky s a p (x7 - 1) ≠ ky s a p x5) → zGo L xs (D + 1) 251 69 [some (zr 142), some (zw 229 t), none, some (zi hi), some (zi p), some (zi x5), some (zi (ky s a p x5)), some (zi (x7 + 1))] [] J K Q := fun hz => ihm _ (by omega) (x7 + 1) rfl (by omega) (by omega) fun b c1 c2 c3 => by
              by_cases e : b = x7
              · rw [e]
                exact hz
              · exact hb3 b c1 (by omega) c3
            refine ⟨⟨by omega, by omega⟩, ⟨by omega, by omega⟩, fun _ => by omega, fun _ => ⟨by omega, by omega, by omega, by omega, ?_⟩⟩
            refine cka hL hM h t0 hS hA (by omega) hc7 (by omega) (zaI_of ⟨⟨by omega, by omega⟩, ⟨by omega, by omega⟩, fun q1 => go (fun z => q1 z.1), fun q1 => ⟨by omega, by omega, by omega, by omega, ?_⟩⟩)
            refine cka hL hM h t0 hS hA (by omega) (by omega) (by omega) (zaI_of ⟨⟨by omega, by omega⟩, ⟨by omega, by omega⟩, fun q2 => go (fun z => z.2 q2), fun q2 => ⟨Or.inr rfl, ?_⟩⟩)
            refine yes ⟨x5, x7, h0, by omega, hc7, Or.inr ⟨q, q1, x7 - 1, by omega, by omega, q2⟩⟩
          · refine ⟨⟨by omega, by omega⟩, ⟨by omega, by omega⟩, fun _ => ?_, fun z => by omega⟩
            refine ih _ (by omega) (x5 + 1) rfl (by omega) (by omega) (fun j c1 c2 => ?_) (fun j c1 c2 b c3 c4 => ?_)
            · by_cases e : j = x5
              · rw [e]
                exact q
              · exact hb1 j c1 (by omega)
            · by_cases e : j = x5
              · rw [e]
                exact hb3 b (by omega) (by omega) c4
              · exact hb2 j c1 (by omega) b c3 c4
        exact inner _ (x5 + 2) rfl (Int.le_refl _) (Or.inr rfl) (fun b c1 c2 => by omega)
      · exact stay _ x5 x5 rfl h0 (Int.le_refl _) h1 hc q hb1 hb2 (fun j a1 a2 => by omega)
    · have e : x5 = hi := by omega
      subst e
      refine ⟨⟨by omega, by omega⟩, ⟨by omega, by omega⟩, fun _ => ⟨Or.inl rfl, no ?_⟩, fun q => by omega⟩
      rintro ⟨c, d, a1, a2, a3, a4⟩
      rcases a4 with ⟨a5, a6⟩ | ⟨a5, a6, m, a7, a8, a9⟩
      · exact hb1 c a1 (by omega) a5
      · have find : ∀ (k : Nat) (b : Int), k = (d - b).toNat → m ≤ b → b < d → ky s a p b ≠ ky s a p c → False := by
          intro k; induction k using Nat.strongRecOn with
          | _ k ihk =>
          intro b hk g1 g2 g3
          by_cases e : ky s a p (b + 1) = ky s a p c
          · have e1 : b + 1 - 1 = b := by omega
            exact hb2 c a1 (by omega) (b + 1) (by omega) (by omega) ⟨e, by rw [e1]; exact g3⟩
          · have : b + 1 ≠ d := fun y => e (by rw [y]; exact a6)
            exact ihk _ (by omega) (b + 1) rfl (by omega) (by omega) e
        exact find _ m rfl (Int.le_refl m) a8 a9
  exact outer _ lo rfl (Int.le_refl lo) (by omega) (fun j a1 a2 => by omega) (fun j a1 a2 => by omega)
/-- how many cuts a row has at a place -/
theorem c210a {L : Nat} {xs : Nat → Int32} (hL : L ≤ 3072) {D : Nat} {J : zJ} {K : zK} {Q : zR → Nat → zJ → zK → Prop} {s : zJ} (hM : ML s J) (h : LW s) {t : Int} (t0 : 0 ≤ t ∧ t < 4) {a : Int → Int} {p lo hi st : Int} {gs : List Int} (hS : Seg s a p lo hi) (hA : ∀ j : Int, lo ≤ j → j < hi → J 229 t j = a j) (hc : Chn (ky s a p) p hi gs st) (hlo : hdo gs st = lo) (hD : 4 ≤ D) (hQ : Q (.inl (some (zi (ncu gs st hi)))) 0 J K) : zCall L xs D 210 [zr 142, zw 229 t, zi lo, zi hi, zi p] J K Q := by
  obtain ⟨D, rfl⟩ : ∃ d, D = d + 1 := ⟨D - 1, by omega⟩
  obtain ⟨⟨p0, p1⟩, ⟨l0, l1, l2⟩, hrow⟩ := id hS
  refine z210a hL ?_
  have key : ∀ (g : List Int) (k c : Int), hdo g st = k → Chn (ky s a p) p hi g st → lo ≤ k → c + g.length = gs.length → zGo L xs (D + 1) 210 6 [some (zr 142), some (zw 229 t), none, some (zi hi), some (zi p), some (zi c), some (zi k)] [] J K Q := by
    intro g
    induction g with
    | nil =>
      intro k c hk hcn hlk hcl
      have hk2 : st = k := hk
      subst hk2
      have hs2 : st ≤ hi := hcn.1
      have hend : ∀ c2 : Int, c2 = gs.length + (if st < hi then 1 else 0) → zGo L xs (D + 1) 210 6 [some (zr 142), some (zw 229 t), none, some (zi hi), some (zi p), some (zi c2), some (zi hi)] [] J K Q := by
        intro c2 e
        refine z210a_6 hL ⟨⟨by omega, by omega⟩, ⟨by omega, by omega⟩, fun _ => ?_, fun q => by omega⟩
        rw [e]
        exact hQ
      have hcg : c = gs.length := by simpa using hcl
      rcases Int.lt_or_le st hi with z | z
      · refine z210a_6 hL ⟨⟨by omega, by omega⟩, ⟨by omega, by omega⟩, fun q => by omega, fun _ => ?_⟩
        refine c216a hL hM h t0 hS hA hlk z (Int.le_refl hi) (fun j a1 a2 => ?_) (fun y => by omega) (by omega) (zaI_of ?_)
        · rw [hcn.2 j a1 a2, hcn.2 st (Int.le_refl _) z]
        · exact hend (c + 1) (by rw [if_pos z, hcg])
      · have e : st = hi := by omega
        have := hend c (by rw [if_neg (by omega), hcg]; omega)
        rw [← e] at this ⊢
        exact this
    | cons b r ih =>
      intro k c hk hcn hlk hcl
      have hk2 : b = k := hk
      subst hk2
      obtain ⟨g1, g2, g3, g4, g5, g6⟩ := hcn
      refine z210a_6 hL ⟨⟨by omega, by omega⟩, ⟨by omega, by omega⟩, fun q => by omega, fun _ => ?_⟩
      refine c216a hL hM h t0 hS hA hlk g1 g2 g3 g5 (by omega) (zaI_of ?_)
      refine ih (hdo r st) (c + 1) rfl g6 (by omega) ?_
      rw [List.length_cons] at hcl
      omega
  exact key gs lo 0 hlo hc (Int.le_refl lo) (by omega)
