/-! CUTS -/
/-- groups one after the other: -1 stops -/
def cuL (r : Int → Int → Int → Int) (f : Int → Int) : List Int → Int → Int → Int
  | [], _, c => c
  | b :: g, st, c => if r (f b) b (hdo g st) = -1 then -1 else cuL r f g st (c + r (f b) b (hdo g st))
/-- cuts of a row from p on: -1, if it is shut in somewhere -/
def cuF (s : zJ) (a : Int → Int) : Nat → Int → Int → Int → Int
  | 0, _, _, _ => 0
  | n + 1, p, lo, hi => match spl (ky s a p) p lo hi with
    | none => -1
    | some (gs, st) => cuL (cuF s a n) (ky s a p) gs st (ncu gs st hi)
theorem chn_len {f : Int → Int} {p hi : Int} : ∀ {gs : List Int} {st : Int}, Chn f p hi gs st → (gs.length : Int) ≤ st - hdo gs st ∧ hdo gs st ≤ st ∧ st ≤ hi
  | [], st, h => ⟨by show (0 : Int) ≤ st - st; omega, Int.le_refl _, h.1⟩
  | b :: r, st, h => by
    have h1 := chn_len h.2.2.2.2.2
    have h2 := h.1
    rw [List.length_cons]
    show ((r.length + 1 : Nat) : Int) ≤ st - b ∧ b ≤ st ∧ st ≤ hi
    omega
theorem ncu_rng {f : Int → Int} {p lo hi : Int} {gs : List Int} {st : Int} (h : Chn f p hi gs st) (hlo : hdo gs st = lo) (hl : lo < hi) : 0 ≤ ncu gs st hi ∧ ncu gs st hi < hi - lo := by
  have h1 := chn_len h
  rw [hlo] at h1
  unfold ncu
  cases gs with
  | nil =>
    have h2 : st = lo := hlo
    rw [if_pos (by omega)]
    simp
    omega
  | cons b r =>
    rw [List.length_cons] at h1 ⊢
    split <;> omega
/-- a part of the row that goes on together -/
theorem seg_kid {s : zJ} (h : LW s) {a : Int → Int} {p lo hi b e : Int} (hS : Seg s a p lo hi) (b0 : lo ≤ b) (b1 : b < e) (b2 : e ≤ hi) (he : ∀ j, b ≤ j → j < e → ky s a p j = ky s a p b) (hp : ky s a p b ≠ p) : Seg s a (ky s a p b) b e ∧ p < ky s a p b := by
  have hk := ky_rng h hS b0 (show b < hi by omega)
  obtain ⟨⟨p0, p1⟩, ⟨l0, l1, l2⟩, hrow⟩ := id hS
  refine ⟨⟨⟨hk.1, hk.2.1⟩, ⟨by omega, b1, by omega⟩, fun i i0 i1 => ?_⟩, (hk.2.2.2.2 hp).1⟩
  have hi2 := hrow i (by omega) (by omega)
  have hki := ky_rng h hS (i := i) (by omega) (by omega)
  rw [← he i i0 i1]
  exact ⟨hi2.1, hi2.2.1, hki.2.2.2.1⟩
theorem cuL_rng {s : zJ} (h : LW s) {a : Int → Int} {p lo hi : Int} (hS : Seg s a p lo hi) {r : Int → Int → Int → Int} {m : Int} (m0 : 0 ≤ m) (hr : ∀ q b e, Seg s a q b e → p < q → -1 ≤ r q b e ∧ r q b e ≤ (e - b) * m) : ∀ (gs : List Int) (st c : Int), Chn (ky s a p) p hi gs st → lo ≤ hdo gs st → 0 ≤ c → -1 ≤ cuL r (ky s a p) gs st c ∧ cuL r (ky s a p) gs st c ≤ c + (st - hdo gs st) * m
  | [], st, c, _, _, hc => by
    show -1 ≤ c ∧ c ≤ c + (st - st) * m
    rw [Int.sub_self, Int.zero_mul]
    omega
  | b :: g, st, c, hn, hlo, hc => by
    obtain ⟨g1, g2, g3, g4, g5, g6⟩ := hn
    have hk := seg_kid (b := b) h hS hlo g1 g2 g3 g4
    have h1 := hr _ _ _ hk.1 hk.2
    have hl := chn_len g6
    have hlo2 : lo ≤ b := hlo
    have hmul : 0 ≤ (st - hdo g st) * m := Int.mul_nonneg (by omega) m0
    have hmul2 : 0 ≤ (hdo g st - b) * m := Int.mul_nonneg (by omega) m0
    have e : (st - b) * m = (hdo g st - b) * m + (st - hdo g st) * m := by
      rw [← Int.add_mul]
      congr 1
      omega
    rw [cuL]
    show -1 ≤ _ ∧ _ ≤ c + (st - b) * m
    rw [e]
    split
    · omega
    · have h2 := cuL_rng h hS m0 hr g st (c + r (ky s a p b) b (hdo g st)) g6 (by omega) (by omega)
      omega
theorem cuF_rng {s : zJ} (h : LW s) (a : Int → Int) : ∀ (n : Nat) (p lo hi : Int), Seg s a p lo hi → -1 ≤ cuF s a n p lo hi ∧ cuF s a n p lo hi ≤ (hi - lo) * n
  | 0, p, lo, hi, _ => by
    rw [cuF]
    simp
  | n + 1, p, lo, hi, hS => by
    obtain ⟨⟨p0, p1⟩, ⟨l0, l1, l2⟩, hrow⟩ := id hS
    have hsp := spl_ok (f := ky s a p) p0 l1 fun i h0 h1 => (ky_rng h hS h0 h1).1
    have e1 : ((n + 1 : Nat) : Int) = (n : Int) + 1 := by omega
    have e2 : (hi - lo) * ((n + 1 : Nat) : Int) = (hi - lo) * n + (hi - lo) := by rw [e1, Int.mul_add, Int.mul_one]
    have hnn : 0 ≤ (hi - lo) * (n : Int) := Int.mul_nonneg (by omega) (by omega)
    rw [cuF, e2]
    cases hs : spl (ky s a p) p lo hi with
    | none =>
      simp only
      omega
    | some x =>
      obtain ⟨gs, st⟩ := x
      obtain ⟨hc, hlo, hst, _⟩ := hsp.2 gs st hs
      have hnc := ncu_rng hc hlo l1
      have h1 := cuL_rng h hS (r := cuF s a n) (m := n) (by omega) (fun q b e hq _ => cuF_rng h a n q b e hq) gs st (ncu gs st hi) hc (by omega) hnc.1
      have hl := chn_len hc
      have h2 : (st - hdo gs st) * (n : Int) ≤ (hi - lo) * n := Int.mul_le_mul_of_nonneg_right (by omega) (by omega)
      simp only
      omega
theorem cuL_cong {s : zJ} (h : LW s) {a : Int → Int} {p lo hi : Int} (hS : Seg s a p lo hi) {r r' : Int → Int → Int → Int} (hr : ∀ q b e, Seg s a q b e → p < q → r q b e = r' q b e) : ∀ (gs : List Int) (st c : Int), Chn (ky s a p) p hi gs st → lo ≤ hdo gs st → cuL r (ky s a p) gs st c = cuL r' (ky s a p) gs st c
  | [], _, _, _, _ => rfl
  | b :: g, st, c, hn, hlo => by
    obtain ⟨g1, g2, g3, g4, g5, g6⟩ := hn
    have hk := seg_kid (b := b) h hS hlo g1 g2 g3 g4
    have hlo2 : lo ≤ b := hlo
    rw [cuL, cuL, hr _ _ _ hk.1 hk.2]
    split
    · rfl
    · exact cuL_cong h hS hr g st _ g6 (by omega)
theorem cuF_fuel {s : zJ} (h : LW s) (a : Int → Int) : ∀ (n m : Nat) (p lo hi : Int), Seg s a p lo hi → s 18 0 0 - p ≤ n → s 18 0 0 - p ≤ m → cuF s a n p lo hi = cuF s a m p lo hi
  | 0, _, p, _, _, hS, h1, _ => by
    have := hS.1.2
    omega
  | _ + 1, 0, p, _, _, hS, _, h1 => by
    have := hS.1.2
    omega
  | n + 1, m + 1, p, lo, hi, hS, h1, h2 => by
    obtain ⟨⟨p0, p1⟩, ⟨l0, l1, l2⟩, hrow⟩ := id hS
    have hsp := spl_ok (f := ky s a p) p0 l1 fun i h0 h1 => (ky_rng h hS h0 h1).1
    rw [cuF, cuF]
    cases hs : spl (ky s a p) p lo hi with
    | none => rfl
    | some x =>
      obtain ⟨gs, st⟩ := x
      obtain ⟨hc, hlo, hst, _⟩ := hsp.2 gs st hs
      exact cuL_cong h hS (fun q b e hq hpq => cuF_fuel h a n m q b e hq (by omega) (by omega)) gs st _ hc (by omega)
theorem c211 {L : Nat} {xs : Nat → Int32} (hL : L ≤ 3072) {J : zJ} {K : zK} {s : zJ} (hM : ML s J) (h : LW s) {a : Int → Int} : ∀ (n : Nat) (D : Nat) (p lo hi : Int) (Q : zR → Nat → zJ → zK → Prop), Seg s a p lo hi → (∀ j : Int, lo ≤ j → j < hi → J 533 0 j = a j) → s 18 0 0 - p ≤ n → n ≤ 12 → n + 5 ≤ D → (Q (.inl (some (zi (cuF s a n p lo hi)))) 0 J K) → zCall L xs D 211 [zr 142, zr 533, zi lo, zi hi, zi p] J K Q := by
  intro n
  induction n with
  | zero =>
    intro D p lo hi Q hS
    have := hS.1.2
    intros
    omega
  | succ n ihn =>
  intro D p lo hi Q hS hA hpn hn12 hD hQ
  obtain ⟨⟨p0, p1⟩, ⟨l0, l1, l2⟩, hrow⟩ := id hS
  have hsp := spl_ok (f := ky s a p) p0 l1 fun i h0 h1 => (ky_rng h hS h0 h1).1
  have hn0 := lw_n h
  obtain ⟨D, rfl⟩ : ∃ d, D = d + 1 := ⟨D - 1, by omega⟩
  refine z211 hL ?_
  refine c251 hL hM h hS hA (by omega) (zaI_of ⟨zin_zb _, fun q => ?_, fun q => ?_⟩)
  · have hq := zb_0.mp q
    cases hs : spl (ky s a p) p lo hi with
    | none =>
      unfold shi at hq
      rw [hs] at hq
      cases hq
    | some x =>
      obtain ⟨gs, st⟩ := x
      obtain ⟨hc, hlo, hst, _⟩ := hsp.2 gs st hs
      rw [cuF, hs] at hQ
      simp only at hQ
      have hnc := ncu_rng hc hlo l1
      refine c210 hL hM h hS hA hc hlo (by omega) (zaI_of ?_)
      have key : ∀ (g : List Int) (k c : Int), hdo g st = k → Chn (ky s a p) p hi g st → lo ≤ k → 0 ≤ c → (Q (.inl (some (zi (cuL (cuF s a n) (ky s a p) g st c)))) 0 J K) → zGo L xs (D + 1) 211 28 [some (zr 142), some (zr 533), none, some (zi hi), some (zi p), some (zi c), some (zi k), none] [] J K Q := by
        intro g
        induction g with
        | nil =>
          intro k c hk hcn hlk hc0 hR
          have hk2 : st = k := hk
          subst hk2
          have hs2 : st ≤ hi := hcn.1
          have hend : zGo L xs (D + 1) 211 28 [some (zr 142), some (zr 533), none, some (zi hi), some (zi p), some (zi c), some (zi hi), none] [] J K Q := z211_28 hL ⟨⟨by omega, by omega⟩, ⟨by omega, by omega⟩, fun _ => hR, fun q => by omega⟩
          rcases Int.lt_or_le st hi with z | z
          · have hkp := hcn.2 st (Int.le_refl _) z
            refine z211_28 hL ⟨⟨by omega, by omega⟩, ⟨by omega, by omega⟩, fun q => by omega, fun _ => ⟨by omega, by omega, ?_⟩⟩
            refine ck hL hM h hS hA hlk z (by omega) (zaI_of ⟨?_, ⟨by omega, by omega⟩, fun q => absurd hkp q, fun _ => ?_⟩)
            · rw [hkp]
              exact ⟨by omega, by omega⟩
            · exact c216 hL hM h hS hA hlk z (Int.le_refl hi) (fun j a1 a2 => by rw [hcn.2 j a1 a2, hkp]) (fun y => by omega) (by omega) (zaI_of hend)
          · have e : st = hi := by omega
            rw [e]
            exact hend
        | cons b r ih =>
          intro k c hk hcn hlk hc0 hR
          have hk2 : b = k := hk
          subst hk2
          obtain ⟨g1, g2, g3, g4, g5, g6⟩ := hcn
          have hkb := ky_rng h hS hlk (show b < hi by omega)
          have hkid := seg_kid h hS hlk g1 g2 g3 g4
          have hcr := cuF_rng h a n _ _ _ hkid.1
          have hl := chn_len g6
          have hcr2 : (hdo r st - b) * (n : Int) ≤ 7 * 12 := Int.mul_le_mul (by omega) (by omega) (by omega) (by decide)
          rw [cuL] at hR
          refine z211_28 hL ⟨⟨by omega, by omega⟩, ⟨by omega, by omega⟩, fun q => by omega, fun _ => ⟨by omega, by omega, ?_⟩⟩
          refine ck hL hM h hS hA hlk (by omega) (by omega) (zaI_of ⟨⟨by omega, by omega⟩, ⟨by omega, by omega⟩, fun _ => ?_, fun q => absurd q g4⟩)
          refine c216 hL hM h hS hA hlk g1 g2 g3 g5 (by omega) (zaI_of ⟨by omega, by omega, ?_⟩)
          refine ck hL hM h hS hA hlk (by omega) (by omega) (zaI_of ?_)
          refine ihn D (ky s a p b) b (hdo r st) _ hkid.1 (fun j a1 a2 => hA j (by omega) (by omega)) (by omega) (by omega) (by omega) (zaI_of ⟨⟨by omega, by omega⟩, ⟨by decide, by decide⟩, fun q => ?_, fun q => ?_⟩)
          · rw [if_neg q] at hR
            refine c216 hL hM h hS hA hlk g1 g2 g3 g5 (by omega) (zaI_of ?_)
            exact ih (hdo r st) _ rfl g6 (by omega) (by omega) hR
          · rw [if_pos q] at hR
            exact hR
      exact key gs lo _ hlo hc (Int.le_refl lo) hnc.1 hQ
  · have hq := zb_1.mp q
    cases hs : spl (ky s a p) p lo hi with
    | none =>
      rw [cuF, hs] at hQ
      exact hQ
    | some x =>
      unfold shi at hq
      rw [hs] at hq
      cases hq
theorem c211a {L : Nat} {xs : Nat → Int32} (hL : L ≤ 3072) {J : zJ} {K : zK} {s : zJ} (hM : ML s J) (h : LW s) {t : Int} (t0 : 0 ≤ t ∧ t < 4) {a : Int → Int} : ∀ (n : Nat) (D : Nat) (p lo hi : Int) (Q : zR → Nat → zJ → zK → Prop), Seg s a p lo hi → (∀ j : Int, lo ≤ j → j < hi → J 229 t j = a j) → s 18 0 0 - p ≤ n → n ≤ 12 → n + 5 ≤ D → (Q (.inl (some (zi (cuF s a n p lo hi)))) 0 J K) → zCall L xs D 211 [zr 142, zw 229 t, zi lo, zi hi, zi p] J K Q := by
  intro n
  induction n with
  | zero =>
    intro D p lo hi Q hS
    have := hS.1.2
    intros
    omega
  | succ n ihn =>
  intro D p lo hi Q hS hA hpn hn12 hD hQ
  obtain ⟨⟨p0, p1⟩, ⟨l0, l1, l2⟩, hrow⟩ := id hS
  have hsp := spl_ok (f := ky s a p) p0 l1 fun i h0 h1 => (ky_rng h hS h0 h1).1
  have hn0 := lw_n h
  obtain ⟨D, rfl⟩ : ∃ d, D = d + 1 := ⟨D - 1, by omega⟩
  refine z211a hL ?_
  refine c251a hL hM h t0 hS hA (by omega) (zaI_of ⟨zin_zb _, fun q => ?_, fun q => ?_⟩)
  · have hq := zb_0.mp q
    cases hs : spl (ky s a p) p lo hi with
    | none =>
      unfold shi at hq
      rw [hs] at hq
      cases hq
    | some x =>
      obtain ⟨gs, st⟩ := x
      obtain ⟨hc, hlo, hst, _⟩ := hsp.2 gs st hs
      rw [cuF, hs] at hQ
      simp only at hQ
      have hnc := ncu_rng hc hlo l1
      refine c210a hL hM h t0 hS hA hc hlo (by omega) (zaI_of ?_)
      have key : ∀ (g : List Int) (k c : Int), hdo g st = k → Chn (ky s a p) p hi g st → lo ≤ k → 0 ≤ c → (Q (.inl (some (zi (cuL (cuF s a n) (ky s a p) g st c)))) 0 J K) → zGo L xs (D + 1) 211 28 [some (zr 142), some (zw 229 t), none, some (zi hi), some (zi p), some (zi c), some (zi k), none] [] J K Q := by
        intro g
        induction g with
        | nil =>
          intro k c hk hcn hlk hc0 hR
          have hk2 : st = k := hk
          subst hk2
          have hs2 : st ≤ hi := hcn.1
          have hend : zGo L xs (D + 1) 211 28 [some (zr 142), some (zw 229 t), none, some (zi hi), some (zi p), some (zi c), some (zi hi), none] [] J K Q := z211a_28 hL ⟨⟨by omega, by omega⟩, ⟨by omega, by omega⟩, fun _ => hR, fun q => by omega⟩
          rcases Int.lt_or_le st hi with z | z
          · have hkp := hcn.2 st (Int.le_refl _) z
            refine z211a_28 hL ⟨⟨by omega, by omega⟩, ⟨by omega, by omega⟩, fun q => by omega, fun _ => ⟨by omega, by omega, by omega, by omega, ?_⟩⟩
            refine cka hL hM h t0 hS hA hlk z (by omega) (zaI_of ⟨?_, ⟨by omega, by omega⟩, fun q => absurd hkp q, fun _ => ?_⟩)
            · rw [hkp]
              exact ⟨by omega, by omega⟩
            · exact c216a hL hM h t0 hS hA hlk z (Int.le_refl hi) (fun j a1 a2 => by rw [hcn.2 j a1 a2, hkp]) (fun y => by omega) (by omega) (zaI_of hend)
          · have e : st = hi := by omega
            rw [e]
            exact hend
        | cons b r ih =>
          intro k c hk hcn hlk hc0 hR
          have hk2 : b = k := hk
          subst hk2
          obtain ⟨g1, g2, g3, g4, g5, g6⟩ := hcn
          have hkb := ky_rng h hS hlk (show b < hi by omega)
          have hkid := seg_kid h hS hlk g1 g2 g3 g4
          have hcr := cuF_rng h a n _ _ _ hkid.1
          have hl := chn_len g6
          have hcr2 : (hdo r st - b) * (n : Int) ≤ 7 * 12 := Int.mul_le_mul (by omega) (by omega) (by omega) (by decide)
          rw [cuL] at hR
          refine z211a_28 hL ⟨⟨by omega, by omega⟩, ⟨by omega, by omega⟩, fun q => by omega, fun _ => ⟨by omega, by omega, by omega, by omega, ?_⟩⟩
          refine cka hL hM h t0 hS hA hlk (by omega) (by omega) (zaI_of ⟨⟨by omega, by omega⟩, ⟨by omega, by omega⟩, fun _ => ?_, fun q => absurd q g4⟩)
          refine c216a hL hM h t0 hS hA hlk g1 g2 g3 g5 (by omega) (zaI_of ⟨by omega, by omega, by omega, by omega, ?_⟩)
          refine cka hL hM h t0 hS hA hlk (by omega) (by omega) (zaI_of ?_)
          refine ihn D (ky s a p b) b (hdo r st) _ hkid.1 (fun j a1 a2 => hA j (by omega) (by omega)) (by omega) (by omega) (by omega) (zaI_of ⟨⟨by omega, by omega⟩, ⟨by decide, by decide⟩, fun q => ?_, fun q => ?_⟩)
          · rw [if_neg q] at hR
            refine c216a hL hM h t0 hS hA hlk g1 g2 g3 g5 (by omega) (zaI_of ?_)
            exact ih (hdo r st) _ rfl g6 (by omega) (by omega) hR
          · rw [if_pos q] at hR
            exact hR
      exact key gs lo _ hlo hc (Int.le_refl lo) hnc.1 hQ
  · have hq := zb_1.mp q
    cases hs : spl (ky s a p) p lo hi with
    | none =>
      rw [cuF, hs] at hQ
      exact hQ
    | some x =>
      unfold shi at hq
      rw [hs] at hq
      cases hq
