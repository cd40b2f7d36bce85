/-! A WALK: the class's own -/
/-- where the i-th portion of a row goes on to from p -/
def ky (s : zJ) (a : Int → Int) (p i : Int) : Int := nx s p (s 24 0 (a i))
/-- groups of a row: where each begins, and where those begin that stay -/
def spg (f : Int → Int) (p : Int) : Nat → Int → Int → List Int → List Int → Int → Option (List Int × Int)
  | 0, _, _, _, gs, st => some (gs, st)
  | n + 1, i, la, se, gs, st => if f i = la then spg f p n (i + 1) la se gs st else if la = p ∨ f i ∈ se then none else if f i = p then spg f p n (i + 1) (f i) (f i :: se) gs i else spg f p n (i + 1) (f i) (f i :: se) (gs ++ [i]) st
def spl (f : Int → Int) (p lo hi : Int) : Option (List Int × Int) := spg f p (hi - lo).toNat lo (-1) [] [] hi
/-- a row's part that comes to p -/
def Seg (s : zJ) (a : Int → Int) (p lo hi : Int) : Prop := (0 ≤ p ∧ p < s 18 0 0) ∧ (0 ≤ lo ∧ lo < hi ∧ hi ≤ 7) ∧ ∀ i, lo ≤ i → i < hi → 0 ≤ a i ∧ a i < s 18 0 6 ∧ on s p (s 24 0 (a i))
theorem nx_rng {s : zJ} (h : LW s) {p q : Int} (p0 : 0 ≤ p) (p1 : p < s 18 0 0) (q0 : 0 ≤ q) (q1 : q < s 18 0 0) (ho : on s p q) : 0 ≤ nx s p q ∧ nx s p q < s 18 0 0 ∧ (nx s p q = p ↔ q = p) ∧ on s (nx s p q) q ∧ (nx s p q ≠ p → p < nx s p q ∧ s 19 0 (nx s p q) = p) := by
  have hn := lw_n h
  unfold nx
  by_cases e : q = p
  · rw [if_pos e]
    exact ⟨p0, p1, by simp [e], by rw [e]; exact on_self s p, fun z => absurd rfl z⟩
  · rw [if_neg e]
    have hle := on_le h p0 q q0 q1 ho
    have ht := tw_ok h p0 12 q (by omega) q1 ho (by omega)
    exact ⟨by omega, by omega, ⟨fun z => by omega, fun z => absurd z e⟩, ht.2.2.2, fun _ => ⟨ht.2.1, ht.1⟩⟩
theorem ky_rng {s : zJ} (h : LW s) {a : Int → Int} {p lo hi : Int} (hS : Seg s a p lo hi) {i : Int} (h0 : lo ≤ i) (h1 : i < hi) : 0 ≤ ky s a p i ∧ ky s a p i < s 18 0 0 ∧ (ky s a p i = p ↔ s 24 0 (a i) = p) ∧ on s (ky s a p i) (s 24 0 (a i)) ∧ (ky s a p i ≠ p → p < ky s a p i ∧ s 19 0 (ky s a p i) = p) := by
  have hi2 := hS.2.2 i h0 h1
  have hk := lw_k h hi2.1 hi2.2.1
  exact nx_rng h hS.1.1 hS.1.2 (by omega) (by omega) hi2.2.2
theorem c135 {L : Nat} {xs : Nat → Int32} (hL : L ≤ 3072) {D : Nat} {J : zJ} {K : zK} {Q : zR → Nat → zJ → zK → Prop} {s : zJ} (hE : EqS s J) (h : LW s) (hT : TW s) {a : Int → Int} {p lo hi : Int} (hS : Seg s a p lo hi) (hD : 2 ≤ D) (ha : ∀ i : Int, lo ≤ i → i < hi → J 93 0 i = a i) (hp : J 92 0 9 = p) (hlo : J 92 0 10 = lo) (hhi : J 92 0 11 = hi) (hQ : ∀ J' : zJ, (∀ b : Nat, b ≠ 92 → b ≠ 99 → J' b = J b) → (∀ k : Int, k ≠ 14 → J' 92 0 k = J 92 0 k) → (∀ gs st, spl (ky s a p) p lo hi = some (gs, st) → J' 92 0 14 = gs.length ∧ Ar (J' 99 0) (gs ++ [st])) → Q (.inl (some (zi (zb (spl (ky s a p) p lo hi).isSome)))) 0 J' K) : zCall L xs D 135 [zr 92] J K Q := by
  obtain ⟨D, rfl⟩ : ∃ d, D = d + 1 := ⟨D - 1, by omega⟩
  have hn := lw_n h
  obtain ⟨⟨p0, p1⟩, ⟨l0, l1, l2⟩, hrow⟩ := id hS
  refine z135 hL ?_
  rw [hhi, hlo]
  have key : ∀ (n : Nat) (i la x2 st : Int) (se gs : List Int) (J1 : zJ), n = (hi - i).toNat → lo ≤ i → i ≤ hi → 0 ≤ st → st ≤ hi → (la = -1 ∨ (0 ≤ la ∧ la < s 18 0 0)) → 0 ≤ x2 → x2 < 4096 → (∀ k : Int, 0 ≤ k → k < 12 → bt x2 k = decide (k ∈ se)) → (∀ b : Nat, b ≠ 92 → b ≠ 99 → J1 b = J b) → (∀ k : Int, k ≠ 14 → J1 92 0 k = J 92 0 k) → J1 92 0 14 = gs.length → Ar (J1 99 0) gs → (gs.length : Int) ≤ i - lo → spl (ky s a p) p lo hi = spg (ky s a p) p n i la se gs st → zGo L xs (D + 1) 135 20 [some (zr 92), some (zi st), some (zi x2), some (zi la), some (zi i), none] [] J1 K Q := by
    intro n
    induction n with
    | zero =>
      intro i la x2 st se gs J1 hm h0 h1 s0 s1 hla y0 y1 hse hb hk hg har hgl hsp
      have e : i = hi := by omega
      subst e
      refine z135_20 hL ?_
      rw [hk 11 (by decide), hhi, hg]
      refine ⟨⟨by omega, by omega⟩, ⟨by omega, by omega⟩, fun _ => ⟨by omega, by omega, Or.inr rfl, ?_⟩, fun q => by omega⟩
      rw [spg] at hsp
      have hq := hQ (zup J1 99 0 (gs.length : Int) st) (fun b x y => by rw [zup_ne _ _ _ _ y]; exact hb b x y) (fun k hk2 => by rw [zup_ne _ _ _ _ (by decide)]; exact hk k hk2) (fun gs' st' e' => ?_)
      · rw [hsp] at hq
        exact hq
      · rw [hsp] at e'
        have e2 := Option.some.inj e'
        rw [Prod.mk.injEq] at e2
        obtain ⟨e3, e4⟩ := e2
        subst e3
        subst e4
        refine ⟨by rw [zup_ne _ _ _ _ (by decide)]; exact hg, fun j v hv => ?_⟩
        by_cases hj : j < gs.length
        · rw [List.getElem?_append_left hj] at hv
          rw [zup_nk _ _ (by omega)]
          exact har j v hv
        · have hj2 : j = gs.length := by
            have := (List.getElem?_eq_some_iff.mp hv).1
            simp at this
            omega
          subst hj2
          rw [List.getElem?_append_right (by omega), Nat.sub_self] at hv
          rw [zup_eq]
          exact Option.some.inj hv
    | succ n ih =>
      intro i la x2 st se gs J1 hm h0 h1 s0 s1 hla y0 y1 hse hb hk hg har hgl hsp
      have hi1 : i < hi := by omega
      have hri := hrow i h0 hi1
      have hkr := ky_rng h hS h0 hi1
      have hk24 := lw_k h hri.1 hri.2.1
      have hE1 : EqS s J1 := fun b x y => (hb b (by omega) (by omega)).trans (hE b x y)
      refine z135_20 hL ?_
      rw [hk 11 (by decide), hhi, hk 9 (by decide), hp, hb 93 (by decide) (by decide), ha i h0 hi1, hE1 24 (by decide) (by decide)]
      refine ⟨⟨by omega, by omega⟩, ⟨by omega, by omega⟩, fun _ => by omega, fun _ => ⟨by omega, by omega, by omega, by omega, ?_⟩⟩
      refine c122 hL hE1 h hT (by omega) p0 p1 (by omega) (by omega) hri.2.2 (zaI_of ?_)
      show zin (ky s a p i) ∧ _
      have hns : nx s p (s 24 0 (a i)) = ky s a p i := rfl
      rw [hns, hk 9 (by decide), hp]
      rw [spg] at hsp
      have zla : zin la := by
        rcases hla with z | z
        · rw [z]
          exact ⟨by decide, by decide⟩
        · exact ⟨by omega, by omega⟩
      refine ⟨⟨by omega, by omega⟩, zla, fun q => ?_, fun q => ⟨zla, ⟨by omega, by omega⟩, fun q2 => ⟨Or.inl rfl, ?_⟩, fun q2 => ⟨⟨by omega, by omega⟩, by omega, by omega, ?_⟩⟩⟩
      · rw [if_pos q] at hsp
        exact ih (i + 1) la x2 st se gs J1 (by omega) (by omega) (by omega) s0 s1 hla y0 y1 hse hb hk hg har (by omega) hsp
      · rw [if_neg q, if_pos (Or.inl q2)] at hsp
        have hq := hQ J1 hb hk (fun gs' st' e' => by rw [hsp] at e'; cases e')
        rw [hsp] at hq
        exact hq
      · rw [bt_shz y0 (by omega), hse _ hkr.1 (by omega)]
        refine ⟨zin_zb _, fun q3 => ⟨by omega, by omega, ⟨by omega, by omega⟩, ⟨by omega, by omega⟩, fun q4 => ⟨by omega, by omega, ?_⟩, fun q4 => ?_⟩, fun q3 => ⟨Or.inl rfl, ?_⟩⟩
        all_goals try rw [zb_0, decide_eq_false_iff_not] at q3
        · have hno : ¬ (la = p ∨ ky s a p i ∈ se) := fun z => z.elim q2 q3
          rw [if_neg q, if_neg hno, if_neg q4] at hsp
          have hpp : (2 : Int) ^ (ky s a p i).toNat ≤ 2 ^ 11 := pw_le (by omega)
          have hp0 := pw_pos (ky s a p i).toNat
          rw [Int.one_mul, hg]
          have hz := zor_lt (x := x2) (y := 2 ^ (ky s a p i).toNat) (n := 12) (by decide) y0 (by omega) (by omega) (by omega)
          refine ih (i + 1) _ _ st _ (gs ++ [i]) _ (by omega) (by omega) (by omega) s0 s1 (Or.inr ⟨hkr.1, hkr.2.1⟩) hz.1 (by omega) (fun k k0 k1 => ?_) (fun b x y => by rw [zup_ne _ _ _ _ x, zup_ne _ _ _ _ y]; exact hb b x y) (fun k hk2 => by rw [zup_nk _ _ hk2, zup_ne _ _ _ _ (by decide)]; exact hk k hk2) (by rw [zup_eq]; simp) (fun j v hv => ?_) (by simp; omega) hsp
          · rw [bt_or y0 (by omega) (by omega) (by omega), bt_pow hkr.1 k0, hse k k0 k1]
            by_cases e : ky s a p i = k
            · simp [e]
            · have e' : ¬ k = ky s a p i := fun z => e z.symm
              simp [e, e']
          · rw [zup_ne _ _ _ _ (by decide)]
            by_cases hj : j < gs.length
            · rw [List.getElem?_append_left hj] at hv
              rw [zup_nk _ _ (by omega)]
              exact har j v hv
            · have hj2 : j = gs.length := by
                have := (List.getElem?_eq_some_iff.mp hv).1
                simp at this
                omega
              subst hj2
              rw [List.getElem?_append_right (by omega), Nat.sub_self] at hv
              rw [zup_eq]
              exact Option.some.inj hv
        · have hno : ¬ (la = p ∨ ky s a p i ∈ se) := fun z => z.elim q2 q3
          rw [if_neg q, if_neg hno, if_pos q4] at hsp
          have hpp : (2 : Int) ^ (ky s a p i).toNat ≤ 2 ^ 11 := pw_le (by omega)
          have hp0 := pw_pos (ky s a p i).toNat
          rw [Int.one_mul]
          have hz := zor_lt (x := x2) (y := 2 ^ (ky s a p i).toNat) (n := 12) (by decide) y0 (by omega) (by omega) (by omega)
          refine ih (i + 1) _ _ i _ gs J1 (by omega) (by omega) (by omega) (by omega) (by omega) (Or.inr ⟨hkr.1, hkr.2.1⟩) hz.1 (by omega) (fun k k0 k1 => ?_) hb hk hg har (by omega) hsp
          rw [bt_or y0 (by omega) (by omega) (by omega), bt_pow hkr.1 k0, hse k k0 k1]
          by_cases e : ky s a p i = k
          · simp [e]
          · have e' : ¬ k = ky s a p i := fun z => e z.symm
            simp [e, e']
        · have q5 := zb_1.mp q3
          rw [decide_eq_true_iff] at q5
          rw [if_neg q, if_pos (Or.inr q5)] at hsp
          have hq := hQ J1 hb hk (fun gs' st' e' => by rw [hsp] at e'; cases e')
          rw [hsp] at hq
          exact hq
  refine key _ lo (-1) 0 hi [] [] _ rfl (by omega) (by omega) (by omega) (by omega) (Or.inl rfl) (by decide) (by decide) (fun k k0 k1 => by rw [bt_z]; simp) (fun b x y => zup_ne _ _ _ _ x) (fun k hk => zup_nk _ _ hk) (by rw [zup_eq]; rfl) (fun j v hv => by simp at hv) (by simp) rfl
