/-! THE FIRST ROW in the class -/
/-- cells 18 to 39 (land, tree) are as in s -/
def EqL (s J : zJ) : Prop := ∀ b : Nat, 18 ≤ b → b ≤ 39 → J b = s b
theorem eql_of {s J : zJ} (h : EqS s J) : EqL s J := fun b x y => h b x (by omega)
theorem c69l {L : Nat} {xs : Nat → Int32} (hL : L ≤ 3072) {D : Nat} {J : zJ} {K : zK} {Q : zR → Nat → zJ → zK → Prop} {s : zJ} (hE : EqL s J) (h : LW s) {x1 x2 : Int} (hD : 1 ≤ D) (h0 : 0 ≤ x1) (h1 : x1 < s 18 0 0) (a2 : 0 ≤ x2 ∧ x2 < 2147483648) (hT : ∀ p, 0 ≤ p → p < s 18 0 0 → 0 ≤ s 37 0 p) (hQ : Q (.inl (some (zi (grs s x2 x1)))) 0 J K) : zCall L xs D 69 [zr 89, zi x1, zi x2] J K Q := by
  obtain ⟨D, rfl⟩ : ∃ d, D = d + 1 := ⟨D - 1, by omega⟩
  have hn := lw_n h
  have e18 := hE 18 (by decide) (by decide)
  have e19 := hE 19 (by decide) (by decide)
  have e37 := hE 37 (by decide) (by decide)
  have key : ∀ (n : Nat) (x4 : Int), n = (s 18 0 0 - x4).toNat → x1 < x4 → x4 ≤ s 18 0 0 → zGo L xs (D + 1) 69 7 [some (zr 89), some (zi x1), some (zi x2), some (zi (cnt (fun c => decide (x1 < c) && grB s x2 x1 c) x4.toNat)), some (zi x4)] [] J K Q := by
    intro n; induction n using Nat.strongRecOn with
    | _ n ih =>
    intro x4 hm b0 b1
    refine z69_7 hL ?_
    simp only [e18, e19, e37]
    by_cases hc : x4 < s 18 0 0
    · have hp := lw_p h (p := x4) (by omega) hc
      have hl := zand_le a2.1 a2.2 (hT x4 (by omega) hc)
      have hi := ih _ (by omega) (x4 + 1) rfl (by omega) (by omega)
      rw [cnt_next (by omega)] at hi
      (repeat' (first | (with_reducible apply And.intro) | (with_reducible intro _))) <;> (try first | omega | (unfold zin; omega) | exact zin_zb _ | exact Or.inl trivial | exact Or.inr trivial | exact Or.inl rfl | exact Or.inr rfl)
      · next q =>
        have : (decide (x1 < x4) && grB s x2 x1 x4) = false := by simp [grB, q]
        rw [this, zb_f, Int.add_zero] at hi
        exact hi
      · next q1 q2 =>
        have : (decide (x1 < x4) && grB s x2 x1 x4) = false := by simp [grB, q2]
        rw [this, zb_f, Int.add_zero] at hi
        exact hi
      · next q1 q2 =>
        have : (decide (x1 < x4) && grB s x2 x1 x4) = true := by simp [grB, q1, q2, b0]
        rw [this, zb_t] at hi
        exact hi
    · (repeat' (first | (with_reducible apply And.intro) | (with_reducible intro _))) <;> (try first | omega | (unfold zin; omega) | exact zin_zb _ | exact Or.inl trivial | exact Or.inr trivial | exact Or.inl rfl | exact Or.inr rfl)
      have : x4 = s 18 0 0 := by omega
      rw [this]
      exact hQ
  have hk := key _ (x1 + 1) rfl (by omega) (by omega)
  rw [cnt_low fun c a b => by
    have : ¬ x1 < c := by omega
    simp [this]] at hk
  exact z69 hL hk
theorem mn7_one {f : Int → Int} {n : Nat} {m : Int} (h1 : m ≤ 7) (h2 : ∀ c : Int, 0 ≤ c → c < n → m ≤ f c) (h3 : m = 7 ∨ ∃ c : Int, 0 ≤ c ∧ c < n ∧ m = f c) : m = mn7 f n := by
  obtain ⟨g1, g2, g3⟩ := mn7_ok f n
  have a1 : m ≤ mn7 f n := by
    rcases g3 with z | ⟨c, c0, c1, c2⟩
    · omega
    · have := h2 c c0 c1
      omega
  have a2 : mn7 f n ≤ m := by
    rcases h3 with z | ⟨c, c0, c1, c2⟩
    · omega
    · have := g2 c c0 c1
      omega
  omega
/-- the set's portions at p, as the tree keeps them -/
theorem zst {s : zJ} (h : LW s) (hT : TW s) {x p : Int} (x0 : 0 ≤ x) (x1 : x < 2147483648) (p0 : 0 ≤ p) (p1 : p < s 18 0 0) : (0 ≤ zand x (s 38 0 p) ∧ zand x (s 38 0 p) < 128) ∧ ∀ k : Int, 0 ≤ k → bt (zand x (s 38 0 p)) k = (decide (k < s 18 0 6) && stb s x p k) := by
  have hn := lw_n h
  have hs := sty_pct h hT x0 x1 p0 p1
  refine ⟨hs.1, fun k k0 => ?_⟩
  have ht := hT.2.2.2.2.1 p p0 p1
  have hb := bs_lt (fun k => decide (s 24 0 k = p)) (s 18 0 6).toNat
  rw [bt_and x0 x1 (by rw [ht]; exact hb.1), ht, bt_bs _ _ k k0]
  unfold stb
  have : decide (k < ((s 18 0 6).toNat : Int)) = decide (k < s 18 0 6) := decide_eq_decide.mpr (by omega)
  rw [this]
  cases decide (k < s 18 0 6) <;> cases bt x k <;> simp
theorem lsy_is {s : zJ} (h : LW s) (hT : TW s) {x p : Int} (x0 : 0 ≤ x) (x1 : x < 2147483648) (p0 : 0 ≤ p) (p1 : p < s 18 0 0) : (if fnd (fun k => bt (zand x (s 38 0 p)) k) 7 < 0 then 7 else fnd (fun k => bt (zand x (s 38 0 p)) k) 7) = lsy s x p := by
  have hn := lw_n h
  have hz := (zst h hT x0 x1 p0 p1).2
  have e : fnd (fun k => bt (zand x (s 38 0 p)) k) 7 = fnd (stb s x p) (s 18 0 6).toNat := by
    rcases fnd_is (stb s x p) (s 18 0 6).toNat with ⟨z1, z2⟩ | ⟨z1, z2, z3, z4⟩
    · rw [z1]
      refine fnd_no fun k k0 k1 => ?_
      rw [hz k k0]
      by_cases q : k < s 18 0 6
      · rw [z2 k k0 (by omega), Bool.and_false]
      · rw [decide_eq_false q, Bool.false_and]
    · generalize fnd (stb s x p) (s 18 0 6).toNat = m at z1 z2 z3 z4
      refine fnd_at z1 (by omega) (by rw [hz m z1, z3, decide_eq_true (by omega)]; rfl) fun k k0 k1 => ?_
      rw [hz k k0, z4 k k0 k1, Bool.and_false]
  rw [e]
  rfl
theorem c66 {L : Nat} {xs : Nat → Int32} (hL : L ≤ 3072) {D : Nat} {J : zJ} {K : zK} {Q : zR → Nat → zJ → zK → Prop} {s : zJ} (hE : EqL s J) (h : LW s) (hT : TW s) {x : Int} (x0 : 0 ≤ x) (x1 : x < 2147483648) (hD : 2 ≤ D) (hQ : ∀ J' : zJ, (∀ b : Nat, b ≠ 90 → J' b = J b) → (∀ p : Int, 0 ≤ p → p < s 18 0 0 → J' 90 0 p = hd s x p) → Q (.inl none) 0 J' K) : zCall L xs D 66 [zr 89, zi x] J K Q := by
  obtain ⟨D, rfl⟩ : ∃ d, D = d + 1 := ⟨D - 1, by omega⟩
  have hn := lw_n h
  have key : ∀ (n : Nat) (p : Int) (J1 : zJ), n = (p + 1).toNat → -1 ≤ p → p < s 18 0 0 → (∀ b : Nat, b ≠ 90 → J1 b = J b) → (∀ q : Int, p < q → q < s 18 0 0 → J1 90 0 q = hd s x q) → (∀ q : Int, 0 ≤ q → q ≤ p → J1 90 0 q = mn7 (fun c => if kid s q c && decide (p < c) then hd s x c else 7) (s 18 0 0).toNat) → zGo L xs (D + 1) 66 37 [some (zr 89), some (zi x), some (zi p), none] [] J1 K Q := by
    intro n; induction n using Nat.strongRecOn with
  | _ n ih =>
    intro p J1 hm h0 h1 f1 g1 g2
    have hE1 : EqL s J1 := fun b a c => (f1 b (by omega)).trans (hE b a c)
    refine z66_37 hL ⟨⟨by omega, by omega⟩, fun q => ?_, fun q => ?_⟩
    · exact hQ J1 f1 fun r r0 r1 => g1 r (by omega) r1
    · have hp := lw_p h q h1
      have hv := g2 p q (Int.le_refl _)
      have hfull : mn7 (fun c => if kid s p c && decide (p < c) then hd s x c else 7) (s 18 0 0).toNat = mn7 (fun c => if kid s p c then hd s x c else 7) (s 18 0 0).toNat := mn7_cong fun c c0 c1 => by
        cases hk : kid s p c with
        | false => simp only [Bool.false_and, Bool.false_eq_true, if_false]
        | true =>
          have := kid_t.mp hk
          rw [decide_eq_true this.1]
          simp only [Bool.and_true, if_true]
      rw [hfull] at hv
      have hu := hd_unf h x q h1
      have hr := hd_rng h x q h1
      have hm7 := (mn7_ok (fun c => if kid s p c then hd s x c else 7) (s 18 0 0).toNat).1
      -- on to the next place, p's head being known
      have nxt : ∀ J2 : zJ, (∀ b : Nat, b ≠ 90 → J2 b = J b) → J2 90 0 p = hd s x p → (∀ r : Int, 0 ≤ r → r ≠ p → r < s 18 0 0 → J2 90 0 r = (if 0 < p ∧ r = s 19 0 p ∧ hd s x p < J1 90 0 r then hd s x p else J1 90 0 r)) → zGo L xs (D + 1) 66 37 [some (zr 89), some (zi x), some (zi (p + -1)), none] [] J2 K Q := by
        intro J2 f2 k1 k2
        refine ih _ (by omega) (p + -1) J2 rfl (by omega) (by omega) f2 (fun r r0 r1 => ?_) (fun r r0 r1 => ?_)
        · by_cases e : r = p
          · rw [e]
            exact k1
          · rw [k2 r (by omega) e r1]
            rw [if_neg]
            · exact g1 r (by omega) r1
            · rintro ⟨y1, y2, _⟩
              have := lw_up h (p := p) (by omega) h1
              omega
        · rw [k2 r r0 (by omega) (by omega), g2 r r0 (by omega)]
          obtain ⟨m1, m2, m3⟩ := mn7_ok (fun c => if kid s r c && decide (p < c) then hd s x c else 7) (s 18 0 0).toNat
          have hstep : ∀ c : Int, 0 ≤ c → c < s 18 0 0 → c ≠ p → (if kid s r c && decide (p + -1 < c) then hd s x c else 7) = (if kid s r c && decide (p < c) then hd s x c else 7) := fun c c0 c1 hc => by
            have : decide (p + -1 < c) = decide (p < c) := decide_eq_decide.mpr (by omega)
            rw [this]
          have hat : (if kid s r p && decide (p + -1 < p) then hd s x p else 7) = (if 0 < p ∧ r = s 19 0 p then hd s x p else 7) := by
            rw [decide_eq_true (by omega), Bool.and_true]
            by_cases y : 0 < p ∧ r = s 19 0 p
            · have hk : kid s r p = true := kid_t.mpr ⟨by omega, y.2.symm⟩
              rw [if_pos y, hk]
              rfl
            · have hk : kid s r p = false := by
                rw [← Bool.not_eq_true, kid_t]
                rintro ⟨y1, y2⟩
                exact y ⟨by omega, y2.symm⟩
              rw [if_neg y, hk]
              rfl
          have hat0 : (if kid s r p && decide (p < p) then hd s x p else 7) = 7 := by
            rw [decide_eq_false (by omega), Bool.and_false]
            rfl
          refine mn7_one ?_ (fun c c0 c1 => ?_) ?_
          · split <;> omega
          · by_cases e : c = p
            · rw [e, hat]
              by_cases y : 0 < p ∧ r = s 19 0 p
              · rw [if_pos y]
                split
                · exact Int.le_refl _
                · rename_i z
                  have : ¬ hd s x p < mn7 (fun c => if kid s r c && decide (p < c) then hd s x c else 7) (s 18 0 0).toNat := fun w => z ⟨y.1, y.2, w⟩
                  omega
              · rw [if_neg y, if_neg (fun z => y ⟨z.1, z.2.1⟩)]
                exact m1
            · rw [hstep c c0 (by omega) e]
              have := m2 c c0 c1
              split
              · rename_i z
                have := z.2.2
                omega
              · exact this
          · split
            · rename_i z
              exact Or.inr ⟨p, by omega, by omega, by rw [hat, if_pos ⟨z.1, z.2.1⟩]⟩
            · rcases m3 with y | ⟨c, c0, c1, c2⟩
              · exact Or.inl y
              · by_cases e : c = p
                · left
                  rw [c2, e]
                  exact hat0
                · exact Or.inr ⟨c, c0, c1, by rw [hstep c c0 (by omega) e]; exact c2⟩
      rw [hv, hE1 38 (by decide) (by decide), hE1 19 (by decide) (by decide)]
      refine ⟨q, by omega, ⟨by omega, by omega⟩, ⟨by omega, by omega⟩, fun q7 => ?_, fun q7 => ⟨q, by omega, ?_⟩⟩
      · have hh : hd s x p = mn7 (fun c => if kid s p c then hd s x c else 7) (s 18 0 0).toNat := by rw [hu, if_pos (by omega)]
        rw [← hh]
        refine ⟨q, by omega, ⟨by omega, by omega⟩, fun z => ?_, fun z => ?_⟩
        · exact nxt J1 f1 (by rw [hv, ← hh]) fun r r0 r1 r2 => by rw [if_neg (fun y => by omega)]
        · have hup := lw_up h (p := p) (by omega) h1
          have hmu := g2 (s 19 0 p) (by omega) (by omega)
          have hm8 := (mn7_ok (fun c => if kid s (s 19 0 p) c && decide (p < c) then hd s x c else 7) (s 18 0 0).toNat)
          have zu : zin (J1 90 0 (s 19 0 p)) := by
            rw [hmu]
            have h8 : 0 ≤ mn7 (fun c => if kid s (s 19 0 p) c && decide (p < c) then hd s x c else 7) (s 18 0 0).toNat := by
              rcases hm8.2.2 with y | ⟨c, c0, c1, c2⟩
              · omega
              · have := hd_rng h x c0 (show c < s 18 0 0 by omega)
                rw [c2]
                split <;> omega
            have := hm8.1
            exact ⟨by omega, by omega⟩
          refine ⟨q, by omega, by omega, by omega, ⟨by omega, by omega⟩, zu, fun y => ?_, fun y => ⟨q, by omega, by omega, by omega, ?_⟩⟩
          · exact nxt J1 f1 (by rw [hv, ← hh]) fun r r0 r1 r2 => by
              rw [if_neg]
              rintro ⟨_, w1, w2⟩
              rw [w1] at w2
              omega
          · refine nxt _ (fun b hb => by rw [zup_ne _ _ _ _ hb]; exact f1 b hb) (by rw [zup_nk _ _ (by omega), hv, ← hh]) fun r r0 r1 r2 => ?_
            by_cases e : r = s 19 0 p
            · rw [e, zup_eq, if_pos ⟨z, rfl, y⟩]
            · rw [zup_nk _ _ e, if_neg (fun w => e w.2.1)]
      · have hz := zst h hT x0 x1 q h1
        refine c71 hL (by omega) ⟨hz.1.1, by omega⟩ (zaI_of ?_)
        rw [lsy_is h hT x0 x1 q h1]
        have hh : hd s x p = lsy s x p := by rw [hu, if_neg (by omega)]
        rw [← hh, hE1 19 (by decide) (by decide), zup_eq]
        refine ⟨q, by omega, q, by omega, ⟨by omega, by omega⟩, fun z => ?_, fun z => ?_⟩
        · exact nxt _ (fun b hb => by rw [zup_ne _ _ _ _ hb]; exact f1 b hb) (zup_eq _ _ _ _ _) fun r r0 r1 r2 => by rw [zup_nk _ _ r1, if_neg (fun y => by omega)]
        · have hup := lw_up h (p := p) (by omega) h1
          have hmu := g2 (s 19 0 p) (by omega) (by omega)
          have hm8 := (mn7_ok (fun c => if kid s (s 19 0 p) c && decide (p < c) then hd s x c else 7) (s 18 0 0).toNat)
          have zu : zin (J1 90 0 (s 19 0 p)) := by
            rw [hmu]
            have h8 : 0 ≤ mn7 (fun c => if kid s (s 19 0 p) c && decide (p < c) then hd s x c else 7) (s 18 0 0).toNat := by
              rcases hm8.2.2 with y | ⟨c, c0, c1, c2⟩
              · omega
              · have := hd_rng h x c0 (show c < s 18 0 0 by omega)
                rw [c2]
                split <;> omega
            have := hm8.1
            exact ⟨by omega, by omega⟩
          rw [zup_nk _ _ (show s 19 0 p ≠ p by omega)]
          refine ⟨q, by omega, by omega, by omega, ⟨by omega, by omega⟩, zu, fun y => ?_, fun y => ⟨q, by omega, by omega, by omega, ?_⟩⟩
          · exact nxt _ (fun b hb => by rw [zup_ne _ _ _ _ hb]; exact f1 b hb) (zup_eq _ _ _ _ _) fun r r0 r1 r2 => by
              rw [zup_nk _ _ r1, if_neg]
              rintro ⟨_, w1, w2⟩
              rw [w1] at w2
              omega
          · refine nxt _ (fun b hb => by rw [zup_ne _ _ _ _ hb, zup_ne _ _ _ _ hb]; exact f1 b hb) (by rw [zup_nk _ _ (by omega), zup_eq]) fun r r0 r1 r2 => ?_
            by_cases e : r = s 19 0 p
            · rw [e, zup_eq, if_pos ⟨z, rfl, y⟩]
            · rw [zup_nk _ _ e, zup_nk _ _ r1, if_neg (fun w => e w.2.1)]
  have start : ∀ (n : Nat) (i : Int) (J1 : zJ), n = (s 18 0 0 - i).toNat → 0 ≤ i → i ≤ s 18 0 0 → (∀ b : Nat, b ≠ 90 → J1 b = J b) → (∀ j : Int, 0 ≤ j → j < i → J1 90 0 j = 7) → zGo L xs (D + 1) 66 2 [some (zr 89), some (zi x), some (zi i), none] [] J1 K Q := by
    intro n; induction n using Nat.strongRecOn with
  | _ n ih =>
    intro i J1 hm h0 h1 f1 g1
    have hE1 : EqL s J1 := fun b a c => (f1 b (by omega)).trans (hE b a c)
    refine z66_2 hL ?_
    rw [hE1 18 (by decide) (by decide)]
    refine ⟨⟨by omega, by omega⟩, ⟨by omega, by omega⟩, fun q => ?_, fun q => ⟨h0, by omega, ih _ (by omega) (i + 1) _ rfl (by omega) (by omega) (fun b hb => by rw [zup_ne _ _ _ _ hb]; exact f1 b hb) fun j j0 j1 => ?_⟩⟩
    · refine key _ (s 18 0 0 - 1) J1 rfl (by omega) (by omega) f1 (fun r r0 r1 => by omega) fun r r0 r1 => ?_
      rw [g1 r r0 (by omega)]
      refine mn7_one (Int.le_refl _) (fun c c0 c1 => ?_) (Or.inl rfl)
      rw [decide_eq_false (by omega), Bool.and_false]
      exact Int.le_refl _
    · by_cases e : j = i
      · rw [e, zup_eq]
      · rw [zup_nk _ _ e]
        exact g1 j j0 (by omega)
  exact z66 hL (start _ 0 J rfl (by decide) (by omega) (fun _ _ => rfl) fun j a b => by omega)
theorem c68 {L : Nat} {xs : Nat → Int32} (hL : L ≤ 3072) {D : Nat} {J : zJ} {K : zK} {Q : zR → Nat → zJ → zK → Prop} {s : zJ} (hE : EqL s J) (h : LW s) {x p l : Int} (p0 : 0 ≤ p) (p1 : p < s 18 0 0) (l0 : -1 ≤ l) (l1 : l < 7) (hh : ∀ q : Int, 0 ≤ q → q < s 18 0 0 → J 90 0 q = hd s x q) (hex : ∃ c : Int, 0 ≤ c ∧ c < s 18 0 0 ∧ kid s p c = true ∧ l < hd s x c ∧ hd s x c < 7) (hD : 1 ≤ D) (hQ : ∀ q : Int, 0 ≤ q → q < s 18 0 0 → kid s p q = true → l < hd s x q → hd s x q < 7 → (∀ c : Int, 0 ≤ c → c < s 18 0 0 → kid s p c = true → l < hd s x c → hd s x q ≤ hd s x c) → Q (.inl (some (zi (q)))) 0 J K) : zCall L xs D 68 [zr 89, zi p, zi l] J K Q := by
  obtain ⟨D, rfl⟩ : ∃ d, D = d + 1 := ⟨D - 1, by omega⟩
  have hn := lw_n h
  refine z68 hL ?_
  have key : ∀ (n : Nat) (f m i : Int), n = (s 18 0 0 - i).toNat → p < i → i ≤ s 18 0 0 → ((m = 7 ∧ ∀ c : Int, 0 ≤ c → c < i → kid s p c = true → l < hd s x c → 7 ≤ hd s x c) ∨ (0 ≤ f ∧ f < s 18 0 0 ∧ kid s p f = true ∧ l < m ∧ m < 7 ∧ hd s x f = m ∧ ∀ c : Int, 0 ≤ c → c < i → kid s p c = true → l < hd s x c → m ≤ hd s x c)) → zGo L xs (D + 1) 68 11 [some (zr 89), some (zi p), some (zi l), some (zi f), some (zi m), some (zi i)] [] J K Q := by
    intro n; induction n using Nat.strongRecOn with
  | _ n ih =>
    intro f m i hm h0 h1 hI
    have zm : zin m := by
      rcases hI with ⟨z, _⟩ | ⟨_, _, _, z1, z2, _⟩ <;> exact ⟨by omega, by omega⟩
    refine z68_11 hL ?_
    rw [hE 18 (by decide) (by decide), hE 19 (by decide) (by decide)]
    refine ⟨⟨by omega, by omega⟩, ⟨by omega, by omega⟩, fun q => ?_, fun q => ?_⟩
    · rcases hI with ⟨_, z⟩ | ⟨f0, f1, f2, f3, f4, f5, f6⟩
      · obtain ⟨c, c0, c1, c2, c3, c4⟩ := hex
        have := z c c0 (by omega) c2 c3
        omega
      · exact hQ f f0 f1 f2 (by omega) (by omega) fun c c0 c1 c2 c3 => by
          have := f6 c c0 (by omega) c2 c3
          omega
    · have hp := lw_p h (p := i) (by omega) q
      rw [hh i (by omega) q]
      have hr := hd_rng h x (p := i) (by omega) q
      have skip : (kid s p i = true → l < hd s x i → m ≤ hd s x i) → zGo L xs (D + 1) 68 11 [some (zr 89), some (zi p), some (zi l), some (zi f), some (zi m), some (zi (i + 1))] [] J K Q := by
        intro hs
        refine ih _ (by omega) f m (i + 1) rfl (by omega) (by omega) ?_
        rcases hI with ⟨z, z2⟩ | ⟨f0, f1, f2, f3, f4, f5, f6⟩
        · refine Or.inl ⟨z, fun c c0 c1 c2 c3 => ?_⟩
          by_cases e : c = i
          · rw [e] at c2 c3 ⊢
            have := hs c2 c3
            omega
          · exact z2 c c0 (by omega) c2 c3
        · refine Or.inr ⟨f0, f1, f2, f3, f4, f5, fun c c0 c1 c2 c3 => ?_⟩
          by_cases e : c = i
          · rw [e] at c2 c3 ⊢
            exact hs c2 c3
          · exact f6 c c0 (by omega) c2 c3
      refine ⟨by omega, by omega, ⟨by omega, by omega⟩, ⟨by omega, by omega⟩, fun z => skip fun y => absurd (kid_t.mp y).2 z, fun z => ⟨by omega, by omega, ⟨by omega, by omega⟩, ⟨by omega, by omega⟩, fun z2 => skip fun _ y => by omega, fun z2 => ⟨by omega, by omega, ⟨by omega, by omega⟩, zm, fun z3 => skip fun _ _ => z3, fun z3 => ⟨by omega, by omega, ?_⟩⟩⟩⟩
      have hk : kid s p i = true := kid_t.mpr ⟨h0, z⟩
      have hm7 : m ≤ 7 := by
        rcases hI with ⟨y, _⟩ | ⟨_, _, _, _, y, _⟩ <;> omega
      refine ih _ (by omega) i (hd s x i) (i + 1) rfl (by omega) (by omega) (Or.inr ⟨by omega, q, hk, z2, by omega, rfl, fun c c0 c1 c2 c3 => ?_⟩)
      by_cases e : c = i
      · rw [e]
        exact Int.le_refl _
      · rcases hI with ⟨y, y2⟩ | ⟨_, _, _, _, _, _, y2⟩
        · have := y2 c c0 (by omega) c2 c3
          omega
        · have := y2 c c0 (by omega) c2 c3
          omega
  refine key _ p 7 (p + 1) rfl (by omega) (by omega) (Or.inl ⟨rfl, fun c c0 c1 c2 => ?_⟩)
  have := kid_t.mp c2
  omega
theorem zgb {s : zJ} (h : LW s) (hT : TW s) {x c : Int} (x0 : 0 ≤ x) (x1 : x < 2147483648) (c0 : 0 ≤ c) (c1 : c < s 18 0 0) : zand x (s 37 0 c) = gbs s x c ∧ pct (gbs s x c) 14 = cbh s x c := by
  have hn := lw_n h
  have ht := hT.2.2.2.1 c c0 c1
  have hb := bs_lt (fun k => onb s c (s 24 0 k)) (s 18 0 6).toNat
  have hz := zand_le x0 x1 (y := s 37 0 c) (by rw [ht]; exact hb.1)
  refine ⟨?_, ?_⟩
  · unfold gbs
    refine bs_of hz.1 fun k k0 => ?_
    rw [bt_and x0 x1 (by rw [ht]; exact hb.1), ht, bt_bs _ _ k k0]
    cases decide (k < ((s 18 0 6).toNat : Int)) <;> cases bt x k <;> simp
  · unfold gbs
    rw [pct_bs _ (by omega)]
    rfl
theorem gro_hd {s : zJ} (h : LW s) (x p : Int) : gro s x p = cnt (fun c => kid s p c && decide (hd s x c < 7)) (s 18 0 0).toNat := by
  unfold gro
  refine cnt_cong fun c c0 c1 => ?_
  congr 1
  have h1 := hd_cbh h x c0 (show c < s 18 0 0 by omega)
  have h2 := has_cbh (s := s) (x := x) (q := c)
  rw [Bool.eq_iff_iff, decide_eq_true_iff, h2.1, h1.1]
theorem c72 {L : Nat} {xs : Nat → Int32} (hL : L ≤ 3072) {D : Nat} {J : zJ} {K : zK} {Q : zR → Nat → zJ → zK → Prop} {s : zJ} (hE : EqL s J) (h : LW s) (hT : TW s) {x p o : Int} (x0 : 0 ≤ x) (x1 : x < 2147483648) (p0 : 0 ≤ p) (p1 : p < s 18 0 0) (hh : ∀ q : Int, 0 ≤ q → q < s 18 0 0 → J 90 0 q = hd s x q) (ho : J 91 0 p = o) (hD : 3 ≤ D) (hQ : ∀ J' : zJ, (∀ b : Nat, b ≠ 91 → J' b = J b) → (∀ q : Int, 0 ≤ q → q < s 18 0 0 → kid s p q = true → hd s x q < 7 → J' 91 0 q = o + gT s x p (hd s x q)) → (∀ q : Int, ¬ (0 ≤ q ∧ q < s 18 0 0 ∧ kid s p q = true) → J' 91 0 q = J 91 0 q) → Q (.inl (some (zi (o + gT s x p 7)))) 0 J' K) : zCall L xs D 72 [zr 89, zi x, zi p] J K Q := by
  obtain ⟨D, rfl⟩ : ∃ d, D = d + 1 := ⟨D - 1, by omega⟩
  have hn := lw_n h
  have h7 := pw7 hn.2.2.2.1
  refine z72 hL ⟨p0, by omega, ?_⟩
  refine c69l hL hE h (by omega) p0 p1 ⟨x0, x1⟩ (fun p p0 p1 => by rw [hT.2.2.2.1 p p0 p1]; exact (bs_lt _ _).1) (zaI_of ?_)
  rw [grs_gro h hT x0 x1, gro_hd h, ho]
  have hgr := cnt_rng (fun c => kid s p c && decide (hd s x c < 7)) (s 18 0 0).toNat
  have key : ∀ (n : Nat) (l i : Int) (J1 : zJ), n = (cnt (fun c => kid s p c && decide (hd s x c < 7)) (s 18 0 0).toNat - i).toNat → -1 ≤ l → l < 7 → i = cnt (fun c => kid s p c && decide (hd s x c ≤ l)) (s 18 0 0).toNat → i ≤ cnt (fun c => kid s p c && decide (hd s x c < 7)) (s 18 0 0).toNat → (∀ b : Nat, b ≠ 91 → J1 b = J b) → (∀ q : Int, 0 ≤ q → q < s 18 0 0 → kid s p q = true → hd s x q ≤ l → J1 91 0 q = o + gT s x p (hd s x q)) → (∀ q : Int, ¬ (0 ≤ q ∧ q < s 18 0 0 ∧ kid s p q = true) → J1 91 0 q = J 91 0 q) → zGo L xs (D + 1) 72 21 [some (zr 89), some (zi x), some (zi p), some (zi (o + gT s x p (l + 1))), some (zi (cnt (fun c => kid s p c && decide (hd s x c < 7)) (s 18 0 0).toNat)), some (zi l), some (zi i), none] [] J1 K Q := by
    intro n; induction n using Nat.strongRecOn with
  | _ n ih =>
    intro l i J1 hm l0 l1 hi hile f1 g1 g2
    have hE1 : EqL s J1 := fun b a c => (f1 b (by omega)).trans (hE b a c)
    have hir := cnt_rng (fun c => kid s p c && decide (hd s x c ≤ l)) (s 18 0 0).toNat
    refine z72_21 hL ⟨⟨by omega, by omega⟩, ⟨by omega, by omega⟩, fun q => ?_, fun q => ?_⟩
    · -- all are done
      have hall : ∀ c : Int, 0 ≤ c → c < s 18 0 0 → kid s p c = true → l + 1 ≤ hd s x c → 7 ≤ hd s x c := by
        intro c c0 c1 hk hl
        rcases Int.lt_or_le (hd s x c) 7 with z | z
        · exfalso
          have h1 := cnt_del (R := fun c => kid s p c && decide (hd s x c < 7)) (k := c) (n := (s 18 0 0).toNat) c0 (by omega) (by show (kid s p c && decide (hd s x c < 7)) = true; rw [hk, decide_eq_true z]; rfl)
          have h2 : cnt (fun c => kid s p c && decide (hd s x c ≤ l)) (s 18 0 0).toNat ≤ cnt (fun y => (kid s p y && decide (hd s x y < 7)) && decide (y ≠ c)) (s 18 0 0).toNat := cnt_mono fun y y0 y1 hy => by
            rw [Bool.and_eq_true, decide_eq_true_iff] at hy
            have hne : y ≠ c := fun e => by
              rw [e] at hy
              omega
            rw [hy.1, decide_eq_true (p := hd s x y < 7) (by omega), decide_eq_true hne]
            rfl
          omega
        · exact z
      have e := gT_same h x (p := p) (a := l + 1) (b := 7) p0 (by omega) (Int.le_refl _) hall
      rw [← e]
      refine hQ J1 f1 (fun q q0 q1 hk q7 => g1 q q0 q1 hk ?_) g2
      rcases Int.lt_or_le l (hd s x q) with z | z
      · have := hall q q0 q1 hk (by omega)
        omega
      · exact z
    · have hex : ∃ c : Int, 0 ≤ c ∧ c < s 18 0 0 ∧ kid s p c = true ∧ l < hd s x c ∧ hd s x c < 7 := by
        apply Classical.byContradiction
        intro hno
        have : cnt (fun c => kid s p c && decide (hd s x c < 7)) (s 18 0 0).toNat ≤ cnt (fun c => kid s p c && decide (hd s x c ≤ l)) (s 18 0 0).toNat := cnt_mono fun y y0 y1 hy => by
          rw [Bool.and_eq_true, decide_eq_true_iff] at hy
          have : ¬ l < hd s x y := fun z => hno ⟨y, y0, by omega, hy.1, z, hy.2⟩
          rw [hy.1, decide_eq_true (by omega)]
          rfl
        omega
      refine c68 hL hE1 h p0 p1 l0 l1 (fun q q0 q1 => by rw [f1 90 (by decide)]; exact hh q q0 q1) hex (by omega) fun c c0 c1 hk hl c7 hmin => zaI_of ⟨c0, by omega, c0, by omega, c0, by omega, ?_⟩
      have hg := bs_lt (fun k => bt x k && onb s c (s 24 0 k)) (s 18 0 6).toNat
      have hz := zgb h hT x0 x1 c0 c1
      rw [hE1 37 (by decide) (by decide), hz.1, f1 90 (by decide), hh c c0 c1]
      have hgl : 0 ≤ gbs s x c ∧ gbs s x c < 2 ^ (s 18 0 6).toNat := hg
      refine c317 hL (by omega) hgl.1 (by omega) (zaI_of ?_)
      rw [hz.2]
      have hs := gT_step h x p0 c1 hk c7
      have e := gT_same h x (p := p) (a := l + 1) (b := hd s x c) p0 (by omega) (by omega) fun d d0 d1 hd' hl' => hmin d d0 d1 hd' (by omega)
      have e2 : o + gT s x p (l + 1) + cbh s x c = o + gT s x p (hd s x c + 1) := by omega
      rw [e2]
      have hcnt : cnt (fun y => kid s p y && decide (hd s x y ≤ hd s x c)) (s 18 0 0).toNat = cnt (fun y => kid s p y && decide (hd s x y ≤ l)) (s 18 0 0).toNat + 1 := by
        rw [cnt_del (R := fun y => kid s p y && decide (hd s x y ≤ hd s x c)) (k := c) c0 (by omega) (by show (kid s p c && decide (hd s x c ≤ hd s x c)) = true; rw [hk, decide_eq_true (Int.le_refl _)]; rfl)]
        congr 1
        refine cnt_cong fun y y0 y1 => ?_
        show (kid s p y && decide (hd s x y ≤ hd s x c) && decide (y ≠ c)) = (kid s p y && decide (hd s x y ≤ l))
        cases hy : kid s p y with
        | false => rfl
        | true =>
          rw [Bool.true_and, Bool.true_and]
          by_cases ey : y = c
          · rw [decide_eq_false (p := y ≠ c) (fun z => z ey), Bool.and_false, ey, decide_eq_false (by omega)]
          · rw [decide_eq_true (p := y ≠ c) ey, Bool.and_true]
            have hm2 := hmin y y0 (by omega) hy
            have hne : hd s x y ≠ hd s x c := fun z => ey (hd_inj h x p0 (by omega) c1 hy hk (by omega) z)
            exact decide_eq_decide.mpr (by omega)
      have hle : cnt (fun y => kid s p y && decide (hd s x y ≤ hd s x c)) (s 18 0 0).toNat ≤ cnt (fun c => kid s p c && decide (hd s x c < 7)) (s 18 0 0).toNat := cnt_mono fun y y0 y1 hy => by
        rw [Bool.and_eq_true, decide_eq_true_iff] at hy
        rw [hy.1, decide_eq_true (by omega)]
        rfl
      refine ih _ (by omega) (hd s x c) (i + 1) _ rfl (by omega) c7 (by omega) (by omega) (fun b hb => by rw [zup_ne _ _ _ _ hb]; exact f1 b hb) (fun q q0 q1 hq hql => ?_) (fun q hq => ?_)
      · by_cases eq : q = c
        · rw [eq, zup_eq, e]
        · have hne : hd s x q ≠ hd s x c := fun z => eq (hd_inj h x p0 q1 c1 hq hk (by omega) z)
          rw [zup_nk _ _ eq]
          refine g1 q q0 q1 hq ?_
          rcases Int.lt_or_le l (hd s x q) with z | z
          · have := hmin q q0 q1 hq z
            omega
          · exact z
      · have : q ≠ c := fun z => hq ⟨by omega, by omega, by rw [z]; exact hk⟩
        rw [zup_nk _ _ this]
        exact g2 q hq
  have z0 : cnt (fun c => kid s p c && decide (hd s x c ≤ -1)) (s 18 0 0).toNat = 0 := sm_zero fun c c0 c1 => by
    have := hd_rng h x c0 (show c < s 18 0 0 by omega)
    show zb (kid s p c && decide (hd s x c ≤ -1)) = 0
    rw [decide_eq_false (by omega), Bool.and_false]
    rfl
  have hk := key _ (-1) 0 J rfl (by decide) (by decide) z0.symm (by omega) (fun _ _ => rfl) (fun q q0 q1 _ hq => by have := hd_rng h x q0 q1; omega) (fun _ _ => rfl)
  have e0 : gT s x p (-1 + 1) = 0 := gT_0 h x p0
  rw [e0, Int.add_zero] at hk
  exact hk
theorem c73 {L : Nat} {xs : Nat → Int32} (hL : L ≤ 3072) {D : Nat} {J : zJ} {K : zK} {Q : zR → Nat → zJ → zK → Prop} {s : zJ} (hE : EqL s J) (h : LW s) {x p y o : Int} (y0 : 0 ≤ y) (y1 : y < 128) (hy : ∀ k : Int, 0 ≤ k → bt y k = (decide (k < s 18 0 6) && stb s x p k)) (o0 : 0 ≤ o) (o1 : o + sty s x p ≤ 7) (hD : 1 ≤ D) (hQ : ∀ J' : zJ, (∀ b : Nat, b ≠ 141 → J' b = J b) → (∀ k : Int, 0 ≤ k → k < s 18 0 6 → stb s x p k = true → J' 141 0 (o + cnt (stb s x p) k.toNat) = k) → (∀ i : Int, i < o ∨ o + sty s x p ≤ i → J' 141 0 i = J 141 0 i) → Q (.inl none) 0 J' K) : zCall L xs D 73 [zr 89, zi y, zr 141, zi o] J K Q := by
  obtain ⟨D, rfl⟩ : ∃ d, D = d + 1 := ⟨D - 1, by omega⟩
  have hn := lw_n h
  refine z73 hL ?_
  have key : ∀ (n : Nat) (k : Int) (J1 : zJ), n = (s 18 0 6 - k).toNat → 0 ≤ k → k ≤ s 18 0 6 → (∀ b : Nat, b ≠ 141 → J1 b = J b) → (∀ j : Int, 0 ≤ j → j < k → stb s x p j = true → J1 141 0 (o + cnt (stb s x p) j.toNat) = j) → (∀ i : Int, i < o ∨ o + sty s x p ≤ i → J1 141 0 i = J 141 0 i) → zGo L xs (D + 1) 73 6 [some (zr 89), some (zi y), some (zr 141), none, some (zi (o + cnt (stb s x p) k.toNat)), some (zi k)] [] J1 K Q := by
    intro n; induction n using Nat.strongRecOn with
  | _ n ih =>
    intro k J1 hm h0 h1 f1 g1 g2
    have hE1 : EqL s J1 := fun b a c => (f1 b (by omega)).trans (hE b a c)
    refine z73_6 hL ?_
    rw [hE1 18 (by decide) (by decide), bt_shz y0 (by omega)]
    refine ⟨⟨by omega, by omega⟩, ⟨by omega, by omega⟩, fun q => ?_, fun q => ⟨⟨by omega, by omega⟩, h0, by omega, zin_zb _, fun z => ?_, fun z => ?_⟩⟩
    · exact hQ J1 f1 (fun j j0 j1 hj => g1 j j0 (by omega) hj) g2
    · have z := zb_0.mp z
      rw [hy k h0, decide_eq_true q, Bool.true_and] at z
      have hi := ih _ (by omega) (k + 1) J1 rfl (by omega) (by omega) f1 (fun j j0 j1 hj => by
        by_cases e : j = k
        · rw [e, z] at hj
          cases hj
        · exact g1 j j0 (by omega) hj) g2
      rw [cnt_next h0, z, zb_f, Int.add_zero] at hi
      exact hi
    · have z := zb_1.mp z
      rw [hy k h0, decide_eq_true q, Bool.true_and] at z
      have hlt : cnt (stb s x p) k.toNat < sty s x p := cnt_lt (P := stb s x p) (k := s 18 0 6) h0 q z
      have hcr := cnt_rng (stb s x p) k.toNat
      refine ⟨by omega, by omega, ?_⟩
      have hi := ih _ (by omega) (k + 1) (zup J1 141 0 (o + cnt (stb s x p) k.toNat) k) rfl (by omega) (by omega) (fun b hb => by rw [zup_ne _ _ _ _ hb]; exact f1 b hb) (fun j j0 j1 hj => by
        by_cases e : j = k
        · rw [e, zup_eq]
        · have := cnt_lt (P := stb s x p) j0 (show j < k by omega) hj
          rw [zup_nk _ _ (by omega)]
          exact g1 j j0 (by omega) hj) (fun i hi2 => by
        rw [zup_nk _ _ (by omega)]
        exact g2 i hi2)
      rw [cnt_next h0, z, zb_t] at hi
      have e : o + (cnt (stb s x p) k.toNat + 1) = o + cnt (stb s x p) k.toNat + 1 := by omega
      rw [e] at hi
      exact hi
  have hk := key _ 0 J rfl (by decide) (by omega) (fun _ _ => rfl) (fun j j0 j1 => by omega) (fun _ _ => rfl)
  have e0 : cnt (stb s x p) (0 : Int).toNat = 0 := rfl
  rw [e0, Int.add_zero] at hk
  exact hk
theorem c67 {L : Nat} {xs : Nat → Int32} (hL : L ≤ 3072) {D : Nat} {J : zJ} {K : zK} {Q : zR → Nat → zJ → zK → Prop} {s : zJ} (hE : EqL s J) (h : LW s) (hT : TW s) {x o : Int} (x0 : 0 ≤ x) (x1 : x < 2147483648) (o0 : 0 ≤ o) (o1 : o + cbh s x 0 ≤ 7) (hD : 5 ≤ D) (hQ : ∀ J' : zJ, (∀ b : Nat, b ≠ 90 → b ≠ 91 → b ≠ 141 → J' b = J b) → (∀ i : Int, 0 ≤ i → i < cbh s x 0 → J' 141 0 (o + i) = sq s x 0 i) → (∀ i : Int, i < o ∨ o + cbh s x 0 ≤ i → J' 141 0 i = J 141 0 i) → Q (.inl none) 0 J' K) : zCall L xs D 67 [zr 89, zi x, zr 141, zi o] J K Q := by
  obtain ⟨D, rfl⟩ : ∃ d, D = d + 1 := ⟨D - 1, by omega⟩
  have hn := lw_n h
  refine z67 hL ?_
  refine c66 hL hE h hT x0 x1 (by omega) fun J1 f1 hh => zaV_of ⟨by decide, by decide, ?_⟩
  have key : ∀ (n : Nat) (p : Int) (J2 : zJ), n = (s 18 0 0 - p).toNat → 0 ≤ p → p ≤ s 18 0 0 → (∀ b : Nat, b ≠ 90 → b ≠ 91 → b ≠ 141 → J2 b = J b) → J2 90 = J1 90 → (∀ q : Int, 0 ≤ q → q < s 18 0 0 → hd s x q < 7 → (q = 0 ∨ s 19 0 q < p) → J2 91 0 q = o + pos s x q) → (∀ k : Int, 0 ≤ k → k < s 18 0 6 → bt x k = true → s 24 0 k < p → J2 141 0 (o + spt s x k) = k) → (∀ i : Int, i < o ∨ o + cbh s x 0 ≤ i → J2 141 0 i = J 141 0 i) → zGo L xs (D + 1) 67 15 [some (zr 89), some (zi x), some (zr 141), none, some (zi p), none] [] J2 K Q := by
    intro n; induction n using Nat.strongRecOn with
  | _ n ih =>
    intro p J2 hm h0 h1 f2 e90 g1 g2 g3
    have hE2 : EqL s J2 := fun b a c => (f2 b (by omega) (by omega) (by omega)).trans (hE b a c)
    refine z67_15 hL ?_
    rw [hE2 18 (by decide) (by decide), hE2 37 (by decide) (by decide)]
    refine ⟨⟨by omega, by omega⟩, ⟨by omega, by omega⟩, fun q => ?_, fun q => ?_⟩
    · refine hQ J2 f2 (fun i i0 i1 => ?_) g3
      have hN : 0 < s 18 0 0 := by
        obtain ⟨k, k0, k1, _⟩ := cnt_pos.mp (show 0 < cbh s x 0 by omega)
        have := lw_k h k0 (by omega)
        omega
      obtain ⟨k, k0, k1, k2, k3, k4⟩ := sq_at h x hN i0 i1
      have hk := lw_k h k0 k1
      rw [k4, ← k3]
      exact g2 k k0 k1 k2 (by omega)
    · have hz := zgb h hT x0 x1 h0 q
      have hg := bs_lt (fun k => bt x k && onb s p (s 24 0 k)) (s 18 0 6).toNat
      have hgl : 0 ≤ gbs s x p ∧ gbs s x p < 2 ^ (s 18 0 6).toNat := hg
      have h7 := pw7 hn.2.2.2.1
      have hhas : gbs s x p ≠ 0 ↔ hd s x p < 7 := by
        have h1 := hd_cbh h x h0 q
        have h2 := has_cbh (s := s) (x := x) (q := p)
        rw [h1.1, ← h2.1]
        unfold has
        rw [decide_eq_true_iff]
      rw [hz.1]
      refine ⟨h0, by omega, ⟨by omega, by omega⟩, fun z => ?_, fun z => ?_⟩
      · have hno : ¬ hd s x p < 7 := fun y => (hhas.mpr y) z
        refine ih _ (by omega) (p + 1) J2 rfl (by omega) (by omega) f2 e90 (fun r r0 r1 r7 hr => ?_) (fun k k0 k1 k2 k3 => ?_) g3
        · by_cases e : s 19 0 r = p ∧ r ≠ 0
          · exfalso
            have := hd_up h x (q := r) (by omega) r1 r7
            rw [e.1] at this
            exact hno this
          · exact g1 r r0 r1 r7 (by omega)
        · by_cases e : s 24 0 k = p
          · exfalso
            exact hno ((hd_has h x h0 q).mpr ⟨k, k0, k1, k2, by rw [e]; exact on_self s p⟩)
          · exact g2 k k0 k1 k2 (by omega)
      · have p7 : hd s x p < 7 := hhas.mp z
        obtain ⟨⟨s1, s2⟩, s3⟩ := sq_pos h x p h0 q p7
        have hop : J2 91 0 p = o + pos s x p := g1 p h0 q p7 (by
          by_cases e : p = 0
          · exact Or.inl e
          · exact Or.inr (lw_up h (by omega) q).1)
        have hc7 := gT_7 h x h0 q
        have hgn := gT_nn (s := s) x p 7
        refine c72 hL hE2 h hT x0 x1 h0 q (fun r r0 r1 => by rw [e90]; exact hh r r0 r1) hop (by omega) fun J3 f3 k1 k2 => zaI_of ⟨h0, by omega, ?_⟩
        have hE3 : EqL s J3 := fun b a c => (f3 b (by omega)).trans (hE2 b a c)
        have hst := zst h hT x0 x1 h0 q
        rw [hE3 38 (by decide) (by decide)]
        refine c73 hL hE3 h hst.1.1 hst.1.2 hst.2 (by omega) (by omega) (by omega) fun J4 f4 m1 m2 => zaV_of ?_
        refine ih _ (by omega) (p + 1) J4 rfl (by omega) (by omega) (fun b a c d => by rw [f4 b d, f3 b c]; exact f2 b a c d) (by rw [f4 90 (by decide), f3 90 (by decide)]; exact e90) (fun r r0 r1 r7 hr => ?_) (fun k k0 k1' k2' k3' => ?_) (fun i hi => ?_)
        · rw [f4 91 (by decide)]
          by_cases e : s 19 0 r = p ∧ r ≠ 0
          · have hk : kid s p r = true := by
              have := kid_up h (q := r) (by omega) r1
              rw [e.1] at this
              exact this
            rw [k1 r r0 r1 hk r7, pos_up h x (by omega) r1, e.1]
            omega
          · rw [k2 r fun y => e ⟨(kid_t.mp y.2.2).2, by have := (kid_t.mp y.2.2).1; omega⟩]
            exact g1 r r0 r1 r7 (by omega)
        · have hsk := spt_ok h x k0 k1' k2'
          by_cases e : s 24 0 k = p
          · have hstk : stb s x p k = true := by
              unfold stb
              rw [k2', decide_eq_true e]
              rfl
            have := m1 k k0 k1' hstk
            have e2 : o + spt s x k = o + pos s x p + gT s x p 7 + cnt (stb s x p) k.toNat := by
              unfold spt
              rw [e]
              omega
            rw [e2]
            exact this
          · -- another place's: what was written there is the same
            by_cases hin : o + spt s x k < o + pos s x p + gT s x p 7 ∨ o + pos s x p + gT s x p 7 + sty s x p ≤ o + spt s x k
            · rw [m2 _ hin, f3 141 (by decide)]
              exact g2 k k0 k1' k2' (by omega)
            · exfalso
              obtain ⟨l, l0, l1, l2, l3⟩ := cnt_nth (P := stb s x p) (s 18 0 6).toNat (spt s x k - pos s x p - gT s x p 7) (by omega) (by
                have e3 : cnt (stb s x p) (s 18 0 6).toNat = sty s x p := rfl
                rw [e3]
                omega)
              have l2' := l2
              unfold stb at l2'
              rw [Bool.and_eq_true, decide_eq_true_iff] at l2'
              have hsl := spt_ok h x l0 (by omega) l2'.1
              have e4 : spt s x l = spt s x k := by
                have : spt s x l = pos s x p + gT s x p 7 + cnt (stb s x p) l.toNat := by
                  unfold spt
                  rw [l2'.2]
                omega
              rw [e4, hsk.2.2] at hsl
              rw [hsl.2.2] at e
              exact e l2'.2
        · rw [m2 i (by omega), f3 141 (by decide)]
          exact g3 i hi
  refine key _ 0 _ rfl (by decide) (by omega) (fun b a c d => by rw [zup_ne _ _ _ _ c]; exact f1 b a) (by rw [zup_ne _ _ _ _ (by decide)]) (fun r r0 r1 r7 hr => ?_) (fun k k0 k1 k2 k3 => ?_) (fun i _ => by rw [zup_ne _ _ _ _ (by decide), f1 141 (by decide)])
  · have e : r = 0 := by
      rcases hr with y | y
      · exact y
      · have := lw_p h r0 r1
        omega
    rw [e, zup_eq, pos_0]
    omega
  · have := lw_k h k0 k1
    omega
theorem c73a {L : Nat} {xs : Nat → Int32} (hL : L ≤ 3072) {D : Nat} {J : zJ} {K : zK} {Q : zR → Nat → zJ → zK → Prop} {s : zJ} (hE : EqL s J) (h : LW s) {x p y o : Int} (y0 : 0 ≤ y) (y1 : y < 128) (hy : ∀ k : Int, 0 ≤ k → bt y k = (decide (k < s 18 0 6) && stb s x p k)) (o0 : 0 ≤ o) (o1 : o + sty s x p ≤ 28) (hD : 1 ≤ D) (hQ : ∀ J' : zJ, (∀ b : Nat, b ≠ 43 → J' b = J b) → (∀ k : Int, 0 ≤ k → k < s 18 0 6 → stb s x p k = true → J' 43 0 (o + cnt (stb s x p) k.toNat) = k) → (∀ i : Int, i < o ∨ o + sty s x p ≤ i → J' 43 0 i = J 43 0 i) → Q (.inl none) 0 J' K) : zCall L xs D 73 [zr 89, zi y, zr 43, zi o] J K Q := by
  obtain ⟨D, rfl⟩ : ∃ d, D = d + 1 := ⟨D - 1, by omega⟩
  have hn := lw_n h
  refine z73a hL ?_
  have key : ∀ (n : Nat) (k : Int) (J1 : zJ), n = (s 18 0 6 - k).toNat → 0 ≤ k → k ≤ s 18 0 6 → (∀ b : Nat, b ≠ 43 → J1 b = J b) → (∀ j : Int, 0 ≤ j → j < k → stb s x p j = true → J1 43 0 (o + cnt (stb s x p) j.toNat) = j) → (∀ i : Int, i < o ∨ o + sty s x p ≤ i → J1 43 0 i = J 43 0 i) → zGo L xs (D + 1) 73 6 [some (zr 89), some (zi y), some (zr 43), none, some (zi (o + cnt (stb s x p) k.toNat)), some (zi k)] [] J1 K Q := by
    intro n; induction n using Nat.strongRecOn with
  | _ n ih =>
    intro k J1 hm h0 h1 f1 g1 g2
    have hE1 : EqL s J1 := fun b a c => (f1 b (by omega)).trans (hE b a c)
    refine z73a_6 hL ?_
    rw [hE1 18 (by decide) (by decide), bt_shz y0 (by omega)]
    refine ⟨⟨by omega, by omega⟩, ⟨by omega, by omega⟩, fun q => ?_, fun q => ⟨⟨by omega, by omega⟩, h0, by omega, zin_zb _, fun z => ?_, fun z => ?_⟩⟩
    · exact hQ J1 f1 (fun j j0 j1 hj => g1 j j0 (by omega) hj) g2
    · have z := zb_0.mp z
      rw [hy k h0, decide_eq_true q, Bool.true_and] at z
      have hi := ih _ (by omega) (k + 1) J1 rfl (by omega) (by omega) f1 (fun j j0 j1 hj => by
        by_cases e : j = k
        · rw [e, z] at hj
          cases hj
        · exact g1 j j0 (by omega) hj) g2
      rw [cnt_next h0, z, zb_f, Int.add_zero] at hi
      exact hi
    · have z := zb_1.mp z
      rw [hy k h0, decide_eq_true q, Bool.true_and] at z
      have hlt : cnt (stb s x p) k.toNat < sty s x p := cnt_lt (P := stb s x p) (k := s 18 0 6) h0 q z
      have hcr := cnt_rng (stb s x p) k.toNat
      refine ⟨by omega, by omega, ?_⟩
      have hi := ih _ (by omega) (k + 1) (zup J1 43 0 (o + cnt (stb s x p) k.toNat) k) rfl (by omega) (by omega) (fun b hb => by rw [zup_ne _ _ _ _ hb]; exact f1 b hb) (fun j j0 j1 hj => by
        by_cases e : j = k
        · rw [e, zup_eq]
        · have := cnt_lt (P := stb s x p) j0 (show j < k by omega) hj
          rw [zup_nk _ _ (by omega)]
          exact g1 j j0 (by omega) hj) (fun i hi2 => by
        rw [zup_nk _ _ (by omega)]
        exact g2 i hi2)
      rw [cnt_next h0, z, zb_t] at hi
      have e : o + (cnt (stb s x p) k.toNat + 1) = o + cnt (stb s x p) k.toNat + 1 := by omega
      rw [e] at hi
      exact hi
  have hk := key _ 0 J rfl (by decide) (by omega) (fun _ _ => rfl) (fun j j0 j1 => by omega) (fun _ _ => rfl)
  have e0 : cnt (stb s x p) (0 : Int).toNat = 0 := rfl
  rw [e0, Int.add_zero] at hk
  exact hk
theorem c67a {L : Nat} {xs : Nat → Int32} (hL : L ≤ 3072) {D : Nat} {J : zJ} {K : zK} {Q : zR → Nat → zJ → zK → Prop} {s : zJ} (hE : EqL s J) (h : LW s) (hT : TW s) {x o : Int} (x0 : 0 ≤ x) (x1 : x < 2147483648) (o0 : 0 ≤ o) (o1 : o + cbh s x 0 ≤ 28) (hD : 5 ≤ D) (hQ : ∀ J' : zJ, (∀ b : Nat, b ≠ 90 → b ≠ 91 → b ≠ 43 → J' b = J b) → (∀ i : Int, 0 ≤ i → i < cbh s x 0 → J' 43 0 (o + i) = sq s x 0 i) → (∀ i : Int, i < o ∨ o + cbh s x 0 ≤ i → J' 43 0 i = J 43 0 i) → Q (.inl none) 0 J' K) : zCall L xs D 67 [zr 89, zi x, zr 43, zi o] J K Q := by
  obtain ⟨D, rfl⟩ : ∃ d, D = d + 1 := ⟨D - 1, by omega⟩
  have hn := lw_n h
  refine z67a hL ?_
  refine c66 hL hE h hT x0 x1 (by omega) fun J1 f1 hh => zaV_of ⟨by decide, by decide, ?_⟩
  have key : ∀ (n : Nat) (p : Int) (J2 : zJ), n = (s 18 0 0 - p).toNat → 0 ≤ p → p ≤ s 18 0 0 → (∀ b : Nat, b ≠ 90 → b ≠ 91 → b ≠ 43 → J2 b = J b) → J2 90 = J1 90 → (∀ q : Int, 0 ≤ q → q < s 18 0 0 → hd s x q < 7 → (q = 0 ∨ s 19 0 q < p) → J2 91 0 q = o + pos s x q) → (∀ k : Int, 0 ≤ k → k < s 18 0 6 → bt x k = true → s 24 0 k < p → J2 43 0 (o + spt s x k) = k) → (∀ i : Int, i < o ∨ o + cbh s x 0 ≤ i → J2 43 0 i = J 43 0 i) → zGo L xs (D + 1) 67 15 [some (zr 89), some (zi x), some (zr 43), none, some (zi p), none] [] J2 K Q := by
    intro n; induction n using Nat.strongRecOn with
  | _ n ih =>
    intro p J2 hm h0 h1 f2 e90 g1 g2 g3
    have hE2 : EqL s J2 := fun b a c => (f2 b (by omega) (by omega) (by omega)).trans (hE b a c)
    refine z67a_15 hL ?_
    rw [hE2 18 (by decide) (by decide), hE2 37 (by decide) (by decide)]
    refine ⟨⟨by omega, by omega⟩, ⟨by omega, by omega⟩, fun q => ?_, fun q => ?_⟩
    · refine hQ J2 f2 (fun i i0 i1 => ?_) g3
      have hN : 0 < s 18 0 0 := by
        obtain ⟨k, k0, k1, _⟩ := cnt_pos.mp (show 0 < cbh s x 0 by omega)
        have := lw_k h k0 (by omega)
        omega
      obtain ⟨k, k0, k1, k2, k3, k4⟩ := sq_at h x hN i0 i1
      have hk := lw_k h k0 k1
      rw [k4, ← k3]
      exact g2 k k0 k1 k2 (by omega)
    · have hz := zgb h hT x0 x1 h0 q
      have hg := bs_lt (fun k => bt x k && onb s p (s 24 0 k)) (s 18 0 6).toNat
      have hgl : 0 ≤ gbs s x p ∧ gbs s x p < 2 ^ (s 18 0 6).toNat := hg
      have h7 := pw7 hn.2.2.2.1
      have hhas : gbs s x p ≠ 0 ↔ hd s x p < 7 := by
        have h1 := hd_cbh h x h0 q
        have h2 := has_cbh (s := s) (x := x) (q := p)
        rw [h1.1, ← h2.1]
        unfold has
        rw [decide_eq_true_iff]
      rw [hz.1]
      refine ⟨h0, by omega, ⟨by omega, by omega⟩, fun z => ?_, fun z => ?_⟩
      · have hno : ¬ hd s x p < 7 := fun y => (hhas.mpr y) z
        refine ih _ (by omega) (p + 1) J2 rfl (by omega) (by omega) f2 e90 (fun r r0 r1 r7 hr => ?_) (fun k k0 k1 k2 k3 => ?_) g3
        · by_cases e : s 19 0 r = p ∧ r ≠ 0
          · exfalso
            have := hd_up h x (q := r) (by omega) r1 r7
            rw [e.1] at this
            exact hno this
          · exact g1 r r0 r1 r7 (by omega)
        · by_cases e : s 24 0 k = p
          · exfalso
            exact hno ((hd_has h x h0 q).mpr ⟨k, k0, k1, k2, by rw [e]; exact on_self s p⟩)
          · exact g2 k k0 k1 k2 (by omega)
      · have p7 : hd s x p < 7 := hhas.mp z
        obtain ⟨⟨s1, s2⟩, s3⟩ := sq_pos h x p h0 q p7
        have hop : J2 91 0 p = o + pos s x p := g1 p h0 q p7 (by
          by_cases e : p = 0
          · exact Or.inl e
          · exact Or.inr (lw_up h (by omega) q).1)
        have hc7 := gT_7 h x h0 q
        have hgn := gT_nn (s := s) x p 7
        refine c72 hL hE2 h hT x0 x1 h0 q (fun r r0 r1 => by rw [e90]; exact hh r r0 r1) hop (by omega) fun J3 f3 k1 k2 => zaI_of ⟨h0, by omega, ?_⟩
        have hE3 : EqL s J3 := fun b a c => (f3 b (by omega)).trans (hE2 b a c)
        have hst := zst h hT x0 x1 h0 q
        rw [hE3 38 (by decide) (by decide)]
        refine c73a hL hE3 h hst.1.1 hst.1.2 hst.2 (by omega) (by omega) (by omega) fun J4 f4 m1 m2 => zaV_of ?_
        refine ih _ (by omega) (p + 1) J4 rfl (by omega) (by omega) (fun b a c d => by rw [f4 b d, f3 b c]; exact f2 b a c d) (by rw [f4 90 (by decide), f3 90 (by decide)]; exact e90) (fun r r0 r1 r7 hr => ?_) (fun k k0 k1' k2' k3' => ?_) (fun i hi => ?_)
        · rw [f4 91 (by decide)]
          by_cases e : s 19 0 r = p ∧ r ≠ 0
          · have hk : kid s p r = true := by
              have := kid_up h (q := r) (by omega) r1
              rw [e.1] at this
              exact this
            rw [k1 r r0 r1 hk r7, pos_up h x (by omega) r1, e.1]
            omega
          · rw [k2 r fun y => e ⟨(kid_t.mp y.2.2).2, by have := (kid_t.mp y.2.2).1; omega⟩]
            exact g1 r r0 r1 r7 (by omega)
        · have hsk := spt_ok h x k0 k1' k2'
          by_cases e : s 24 0 k = p
          · have hstk : stb s x p k = true := by
              unfold stb
              rw [k2', decide_eq_true e]
              rfl
            have := m1 k k0 k1' hstk
            have e2 : o + spt s x k = o + pos s x p + gT s x p 7 + cnt (stb s x p) k.toNat := by
              unfold spt
              rw [e]
              omega
            rw [e2]
            exact this
          · -- another place's: what was written there is the same
            by_cases hin : o + spt s x k < o + pos s x p + gT s x p 7 ∨ o + pos s x p + gT s x p 7 + sty s x p ≤ o + spt s x k
            · rw [m2 _ hin, f3 43 (by decide)]
              exact g2 k k0 k1' k2' (by omega)
            · exfalso
              obtain ⟨l, l0, l1, l2, l3⟩ := cnt_nth (P := stb s x p) (s 18 0 6).toNat (spt s x k - pos s x p - gT s x p 7) (by omega) (by
                have e3 : cnt (stb s x p) (s 18 0 6).toNat = sty s x p := rfl
                rw [e3]
                omega)
              have l2' := l2
              unfold stb at l2'
              rw [Bool.and_eq_true, decide_eq_true_iff] at l2'
              have hsl := spt_ok h x l0 (by omega) l2'.1
              have e4 : spt s x l = spt s x k := by
                have : spt s x l = pos s x p + gT s x p 7 + cnt (stb s x p) l.toNat := by
                  unfold spt
                  rw [l2'.2]
                omega
              rw [e4, hsk.2.2] at hsl
              rw [hsl.2.2] at e
              exact e l2'.2
        · rw [m2 i (by omega), f3 43 (by decide)]
          exact g3 i hi
  refine key _ 0 _ rfl (by decide) (by omega) (fun b a c d => by rw [zup_ne _ _ _ _ c]; exact f1 b a) (by rw [zup_ne _ _ _ _ (by decide)]) (fun r r0 r1 r7 hr => ?_) (fun k k0 k1 k2 k3 => ?_) (fun i _ => by rw [zup_ne _ _ _ _ (by decide), f1 43 (by decide)])
  · have e : r = 0 := by
      rcases hr with y | y
      · exact y
      · have := lw_p h r0 r1
        omega
    rw [e, zup_eq, pos_0]
    omega
  · have := lw_k h k0 k1
    omega
theorem c73b {L : Nat} {xs : Nat → Int32} (hL : L ≤ 3072) {D : Nat} {J : zJ} {K : zK} {Q : zR → Nat → zJ → zK → Prop} {s : zJ} (hE : EqL s J) (h : LW s) {x p y o : Int} (y0 : 0 ≤ y) (y1 : y < 128) (hy : ∀ k : Int, 0 ≤ k → bt y k = (decide (k < s 18 0 6) && stb s x p k)) (o0 : 0 ≤ o) (o1 : o + sty s x p ≤ 7) (hD : 1 ≤ D) (hQ : ∀ J' : zJ, (∀ b : Nat, b ≠ 115 → J' b = J b) → (∀ k : Int, 0 ≤ k → k < s 18 0 6 → stb s x p k = true → J' 115 0 (o + cnt (stb s x p) k.toNat) = k) → (∀ i : Int, i < o ∨ o + sty s x p ≤ i → J' 115 0 i = J 115 0 i) → Q (.inl none) 0 J' K) : zCall L xs D 73 [zr 89, zi y, zr 115, zi o] J K Q := by
  obtain ⟨D, rfl⟩ : ∃ d, D = d + 1 := ⟨D - 1, by omega⟩
  have hn := lw_n h
  refine z73b hL ?_
  have key : ∀ (n : Nat) (k : Int) (J1 : zJ), n = (s 18 0 6 - k).toNat → 0 ≤ k → k ≤ s 18 0 6 → (∀ b : Nat, b ≠ 115 → J1 b = J b) → (∀ j : Int, 0 ≤ j → j < k → stb s x p j = true → J1 115 0 (o + cnt (stb s x p) j.toNat) = j) → (∀ i : Int, i < o ∨ o + sty s x p ≤ i → J1 115 0 i = J 115 0 i) → zGo L xs (D + 1) 73 6 [some (zr 89), some (zi y), some (zr 115), none, some (zi (o + cnt (stb s x p) k.toNat)), some (zi k)] [] J1 K Q := by
    intro n; induction n using Nat.strongRecOn with
  | _ n ih =>
    intro k J1 hm h0 h1 f1 g1 g2
    have hE1 : EqL s J1 := fun b a c => (f1 b (by omega)).trans (hE b a c)
    refine z73b_6 hL ?_
    rw [hE1 18 (by decide) (by decide), bt_shz y0 (by omega)]
    refine ⟨⟨by omega, by omega⟩, ⟨by omega, by omega⟩, fun q => ?_, fun q => ⟨⟨by omega, by omega⟩, h0, by omega, zin_zb _, fun z => ?_, fun z => ?_⟩⟩
    · exact hQ J1 f1 (fun j j0 j1 hj => g1 j j0 (by omega) hj) g2
    · have z := zb_0.mp z
      rw [hy k h0, decide_eq_true q, Bool.true_and] at z
      have hi := ih _ (by omega) (k + 1) J1 rfl (by omega) (by omega) f1 (fun j j0 j1 hj => by
        by_cases e : j = k
        · rw [e, z] at hj
          cases hj
        · exact g1 j j0 (by omega) hj) g2
      rw [cnt_next h0, z, zb_f, Int.add_zero] at hi
      exact hi
    · have z := zb_1.mp z
      rw [hy k h0, decide_eq_true q, Bool.true_and] at z
      have hlt : cnt (stb s x p) k.toNat < sty s x p := cnt_lt (P := stb s x p) (k := s 18 0 6) h0 q z
      have hcr := cnt_rng (stb s x p) k.toNat
      refine ⟨by omega, by omega, ?_⟩
      have hi := ih _ (by omega) (k + 1) (zup J1 115 0 (o + cnt (stb s x p) k.toNat) k) rfl (by omega) (by omega) (fun b hb => by rw [zup_ne _ _ _ _ hb]; exact f1 b hb) (fun j j0 j1 hj => by
        by_cases e : j = k
        · rw [e, zup_eq]
        · have := cnt_lt (P := stb s x p) j0 (show j < k by omega) hj
          rw [zup_nk _ _ (by omega)]
          exact g1 j j0 (by omega) hj) (fun i hi2 => by
        rw [zup_nk _ _ (by omega)]
        exact g2 i hi2)
      rw [cnt_next h0, z, zb_t] at hi
      have e : o + (cnt (stb s x p) k.toNat + 1) = o + cnt (stb s x p) k.toNat + 1 := by omega
      rw [e] at hi
      exact hi
  have hk := key _ 0 J rfl (by decide) (by omega) (fun _ _ => rfl) (fun j j0 j1 => by omega) (fun _ _ => rfl)
  have e0 : cnt (stb s x p) (0 : Int).toNat = 0 := rfl
  rw [e0, Int.add_zero] at hk
  exact hk
theorem c67b {L : Nat} {xs : Nat → Int32} (hL : L ≤ 3072) {D : Nat} {J : zJ} {K : zK} {Q : zR → Nat → zJ → zK → Prop} {s : zJ} (hE : EqL s J) (h : LW s) (hT : TW s) {x o : Int} (x0 : 0 ≤ x) (x1 : x < 2147483648) (o0 : 0 ≤ o) (o1 : o + cbh s x 0 ≤ 7) (hD : 5 ≤ D) (hQ : ∀ J' : zJ, (∀ b : Nat, b ≠ 90 → b ≠ 91 → b ≠ 115 → J' b = J b) → (∀ i : Int, 0 ≤ i → i < cbh s x 0 → J' 115 0 (o + i) = sq s x 0 i) → (∀ i : Int, i < o ∨ o + cbh s x 0 ≤ i → J' 115 0 i = J 115 0 i) → Q (.inl none) 0 J' K) : zCall L xs D 67 [zr 89, zi x, zr 115, zi o] J K Q := by
  obtain ⟨D, rfl⟩ : ∃ d, D = d + 1 := ⟨D - 1, by omega⟩
  have hn := lw_n h
  refine z67b hL ?_
  refine c66 hL hE h hT x0 x1 (by omega) fun J1 f1 hh => zaV_of ⟨by decide, by decide, ?_⟩
  have key : ∀ (n : Nat) (p : Int) (J2 : zJ), n = (s 18 0 0 - p).toNat → 0 ≤ p → p ≤ s 18 0 0 → (∀ b : Nat, b ≠ 90 → b ≠ 91 → b ≠ 115 → J2 b = J b) → J2 90 = J1 90 → (∀ q : Int, 0 ≤ q → q < s 18 0 0 → hd s x q < 7 → (q = 0 ∨ s 19 0 q < p) → J2 91 0 q = o + pos s x q) → (∀ k : Int, 0 ≤ k → k < s 18 0 6 → bt x k = true → s 24 0 k < p → J2 115 0 (o + spt s x k) = k) → (∀ i : Int, i < o ∨ o + cbh s x 0 ≤ i → J2 115 0 i = J 115 0 i) → zGo L xs (D + 1) 67 15 [some (zr 89), some (zi x), some (zr 115), none, some (zi p), none] [] J2 K Q := by
    intro n; induction n using Nat.strongRecOn with
  | _ n ih =>
    intro p J2 hm h0 h1 f2 e90 g1 g2 g3
    have hE2 : EqL s J2 := fun b a c => (f2 b (by omega) (by omega) (by omega)).trans (hE b a c)
    refine z67b_15 hL ?_
    rw [hE2 18 (by decide) (by decide), hE2 37 (by decide) (by decide)]
    refine ⟨⟨by omega, by omega⟩, ⟨by omega, by omega⟩, fun q => ?_, fun q => ?_⟩
    · refine hQ J2 f2 (fun i i0 i1 => ?_) g3
      have hN : 0 < s 18 0 0 := by
        obtain ⟨k, k0, k1, _⟩ := cnt_pos.mp (show 0 < cbh s x 0 by omega)
        have := lw_k h k0 (by omega)
        omega
      obtain ⟨k, k0, k1, k2, k3, k4⟩ := sq_at h x hN i0 i1
      have hk := lw_k h k0 k1
      rw [k4, ← k3]
      exact g2 k k0 k1 k2 (by omega)
    · have hz := zgb h hT x0 x1 h0 q
      have hg := bs_lt (fun k => bt x k && onb s p (s 24 0 k)) (s 18 0 6).toNat
      have hgl : 0 ≤ gbs s x p ∧ gbs s x p < 2 ^ (s 18 0 6).toNat := hg
      have h7 := pw7 hn.2.2.2.1
      have hhas : gbs s x p ≠ 0 ↔ hd s x p < 7 := by
        have h1 := hd_cbh h x h0 q
        have h2 := has_cbh (s := s) (x := x) (q := p)
        rw [h1.1, ← h2.1]
        unfold has
        rw [decide_eq_true_iff]
      rw [hz.1]
      refine ⟨h0, by omega, ⟨by omega, by omega⟩, fun z => ?_, fun z => ?_⟩
      · have hno : ¬ hd s x p < 7 := fun y => (hhas.mpr y) z
        refine ih _ (by omega) (p + 1) J2 rfl (by omega) (by omega) f2 e90 (fun r r0 r1 r7 hr => ?_) (fun k k0 k1 k2 k3 => ?_) g3
        · by_cases e : s 19 0 r = p ∧ r ≠ 0
          · exfalso
            have := hd_up h x (q := r) (by omega) r1 r7
            rw [e.1] at this
            exact hno this
          · exact g1 r r0 r1 r7 (by omega)
        · by_cases e : s 24 0 k = p
          · exfalso
            exact hno ((hd_has h x h0 q).mpr ⟨k, k0, k1, k2, by rw [e]; exact on_self s p⟩)
          · exact g2 k k0 k1 k2 (by omega)
      · have p7 : hd s x p < 7 := hhas.mp z
        obtain ⟨⟨s1, s2⟩, s3⟩ := sq_pos h x p h0 q p7
        have hop : J2 91 0 p = o + pos s x p := g1 p h0 q p7 (by
          by_cases e : p = 0
          · exact Or.inl e
          · exact Or.inr (lw_up h (by omega) q).1)
        have hc7 := gT_7 h x h0 q
        have hgn := gT_nn (s := s) x p 7
        refine c72 hL hE2 h hT x0 x1 h0 q (fun r r0 r1 => by rw [e90]; exact hh r r0 r1) hop (by omega) fun J3 f3 k1 k2 => zaI_of ⟨h0, by omega, ?_⟩
        have hE3 : EqL s J3 := fun b a c => (f3 b (by omega)).trans (hE2 b a c)
        have hst := zst h hT x0 x1 h0 q
        rw [hE3 38 (by decide) (by decide)]
        refine c73b hL hE3 h hst.1.1 hst.1.2 hst.2 (by omega) (by omega) (by omega) fun J4 f4 m1 m2 => zaV_of ?_
        refine ih _ (by omega) (p + 1) J4 rfl (by omega) (by omega) (fun b a c d => by rw [f4 b d, f3 b c]; exact f2 b a c d) (by rw [f4 90 (by decide), f3 90 (by decide)]; exact e90) (fun r r0 r1 r7 hr => ?_) (fun k k0 k1' k2' k3' => ?_) (fun i hi => ?_)
        · rw [f4 91 (by decide)]
          by_cases e : s 19 0 r = p ∧ r ≠ 0
          · have hk : kid s p r = true := by
              have := kid_up h (q := r) (by omega) r1
              rw [e.1] at this
              exact this
            rw [k1 r r0 r1 hk r7, pos_up h x (by omega) r1, e.1]
            omega
          · rw [k2 r fun y => e ⟨(kid_t.mp y.2.2).2, by have := (kid_t.mp y.2.2).1; omega⟩]
            exact g1 r r0 r1 r7 (by omega)
        · have hsk := spt_ok h x k0 k1' k2'
          by_cases e : s 24 0 k = p
          · have hstk : stb s x p k = true := by
              unfold stb
              rw [k2', decide_eq_true e]
              rfl
            have := m1 k k0 k1' hstk
            have e2 : o + spt s x k = o + pos s x p + gT s x p 7 + cnt (stb s x p) k.toNat := by
              unfold spt
              rw [e]
              omega
            rw [e2]
            exact this
          · -- another place's: what was written there is the same
            by_cases hin : o + spt s x k < o + pos s x p + gT s x p 7 ∨ o + pos s x p + gT s x p 7 + sty s x p ≤ o + spt s x k
            · rw [m2 _ hin, f3 115 (by decide)]
              exact g2 k k0 k1' k2' (by omega)
            · exfalso
              obtain ⟨l, l0, l1, l2, l3⟩ := cnt_nth (P := stb s x p) (s 18 0 6).toNat (spt s x k - pos s x p - gT s x p 7) (by omega) (by
                have e3 : cnt (stb s x p) (s 18 0 6).toNat = sty s x p := rfl
                rw [e3]
                omega)
              have l2' := l2
              unfold stb at l2'
              rw [Bool.and_eq_true, decide_eq_true_iff] at l2'
              have hsl := spt_ok h x l0 (by omega) l2'.1
              have e4 : spt s x l = spt s x k := by
                have : spt s x l = pos s x p + gT s x p 7 + cnt (stb s x p) l.toNat := by
                  unfold spt
                  rw [l2'.2]
                omega
              rw [e4, hsk.2.2] at hsl
              rw [hsl.2.2] at e
              exact e l2'.2
        · rw [m2 i (by omega), f3 115 (by decide)]
          exact g3 i hi
  refine key _ 0 _ rfl (by decide) (by omega) (fun b a c d => by rw [zup_ne _ _ _ _ c]; exact f1 b a) (by rw [zup_ne _ _ _ _ (by decide)]) (fun r r0 r1 r7 hr => ?_) (fun k k0 k1 k2 k3 => ?_) (fun i _ => by rw [zup_ne _ _ _ _ (by decide), f1 115 (by decide)])
  · have e : r = 0 := by
      rcases hr with y | y
      · exact y
      · have := lw_p h r0 r1
        omega
    rw [e, zup_eq, pos_0]
    omega
  · have := lw_k h k0 k1
    omega
