/-! CONTRACTS of small methods of the class; s: the land, the tree and the plan as an operation finds them -/
def onb (s : zJ) (p q : Int) : Bool := decide (cl s p 12 q = p)
theorem onb_t {s : zJ} {p q : Int} : onb s p q = true ↔ on s p q := by
  unfold onb on
  exact decide_eq_true_iff
theorem onb_f {s : zJ} {p q : Int} : onb s p q = false ↔ ¬ on s p q := by
  unfold onb on
  exact decide_eq_false_iff_not
/-- carriages of a set -/
def ldf (s : zJ) (x : Int) : Int := sm (fun k => if bt x k then s 25 0 k else 0) (s 18 0 6).toNat
def isF (s : zJ) (p : Int) : Bool := decide (0 < s 22 0 p)
/-- the worth of a want at a minute -/
def fw (s : zJ) (w m : Int) : Int := s 31 0 w * (100 - (if (if 0 ≤ m - s 32 0 w then m - s 32 0 w else 0 - (m - s 32 0 w)) / 10 < 90 then (if 0 ≤ m - s 32 0 w then m - s 32 0 w else 0 - (m - s 32 0 w)) / 10 else 90))
/-- the least engine at p that is not taken and pulls n -/
def frE (s : zJ) (p n x : Int) : Int := fnd (fun e => decide (s 28 0 e = p) && !bt x e && decide (n ≤ s 29 0 e)) (s 18 0 11).toNat
/-- people of wants to places of a set -/
def ppl (s : zJ) (x : Int) : Int := sm (fun w => if bt x (s 30 0 w) then s 31 0 w else 0) (s 18 0 14).toNat
/-- what follows from the land, as the tree's cells hold it -/
def TW (s : zJ) : Prop :=
  (∀ a b, 0 ≤ a → a < s 18 0 0 → 0 ≤ b → b < s 18 0 0 → s 34 0 (a * 12 + b) = way s a b) ∧
  (∀ p q, 0 ≤ p → p < s 18 0 0 → 0 ≤ q → q < s 18 0 0 → on s p q → s 35 0 (p * 12 + q) = nx s p q) ∧
  (∀ p, 0 ≤ p → p < s 18 0 0 → s 36 0 p = bs (fun x => onb s x p) 12) ∧
  (∀ p, 0 ≤ p → p < s 18 0 0 → s 37 0 p = bs (fun k => onb s p (s 24 0 k)) (s 18 0 6).toNat) ∧
  (∀ p, 0 ≤ p → p < s 18 0 0 → s 38 0 p = bs (fun k => decide (s 24 0 k = p)) (s 18 0 6).toNat) ∧
  (∀ x, 0 ≤ x → x < 2 ^ (s 18 0 6).toNat → s 39 0 x = ldf s x)
theorem pw7 {n : Int} (h : n ≤ 7) : (1 : Int) ≤ 2 ^ n.toNat ∧ (2 : Int) ^ n.toNat ≤ 128 := by
  have h1 := pw_pos n.toNat
  have h2 : (2 : Int) ^ n.toNat ≤ 2 ^ 7 := pw_le (by omega)
  omega
theorem pw_31 {n : Nat} (h : n ≤ 30) : (1 : Int) ≤ 2 ^ n ∧ (2 : Int) ^ n ≤ 1073741824 := by
  have h1 := pw_pos n
  have h2 : (2 : Int) ^ n ≤ 2 ^ 30 := pw_le h
  omega
theorem c61 {L : Nat} {xs : Nat → Int32} (hL : L ≤ 3072) {D : Nat} {J : zJ} {K : zK} {Q : zR → Nat → zJ → zK → Prop} {s : zJ} (hE : EqS s J) (h : LW s) {x1 : Int} (hD : 1 ≤ D) (hx : zin x1) (hQ : Q (.inl (some (zi (zb (decide (0 ≤ x1 ∧ x1 < s 18 0 0)))))) 0 J K) : zCall L xs D 61 [zr 18, zi x1] J K Q := by
  obtain ⟨D, rfl⟩ : ∃ d, D = d + 1 := ⟨D - 1, by omega⟩
  have hn := lw_n h
  unfold zin at hx
  refine z61 hL ?_
  have e18 := hE 18 (by decide) (by decide); simp only [e18]
  by_cases hc : 0 ≤ x1 ∧ x1 < s 18 0 0
  · rw [decide_eq_true hc] at hQ
    (repeat' (first | (with_reducible apply And.intro) | (with_reducible intro _))) <;> (try first | omega | (unfold zin; omega) | exact zin_zb _ | exact Or.inl trivial | exact Or.inr trivial | exact Or.inl rfl | exact Or.inr rfl)
    exact hQ
  · rw [decide_eq_false hc] at hQ
    (repeat' (first | (with_reducible apply And.intro) | (with_reducible intro _))) <;> (try first | omega | (unfold zin; omega) | exact zin_zb _ | exact Or.inl trivial | exact Or.inr trivial | exact Or.inl rfl | exact Or.inr rfl)
    · exact hQ
    · exact hQ
theorem c62 {L : Nat} {xs : Nat → Int32} (hL : L ≤ 3072) {D : Nat} {J : zJ} {K : zK} {Q : zR → Nat → zJ → zK → Prop} {s : zJ} (hE : EqS s J) (h : LW s) {x1 : Int} (hD : 1 ≤ D) (h0 : 0 ≤ x1) (h1 : x1 < s 18 0 0) (hQ : Q (.inl (some (zi (zb (isF s x1))))) 0 J K) : zCall L xs D 62 [zr 18, zi x1] J K Q := by
  obtain ⟨D, rfl⟩ : ∃ d, D = d + 1 := ⟨D - 1, by omega⟩
  have hn := lw_n h
  have hp := lw_p h h0 h1
  refine z62 hL ?_
  have e22 := hE 22 (by decide) (by decide); simp only [e22]
  unfold isF at hQ
  by_cases hc : 0 < s 22 0 x1
  · rw [decide_eq_true hc] at hQ
    (repeat' (first | (with_reducible apply And.intro) | (with_reducible intro _))) <;> (try first | omega | (unfold zin; omega) | exact zin_zb _ | exact Or.inl trivial | exact Or.inr trivial | exact Or.inl rfl | exact Or.inr rfl)
    exact hQ
  · rw [decide_eq_false hc] at hQ
    (repeat' (first | (with_reducible apply And.intro) | (with_reducible intro _))) <;> (try first | omega | (unfold zin; omega) | exact zin_zb _ | exact Or.inl trivial | exact Or.inr trivial | exact Or.inl rfl | exact Or.inr rfl)
    exact hQ
theorem c55 {L : Nat} {xs : Nat → Int32} (hL : L ≤ 3072) {D : Nat} {J : zJ} {K : zK} {Q : zR → Nat → zJ → zK → Prop} {s : zJ} (hE : EqS s J) (h : LW s) (hD : 1 ≤ D) (hQ : Q (.inl (some (zi (2 ^ (s 18 0 6).toNat - 1)))) 0 J K) : zCall L xs D 55 [zr 18] J K Q := by
  obtain ⟨D, rfl⟩ : ∃ d, D = d + 1 := ⟨D - 1, by omega⟩
  have hn := lw_n h
  refine z55 hL ?_
  have e18 := hE 18 (by decide) (by decide); simp only [e18]
  rw [Int.one_mul]
  exact ⟨by omega, by omega, hQ⟩
theorem c166 {L : Nat} {xs : Nat → Int32} (hL : L ≤ 3072) {D : Nat} {J : zJ} {K : zK} {Q : zR → Nat → zJ → zK → Prop} {s : zJ} (hE : EqS s J) (h : LW s) {x1 : Int} (hD : 9 ≤ D) (hx : zin x1) (hQ : 0 ≤ x1 → x1 < s 18 0 0 → Q (.inl none) 0 J K) (hX : ¬ (0 ≤ x1 ∧ x1 < s 18 0 0) → Q (.inr 1) 1 J K) : zCall L xs D 166 [zr 0, zi x1] J K Q := by
  obtain ⟨D, rfl⟩ : ∃ d, D = d + 1 := ⟨D - 1, by omega⟩
  refine z166 hL ?_
  refine c61 hL hE h (by omega) hx (zaI_of ?_)
  by_cases hc : 0 ≤ x1 ∧ x1 < s 18 0 0
  · rw [decide_eq_true hc, zb_t]
    (repeat' (first | (with_reducible apply And.intro) | (with_reducible intro _))) <;> (try first | omega | (unfold zin; omega) | exact zin_zb _ | exact Or.inl trivial | exact Or.inr trivial | exact Or.inl rfl | exact Or.inr rfl)
    exact hQ hc.1 hc.2
  · rw [decide_eq_false hc, zb_f]
    (repeat' (first | (with_reducible apply And.intro) | (with_reducible intro _))) <;> (try first | omega | (unfold zin; omega) | exact zin_zb _ | exact Or.inl trivial | exact Or.inr trivial | exact Or.inl rfl | exact Or.inr rfl)
    exact hX hc
theorem c164 {L : Nat} {xs : Nat → Int32} (hL : L ≤ 3072) {D : Nat} {J : zJ} {K : zK} {Q : zR → Nat → zJ → zK → Prop} {s : zJ} (hE : EqS s J) (h : LW s) {x1 : Int} (hD : 10 ≤ D) (hx : zin x1) (hQ : 0 ≤ x1 → x1 < s 18 0 0 → isF s x1 = true → Q (.inl none) 0 J K) (hX : ¬ (0 ≤ x1 ∧ x1 < s 18 0 0) → Q (.inr 1) 1 J K) (hX2 : 0 ≤ x1 → x1 < s 18 0 0 → isF s x1 = false → Q (.inr 0) 1 J K) : zCall L xs D 164 [zr 0, zi x1] J K Q := by
  obtain ⟨D, rfl⟩ : ∃ d, D = d + 1 := ⟨D - 1, by omega⟩
  refine z164 hL ?_
  refine c166 hL hE h (by omega) hx (fun h0 h1 => zaV_of ?_) fun hc => zaV_ex (hX hc)
  refine c62 hL hE h (by omega) h0 h1 (zaI_of ?_)
  cases hc : isF s x1 with
  | true =>
    rw [zb_t]
    (repeat' (first | (with_reducible apply And.intro) | (with_reducible intro _))) <;> (try first | omega | (unfold zin; omega) | exact zin_zb _ | exact Or.inl trivial | exact Or.inr trivial | exact Or.inl rfl | exact Or.inr rfl)
    exact hQ h0 h1 hc
  | false =>
    rw [zb_f]
    (repeat' (first | (with_reducible apply And.intro) | (with_reducible intro _))) <;> (try first | omega | (unfold zin; omega) | exact zin_zb _ | exact Or.inl trivial | exact Or.inr trivial | exact Or.inl rfl | exact Or.inr rfl)
    exact hX2 h0 h1 hc
theorem c167 {L : Nat} {xs : Nat → Int32} (hL : L ≤ 3072) {D : Nat} {J : zJ} {K : zK} {Q : zR → Nat → zJ → zK → Prop} {s : zJ} (hE : EqS s J) (h : LW s) {x1 : Int} (hD : 8 ≤ D) (hx : zin x1) (hQ : 0 ≤ x1 → x1 < s 18 0 6 → Q (.inl none) 0 J K) (hX : ¬ (0 ≤ x1 ∧ x1 < s 18 0 6) → Q (.inr 0) 1 J K) : zCall L xs D 167 [zr 0, zi x1] J K Q := by
  obtain ⟨D, rfl⟩ : ∃ d, D = d + 1 := ⟨D - 1, by omega⟩
  have hn := lw_n h
  refine z167 hL ?_
  have e18 := hE 18 (by decide) (by decide); simp only [e18]
  unfold zin at hx
  (repeat' (first | (with_reducible apply And.intro) | (with_reducible intro _))) <;> (try first | omega | (unfold zin; omega) | exact zin_zb _ | exact Or.inl trivial | exact Or.inr trivial | exact Or.inl rfl | exact Or.inr rfl)
  · exact hX (by omega)
  · exact hQ (by omega) (by omega)
  · exact hX (by omega)
theorem c168 {L : Nat} {xs : Nat → Int32} (hL : L ≤ 3072) {D : Nat} {J : zJ} {K : zK} {Q : zR → Nat → zJ → zK → Prop} {s : zJ} (hE : EqS s J) (h : LW s) {x1 : Int} (hD : 9 ≤ D) (hx : zin x1) (hQ : 0 ≤ x1 → x1 < 2 ^ (s 18 0 6).toNat → Q (.inl none) 0 J K) (hX : ¬ (0 ≤ x1 ∧ x1 < 2 ^ (s 18 0 6).toNat) → Q (.inr 0) 1 J K) : zCall L xs D 168 [zr 0, zi x1] J K Q := by
  obtain ⟨D, rfl⟩ : ∃ d, D = d + 1 := ⟨D - 1, by omega⟩
  have hn := lw_n h
  have hp := pw7 hn.2.2.2.1
  refine z168 hL ?_
  unfold zin at hx
  (repeat' (first | (with_reducible apply And.intro) | (with_reducible intro _))) <;> (try first | omega | (unfold zin; omega) | exact zin_zb _ | exact Or.inl trivial | exact Or.inr trivial | exact Or.inl rfl | exact Or.inr rfl)
  · exact hX (by omega)
  · refine c55 hL hE h (by omega) (zaI_of ?_)
    (repeat' (first | (with_reducible apply And.intro) | (with_reducible intro _))) <;> (try first | omega | (unfold zin; omega) | exact zin_zb _ | exact Or.inl trivial | exact Or.inr trivial | exact Or.inl rfl | exact Or.inr rfl)
    · exact hQ (by omega) (by omega)
    · exact hX (by omega)
theorem c169 {L : Nat} {xs : Nat → Int32} (hL : L ≤ 3072) {D : Nat} {J : zJ} {K : zK} {Q : zR → Nat → zJ → zK → Prop} {s : zJ} (hE : EqS s J) {x1 : Int} (hD : 8 ≤ D) (h : 0 ≤ s 40 0 0 ∧ s 40 0 0 ≤ 4) (hx : zin x1) (hQ : 0 ≤ x1 → x1 < s 40 0 0 → Q (.inl none) 0 J K) (hX : ¬ (0 ≤ x1 ∧ x1 < s 40 0 0) → Q (.inr 3) 1 J K) : zCall L xs D 169 [zr 0, zi x1] J K Q := by
  obtain ⟨D, rfl⟩ : ∃ d, D = d + 1 := ⟨D - 1, by omega⟩
  refine z169 hL ?_
  have e40 := hE 40 (by decide) (by decide); simp only [e40]
  unfold zin at hx
  (repeat' (first | (with_reducible apply And.intro) | (with_reducible intro _))) <;> (try first | omega | (unfold zin; omega) | exact zin_zb _ | exact Or.inl trivial | exact Or.inr trivial | exact Or.inl rfl | exact Or.inr rfl)
  · exact hX (by omega)
  · exact hQ (by omega) (by omega)
  · exact hX (by omega)
theorem c165 {L : Nat} {xs : Nat → Int32} (hL : L ≤ 3072) {D : Nat} {J : zJ} {K : zK} {Q : zR → Nat → zJ → zK → Prop} {s : zJ} (hE : EqS s J) {x1 : Int} (hD : 8 ≤ D) (h : 0 ≤ s 40 0 5 ∧ s 40 0 5 ≤ 14) (hx : zin x1) (hQ : 0 ≤ x1 → x1 < s 40 0 5 → Q (.inl none) 0 J K) (hX : ¬ (0 ≤ x1 ∧ x1 < s 40 0 5) → Q (.inr 0) 1 J K) : zCall L xs D 165 [zr 0, zi x1] J K Q := by
  obtain ⟨D, rfl⟩ : ∃ d, D = d + 1 := ⟨D - 1, by omega⟩
  refine z165 hL ?_
  have e40 := hE 40 (by decide) (by decide); simp only [e40]
  unfold zin at hx
  (repeat' (first | (with_reducible apply And.intro) | (with_reducible intro _))) <;> (try first | omega | (unfold zin; omega) | exact zin_zb _ | exact Or.inl trivial | exact Or.inr trivial | exact Or.inl rfl | exact Or.inr rfl)
  · exact hX (by omega)
  · exact hQ (by omega) (by omega)
  · exact hX (by omega)
theorem c58 {L : Nat} {xs : Nat → Int32} (hL : L ≤ 3072) {D : Nat} {J : zJ} {K : zK} {Q : zR → Nat → zJ → zK → Prop} {s : zJ} (hE : EqS s J) (h : LW s) (hD : 2 ≤ D) (hQ : Q (.inl (some (zi (bs (isF s) (s 18 0 0).toNat)))) 0 J K) : zCall L xs D 58 [zr 18] J K Q := by
  obtain ⟨D, rfl⟩ : ∃ d, D = d + 1 := ⟨D - 1, by omega⟩
  have hn := lw_n h
  have e18 := hE 18 (by decide) (by decide)
  have key : ∀ (n : Nat) (x2 : Int), n = (s 18 0 0 - x2).toNat → 0 ≤ x2 → x2 ≤ s 18 0 0 → zGo L xs (D + 1) 58 4 [some (zr 18), some (zi (bs (isF s) x2.toNat)), some (zi x2)] [] J K Q := by
    intro n; induction n using Nat.strongRecOn with
    | _ n ih =>
    intro x2 hm h0 h1
    refine z58_4 hL ?_
    simp only [e18]
    by_cases hc : x2 < s 18 0 0
    · refine ⟨⟨by omega, by omega⟩, ⟨by omega, by omega⟩, fun _ => by omega, fun _ => ?_⟩
      refine c62 hL hE h (by omega) h0 hc (zaI_of ⟨zin_zb _, fun hz => ?_, fun hz => ⟨h0, by omega, ?_⟩⟩)
      · rw [← bs_no h0 (zb_0.mp hz)]
        exact ih _ (by omega) (x2 + 1) rfl (by omega) (by omega)
      · rw [bs_or h0 (by omega) (zb_1.mp hz)]
        exact ih _ (by omega) (x2 + 1) rfl (by omega) (by omega)
    · refine ⟨⟨by omega, by omega⟩, ⟨by omega, by omega⟩, fun _ => ?_, fun _ => by omega⟩
      have : x2 = s 18 0 0 := by omega
      rw [this]
      exact hQ
  exact z58 hL (key _ 0 rfl (by omega) (by omega))
theorem c59 {L : Nat} {xs : Nat → Int32} (hL : L ≤ 3072) {D : Nat} {J : zJ} {K : zK} {Q : zR → Nat → zJ → zK → Prop} {s : zJ} (hE : EqS s J) (h : LW s) {x1 x2 x3 : Int} (hD : 1 ≤ D) (a1 : zin x1) (a2 : zin x2) (a3 : 0 ≤ x3 ∧ x3 < 2147483648) (hQ : Q (.inl (some (zi (frE s x1 x2 x3)))) 0 J K) : zCall L xs D 59 [zr 18, zi x1, zi x2, zi x3] J K Q := by
  obtain ⟨D, rfl⟩ : ∃ d, D = d + 1 := ⟨D - 1, by omega⟩
  have hn := lw_n h
  unfold zin at a1 a2
  have e18 := hE 18 (by decide) (by decide)
  have e28 := hE 28 (by decide) (by decide)
  have e29 := hE 29 (by decide) (by decide)
  have key : ∀ (n : Nat) (x4 : Int), n = (s 18 0 11 - x4).toNat → 0 ≤ x4 → x4 ≤ s 18 0 11 → (∀ i, 0 ≤ i → i < x4 → (decide (s 28 0 i = x1) && !bt x3 i && decide (x2 ≤ s 29 0 i)) = false) → zGo L xs (D + 1) 59 3 [some (zr 18), some (zi x1), some (zi x2), some (zi x3), some (zi x4)] [] J K Q := by
    intro n; induction n using Nat.strongRecOn with
    | _ n ih =>
    intro x4 hm h0 h1 hf
    refine z59_3 hL ?_
    simp only [e18, e28, e29, bt_shz a3.1 a3.2, zb_0, zb_1]
    have stp : (x4 < s 18 0 11) → (decide (s 28 0 x4 = x1) && !bt x3 x4 && decide (x2 ≤ s 29 0 x4)) = false → zGo L xs (D + 1) 59 3 [some (zr 18), some (zi x1), some (zi x2), some (zi x3), some (zi (x4 + 1))] [] J K Q := by
      intro hc hb
      refine ih _ (by omega) (x4 + 1) rfl (by omega) (by omega) fun i a b => ?_
      by_cases e : i = x4
      · rw [e]
        exact hb
      · exact hf i a (by omega)
    by_cases hc : x4 < s 18 0 11
    · have he := lw_e h h0 hc
      (repeat' (first | (with_reducible apply And.intro) | (with_reducible intro _))) <;> (try first | omega | (unfold zin; omega) | exact zin_zb _ | exact Or.inl trivial | exact Or.inr trivial | exact Or.inl rfl | exact Or.inr rfl)
      · exact stp hc (by simp; omega)
      · next q1 q2 => exact stp hc (by simp [q2])
      · exact stp hc (by simp; omega)
      · next q1 q2 q3 =>
        unfold frE at hQ
        rw [fnd_at h0 (by omega) (by simp [q1, q2, q3]) hf] at hQ
        exact hQ
    · (repeat' (first | (with_reducible apply And.intro) | (with_reducible intro _))) <;> (try first | omega | (unfold zin; omega) | exact zin_zb _ | exact Or.inl trivial | exact Or.inr trivial | exact Or.inl rfl | exact Or.inr rfl)
      unfold frE at hQ
      rw [fnd_no fun i a b => hf i a (by omega)] at hQ
      exact hQ
  exact z59 hL (key _ 0 rfl (by omega) (by omega) fun i a b => by omega)
theorem fw_rng {s : zJ} (h : LW s) {w m : Int} (h0 : 0 ≤ w) (h1 : w < s 18 0 14) (m0 : 0 ≤ m) (m1 : m ≤ 1439) : 0 ≤ fw s w m ∧ fw s w m ≤ 99900 := by
  have hw := lw_w h h0 h1
  unfold fw
  generalize hx : (if 0 ≤ m - s 32 0 w then m - s 32 0 w else 0 - (m - s 32 0 w)) = x
  have h2 : 0 ≤ x ∧ x ≤ 1439 := by
    rw [← hx]
    split <;> omega
  generalize hy : (if x / 10 < 90 then x / 10 else 90) = y
  have h3 : 0 ≤ y ∧ y ≤ 90 := by
    rw [← hy]
    split <;> omega
  have h4 : 0 ≤ s 31 0 w * (100 - y) := Int.mul_nonneg (by omega) (by omega)
  have h5 : s 31 0 w * (100 - y) ≤ 999 * 100 := Int.mul_le_mul (by omega) (by omega) (by omega) (by omega)
  omega
theorem c60 {L : Nat} {xs : Nat → Int32} (hL : L ≤ 3072) {D : Nat} {J : zJ} {K : zK} {Q : zR → Nat → zJ → zK → Prop} {s : zJ} (hE : EqS s J) (h : LW s) {x1 x2 : Int} (hD : 1 ≤ D) (h0 : 0 ≤ x1) (h1 : x1 < s 18 0 14) (m0 : 0 ≤ x2) (m1 : x2 ≤ 1439) (hQ : Q (.inl (some (zi (fw s x1 x2)))) 0 J K) : zCall L xs D 60 [zr 18, zi x1, zi x2] J K Q := by
  obtain ⟨D, rfl⟩ : ∃ d, D = d + 1 := ⟨D - 1, by omega⟩
  have hn := lw_n h
  have hw := lw_w h h0 h1
  refine z60 hL ?_
  have e31 := hE 31 (by decide) (by decide); have e32 := hE 32 (by decide) (by decide); simp only [e31, e32]
  unfold fw at hQ
  (repeat' (first | (with_reducible apply And.intro) | (with_reducible intro _))) <;> (try first | omega | (unfold zin; omega) | exact zin_zb _ | exact Or.inl trivial | exact Or.inr trivial | exact Or.inl rfl | exact Or.inr rfl)
theorem c63 {L : Nat} {xs : Nat → Int32} (hL : L ≤ 3072) {D : Nat} {J : zJ} {K : zK} {Q : zR → Nat → zJ → zK → Prop} {s : zJ} (hE : EqS s J) (h : LW s) {x1 : Int} (hD : 1 ≤ D) (a1 : 0 ≤ x1 ∧ x1 < 2147483648) (hQ : Q (.inl (some (zi (ppl s x1)))) 0 J K) : zCall L xs D 63 [zr 18, zi x1] J K Q := by
  obtain ⟨D, rfl⟩ : ∃ d, D = d + 1 := ⟨D - 1, by omega⟩
  have hn := lw_n h
  have e18 := hE 18 (by decide) (by decide)
  have e30 := hE 30 (by decide) (by decide)
  have e31 := hE 31 (by decide) (by decide)
  have key : ∀ (n : Nat) (x3 : Int), n = (s 18 0 14 - x3).toNat → 0 ≤ x3 → x3 ≤ s 18 0 14 → zGo L xs (D + 1) 63 4 [some (zr 18), some (zi x1), some (zi (sm (fun w => if bt x1 (s 30 0 w) then s 31 0 w else 0) x3.toNat)), some (zi x3)] [] J K Q := by
    intro n; induction n using Nat.strongRecOn with
    | _ n ih =>
    intro x3 hm h0 h1
    refine z63_4 hL ?_
    simp only [e18, e30, e31, bt_shz a1.1 a1.2, zb_0, zb_1]
    by_cases hc : x3 < s 18 0 14
    · have he := lw_w h h0 hc
      have hi := ih _ (by omega) (x3 + 1) rfl (by omega) (by omega)
      rw [sm_next h0] at hi
      (repeat' (first | (with_reducible apply And.intro) | (with_reducible intro _))) <;> (try first | omega | (unfold zin; omega) | exact zin_zb _ | exact Or.inl trivial | exact Or.inr trivial | exact Or.inl rfl | exact Or.inr rfl)
      · next q =>
        rw [q, if_neg (by simp), Int.add_zero] at hi
        exact hi
      · next q =>
        rw [q, if_pos rfl] at hi
        exact hi
    · (repeat' (first | (with_reducible apply And.intro) | (with_reducible intro _))) <;> (try first | omega | (unfold zin; omega) | exact zin_zb _ | exact Or.inl trivial | exact Or.inr trivial | exact Or.inl rfl | exact Or.inr rfl)
      have : x3 = s 18 0 14 := by omega
      rw [this]
      exact hQ
  exact z63 hL (key _ 0 rfl (by omega) (by omega))
/-- n! -/
def fac : Nat → Int
  | 0 => 1
  | n + 1 => fac n * ((n : Int) + 1)
theorem c65 {L : Nat} {xs : Nat → Int32} (hL : L ≤ 3072) {D : Nat} {J : zJ} {K : zK} {Q : zR → Nat → zJ → zK → Prop} {x1 : Int} (hD : 1 ≤ D) (h0 : 0 ≤ x1) (h1 : x1 ≤ 100) (hQ : Q (.inl (some (zi (fac x1.toNat)))) 0 J K) : zCall L xs D 65 [zr 89, zi x1] J K Q := by
  obtain ⟨D, rfl⟩ : ∃ d, D = d + 1 := ⟨D - 1, by omega⟩
  have key : ∀ (n : Nat) (x3 : Int), n = (x1 + 1 - x3).toNat → 2 ≤ x3 → (x3 ≤ x1 + 1 ∨ x3 = 2) → zGo L xs (D + 1) 65 4 [none, some (zi x1), some (zi (fac (x3 - 1).toNat)), some (zi x3)] [] J K Q := by
    intro n; induction n using Nat.strongRecOn with
    | _ n ih =>
    intro x3 hm a0 a1
    refine z65_4 hL ?_
    (repeat' (first | (with_reducible apply And.intro) | (with_reducible intro _))) <;> (try first | omega | (unfold zin; omega) | exact zin_zb _ | exact Or.inl trivial | exact Or.inr trivial | exact Or.inl rfl | exact Or.inr rfl)
    · have : fac (x3 - 1).toNat = fac x1.toNat := by
        by_cases e : x3 = x1 + 1
        · have e2 : x3 - 1 = x1 := by omega
          rw [e2]
        · have e2 : x3 = 2 := by omega
          subst e2
          have : x1 = 0 := by omega
          subst this
          rfl
      rw [this]
      exact hQ
    · have hi := ih _ (by omega) (x3 + 1) rfl (by omega) (by omega)
      have e1 : (x3 + 1 - 1).toNat = (x3 - 1).toNat + 1 := by omega
      rw [e1, fac] at hi
      have e2 : (((x3 - 1).toNat : Nat) : Int) + 1 = x3 := by omega
      rw [e2] at hi
      exact hi
  exact z65 hL (key _ 2 rfl (by omega) (by omega))
/-- groups of a set at p: places behind p to which some go on -/
def grB (s : zJ) (x p c : Int) : Bool := decide (s 19 0 c = p) && decide (zand x (s 37 0 c) ≠ 0)
def grs (s : zJ) (x p : Int) : Int := cnt (fun c => decide (p < c) && grB s x p c) (s 18 0 0).toNat
theorem cnt_next {P : Int → Bool} {i : Int} (h0 : 0 ≤ i) : cnt P (i + 1).toNat = cnt P i.toNat + zb (P i) := sm_next h0
theorem cnt_low {P : Int → Bool} {i : Int} (h : ∀ c, 0 ≤ c → c < i → P c = false) : cnt P i.toNat = 0 := sm_zero fun c a b => by rw [h c a (by omega), zb_f]
theorem c69 {L : Nat} {xs : Nat → Int32} (hL : L ≤ 3072) {D : Nat} {J : zJ} {K : zK} {Q : zR → Nat → zJ → zK → Prop} {s : zJ} (hE : EqS s J) (h : LW s) {x1 x2 : Int} (hD : 1 ≤ D) (h0 : 0 ≤ x1) (h1 : x1 < s 18 0 0) (a2 : 0 ≤ x2 ∧ x2 < 2147483648) (hT : ∀ p, 0 ≤ p → p < s 18 0 0 → 0 ≤ s 37 0 p) (hQ : Q (.inl (some (zi (grs s x2 x1)))) 0 J K) : zCall L xs D 69 [zr 89, zi x1, zi x2] J K Q := by
  obtain ⟨D, rfl⟩ : ∃ d, D = d + 1 := ⟨D - 1, by omega⟩
  have hn := lw_n h
  have e18 := hE 18 (by decide) (by decide)
  have e19 := hE 19 (by decide) (by decide)
  have e37 := hE 37 (by decide) (by decide)
  have key : ∀ (n : Nat) (x4 : Int), n = (s 18 0 0 - x4).toNat → x1 < x4 → x4 ≤ s 18 0 0 → zGo L xs (D + 1) 69 7 [some (zr 89), some (zi x1), some (zi x2), some (zi (cnt (fun c => decide (x1 < c) && grB s x2 x1 c) x4.toNat)), some (zi x4)] [] J K Q := by
    intro n; induction n using Nat.strongRecOn with
    | _ n ih =>
    intro x4 hm b0 b1
    refine z69_7 hL ?_
    simp only [e18, e19, e37]
    by_cases hc : x4 < s 18 0 0
    · have hp := lw_p h (p := x4) (by omega) hc
      have hl := zand_le a2.1 a2.2 (hT x4 (by omega) hc)
      have hi := ih _ (by omega) (x4 + 1) rfl (by omega) (by omega)
      rw [cnt_next (by omega)] at hi
      (repeat' (first | (with_reducible apply And.intro) | (with_reducible intro _))) <;> (try first | omega | (unfold zin; omega) | exact zin_zb _ | exact Or.inl trivial | exact Or.inr trivial | exact Or.inl rfl | exact Or.inr rfl)
      · next q =>
        have : (decide (x1 < x4) && grB s x2 x1 x4) = false := by simp [grB, q]
        rw [this, zb_f, Int.add_zero] at hi
        exact hi
      · next q1 q2 =>
        have : (decide (x1 < x4) && grB s x2 x1 x4) = false := by simp [grB, q2]
        rw [this, zb_f, Int.add_zero] at hi
        exact hi
      · next q1 q2 =>
        have : (decide (x1 < x4) && grB s x2 x1 x4) = true := by simp [grB, q1, q2, b0]
        rw [this, zb_t] at hi
        exact hi
    · (repeat' (first | (with_reducible apply And.intro) | (with_reducible intro _))) <;> (try first | omega | (unfold zin; omega) | exact zin_zb _ | exact Or.inl trivial | exact Or.inr trivial | exact Or.inl rfl | exact Or.inr rfl)
      have : x4 = s 18 0 0 := by omega
      rw [this]
      exact hQ
  have hk := key _ (x1 + 1) rfl (by omega) (by omega)
  rw [cnt_low fun c a b => by
    have : ¬ x1 < c := by omega
    simp [this]] at hk
  exact z69 hL hk
theorem c71 {L : Nat} {xs : Nat → Int32} (hL : L ≤ 3072) {D : Nat} {J : zJ} {K : zK} {Q : zR → Nat → zJ → zK → Prop} {x1 : Int} (hD : 1 ≤ D) (a1 : 0 ≤ x1 ∧ x1 < 2147483648) (hQ : Q (.inl (some (zi (if fnd (fun k => bt x1 k) 7 < 0 then 7 else fnd (fun k => bt x1 k) 7)))) 0 J K) : zCall L xs D 71 [zr 89, zi x1] J K Q := by
  obtain ⟨D, rfl⟩ : ∃ d, D = d + 1 := ⟨D - 1, by omega⟩
  have key : ∀ (n : Nat) (x2 : Int), n = (7 - x2).toNat → 0 ≤ x2 → x2 ≤ 7 → (∀ i, 0 ≤ i → i < x2 → bt x1 i = false) → zGo L xs (D + 1) 71 2 [none, some (zi x1), some (zi x2)] [] J K Q := by
    intro n; induction n using Nat.strongRecOn with
    | _ n ih =>
    intro x2 hm h0 h1 hf
    refine z71_2 hL ?_
    simp only [bt_shz a1.1 a1.2, zb_0, zb_1]
    by_cases hc : x2 < 7
    · (repeat' (first | (with_reducible apply And.intro) | (with_reducible intro _))) <;> (try first | omega | (unfold zin; omega) | exact zin_zb _ | exact Or.inl trivial | exact Or.inr trivial | exact Or.inl rfl | exact Or.inr rfl)
      · next q =>
        refine ih _ (by omega) (x2 + 1) rfl (by omega) (by omega) fun i a b => ?_
        by_cases e : i = x2
        · rw [e]
          exact q
        · exact hf i a (by omega)
      · next q =>
        rw [fnd_at h0 (by omega) q hf, if_neg (by omega)] at hQ
        exact hQ
    · (repeat' (first | (with_reducible apply And.intro) | (with_reducible intro _))) <;> (try first | omega | (unfold zin; omega) | exact zin_zb _ | exact Or.inl trivial | exact Or.inr trivial | exact Or.inl rfl | exact Or.inr rfl)
      rw [fnd_no fun i a b => hf i a (by omega)] at hQ
      exact hQ
  exact z71 hL (key _ 0 rfl (by omega) (by omega) fun i a b => by omega)
theorem c81 {L : Nat} {xs : Nat → Int32} (hL : L ≤ 3072) {D : Nat} {J : zJ} {K : zK} {Q : zR → Nat → zJ → zK → Prop} {s : zJ} (hE : EqS s J) {x1 : Int} (hD : 1 ≤ D) (h : 0 ≤ s 40 0 10 ∧ s 40 0 10 < 2147483648) (h0 : 0 ≤ x1) (h1 : x1 < 32) (hQ : Q (.inl (some (zi (zb (bt (s 40 0 10) x1))))) 0 J K) : zCall L xs D 81 [zr 40, zi x1] J K Q := by
  obtain ⟨D, rfl⟩ : ∃ d, D = d + 1 := ⟨D - 1, by omega⟩
  refine z81 hL ?_
  have e40 := hE 40 (by decide) (by decide); simp only [e40]
  simp only [bt_shz h.1 h.2, zb_0, zb_1]
  (repeat' (first | (with_reducible apply And.intro) | (with_reducible intro _))) <;> (try first | omega | (unfold zin; omega) | exact zin_zb _ | exact Or.inl trivial | exact Or.inr trivial | exact Or.inl rfl | exact Or.inr rfl)
  · next q =>
    rw [q] at hQ
    exact hQ
  · next q =>
    rw [q] at hQ
    exact hQ
theorem c121 {L : Nat} {xs : Nat → Int32} (hL : L ≤ 3072) {D : Nat} {J : zJ} {K : zK} {Q : zR → Nat → zJ → zK → Prop} {s : zJ} (hE : EqS s J) (h : LW s) (hT : TW s) {x1 x2 : Int} (hD : 1 ≤ D) (h0 : 0 ≤ x1) (h1 : x1 < s 18 0 0) (g0 : 0 ≤ x2) (g1 : x2 < s 18 0 0) (hQ : Q (.inl (some (zi (way s x1 x2)))) 0 J K) : zCall L xs D 121 [zr 33, zi x1, zi x2] J K Q := by
  obtain ⟨D, rfl⟩ : ∃ d, D = d + 1 := ⟨D - 1, by omega⟩
  have hn := lw_n h
  refine z121 hL ?_
  have e34 := hE 34 (by decide) (by decide); simp only [e34]
  rw [hT.1 x1 x2 h0 h1 g0 g1]
  exact ⟨by omega, by omega, hQ⟩
theorem c122 {L : Nat} {xs : Nat → Int32} (hL : L ≤ 3072) {D : Nat} {J : zJ} {K : zK} {Q : zR → Nat → zJ → zK → Prop} {s : zJ} (hE : EqS s J) (h : LW s) (hT : TW s) {x1 x2 : Int} (hD : 1 ≤ D) (h0 : 0 ≤ x1) (h1 : x1 < s 18 0 0) (g0 : 0 ≤ x2) (g1 : x2 < s 18 0 0) (ho : on s x1 x2) (hQ : Q (.inl (some (zi (nx s x1 x2)))) 0 J K) : zCall L xs D 122 [zr 33, zi x1, zi x2] J K Q := by
  obtain ⟨D, rfl⟩ : ∃ d, D = d + 1 := ⟨D - 1, by omega⟩
  have hn := lw_n h
  refine z122 hL ?_
  have e35 := hE 35 (by decide) (by decide); simp only [e35]
  rw [hT.2.1 x1 x2 h0 h1 g0 g1 ho]
  exact ⟨by omega, by omega, hQ⟩
theorem c120 {L : Nat} {xs : Nat → Int32} (hL : L ≤ 3072) {D : Nat} {J : zJ} {K : zK} {Q : zR → Nat → zJ → zK → Prop} {x1 x2 : Int} (hD : 1 ≤ D) (h0 : 0 ≤ x1) (h1 : x1 < 32) (a2 : 0 ≤ x2 ∧ x2 < 2147483648) (hQ : Q (.inl (some (zi (zb (bt x2 x1))))) 0 J K) : zCall L xs D 120 [zr 33, zi x1, zi x2] J K Q := by
  obtain ⟨D, rfl⟩ : ∃ d, D = d + 1 := ⟨D - 1, by omega⟩
  refine z120 hL ?_
  simp only [bt_shz a2.1 a2.2, zb_0, zb_1]
  (repeat' (first | (with_reducible apply And.intro) | (with_reducible intro _))) <;> (try first | omega | (unfold zin; omega) | exact zin_zb _ | exact Or.inl trivial | exact Or.inr trivial | exact Or.inl rfl | exact Or.inr rfl)
  · next q =>
    rw [q] at hQ
    exact hQ
  · next q =>
    rw [q] at hQ
    exact hQ
/-- Integer.bitCount of a set below 2^14 -/
def bcf (x0 : Int) : Int := zand (((zand (((zand (x0 - (zand (x0 % 4294967296 / 2 ^ (1 : Int).toNat) 1431655765)) 858993459) + (zand ((x0 - (zand (x0 % 4294967296 / 2 ^ (1 : Int).toNat) 1431655765)) % 4294967296 / 2 ^ (2 : Int).toNat) 858993459)) + (((zand (x0 - (zand (x0 % 4294967296 / 2 ^ (1 : Int).toNat) 1431655765)) 858993459) + (zand ((x0 - (zand (x0 % 4294967296 / 2 ^ (1 : Int).toNat) 1431655765)) % 4294967296 / 2 ^ (2 : Int).toNat) 858993459)) % 4294967296 / 2 ^ (4 : Int).toNat)) 252645135) + ((zand (((zand (x0 - (zand (x0 % 4294967296 / 2 ^ (1 : Int).toNat) 1431655765)) 858993459) + (zand ((x0 - (zand (x0 % 4294967296 / 2 ^ (1 : Int).toNat) 1431655765)) % 4294967296 / 2 ^ (2 : Int).toNat) 858993459)) + (((zand (x0 - (zand (x0 % 4294967296 / 2 ^ (1 : Int).toNat) 1431655765)) 858993459) + (zand ((x0 - (zand (x0 % 4294967296 / 2 ^ (1 : Int).toNat) 1431655765)) % 4294967296 / 2 ^ (2 : Int).toNat) 858993459)) % 4294967296 / 2 ^ (4 : Int).toNat)) 252645135) % 4294967296 / 2 ^ (8 : Int).toNat)) + (((zand (((zand (x0 - (zand (x0 % 4294967296 / 2 ^ (1 : Int).toNat) 1431655765)) 858993459) + (zand ((x0 - (zand (x0 % 4294967296 / 2 ^ (1 : Int).toNat) 1431655765)) % 4294967296 / 2 ^ (2 : Int).toNat) 858993459)) + (((zand (x0 - (zand (x0 % 4294967296 / 2 ^ (1 : Int).toNat) 1431655765)) 858993459) + (zand ((x0 - (zand (x0 % 4294967296 / 2 ^ (1 : Int).toNat) 1431655765)) % 4294967296 / 2 ^ (2 : Int).toNat) 858993459)) % 4294967296 / 2 ^ (4 : Int).toNat)) 252645135) + ((zand (((zand (x0 - (zand (x0 % 4294967296 / 2 ^ (1 : Int).toNat) 1431655765)) 858993459) + (zand ((x0 - (zand (x0 % 4294967296 / 2 ^ (1 : Int).toNat) 1431655765)) % 4294967296 / 2 ^ (2 : Int).toNat) 858993459)) + (((zand (x0 - (zand (x0 % 4294967296 / 2 ^ (1 : Int).toNat) 1431655765)) 858993459) + (zand ((x0 - (zand (x0 % 4294967296 / 2 ^ (1 : Int).toNat) 1431655765)) % 4294967296 / 2 ^ (2 : Int).toNat) 858993459)) % 4294967296 / 2 ^ (4 : Int).toNat)) 252645135) % 4294967296 / 2 ^ (8 : Int).toNat)) % 4294967296 / 2 ^ (16 : Int).toNat)) 63
def bcl (x0 : Int) : Int :=
  let a := x0 - (zand (x0 % 4294967296 / 2 ^ (1 : Int).toNat) 1431655765)
  let b := (zand a 858993459) + (zand (a % 4294967296 / 2 ^ (2 : Int).toNat) 858993459)
  let c := zand (b + (b % 4294967296 / 2 ^ (4 : Int).toNat)) 252645135
  let d := c + (c % 4294967296 / 2 ^ (8 : Int).toNat)
  zand (d + (d % 4294967296 / 2 ^ (16 : Int).toNat)) 63
theorem bcf_l (x : Int) : bcf x = bcl x := rfl
def bcn (x : Nat) : Nat := (fun a => (fun b => (fun c => (fun d => (d + d / 65536) &&& 63) (c + c / 256)) ((b + b / 16) &&& 252645135)) ((a &&& 858993459) + ((a / 4) &&& 858993459))) (x - ((x / 2) &&& 1431655765))
theorem zand_c (x m : Nat) {M : Int} (hM : M = m) (hx : x < 2147483648) : zand (x : Int) M = ((x &&& m : Nat) : Int) := by
  rw [hM, zand_n (by omega) (by omega) (by omega), Int.toNat_natCast, Int.toNat_natCast]
theorem bcn_ok {n : Nat} (h : n < 16384) : bcl (n : Int) = (bcn n : Int) := by
  have h1 : n / 2 &&& 1431655765 ≤ n / 2 := Nat.and_le_left
  unfold bcl bcn
  simp only
  have e1 : ((n : Int) % 4294967296 / 2 ^ (1 : Int).toNat) = ((n / 2 : Nat) : Int) := by
    have : (2 : Int) ^ (1 : Int).toNat = 2 := rfl
    rw [this]
    omega
  rw [e1, zand_c (n / 2) 1431655765 (M := 1431655765) rfl (by omega)]
  have e2 : (n : Int) - ((n / 2 &&& 1431655765 : Nat) : Int) = ((n - (n / 2 &&& 1431655765) : Nat) : Int) := by omega
  rw [e2]
  generalize ha : n - (n / 2 &&& 1431655765) = a
  have ha2 : a < 16384 := by omega
  have e3 : ((a : Int) % 4294967296 / 2 ^ (2 : Int).toNat) = ((a / 4 : Nat) : Int) := by
    have : (2 : Int) ^ (2 : Int).toNat = 4 := rfl
    rw [this]
    omega
  have h2 : a &&& 858993459 ≤ a := Nat.and_le_left
  have h3 : a / 4 &&& 858993459 ≤ a / 4 := Nat.and_le_left
  rw [e3, zand_c a 858993459 (M := 858993459) rfl (by omega), zand_c (a / 4) 858993459 (M := 858993459) rfl (by omega), ← Int.natCast_add]
  generalize hb : (a &&& 858993459) + (a / 4 &&& 858993459) = b
  have hb2 : b < 32768 := by omega
  have e4 : ((b : Int) % 4294967296 / 2 ^ (4 : Int).toNat) = ((b / 16 : Nat) : Int) := by
    have : (2 : Int) ^ (4 : Int).toNat = 16 := rfl
    rw [this]
    omega
  rw [e4, ← Int.natCast_add, zand_c (b + b / 16) 252645135 (M := 252645135) rfl (by omega)]
  have h4 : (b + b / 16) &&& 252645135 ≤ b + b / 16 := Nat.and_le_left
  generalize hc : (b + b / 16) &&& 252645135 = c
  have hc2 : c < 65536 := by omega
  have e5 : ((c : Int) % 4294967296 / 2 ^ (8 : Int).toNat) = ((c / 256 : Nat) : Int) := by
    have : (2 : Int) ^ (8 : Int).toNat = 256 := rfl
    rw [this]
    omega
  rw [e5, ← Int.natCast_add]
  generalize hd : c + c / 256 = d
  have hd2 : d < 131072 := by omega
  have e6 : ((d : Int) % 4294967296 / 2 ^ (16 : Int).toNat) = ((d / 65536 : Nat) : Int) := by
    have : (2 : Int) ^ (16 : Int).toNat = 65536 := rfl
    rw [this]
    omega
  rw [e6, ← Int.natCast_add, zand_c (d + d / 65536) 63 (M := 63) rfl (by omega)]
def bct : Nat → Nat → Nat
  | 0, _ => 0
  | n + 1, x => x % 2 + bct n (x / 2)
def bck : Bool := (List.range 128).all fun h => (List.range 128).all fun l => Nat.beq (bcn (128 * h + l)) (bct 14 (128 * h + l))
theorem bck_ok : bck = true := by decide +kernel
theorem bct_cnt : ∀ (n x : Nat), (bct n x : Int) = cnt (fun i => x.testBit i.toNat) n
  | 0, _ => rfl
  | n + 1, x => by
    have e : ∀ m : Nat, cnt (fun i => x.testBit i.toNat) (m + 1) = zb (x.testBit 0) + cnt (fun i => (x / 2).testBit i.toNat) m := by
      intro m
      induction m with
      | zero => simp [cnt, sm]
      | succ m ih =>
        have e1 : cnt (fun i => x.testBit i.toNat) (m + 1 + 1) = cnt (fun i => x.testBit i.toNat) (m + 1) + zb (x.testBit (m + 1)) := by
          show sm _ (m + 1 + 1) = _
          rw [sm]
          rfl
        have e2 : cnt (fun i => (x / 2).testBit i.toNat) (m + 1) = cnt (fun i => (x / 2).testBit i.toNat) m + zb ((x / 2).testBit m) := by
          show sm _ (m + 1) = _
          rw [sm]
          rfl
        have e3 : (x / 2).testBit m = x.testBit (m + 1) := by rw [Nat.testBit_succ]
        rw [e1, ih, e2, e3]
        omega
    rw [e n, bct, Int.natCast_add, bct_cnt n (x / 2)]
    have : zb (x.testBit 0) = ((x % 2 : Nat) : Int) := by
      rw [Nat.testBit_zero]
      have : x % 2 < 2 := Nat.mod_lt _ (by decide)
      by_cases hx : x % 2 = 1
      · simp [hx, zb]
      · have h0 : x % 2 = 0 := by omega
        simp [h0, zb]
    rw [this]
theorem bcf_ok {x : Int} (h0 : 0 ≤ x) (h1 : x < 16384) : bcf x = pct x 14 := by
  have hk := bck_ok
  unfold bck at hk
  rw [List.all_eq_true] at hk
  have h2 := hk (x.toNat / 128) (List.mem_range.mpr (by omega))
  rw [List.all_eq_true] at h2
  have h3 := h2 (x.toNat % 128) (List.mem_range.mpr (by omega))
  have h3 := Nat.eq_of_beq_eq_true h3
  have e : 128 * (x.toNat / 128) + x.toNat % 128 = x.toNat := Nat.div_add_mod _ _
  rw [e] at h3
  have e2 : ((x.toNat : Nat) : Int) = x := by omega
  have h4 := bcn_ok (n := x.toNat) (by omega)
  rw [e2] at h4
  rw [bcf_l, h4, h3, bct_cnt]
  rfl
theorem pct_wk {x : Int} {n m : Nat} (hx : 0 ≤ x) (h : x < 2 ^ n) (hm : n ≤ m) : pct x m = pct x n := by
  have : ∀ d : Nat, pct x (n + d) = pct x n := by
    intro d
    induction d with
    | zero => rfl
    | succ d ih =>
      have e : pct x (n + d + 1) = pct x (n + d) + zb (bt x ((n + d : Nat) : Int)) := by
        show sm _ (n + d + 1) = _
        rw [sm]
        rfl
      rw [← Nat.add_assoc, e, ih, bt_lt hx h (by omega), zb_f, Int.add_zero]
  have e := this (m - n)
  have e2 : n + (m - n) = m := by omega
  rw [e2] at e
  exact e
theorem c317 {L : Nat} {xs : Nat → Int32} (hL : L ≤ 3072) {D : Nat} {J : zJ} {K : zK} {Q : zR → Nat → zJ → zK → Prop} {x0 : Int} (hD : 1 ≤ D) (h0 : 0 ≤ x0) (h1 : x0 < 16384) (hQ : Q (.inl (some (zi (pct x0 14)))) 0 J K) : zCall L xs D 317 [zi x0] J K Q := by
  obtain ⟨D, rfl⟩ : ∃ d, D = d + 1 := ⟨D - 1, by omega⟩
  refine z317 hL ?_
  rw [← bcf_ok h0 h1] at hQ
  exact ⟨by decide, by decide, by decide, by decide, by decide, by decide, by decide, by decide, by decide, by decide, hQ⟩
