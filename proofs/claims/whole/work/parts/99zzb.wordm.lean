/-! WORDS of the tape: the model's numbers -/
def wnl (g : Int → Int) : Nat → Int
  | 0 => 0
  | k + 1 => 27 * wnl g k + (g k - 96)
theorem wnl_pos {g : Int → Int} : ∀ k : Nat, (∀ j : Int, 0 ≤ j → j < k → 97 ≤ g j ∧ g j ≤ 122) → 0 ≤ wnl g k ∧ (0 < k → 1 ≤ wnl g k)
  | 0, _ => ⟨Int.le_refl 0, fun z => absurd z (Nat.lt_irrefl 0)⟩
  | k + 1, h => by
    have h1 := wnl_pos k fun j a b => h j a (by omega)
    have h2 := h k (by omega) (by omega)
    rw [wnl]
    omega
/-- a number is that of one word only -/
theorem wnl_inj {g w : Int → Int} : ∀ k m : Nat, (∀ j : Int, 0 ≤ j → j < k → 97 ≤ g j ∧ g j ≤ 122) → (∀ j : Int, 0 ≤ j → j < m → 97 ≤ w j ∧ w j ≤ 122) → wnl g k = wnl w m → k = m ∧ ∀ j : Int, 0 ≤ j → j < k → g j = w j
  | 0, 0, _, _, _ => ⟨rfl, fun j a b => by omega⟩
  | 0, m + 1, _, hw, e => by
    have := (wnl_pos (m + 1) hw).2 (by omega)
    have e0 : wnl g 0 = 0 := rfl
    omega
  | k + 1, 0, hg, _, e => by
    have := (wnl_pos (k + 1) hg).2 (by omega)
    have e0 : wnl w 0 = 0 := rfl
    omega
  | k + 1, m + 1, hg, hw, e => by
    have h1 := hg k (by omega) (by omega)
    have h2 := hw m (by omega) (by omega)
    rw [wnl, wnl] at e
    have e1 : wnl g k = wnl w m := by omega
    have e2 : g k = w m := by omega
    obtain ⟨i1, i2⟩ := wnl_inj k m (fun j a b => hg j a (by omega)) (fun j a b => hw j a (by omega)) e1
    refine ⟨by omega, fun j a b => ?_⟩
    by_cases q : j = k
    · rw [q, e2, i1]
    · exact i2 j a (by omega)
def wnv (f : Int → Int) (s e : Int) : Int := if e - s ≤ 7 then wnl (fun j => f (s + j)) (e - s).toNat else 18446744073709551615
theorem c307 {L : Nat} {xs : Nat → Int32} (hL : L ≤ 3072) {D : Nat} {J : zJ} {K : zK} {Q : zR → Nat → zJ → zK → Prop} {f : Int → Int} {N i : Int} (hT : Tpm f N J) (hi : J 142 0 4 = i) (i0 : 0 ≤ i) (i1 : i ≤ N) (hD : 3 ≤ D) (hQ : ∀ J' : zJ, (∀ b : Nat, b ≠ 142 → J' b = J b) → (∀ k : Int, k ≠ 4 → J' 142 0 k = J 142 0 k) → J' 142 0 4 = skp isB f N i → Q (.inl (some (zl (wnv f (skp isB f N i) (skp isL f N (skp isB f N i)))))) 0 J' K) : zCall L xs D 307 [zr 142] J K Q := by
  obtain ⟨D, rfl⟩ : ∃ d, D = d + 1 := ⟨D - 1, by omega⟩
  obtain ⟨b1, b2, _, _⟩ := skp_rng (P := isB) (f := f) (n := N) _ i rfl
  have hb2 := b2 i1
  have tN := hT.2.1
  refine z307 hL ?_
  refine c202 hL hT hi i0 i1 (by omega) fun J1 f1 k1 v1 => zaV_of ?_
  have hq := hQ J1 f1 k1 v1
  have hT1 := tpm_eq hT (f1 143 (by decide)) (k1 2 (by decide))
  generalize skp isB f N i = s at *
  have key : ∀ (m : Nat) (k : Int) (v : Int), m = (N - (s + k)).toNat → 0 ≤ k → s + k ≤ N → v = wnl (fun j => f (s + j)) (if k ≤ 7 then k.toNat else 7) → skp isL f N s = skp isL f N (s + k) → zGo L xs (D + 1) 307 8 [some (zr 142), some (zl v), none, some (zi k)] [] J1 K Q := by
    intro n; induction n using Nat.strongRecOn with
  | _ n ih =>
    intro k v hm k0 k1' hv hs
    have hck : zin (if s + k < N then f (s + k) else -1) := by
      split
      · rename_i q
        have := hT1.2.2 (s + k) (by omega) q
        exact ⟨by omega, by omega⟩
      · exact ⟨by decide, by decide⟩
    have fin : ¬ (s + k < N ∧ isL (f (s + k)) = true) → zin k ∧ zin 7 ∧ (k ≤ (7 : Int) → Q (.inl (some (zl v))) 0 J1 K) ∧ ((7 : Int) < k → Q (.inl (some (zl 18446744073709551615))) 0 J1 K) := by
      intro hno
      rw [skp_no hno] at hs
      have ee : skp isL f N s - s = k := by omega
      unfold wnv at hq
      rw [ee] at hq
      refine ⟨⟨by omega, by omega⟩, ⟨by decide, by decide⟩, fun z => ?_, fun z => ?_⟩
      · rw [if_pos z] at hq hv
        rw [hv]
        exact hq
      · rw [if_neg (by omega)] at hq
        exact hq
    refine z307_8 hL ?_
    rw [v1]
    refine c204 hL hT1 (by omega) (by omega) (by omega) (zaI_of ⟨hck, ⟨by decide, by decide⟩, fun z => ?_, fun z => ?_⟩)
    · refine fin ?_
      rintro ⟨y1, y2⟩
      rw [if_pos y1] at z
      rw [isL_t] at y2
      omega
    · rw [v1]
      refine c204 hL hT1 (by omega) (by omega) (by omega) (zaI_of ⟨hck, ⟨by decide, by decide⟩, fun z2 => ?_, fun z2 => ?_⟩)
      · refine fin ?_
        rintro ⟨y1, y2⟩
        rw [if_pos y1] at z2
        rw [isL_t] at y2
        omega
      · have q : s + k < N := by
          by_cases q : s + k < N
          · exact q
          · rw [if_neg q] at z
            exact absurd z (by decide)
        rw [if_pos q] at z z2
        have hl : isL (f (s + k)) = true := isL_t.mpr ⟨z, z2⟩
        have hs2 : skp isL f N s = skp isL f N (s + (k + 1)) := by
          rw [hs, skp_go q hl]
          congr 1
          omega
        refine ⟨⟨by omega, by omega⟩, ⟨by decide, by decide⟩, fun q7 => ?_, fun q7 => ?_⟩
        · refine ih _ (by omega) (k + 1) v rfl (by omega) (by omega) ?_ hs2
          rw [if_neg (by omega)]
          by_cases e7 : k = 7
          · rw [e7, if_pos (by decide)] at hv
            exact hv
          · rw [if_neg (by omega)] at hv
            exact hv
        · rw [v1]
          refine c204 hL hT1 (by omega) (by omega) (by omega) (zaI_of ⟨hck, ?_⟩)
          rw [if_pos q]
          refine ih _ (by omega) (k + 1) _ rfl (by omega) (by omega) ?_ hs2
          rw [if_pos (by omega)]
          rw [if_pos (by omega)] at hv
          have ek : (k + 1).toNat = k.toNat + 1 := by omega
          have ek2 : ((k.toNat : Nat) : Int) = k := by omega
          rw [ek, wnl, ← hv, ek2]
          omega
  exact key _ 0 0 rfl (Int.le_refl 0) (by omega) rfl (by rw [Int.add_zero])
