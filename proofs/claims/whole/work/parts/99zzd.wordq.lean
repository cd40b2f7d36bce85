/-! WORDS of the tape: which one -/
theorem zcmp_eq {x y : Int} (hx : zlin x) (hy : zlin y) : zcmp x y = 0 ↔ x = y := by
  have h1 : (Int64.ofInt y < Int64.ofInt x) ↔ y < x := by rw [Int64.lt_iff_toInt_lt, zlin_e hx, zlin_e hy]
  have h2 : (Int64.ofInt x = Int64.ofInt y) ↔ x = y := by rw [← Int64.toInt_inj, zlin_e hx, zlin_e hy]
  unfold zcmp lg_cmp
  by_cases q1 : y < x
  · rw [if_pos (h1.mpr q1)]
    have : (1 : Int32).toInt = 1 := by decide
    omega
  · rw [if_neg (fun q => q1 (h1.mp q))]
    by_cases q2 : x = y
    · rw [if_pos (h2.mpr q2)]
      have : (0 : Int32).toInt = 0 := by decide
      omega
    · rw [if_neg (fun q => q2 (h2.mp q))]
      have : (-1 : Int32).toInt = -1 := by decide
      omega
theorem wnl_le {g : Int → Int} : ∀ k : Nat, (∀ j : Int, 0 ≤ j → j < k → 97 ≤ g j ∧ g j ≤ 122) → wnl g k < 27 ^ k
  | 0, _ => by
    show (0 : Int) < 1
    decide
  | k + 1, h => by
    have h1 := wnl_le k fun j a b => h j a (by omega)
    have h2 := h k (by omega) (by omega)
    rw [wnl, Int.pow_succ]
    omega
theorem wnv_wdb {w : List Nat} {f : Int → Int} {s e W : Int} (hl : w.length ≤ 7) (hw : ∀ j : Int, 0 ≤ j → j < w.length → 97 ≤ ((w.getD j.toNat 0 : Nat) : Int) ∧ ((w.getD j.toNat 0 : Nat) : Int) ≤ 122) (hW : W = wnl (fun j => ((w.getD j.toNat 0 : Nat) : Int)) w.length) (se : s ≤ e) (hf : ∀ j : Int, s ≤ j → j < e → 97 ≤ f j ∧ f j ≤ 122) : zcmp (wnv f s e) W = 0 ↔ wdb w f s e = true := by
  have p27 : ∀ k : Nat, k ≤ 7 → (27 : Int) ^ k ≤ 10460353203 := fun k hk => by
    have := Nat.pow_le_pow_right (n := 27) (by decide) hk
    have e : ((27 ^ k : Nat) : Int) = (27 : Int) ^ k := by simp
    have e2 : (27 : Nat) ^ 7 = 10460353203 := rfl
    omega
  have w1 := wnl_pos w.length hw
  have w2 := wnl_le w.length hw
  have w3 := p27 w.length hl
  rw [← hW] at w1 w2
  have hwd : wdb w f s e = true ↔ e - s = w.length ∧ ∀ j : Int, 0 ≤ j → j < w.length → f (s + j) = ((w.getD j.toNat 0 : Nat) : Int) := by
    unfold wdb
    rw [Bool.and_eq_true, decide_eq_true_iff, decide_eq_true_iff]
    refine and_congr Iff.rfl ⟨fun z j j0 j1 => ?_, fun z => sm_zero fun j j0 j1 => ?_⟩
    · by_cases q : f (s + j) = ((w.getD j.toNat 0 : Nat) : Int)
      · exact q
      · have : 0 < cnt (fun k => !decide (f (s + k) = ((w.getD k.toNat 0 : Nat) : Int))) w.length := cnt_pos.mpr ⟨j, j0, j1, by rw [decide_eq_false q]; rfl⟩
        omega
    · show zb (!decide (f (s + j) = ((w.getD j.toNat 0 : Nat) : Int))) = 0
      rw [decide_eq_true (z j j0 j1)]
      rfl
  rw [hwd]
  by_cases q : e - s ≤ 7
  · have hg : ∀ j : Int, 0 ≤ j → j < ((e - s).toNat : Nat) → 97 ≤ f (s + j) ∧ f (s + j) ≤ 122 := fun j a b => hf (s + j) (by omega) (by omega)
    have g1 := wnl_pos (g := fun j => f (s + j)) (e - s).toNat hg
    have g2 := wnl_le (g := fun j => f (s + j)) (e - s).toNat hg
    have g3 := p27 (e - s).toNat (by omega)
    unfold wnv
    rw [if_pos q, zcmp_eq ⟨by omega, by omega⟩ ⟨by omega, by omega⟩, hW]
    constructor
    · intro z
      obtain ⟨a1, a2⟩ := wnl_inj _ _ hg hw z
      exact ⟨by omega, fun j a b => a2 j a (by omega)⟩
    · rintro ⟨a1, a2⟩
      have a3 : (e - s).toNat = w.length := by omega
      rw [a3]
      have gen : ∀ k : Nat, k ≤ w.length → wnl (fun j => f (s + j)) k = wnl (fun j => ((w.getD j.toNat 0 : Nat) : Int)) k := by
        intro k
        induction k with
        | zero => intro _; rfl
        | succ k ih =>
          intro hk
          rw [wnl, wnl, ih (by omega), a2 k (by omega) (by omega)]
      exact gen _ (Nat.le_refl _)
  · unfold wnv
    rw [if_neg q]
    have e1 : zcmp 18446744073709551615 W = zcmp (-1) W := by
      unfold zcmp
      have : Int64.ofInt 18446744073709551615 = Int64.ofInt (-1) := by decide
      rw [this]
    rw [e1, zcmp_eq ⟨by decide, by decide⟩ ⟨by omega, by omega⟩]
    constructor
    · intro z
      omega
    · rintro ⟨a1, _⟩
      omega
