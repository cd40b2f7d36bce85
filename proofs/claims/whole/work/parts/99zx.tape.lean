/-! READING A TAPE: blanks, words, digits -/
def scn (P : Int → Bool) (f : Int → Int) (n : Int) : Nat → Int → Int
  | 0, i => i
  | m + 1, i => if i < n ∧ P (f i) = true then scn P f n m (i + 1) else i
/-- the first place from i on that isn't such a sign -/
def skp (P : Int → Bool) (f : Int → Int) (n i : Int) : Int := scn P f n (n - i).toNat i
theorem skp_go {P : Int → Bool} {f : Int → Int} {n i : Int} (h : i < n) (hp : P (f i) = true) : skp P f n i = skp P f n (i + 1) := by
  unfold skp
  have e : (n - i).toNat = (n - (i + 1)).toNat + 1 := by omega
  rw [e, scn, if_pos ⟨h, hp⟩]
theorem skp_no {P : Int → Bool} {f : Int → Int} {n i : Int} (h : ¬ (i < n ∧ P (f i) = true)) : skp P f n i = i := by
  unfold skp
  cases e : (n - i).toNat with
  | zero => rfl
  | succ m => rw [scn, if_neg h]
theorem skp_rng {P : Int → Bool} {f : Int → Int} {n : Int} : ∀ (m : Nat) (i : Int), m = (n - i).toNat → i ≤ skp P f n i ∧ (i ≤ n → skp P f n i ≤ n) ∧ (∀ j : Int, i ≤ j → j < skp P f n i → P (f j) = true) ∧ ¬ (skp P f n i < n ∧ P (f (skp P f n i)) = true) := by
  intro m
  induction m using Nat.strongRecOn with
  | _ m ih =>
  intro i hm
  by_cases q : i < n ∧ P (f i) = true
  · rw [skp_go q.1 q.2]
    obtain ⟨a1, a2, a3, a4⟩ := ih _ (by omega) (i + 1) rfl
    refine ⟨by omega, fun z => a2 (by omega), fun j j0 j1 => ?_, a4⟩
    by_cases e : j = i
    · rw [e]
      exact q.2
    · exact a3 j (by omega) j1
  · rw [skp_no q]
    exact ⟨Int.le_refl _, fun z => z, fun j a b => by omega, q⟩
def isB (c : Int) : Bool := decide (c = 32)
def isL (c : Int) : Bool := decide (97 ≤ c) && decide (c ≤ 122)
def isD (c : Int) : Bool := decide (48 ≤ c) && decide (c ≤ 57)
theorem isB_t {c : Int} : isB c = true ↔ c = 32 := decide_eq_true_iff
theorem isL_t {c : Int} : isL c = true ↔ 97 ≤ c ∧ c ≤ 122 := by
  unfold isL
  rw [Bool.and_eq_true, decide_eq_true_iff, decide_eq_true_iff]
theorem isD_t {c : Int} : isD c = true ↔ 48 ≤ c ∧ c ≤ 57 := by
  unfold isD
  rw [Bool.and_eq_true, decide_eq_true_iff, decide_eq_true_iff]
/-- the tape, in both -/
def Tpc (f : Int → Int) (n : Int) (J : zJ) : Prop := J 2 0 2 = n ∧ (0 ≤ n ∧ n ≤ 500) ∧ ∀ k : Int, 0 ≤ k → k < n → 0 ≤ f k ∧ f k < 256 ∧ J 1 0 k = sg (f k)
def Tpm (f : Int → Int) (n : Int) (J : zJ) : Prop := J 142 0 2 = n ∧ (0 ≤ n ∧ n ≤ 500) ∧ ∀ k : Int, 0 ≤ k → k < n → 0 ≤ f k ∧ f k < 256 ∧ J 143 0 k = f k
theorem tpc_eq {f : Int → Int} {n : Int} {J J' : zJ} (h : Tpc f n J) (e1 : J' 1 = J 1) (e2 : J' 2 0 2 = J 2 0 2) : Tpc f n J' := by
  unfold Tpc
  rw [e1, e2]
  exact h
theorem tpm_eq {f : Int → Int} {n : Int} {J J' : zJ} (h : Tpm f n J) (e1 : J' 143 = J 143) (e2 : J' 142 0 2 = J 142 0 2) : Tpm f n J' := by
  unfold Tpm
  rw [e1, e2]
  exact h
theorem sg_rng {v : Int} (h0 : 0 ≤ v) (h1 : v < 256) : (-128 ≤ sg v ∧ sg v < 128) ∧ (v < 128 → sg v = v) ∧ (128 ≤ v → sg v < 0) := by
  unfold sg
  split <;> omega
/-- blanks: the class -/
theorem c101 {L : Nat} {xs : Nat → Int32} (hL : L ≤ 3072) {D : Nat} {J : zJ} {K : zK} {Q : zR → Nat → zJ → zK → Prop} {f : Int → Int} {N i : Int} (hT : Tpc f N J) (hi : J 2 0 3 = i) (i0 : 0 ≤ i) (i1 : i ≤ N) (hD : 1 ≤ D) (hQ : ∀ J' : zJ, (∀ b : Nat, b ≠ 2 → J' b = J b) → (∀ k : Int, k ≠ 3 → J' 2 0 k = J 2 0 k) → J' 2 0 3 = skp isB f N i → Q (.inl none) 0 J' K) : zCall L xs D 101 [zr 2] J K Q := by
  obtain ⟨D, rfl⟩ : ∃ d, D = d + 1 := ⟨D - 1, by omega⟩
  have key : ∀ (m : Nat) (j : Int) (J1 : zJ), m = (N - j).toNat → 0 ≤ j → j ≤ N → (∀ b : Nat, b ≠ 2 → J1 b = J b) → (∀ k : Int, k ≠ 3 → J1 2 0 k = J 2 0 k) → J1 2 0 3 = j → skp isB f N i = skp isB f N j → zin (J1 2 0 3) ∧ zin (J1 2 0 2) ∧ ((J1 2 0 2) ≤ (J1 2 0 3) → Q (.inl none) 0 J1 K) ∧ ((J1 2 0 3) < (J1 2 0 2) → 0 ≤ (J1 2 0 3) ∧ (J1 2 0 3) < 500 ∧ zin (J1 1 0 (J1 2 0 3)) ∧ zin 32 ∧ ((J1 1 0 (J1 2 0 3)) ≠ (32 : Int) → Q (.inl none) 0 J1 K) ∧ ((J1 1 0 (J1 2 0 3)) = (32 : Int) → zGo L xs (D + 1) 101 0 [some (zr 2)] [] (zup J1 2 0 3 ((J1 2 0 3) + 1)) K Q)) := by
    intro n; induction n using Nat.strongRecOn with
  | _ n ih =>
    intro j J1 hm j0 j1 f1 k1 v3 hs
    have hT1 := tpc_eq hT (f1 1 (by decide)) (k1 2 (by decide))
    obtain ⟨t1, t2, t3⟩ := hT1
    rw [v3, t1]
    refine ⟨⟨by omega, by omega⟩, ⟨by omega, by omega⟩, fun q => ?_, fun q => ?_⟩
    · exact hQ J1 f1 k1 (by rw [v3, hs, skp_no fun z => by omega])
    · obtain ⟨c0, c1, c2⟩ := t3 j j0 q
      have hg := sg_rng c0 c1
      rw [c2]
      refine ⟨j0, by omega, ⟨by omega, by omega⟩, ⟨by decide, by decide⟩, fun z => ?_, fun z => ?_⟩
      · have hno : ¬ (j < N ∧ isB (f j) = true) := by
          rintro ⟨_, y⟩
          rw [isB_t] at y
          omega
        exact hQ J1 f1 k1 (by rw [v3, hs, skp_no hno])
      · refine z101_0 hL ?_
        refine ih _ (by omega) (j + 1) _ rfl (by omega) (by omega) (fun b hb => by rw [zup_ne _ _ _ _ hb]; exact f1 b hb) (fun k hk => by rw [zup_nk _ _ hk]; exact k1 k hk) (zup_eq _ _ _ _ _) ?_
        rw [hs, skp_go q (isB_t.mpr (by omega))]
  exact z101 hL (key _ i J rfl i0 i1 (fun _ _ => rfl) (fun _ _ => rfl) hi rfl)
/-- the word that stands next: the class -/
theorem c99 {L : Nat} {xs : Nat → Int32} (hL : L ≤ 3072) {D : Nat} {J : zJ} {K : zK} {Q : zR → Nat → zJ → zK → Prop} {f : Int → Int} {N i : Int} (hT : Tpc f N J) (hi : J 2 0 3 = i) (i0 : 0 ≤ i) (i1 : i ≤ N) (hD : 2 ≤ D) (hQ : ∀ J' : zJ, (∀ b : Nat, b ≠ 2 → J' b = J b) → (∀ k : Int, k ≠ 3 → k ≠ 4 → J' 2 0 k = J 2 0 k) → J' 2 0 4 = skp isB f N i → J' 2 0 3 = skp isL f N (skp isB f N i) → Q (.inl none) 0 J' K) : zCall L xs D 99 [zr 2] J K Q := by
  obtain ⟨D, rfl⟩ : ∃ d, D = d + 1 := ⟨D - 1, by omega⟩
  obtain ⟨b1, b2, _, _⟩ := skp_rng (P := isB) (f := f) (n := N) _ i rfl
  have key : ∀ (m : Nat) (j : Int) (J1 : zJ), m = (N - j).toNat → 0 ≤ j → j ≤ N → (∀ b : Nat, b ≠ 2 → J1 b = J b) → (∀ k : Int, k ≠ 3 → k ≠ 4 → J1 2 0 k = J 2 0 k) → J1 2 0 4 = skp isB f N i → J1 2 0 3 = j → skp isL f N (skp isB f N i) = skp isL f N j → zGo L xs (D + 1) 99 12 [some (zr 2)] [] J1 K Q := by
    intro n; induction n using Nat.strongRecOn with
  | _ n ih =>
    intro j J1 hm j0 j1 f1 k1 v4 v3 hs
    have hT1 := tpc_eq hT (f1 1 (by decide)) (k1 2 (by decide) (by decide))
    obtain ⟨t1, t2, t3⟩ := hT1
    refine z99_12 hL ?_
    rw [v3, t1]
    refine ⟨⟨by omega, by omega⟩, ⟨by omega, by omega⟩, fun q => ?_, fun q => ?_⟩
    · exact hQ J1 f1 k1 v4 (by rw [v3, hs, skp_no fun z => by omega])
    · obtain ⟨c0, c1, c2⟩ := t3 j j0 q
      have hg := sg_rng c0 c1
      rw [c2]
      refine ⟨j0, by omega, ⟨by omega, by omega⟩, ⟨by decide, by decide⟩, fun z => ?_, fun z => ⟨j0, by omega, ⟨by omega, by omega⟩, ⟨by decide, by decide⟩, fun z2 => ?_, fun z2 => ?_⟩⟩
      · have hno : ¬ (j < N ∧ isL (f j) = true) := by
          rintro ⟨_, y⟩
          rw [isL_t] at y
          omega
        exact hQ J1 f1 k1 v4 (by rw [v3, hs, skp_no hno])
      · have hno : ¬ (j < N ∧ isL (f j) = true) := by
          rintro ⟨_, y⟩
          rw [isL_t] at y
          omega
        exact hQ J1 f1 k1 v4 (by rw [v3, hs, skp_no hno])
      · refine ih _ (by omega) (j + 1) _ rfl (by omega) (by omega) (fun b hb => by rw [zup_ne _ _ _ _ hb]; exact f1 b hb) (fun k hk h4 => by rw [zup_nk _ _ hk]; exact k1 k hk h4) (by rw [zup_nk _ _ (by decide)]; exact v4) (zup_eq _ _ _ _ _) ?_
        rw [hs, skp_go q (isL_t.mpr (by omega))]
  refine z99 hL ?_
  refine c101 hL hT hi i0 i1 (by omega) fun J1 f1 k1 v1 => zaV_of ?_
  refine key _ (skp isB f N i) _ rfl (by omega) (b2 i1) (fun b hb => by rw [zup_ne _ _ _ _ hb]; exact f1 b hb) (fun k x y => by rw [zup_nk _ _ y]; exact k1 k x) ?_ ?_ rfl
  · rw [zup_eq]
    exact v1
  · rw [zup_nk _ _ (by decide)]
    exact v1
/-- the model's sign at a place -/
theorem c204 {L : Nat} {xs : Nat → Int32} (hL : L ≤ 3072) {D : Nat} {J : zJ} {K : zK} {Q : zR → Nat → zJ → zK → Prop} {f : Int → Int} {N i : Int} (hT : Tpm f N J) (i0 : 0 ≤ i) (i1 : i ≤ 1000) (hD : 1 ≤ D) (hQ : Q (.inl (some (zi (if i < N then f i else -1)))) 0 J K) : zCall L xs D 204 [zr 142, zi i] J K Q := by
  obtain ⟨D, rfl⟩ : ∃ d, D = d + 1 := ⟨D - 1, by omega⟩
  obtain ⟨t1, t2, t3⟩ := hT
  refine z204 hL ?_
  rw [t1]
  refine ⟨⟨by omega, by omega⟩, ⟨by omega, by omega⟩, fun q => ⟨i0, by omega, ?_⟩, fun q => ?_⟩
  · rw [if_pos q] at hQ
    rw [(t3 i i0 q).2.2]
    exact hQ
  · rw [if_neg (by omega)] at hQ
    exact hQ
/-- blanks: the model -/
theorem c202 {L : Nat} {xs : Nat → Int32} (hL : L ≤ 3072) {D : Nat} {J : zJ} {K : zK} {Q : zR → Nat → zJ → zK → Prop} {f : Int → Int} {N i : Int} (hT : Tpm f N J) (hi : J 142 0 4 = i) (i0 : 0 ≤ i) (i1 : i ≤ N) (hD : 2 ≤ D) (hQ : ∀ J' : zJ, (∀ b : Nat, b ≠ 142 → J' b = J b) → (∀ k : Int, k ≠ 4 → J' 142 0 k = J 142 0 k) → J' 142 0 4 = skp isB f N i → Q (.inl none) 0 J' K) : zCall L xs D 202 [zr 142] J K Q := by
  obtain ⟨D, rfl⟩ : ∃ d, D = d + 1 := ⟨D - 1, by omega⟩
  have key : ∀ (m : Nat) (j : Int) (J1 : zJ), m = (N - j).toNat → 0 ≤ j → j ≤ N → (∀ b : Nat, b ≠ 142 → J1 b = J b) → (∀ k : Int, k ≠ 4 → J1 142 0 k = J 142 0 k) → J1 142 0 4 = j → skp isB f N i = skp isB f N j → zCall L xs D 204 [zr 142, zi (J1 142 0 4)] J1 K fun r1 e1 J1 K1 => zaI r1 e1 (fun x1_ => zin x1_ ∧ zin 32 ∧ (x1_ ≠ (32 : Int) → Q (.inl none) 0 J1 K1) ∧ (x1_ = (32 : Int) → zGo L xs (D + 1) 202 0 [some (zr 142)] [] (zup J1 142 0 4 ((J1 142 0 4) + 1)) K1 Q)) (fun E => Q (.inr E) e1 J1 K1) := by
    intro n; induction n using Nat.strongRecOn with
  | _ n ih =>
    intro j J1 hm j0 j1 f1 k1 v4 hs
    have hT1 := tpm_eq hT (f1 143 (by decide)) (k1 2 (by decide))
    have t2 := hT1.2.1
    rw [v4]
    refine c204 hL hT1 j0 (by omega) (by omega) (zaI_of ?_)
    by_cases q : j < N
    · obtain ⟨c0, c1, c2⟩ := hT1.2.2 j j0 q
      rw [if_pos q]
      refine ⟨⟨by omega, by omega⟩, ⟨by decide, by decide⟩, fun z => ?_, fun z => ?_⟩
      · have hno : ¬ (j < N ∧ isB (f j) = true) := by
          rintro ⟨_, y⟩
          exact z (isB_t.mp y)
        exact hQ J1 f1 k1 (by rw [v4, hs, skp_no hno])
      · refine z202_0 hL ?_
        rw [v4]
        have := ih _ (by omega) (j + 1) (zup J1 142 0 4 (j + 1)) rfl (by omega) (by omega) (fun b hb => by rw [zup_ne _ _ _ _ hb]; exact f1 b hb) (fun k hk => by rw [zup_nk _ _ hk]; exact k1 k hk) (zup_eq _ _ _ _ _) (by rw [hs, skp_go q (isB_t.mpr z)])
        exact this
    · rw [if_neg q]
      refine ⟨⟨by decide, by decide⟩, ⟨by decide, by decide⟩, fun z => ?_, fun z => absurd z (by decide)⟩
      exact hQ J1 f1 k1 (by rw [v4, hs, skp_no fun y => q y.1])
  exact z202 hL (key _ i J rfl i0 i1 (fun _ _ => rfl) (fun _ _ => rfl) hi rfl)
/-- faults -/
theorem c86 {L : Nat} {xs : Nat → Int32} (hL : L ≤ 3072) {D : Nat} {J : zJ} {K : zK} {Q : zR → Nat → zJ → zK → Prop} {a p : Int} (hz : zin (J 2 0 5)) (hD : 1 ≤ D) (h1 : J 2 0 5 ≠ 0 → Q (.inl none) 0 J K) (h0 : J 2 0 5 = 0 → Q (.inl none) 0 (zup (zup J 2 0 5 a) 2 0 6 p) K) : zCall L xs D 86 [zr 2, zi a, zi p] J K Q := by
  obtain ⟨D, rfl⟩ : ∃ d, D = d + 1 := ⟨D - 1, by omega⟩
  exact z86 hL ⟨hz, h1, h0⟩
theorem c314 {L : Nat} {xs : Nat → Int32} (hL : L ≤ 3072) {D : Nat} {J : zJ} {K : zK} {Q : zR → Nat → zJ → zK → Prop} {a p : Int} (hz : zin (J 142 0 5)) (hD : 1 ≤ D) (h1 : J 142 0 5 ≠ 0 → Q (.inl none) 0 J K) (h0 : J 142 0 5 = 0 → Q (.inl none) 0 (zup (zup J 142 0 5 a) 142 0 6 p) K) : zCall L xs D 314 [zr 142, zi a, zi p] J K Q := by
  obtain ⟨D, rfl⟩ : ∃ d, D = d + 1 := ⟨D - 1, by omega⟩
  exact z314 hL ⟨hz, h1, h0⟩
theorem c244 {L : Nat} {xs : Nat → Int32} (hL : L ≤ 3072) {D : Nat} {J : zJ} {K : zK} {Q : zR → Nat → zJ → zK → Prop} {c : Int} (hc : zin c) (hD : 1 ≤ D) (hQ : Q (.inl (some (zi (zb (isD c))))) 0 J K) : zCall L xs D 244 [zi c] J K Q := by
  obtain ⟨D, rfl⟩ : ∃ d, D = d + 1 := ⟨D - 1, by omega⟩
  by_cases q : isD c = true
  · have q2 := isD_t.mp q
    rw [q] at hQ
    exact z244 hL ⟨hc, ⟨by decide, by decide⟩, fun z => by omega, fun _ => ⟨hc, ⟨by decide, by decide⟩, fun z => by omega, fun _ => ⟨Or.inr rfl, hQ⟩⟩⟩
  · have q2 : ¬ (48 ≤ c ∧ c ≤ 57) := fun z => q (isD_t.mpr z)
    rw [Bool.not_eq_true] at q
    rw [q] at hQ
    exact z244 hL ⟨hc, ⟨by decide, by decide⟩, fun _ => ⟨Or.inl rfl, hQ⟩, fun _ => ⟨hc, ⟨by decide, by decide⟩, fun _ => ⟨Or.inl rfl, hQ⟩, fun z => absurd ⟨by omega, z⟩ q2⟩⟩
