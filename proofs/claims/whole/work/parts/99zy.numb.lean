/-! READING A NUMBER -/
def nvl (f : Int → Int) (n : Int) : Nat → Int → Int → Int
  | 0, _, v => v
  | m + 1, i, v => if i < n ∧ isD (f i) = true then nvl f n m (i + 1) (v * 10 + f i - 48) else v
/-- the number that the digits from i on make, behind v -/
def nvs (f : Int → Int) (n i v : Int) : Int := nvl f n (n - i).toNat i v
theorem nvs_go {f : Int → Int} {n i v : Int} (h : i < n) (hp : isD (f i) = true) : nvs f n i v = nvs f n (i + 1) (v * 10 + f i - 48) := by
  unfold nvs
  have e : (n - i).toNat = (n - (i + 1)).toNat + 1 := by omega
  rw [e, nvl, if_pos ⟨h, hp⟩]
theorem nvs_no {f : Int → Int} {n i v : Int} (h : ¬ (i < n ∧ isD (f i) = true)) : nvs f n i v = v := by
  unfold nvs
  cases e : (n - i).toNat with
  | zero => rfl
  | succ m => rw [nvl, if_neg h]
theorem nvs_nn {f : Int → Int} {n : Int} : ∀ (m : Nat) (i v : Int), m = (n - i).toNat → 0 ≤ v → 0 ≤ nvs f n i v := by
  intro m
  induction m using Nat.strongRecOn with
  | _ m ih =>
  intro i v hm v0
  by_cases q : i < n ∧ isD (f i) = true
  · have := isD_t.mp q.2
    rw [nvs_go q.1 q.2]
    exact ih _ (by omega) (i + 1) _ rfl (by omega)
  · rw [nvs_no q]
    exact v0
/-- held down -/
def cpd (c v : Int) : Int := if v ≤ c then v else c
theorem cpd_nx {c v d : Int} (c0 : 0 ≤ c) (v0 : 0 ≤ v) (d0 : 0 ≤ d) : cpd c (cpd c v * 10 + d) = cpd c (v * 10 + d) := by
  unfold cpd
  by_cases q : v ≤ c
  · rw [if_pos q]
  · rw [if_neg q]
    split <;> split <;> omega
theorem cpd_rng {c v : Int} (c0 : 0 ≤ c) (v0 : 0 ≤ v) : 0 ≤ cpd c v ∧ cpd c v ≤ c := by
  unfold cpd
  split <;> omega
/-- the class: a number, where there is no fault yet -/
theorem c94 {L : Nat} {xs : Nat → Int32} (hL : L ≤ 3072) {D : Nat} {J : zJ} {K : zK} {Q : zR → Nat → zJ → zK → Prop} {f : Int → Int} {N i lo hi : Int} (hT : Tpc f N J) (hi' : J 2 0 3 = i) (i0 : 0 ≤ i) (i1 : i ≤ N) (h5 : J 2 0 5 = 0) (l0 : 0 ≤ lo) (l1 : lo ≤ 1) (h1 : -1 ≤ hi) (h2 : hi ≤ 2000) (hD : 2 ≤ D)
  (hQ : ∀ J' : zJ, (∀ b : Nat, b ≠ 2 → J' b = J b) → (∀ k : Int, k ≠ 3 → k ≠ 5 → k ≠ 6 → J' 2 0 k = J 2 0 k) → J' 2 0 3 = skp isD f N (skp isB f N i) → (skp isD f N (skp isB f N i) = skp isB f N i → J' 2 0 5 = 1 → J' 2 0 6 = skp isB f N i → Q (.inl (some (zi (lo)))) 0 J' K) ∧ (skp isD f N (skp isB f N i) ≠ skp isB f N i → ¬ (lo ≤ nvs f N (skp isB f N i) 0 ∧ nvs f N (skp isB f N i) 0 ≤ hi) → J' 2 0 5 = 2 → J' 2 0 6 = skp isB f N i → Q (.inl (some (zi (lo)))) 0 J' K) ∧ (skp isD f N (skp isB f N i) ≠ skp isB f N i → lo ≤ nvs f N (skp isB f N i) 0 ∧ nvs f N (skp isB f N i) 0 ≤ hi → J' 2 0 5 = 0 → J' 2 0 6 = J 2 0 6 → Q (.inl (some (zi (nvs f N (skp isB f N i) 0)))) 0 J' K)) : zCall L xs D 94 [zr 2, zi lo, zi hi] J K Q := by
  obtain ⟨D, rfl⟩ : ∃ d, D = d + 1 := ⟨D - 1, by omega⟩
  obtain ⟨b1, b2, _, _⟩ := skp_rng (P := isB) (f := f) (n := N) _ i rfl
  have hb2 := b2 i1
  generalize hse : skp isB f N i = s at *
  have key : ∀ (m : Nat) (j v : Int) (J1 : zJ), m = (N - j).toNat → s ≤ j → j ≤ N → (∀ b : Nat, b ≠ 2 → J1 b = J b) → (∀ k : Int, k ≠ 3 → J1 2 0 k = J 2 0 k) → J1 2 0 3 = j → 0 ≤ v → nvs f N s 0 = nvs f N j v → skp isD f N s = skp isD f N j → zGo L xs (D + 1) 94 21 [some (zr 2), some (zi lo), some (zi hi), some (zi s), some (zi (cpd 1000000 v))] [] J1 K Q := by
    intro n; induction n using Nat.strongRecOn with
  | _ n ih =>
    intro j v J1 hm j0 j1 f1 k1 v3 v0 hv hs
    have hT1 := tpc_eq hT (f1 1 (by decide)) (k1 2 (by decide))
    obtain ⟨t1, t2, t3⟩ := hT1
    have hcr := cpd_rng (c := 1000000) (by decide) v0
    have e5 : J1 2 0 5 = 0 := by rw [k1 5 (by decide)]; exact h5
    -- the end of the digits
    have fin : ¬ (j < N ∧ isD (f j) = true) → zin (J1 2 0 3) ∧ zin s ∧ ((J1 2 0 3) ≠ s → zin (cpd 1000000 v) ∧ zin lo ∧ (cpd 1000000 v < lo → zCall L xs D 86 [zr 2, zi 2, zi s] J1 K fun r1 e1 J1 K1 => zaV r1 e1 (Q (.inl (some (zi lo))) 0 J1 K1) (fun E => Q (.inr E) e1 J1 K1)) ∧ (lo ≤ cpd 1000000 v → zin (cpd 1000000 v) ∧ zin hi ∧ (cpd 1000000 v ≤ hi → Q (.inl (some (zi (cpd 1000000 v)))) 0 J1 K) ∧ (hi < cpd 1000000 v → zCall L xs D 86 [zr 2, zi 2, zi s] J1 K fun r2 e2 J2 K2 => zaV r2 e2 (Q (.inl (some (zi lo))) 0 J2 K2) (fun E => Q (.inr E) e2 J2 K2)))) ∧ ((J1 2 0 3) = s → zCall L xs D 86 [zr 2, zi 1, zi s] J1 K fun r3 e3 J3 K3 => zaV r3 e3 (Q (.inl (some (zi lo))) 0 J3 K3) (fun E => Q (.inr E) e3 J3 K3)) := by
      intro hno
      rw [nvs_no hno] at hv
      rw [skp_no hno] at hs
      have put : ∀ c : Int, (∀ J' : zJ, (∀ b : Nat, b ≠ 2 → J' b = J b) → (∀ k : Int, k ≠ 3 → k ≠ 5 → k ≠ 6 → J' 2 0 k = J 2 0 k) → J' 2 0 3 = skp isD f N s → J' 2 0 5 = c → J' 2 0 6 = s → Q (.inl (some (zi lo))) 0 J' K) → zCall L xs D 86 [zr 2, zi c, zi s] J1 K fun r1 e1 J1 K1 => zaV r1 e1 (Q (.inl (some (zi lo))) 0 J1 K1) (fun E => Q (.inr E) e1 J1 K1) := by
        intro c hc
        refine c86 hL (by rw [e5]; exact zin_0) (by omega) (fun z => absurd e5 z) fun _ => zaV_of ?_
        refine hc _ (fun b hb => by rw [zup_ne _ _ _ _ hb, zup_ne _ _ _ _ hb]; exact f1 b hb) (fun k x y z => by rw [zup_nk _ _ z, zup_nk _ _ y]; exact k1 k x) ?_ ?_ (zup_eq _ _ _ _ _)
        · rw [zup_nk _ _ (by decide), zup_nk _ _ (by decide), v3, hs]
        · rw [zup_nk _ _ (by decide), zup_eq]
      have bad : j ≠ s → ¬ (lo ≤ v ∧ v ≤ hi) → zCall L xs D 86 [zr 2, zi 2, zi s] J1 K fun r1 e1 J1 K1 => zaV r1 e1 (Q (.inl (some (zi lo))) 0 J1 K1) (fun E => Q (.inr E) e1 J1 K1) := fun hj hn => put 2 fun J' a1 a2 a3 a4 a5 => (hQ J' a1 a2 a3).2.1 (by rw [hs]; exact hj) (by rw [hv]; exact hn) a4 a5
      have hcv : cpd 1000000 v ≤ 2000 → cpd 1000000 v = v := fun z => by
        unfold cpd at z ⊢
        split at z <;> split <;> omega
      have hcv2 : v ≤ 2000 → cpd 1000000 v = v := fun z => by
        unfold cpd
        rw [if_pos (by omega)]
      rw [v3]
      refine ⟨⟨by omega, by omega⟩, ⟨by omega, by omega⟩, fun q => ⟨⟨by omega, by omega⟩, ⟨by omega, by omega⟩, fun q2 => bad q fun z => ?_, fun q2 => ⟨⟨by omega, by omega⟩, ⟨by omega, by omega⟩, fun q3 => ?_, fun q3 => bad q fun z => ?_⟩⟩, fun q => ?_⟩
      · have := hcv2 (by omega)
        omega
      · have e := hcv (by omega)
        rw [e] at q2 q3 ⊢
        rw [← hv]
        refine (hQ J1 f1 (fun k x _ _ => k1 k x) (by rw [v3, hs])).2.2 (by rw [hs]; exact q) (by rw [hv]; exact ⟨q2, q3⟩) e5 (k1 6 (by decide))
      · have := hcv2 (by omega)
        omega
      · exact put 1 fun J' a1 a2 a3 a4 a5 => (hQ J' a1 a2 a3).1 (by rw [hs]; exact q) a4 a5
    refine z94_21 hL ?_
    by_cases q : j < N
    · obtain ⟨c0, c1, c2⟩ := t3 j (by omega) q
      have hg := sg_rng c0 c1
      have e2 : J1 2 0 2 = N := t1
      have e1 : J1 1 0 (J1 2 0 3) = sg (f j) := by rw [v3]; exact c2
      rw [e1, e2]
      refine ⟨by rw [v3]; exact ⟨by omega, by omega⟩, ⟨by omega, by omega⟩, fun z => by omega, fun _ => ⟨by omega, by omega, ⟨by omega, by omega⟩, ⟨by decide, by decide⟩, fun z => fin ?_, fun z => ⟨by omega, by omega, ⟨by omega, by omega⟩, ⟨by decide, by decide⟩, fun z2 => fin ?_, fun z2 => ?_⟩⟩⟩
      · rintro ⟨_, y⟩
        rw [isD_t] at y
        omega
      · rintro ⟨_, y⟩
        rw [isD_t] at y
        omega
      · have ef : sg (f j) = f j := hg.2.1 (by omega)
        rw [ef] at z z2 ⊢
        have hd : isD (f j) = true := isD_t.mpr ⟨z, z2⟩
        have ec : (if 1000000 < cpd 1000000 v * 10 + f j - 48 then 1000000 else cpd 1000000 v * 10 + f j - 48) = cpd 1000000 (v * 10 + f j - 48) := by
          have h1 := cpd_nx (c := 1000000) (v := v) (d := f j - 48) (by decide) v0 (by omega)
          have e1 : cpd 1000000 v * 10 + (f j - 48) = cpd 1000000 v * 10 + f j - 48 := by omega
          have e2 : v * 10 + (f j - 48) = v * 10 + f j - 48 := by omega
          rw [e1, e2] at h1
          rw [← h1]
          unfold cpd
          split <;> split <;> split <;> omega
        rw [ec, v3]
        refine ⟨by omega, by omega, ⟨by omega, by omega⟩, ⟨by decide, by decide⟩, by omega, ?_⟩
        refine ih _ (by omega) (j + 1) _ _ rfl (by omega) (by omega) (fun b hb => by rw [zup_ne _ _ _ _ hb]; exact f1 b hb) (fun k hk => by rw [zup_nk _ _ hk]; exact k1 k hk) (zup_eq _ _ _ _ _) (by omega) ?_ ?_
        · rw [hv, nvs_go q hd]
        · rw [hs, skp_go q hd]
    · have e2 : J1 2 0 2 = N := t1
      rw [e2]
      refine ⟨by rw [v3]; exact ⟨by omega, by omega⟩, ⟨by omega, by omega⟩, fun z => fin fun y => q y.1, fun z => by omega⟩
  refine z94 hL ⟨by rw [h5]; exact zin_0, fun _ => ?_, fun z => absurd h5 z⟩
  refine c101 hL hT hi' i0 i1 (by omega) fun J1 f1 k1 v1 => zaV_of ?_
  rw [hse] at v1
  rw [v1]
  have := key _ s 0 J1 rfl (Int.le_refl _) hb2 f1 k1 v1 (Int.le_refl 0) rfl rfl
  have e0 : cpd 1000000 0 = 0 := rfl
  rw [e0] at this
  exact this
