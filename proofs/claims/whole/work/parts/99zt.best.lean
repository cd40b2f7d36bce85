/-! THE MODEL: the best grouping -/
def FrQ (J J' : zJ) : Prop := (∀ b : Nat, b ≠ 142 → b ≠ 229 → b ≠ 234 → b < 255 ∨ 536 < b → J' b = J b) ∧ ∀ k : Int, k ≠ 37 → J' 142 0 k = J 142 0 k
theorem frq_rfl (J : zJ) : FrQ J J := ⟨fun _ _ _ _ _ => rfl, fun _ _ => rfl⟩
theorem frq_tr {J J1 J2 : zJ} (h1 : FrQ J J1) (h2 : FrQ J1 J2) : FrQ J J2 := ⟨fun b a c d e => (h2.1 b a c d e).trans (h1.1 b a c d e), fun k hk => (h2.2 k hk).trans (h1.2 k hk)⟩
theorem frq_up (J : zJ) {a : Nat} (ha : a = 229 ∨ a = 234 ∨ (255 ≤ a ∧ a ≤ 536)) (i k v : Int) : FrQ J (zup J a i k v) := ⟨fun b b1 b2 b3 b4 => zup_ne _ _ _ _ (by omega), fun k _ => by rw [zup_ne _ _ _ _ (by omega)]⟩
theorem frq_r {J J' : zJ} (hf : FrR J J') : FrQ J J' := ⟨fun b b1 b2 b3 b4 => hf b b2 b3 (by omega) (by omega) (by omega) (by omega) (by omega) (by omega), fun k _ => by rw [hf 142 (by decide) (by decide) (by decide) (by decide) (by decide) (by decide) (by decide) (by decide)]⟩
theorem frq_t2 {J J' : zJ} (hf : FrT2 J J') : FrQ J J' := ⟨fun b b1 b2 b3 b4 => hf.1 b b1 (by omega) (by omega) (by omega) (by omega), hf.2⟩
theorem ml_frq {s J J' : zJ} (hM : ML s J) (hf : FrQ J J') : ML s J' := by
  have k : ∀ b : Nat, b ≠ 142 → b < 229 → J' b = J b := fun b h1 hb => hf.1 b h1 (by omega) (by omega) (by omega)
  unfold ML
  rw [k 144 (by decide) (by decide), k 145 (by decide) (by decide), k 170 (by decide) (by decide), k 187 (by decide) (by decide), k 204 (by decide) (by decide)]
  exact hM
/-- rows put aside -/
def Asd (J0 J : zJ) (t : Int) : Prop := ∀ t' : Int, 0 ≤ t' → t' < t → J 535 0 t' = J0 234 0 t' ∧ ∀ i : Int, 0 ≤ i → i < J0 234 0 t' → J 536 t' i = J0 229 t' i
theorem asd_eq {J0 J J' : zJ} {t : Int} (ha : Asd J0 J t) (e1 : J' 535 = J 535) (e2 : J' 536 = J 536) : Asd J0 J' t := by
  unfold Asd
  rw [e1, e2]
  exact ha
theorem mst_eq {s J J' : zJ} {m : Int} (hm : Mst s J m) (e1 : J' 531 = J 531) (e2 : J' 274 = J 274) (e3 : J' 532 = J 532) : Mst s J' m := by
  unfold Mst
  rw [e1, e2, e3]
  exact hm
theorem pw4 {T n : Nat} (hT : T ≤ 4) (hn : n ≤ 7) : T ^ n ≤ 16384 := by
  have h1 : T ^ n ≤ 4 ^ n := Nat.pow_le_pow_left hT n
  have h2 : 4 ^ n ≤ 4 ^ 7 := Nat.pow_le_pow_right (by decide) hn
  have h3 : (4 : Nat) ^ 7 = 16384 := rfl
  omega
theorem c223 {L : Nat} {xs : Nat → Int32} (hL : L ≤ 3072) {D : Nat} {J : zJ} {K : zK} {Q : zR → Nat → zJ → zK → Prop} {s : zJ} (hM : ML s J) (h : LW s) (hP : PW s) (hT : J 142 0 15 = s 40 0 0) (hlv : ∀ t : Int, 0 ≤ t → t < s 40 0 0 → J 235 0 t = s 41 0 t) (hsh : ∀ p : Int, 0 ≤ p → p < 12 → J 236 0 p = zb (bt (s 40 0 10) p)) (hrm : ∀ t : Int, 0 ≤ t → t < s 40 0 0 → 0 ≤ J 234 0 t ∧ J 234 0 t ≤ 7) (hD : 36 ≤ D) (hQ : ∀ (J' : zJ) (B : Int), FrQ J J' → (∀ t : Int, 0 ≤ t → t < s 40 0 0 → J' 234 0 t = J 234 0 t ∧ ∀ i : Int, 0 ≤ i → i < J 234 0 t → J' 229 t i = J 229 t i) → Mst s J' (2 ^ (s 18 0 6).toNat) → Bsg s (s 40 0 0).toNat (s 18 0 6).toNat ((s 40 0 0).toNat ^ (s 18 0 6).toNat) B (J' 534 0) → Q (.inl (some (zi (if B = -1 then -2 else B)))) 0 J' K) : zCall L xs D 223 [zr 142] J K Q := by
  obtain ⟨D, rfl⟩ : ∃ d, D = d + 1 := ⟨D - 1, by omega⟩
  have hn := lw_n h
  have hpn := pw_n hP
  have p7 := pw7 (n := s 18 0 6) (by omega)
  have p4 := pw4 (T := (s 40 0 0).toNat) (n := (s 18 0 6).toNat) (by omega) (by omega)
  have hTT : (((s 40 0 0).toNat : Nat) : Int) = s 40 0 0 := by omega
  have e15 : ∀ {J1 : zJ}, FrQ J J1 → J1 142 0 15 = s 40 0 0 := fun f => (f.2 15 (by decide)).trans hT
  -- rows put back
  have back : ∀ (J1 : zJ) (B : Int), FrQ J J1 → Asd J J1 (s 40 0 0) → Mst s J1 (2 ^ (s 18 0 6).toNat) → Bsg s (s 40 0 0).toNat (s 18 0 6).toNat ((s 40 0 0).toNat ^ (s 18 0 6).toNat) B (J1 534 0) → zGo L xs (D + 1) 223 214 [some (zr 142), some (zi (if B = -1 then -2 else B)), none, some (zi 0), none, none, none] [] J1 K Q := by
    intro J1 B f1 a1 m1 b1
    have trains : ∀ (n : Nat) (t : Int) (J2 : zJ), n = (s 40 0 0 - t).toNat → 0 ≤ t → t ≤ s 40 0 0 → FrQ J J2 → (∀ b : Nat, b ≠ 229 → b ≠ 234 → J2 b = J1 b) → (∀ t' : Int, 0 ≤ t' → t' < t → J2 234 0 t' = J 234 0 t' ∧ ∀ i : Int, 0 ≤ i → i < J 234 0 t' → J2 229 t' i = J 229 t' i) → zGo L xs (D + 1) 223 214 [some (zr 142), some (zi (if B = -1 then -2 else B)), none, some (zi t), none, none, none] [] J2 K Q := by
      intro n; induction n using Nat.strongRecOn with
  | _ n ih =>
      intro t J2 hm t0 t1 f2 k2 v2
      refine z223_214 hL ?_
      rw [e15 f2]
      refine ⟨⟨by omega, by omega⟩, ⟨by omega, by omega⟩, fun q => hQ J2 B f2 (fun t' a b => v2 t' a (by omega)) (mst_eq m1 (k2 _ (by decide) (by decide)) (k2 _ (by decide) (by decide)) (k2 _ (by decide) (by decide))) (by rw [k2 534 (by decide) (by decide)]; exact b1), fun q => ⟨t0, by omega, t0, by omega, ?_⟩⟩
      obtain ⟨a535, a536⟩ := a1 t t0 q
      have hr := hrm t t0 q
      rw [k2 535 (by decide) (by decide), a535]
      have rows : ∀ (m : Nat) (k : Int) (J3 : zJ), m = (J 234 0 t - k).toNat → 0 ≤ k → k ≤ J 234 0 t → FrQ J J3 → (∀ b : Nat, b ≠ 229 → b ≠ 234 → J3 b = J1 b) → (∀ t' : Int, 0 ≤ t' → t' < t → J3 234 0 t' = J 234 0 t' ∧ ∀ i : Int, 0 ≤ i → i < J 234 0 t' → J3 229 t' i = J 229 t' i) → J3 234 0 t = J 234 0 t → (∀ i : Int, 0 ≤ i → i < k → J3 229 t i = J 229 t i) → zGo L xs (D + 1) 223 237 [some (zr 142), some (zi (if B = -1 then -2 else B)), none, some (zi t), some (zi k), none, none] [] J3 K Q := by
        intro m
        induction m using Nat.strongRecOn with
        | _ m ihm =>
        intro k J3 hm2 k0 k1 f3 k3 v3 w3 u3
        refine z223_237 hL ?_
        rw [w3]
        refine ⟨t0, by omega, ⟨by omega, by omega⟩, ⟨by omega, by omega⟩, fun q2 => ?_, fun q2 => ⟨t0, by omega, t0, by omega, t0, by omega, k0, by omega, t0, by omega, k0, by omega, ?_⟩⟩
        · refine ih _ (by omega) (t + 1) J3 rfl (by omega) (by omega) f3 k3 fun t' a b => ?_
          by_cases e : t' = t
          · rw [e]
            exact ⟨w3, fun i i0 i1 => u3 i i0 (by omega)⟩
          · exact v3 t' a (by omega)
        · rw [k3 536 (by decide) (by decide), a536 k k0 q2]
          refine ihm _ (by omega) (k + 1) _ rfl (by omega) (by omega) (frq_tr f3 (frq_up J3 (by decide) _ _ _)) (fun b x y => by rw [zup_ne _ _ _ _ x]; exact k3 b x y) (fun t' a b => ?_) ?_ fun i i0 i1 => ?_
          · obtain ⟨c1, c2⟩ := v3 t' a b
            refine ⟨?_, fun i i0 i1 => ?_⟩
            · rw [zup_ne _ _ _ _ (by decide)]
              exact c1
            · rw [zup_nj _ _ (by omega)]
              exact c2 i i0 i1
          · rw [zup_ne _ _ _ _ (by decide)]
            exact w3
          · by_cases e : i = k
            · rw [e, zup_eq]
            · rw [zup_nk _ _ e]
              exact u3 i i0 (by omega)
      refine rows _ 0 _ rfl (Int.le_refl 0) hr.1 (frq_tr f2 (frq_up J2 (by decide) _ _ _)) (fun b x y => by rw [zup_ne _ _ _ _ y]; exact k2 b x y) (fun t' a b => ?_) (zup_eq _ _ _ _ _) fun i a b => by omega
      obtain ⟨c1, c2⟩ := v2 t' a b
      refine ⟨?_, fun i i0 i1 => ?_⟩
      · rw [zup_nk _ _ (by omega)]
        exact c1
      · rw [zup_ne _ _ _ _ (by decide)]
        exact c2 i i0 i1
    exact trains _ 0 J1 rfl (Int.le_refl 0) (by omega) f1 (fun _ _ _ => rfl) fun t' a b => by omega
  -- all groupings
  have ways : ∀ (n v : Nat) (B : Int) (J1 : zJ), n = (s 40 0 0).toNat ^ (s 18 0 6).toNat - v → v ≤ (s 40 0 0).toNat ^ (s 18 0 6).toNat → FrQ J J1 → Asd J J1 (s 40 0 0) → Mst s J1 (2 ^ (s 18 0 6).toNat) → Bsg s (s 40 0 0).toNat (s 18 0 6).toNat v B (J1 534 0) → zGo L xs (D + 1) 223 102 [some (zr 142), some (zi (if B = -1 then -2 else B)), some (zi (((s 40 0 0).toNat ^ (s 18 0 6).toNat : Nat) : Int)), some (zi (v : Int)), none, none, none] [] J1 K Q := by
    intro n
    induction n with
    | zero =>
      intro v B J1 hm v1 f1 a1 m1 b1
      refine z223_102 hL ⟨⟨by omega, by omega⟩, ⟨by omega, by omega⟩, fun _ => ?_, fun q => by omega⟩
      have e : v = (s 40 0 0).toNat ^ (s 18 0 6).toNat := by omega
      rw [e] at b1
      exact back J1 B f1 a1 m1 b1
    | succ n ihv =>
      intro v B J1 hm v1 f1 a1 m1 b1
      have hge := bsg_ge h hP (T := (s 40 0 0).toNat) (by omega) b1
      have hxB : zin (if B = -1 then -2 else B) := by
        split
        · exact ⟨by decide, by decide⟩
        · exact ⟨by omega, by omega⟩
      have hM1 := ml_frq hM f1
      refine z223_102 hL ⟨⟨by omega, by omega⟩, ⟨by omega, by omega⟩, fun q => by omega, fun _ => ⟨by decide, by decide, ?_⟩⟩
      rw [hM1.1.2.1]
      have ev : (v : Int) + 1 = ((v + 1 : Nat) : Int) := by omega
      -- digits
      have digits : ∀ (m : Nat) (J2 : zJ), m ≤ (s 18 0 6).toNat → FrQ J1 J2 → (∀ b : Nat, b ≠ 259 → J2 b = J1 b) → (∀ k : Nat, m ≤ k → k < (s 18 0 6).toNat → J2 259 0 k = dgt (s 40 0 0).toNat (s 18 0 6).toNat v k) → zGo L xs (D + 1) 223 120 [some (zr 142), some (zi (if B = -1 then -2 else B)), some (zi (((s 40 0 0).toNat ^ (s 18 0 6).toNat : Nat) : Int)), some (zi (v : Int)), some (zi ((v / (s 40 0 0).toNat ^ ((s 18 0 6).toNat - m) : Nat) : Int)), some (zi ((m : Int) - 1)), none] [] J2 K Q := by
        intro m
        induction m with
        | zero =>
          intro J2 hm2 f2 k2 v2
          have hM2 := ml_frq hM1 f2
          have f02 := frq_tr f1 f2
          have k229 : ∀ b : Nat, b ≠ 142 → b ≠ 229 → b ≠ 234 → b < 255 → J2 b = J b := fun b h1 h2 h3 h4 => f02.1 b h1 h2 h3 (Or.inl h4)
          refine z223_120 hL ⟨⟨by omega, by omega⟩, fun _ => ?_, fun q => by omega⟩
          refine c234 hL hM2 h hP (nd := fun j => ((dgt (s 40 0 0).toNat (s 18 0 6).toNat v j.toNat : Nat) : Int)) (mst_eq m1 (k2 _ (by decide)) (k2 _ (by decide)) (k2 _ (by decide))) (e15 f02) (fun t a b => by rw [k229 235 (by decide) (by decide) (by decide) (by decide)]; exact hlv t a b) (fun p a b => by rw [k229 236 (by decide) (by decide) (by decide) (by decide)]; exact hsh p a b) (fun k k0 k1 => ?_) (by omega) fun J3 f3 r3 => ?_
          · have hk := v2 k.toNat (Nat.zero_le _) (by omega)
            have e : ((k.toNat : Nat) : Int) = k := by omega
            rw [e] at hk
            refine ⟨hk, ?_⟩
            show zin ((dgt (s 40 0 0).toNat (s 18 0 6).toNat v k.toNat : Nat) : Int)
            by_cases hT0 : 0 < (s 40 0 0).toNat
            · have := dgt_lt (T := (s 40 0 0).toNat) (k := (s 18 0 6).toNat) (u := v) (j := k.toNat) hT0
              exact ⟨by omega, by omega⟩
            · have e0 : (s 40 0 0).toNat = 0 := by omega
              have : (s 40 0 0).toNat ^ (s 18 0 6).toNat = 0 := by
                rw [e0]
                exact Nat.zero_pow (by omega)
              omega
          · have q3 : ∀ b : Nat, 261 < b → J3 b = J2 b := fun b hb => f3 b (by omega) (by omega) (by omega) (by omega) (by omega) (by omega) (by omega) (by omega)
            have f13 : FrQ J J3 := frq_tr f02 (frq_r f3)
            have a3 : Asd J J3 (s 40 0 0) := asd_eq a1 (by rw [q3 535 (by decide), k2 535 (by decide)]) (by rw [q3 536 (by decide), k2 536 (by decide)])
            have m3 : Mst s J3 (2 ^ (s 18 0 6).toNat) := mst_eq m1 (by rw [q3 531 (by decide), k2 531 (by decide)]) (by rw [q3 274 (by decide), k2 274 (by decide)]) (by rw [q3 532 (by decide), k2 532 (by decide)])
            have e534 : J3 534 = J1 534 := by rw [q3 534 (by decide), k2 534 (by decide)]
            have next : ∀ (B2 : Int) (J4 : zJ), FrQ J J4 → Asd J J4 (s 40 0 0) → Mst s J4 (2 ^ (s 18 0 6).toNat) → Bsg s (s 40 0 0).toNat (s 18 0 6).toNat (v + 1) B2 (J4 534 0) → zGo L xs (D + 1) 223 102 [some (zr 142), some (zi (if B2 = -1 then -2 else B2)), some (zi (((s 40 0 0).toNat ^ (s 18 0 6).toNat : Nat) : Int)), some (zi ((v : Int) + 1)), none, none, none] [] J4 K Q := by
              intro B2 J4 f4 a4 m4 b4
              rw [ev]
              exact ihv (v + 1) B2 J4 (by omega) (by omega) f4 a4 m4 b4
            refine ⟨fun hv => zaI_of ?_, fun hv => zaI_of ⟨⟨by decide, by decide⟩, hxB, fun q => ?_, fun q => ?_⟩⟩
            · have hv2 : vld s (pst (s 40 0 0).toNat (s 18 0 6).toNat v) (s 40 0 0).toNat := hv
              have hwr := wth_rng h hP (pst (s 40 0 0).toNat (s 18 0 6).toNat v) (T := (s 40 0 0).toNat) (by omega)
              show zin (wth s (pst (s 40 0 0).toNat (s 18 0 6).toNat v) (s 40 0 0).toNat) ∧ zin (if B = -1 then -2 else B) ∧ ((if B = -1 then -2 else B) < wth s (pst (s 40 0 0).toNat (s 18 0 6).toNat v) (s 40 0 0).toNat → zGo L xs (D + 1) 223 175 [some (zr 142), some (zi (wth s (pst (s 40 0 0).toNat (s 18 0 6).toNat v) (s 40 0 0).toNat)), some (zi (((s 40 0 0).toNat ^ (s 18 0 6).toNat : Nat) : Int)), some (zi (v : Int)), none, none, some (zi 0)] [] J3 K Q) ∧ (wth s (pst (s 40 0 0).toNat (s 18 0 6).toNat v) (s 40 0 0).toNat ≤ (if B = -1 then -2 else B) → zGo L xs (D + 1) 223 102 [some (zr 142), some (zi (if B = -1 then -2 else B)), some (zi (((s 40 0 0).toNat ^ (s 18 0 6).toNat : Nat) : Int)), some (zi ((v : Int) + 1)), none, none, none] [] J3 K Q)
              refine ⟨⟨by omega, by omega⟩, hxB, fun q => ?_, fun q => ?_⟩
              · have hlt : B < wth s (pst (s 40 0 0).toNat (s 18 0 6).toNat v) (s 40 0 0).toNat := by
                  split at q <;> omega
                have copy : ∀ (m : Nat) (k : Int) (J4 : zJ), m = (s 18 0 6 - k).toNat → 0 ≤ k → k ≤ s 18 0 6 → FrQ J3 J4 → (∀ b : Nat, b ≠ 534 → J4 b = J3 b) → (∀ j : Int, 0 ≤ j → j < k → J4 534 0 j = ((dgt (s 40 0 0).toNat (s 18 0 6).toNat v j.toNat : Nat) : Int)) → zGo L xs (D + 1) 223 175 [some (zr 142), some (zi (wth s (pst (s 40 0 0).toNat (s 18 0 6).toNat v) (s 40 0 0).toNat)), some (zi (((s 40 0 0).toNat ^ (s 18 0 6).toNat : Nat) : Int)), some (zi (v : Int)), none, none, some (zi k)] [] J4 K Q := by
                  intro m
                  induction m using Nat.strongRecOn with
                  | _ m ihc =>
                  intro k J4 hm4 k0 k1 f4 k4 v4
                  have hM4 := ml_frq (ml_frr hM2 f3) f4
                  refine z223_175 hL ?_
                  rw [hM4.1.2.1]
                  refine ⟨by decide, by decide, ⟨by omega, by omega⟩, ⟨by omega, by omega⟩, fun q2 => ?_, fun q2 => ⟨k0, by omega, k0, by omega, ?_⟩⟩
                  · have b4 : Bsg s (s 40 0 0).toNat (s 18 0 6).toNat (v + 1) (wth s (pst (s 40 0 0).toNat (s 18 0 6).toNat v) (s 40 0 0).toNat) (J4 534 0) := bsg_take b1 hv2 rfl hlt fun j hj => by
                      have := v4 j (by omega) (by omega)
                      rw [Int.toNat_natCast] at this
                      exact this
                    have := next (wth s (pst (s 40 0 0).toNat (s 18 0 6).toNat v) (s 40 0 0).toNat) J4 (frq_tr f13 f4) (asd_eq a3 (k4 _ (by decide)) (k4 _ (by decide))) (mst_eq m3 (k4 _ (by decide)) (k4 _ (by decide)) (k4 _ (by decide))) b4
                    rw [if_neg (by omega)] at this
                    exact this
                  · have hk := v2 k.toNat (Nat.zero_le _) (by omega)
                    have e : ((k.toNat : Nat) : Int) = k := by omega
                    rw [e] at hk
                    have e259 : J4 259 0 k = ((dgt (s 40 0 0).toNat (s 18 0 6).toNat v k.toNat : Nat) : Int) := by
                      rw [k4 259 (by decide), f3 259 (by decide) (by decide) (by decide) (by decide) (by decide) (by decide) (by decide) (by decide)]
                      exact hk
                    rw [e259]
                    refine ihc _ (by omega) (k + 1) _ rfl (by omega) (by omega) (frq_tr f4 (frq_up J4 (by decide) _ _ _)) (fun b hb => by rw [zup_ne _ _ _ _ hb]; exact k4 b hb) fun j j0 j1 => ?_
                    by_cases ej : j = k
                    · rw [ej, zup_eq]
                    · rw [zup_nk _ _ ej]
                      exact v4 j j0 (by omega)
                exact copy _ 0 J3 rfl (Int.le_refl 0) (by omega) (frq_rfl J3) (fun _ _ => rfl) fun j a b => by omega
              · refine next B J3 f13 a3 m3 ?_
                rw [e534]
                refine bsg_skip b1 (by omega) fun u u0 u1 hu => ?_
                have e : u = v := by omega
                rw [e]
                split at q <;> omega
            · split at q <;> omega
            · refine next B J3 f13 a3 m3 ?_
              rw [e534]
              refine bsg_skip b1 (by omega) fun u u0 u1 hu => ?_
              have e : u = v := by omega
              rw [e] at hu
              exact absurd hu hv
        | succ m ihm =>
          intro J2 hm2 f2 k2 v2
          have hT0 : 0 < (s 40 0 0).toNat := by
            refine Nat.pos_of_ne_zero fun e0 => ?_
            have : (s 40 0 0).toNat ^ (s 18 0 6).toNat = 0 := by
              rw [e0]
              exact Nat.zero_pow (by omega)
            omega
          have hle : v / (s 40 0 0).toNat ^ ((s 18 0 6).toNat - (m + 1)) ≤ v := Nat.div_le_self _ _
          have hy : ∀ y : Nat, y ≤ v → (0 : Int) ≤ (y : Int) ∧ (y : Int) < 2147483648 := fun y hy => ⟨by omega, by omega⟩
          have hyy := hy _ hle
          refine z223_120 hL ?_
          rw [e15 (frq_tr f1 f2)]
          refine ⟨⟨by omega, by omega⟩, fun q => by omega, fun _ => ⟨hyy.1, hyy.2, by omega, by omega, by omega, by omega, hyy.1, hyy.2, by omega, by omega, ?_⟩⟩
          have e1 : ((v / (s 40 0 0).toNat ^ ((s 18 0 6).toNat - (m + 1)) : Nat) : Int) / s 40 0 0 = ((v / (s 40 0 0).toNat ^ ((s 18 0 6).toNat - m) : Nat) : Int) := by
            have ex : (s 18 0 6).toNat - m = ((s 18 0 6).toNat - (m + 1)) + 1 := by omega
            rw [ex, Nat.pow_succ, ← Nat.div_div_eq_div_mul, ← hTT]
            rfl
          have e2 : ((v / (s 40 0 0).toNat ^ ((s 18 0 6).toNat - (m + 1)) : Nat) : Int) % s 40 0 0 = ((dgt (s 40 0 0).toNat (s 18 0 6).toNat v m : Nat) : Int) := by
            unfold dgt
            have ex : (s 18 0 6).toNat - 1 - m = (s 18 0 6).toNat - (m + 1) := by omega
            rw [ex, ← hTT]
            rfl
          have e3 : ((m + 1 : Nat) : Int) - 1 + -1 = (m : Int) - 1 := by omega
          have e4 : ((m + 1 : Nat) : Int) - 1 = (m : Int) := by omega
          rw [e1, e2, e3, e4]
          refine ihm _ (by omega) (frq_tr f2 (frq_up J2 (by decide) _ _ _)) (fun b hb => by rw [zup_ne _ _ _ _ hb]; exact k2 b hb) fun k k0 k1 => ?_
          by_cases e : k = m
          · rw [e, zup_eq]
          · rw [zup_nk _ _ (by omega)]
            exact v2 k (by omega) k1
      have hd := digits (s 18 0 6).toNat J1 (Nat.le_refl _) (frq_rfl J1) (fun _ _ => rfl) (fun k a b => by omega)
      have ez : (s 18 0 6).toNat - (s 18 0 6).toNat = 0 := by omega
      have en : (((s 18 0 6).toNat : Nat) : Int) = s 18 0 6 := by omega
      rw [ez, Nat.pow_zero, Nat.div_one, en] at hd
      exact hd
  -- rows put aside
  have aside : ∀ (n : Nat) (t : Int) (J1 : zJ), n = (s 40 0 0 - t).toNat → 0 ≤ t → t ≤ s 40 0 0 → (∀ b : Nat, b ≠ 535 → b ≠ 536 → J1 b = J b) → Asd J J1 t → zGo L xs (D + 1) 223 32 [some (zr 142), some (zi (-2)), some (zi (((s 40 0 0).toNat ^ (s 18 0 6).toNat : Nat) : Int)), some (zi t), none, none, none] [] J1 K Q := by
    intro n; induction n using Nat.strongRecOn with
  | _ n ih =>
    intro t J1 hm t0 t1 k1 a1
    have f1 : FrQ J J1 := ⟨fun b _ _ _ hb => k1 b (by omega) (by omega), fun k _ => by rw [k1 142 (by decide) (by decide)]⟩
    refine z223_32 hL ?_
    rw [e15 f1, k1 234 (by decide) (by decide)]
    refine ⟨⟨by omega, by omega⟩, ⟨by omega, by omega⟩, fun q => ?_, fun q => ⟨t0, by omega, t0, by omega, ?_⟩⟩
    · have et : t = s 40 0 0 := by omega
      rw [et] at a1
      refine c225 hL (ml_frq hM f1) h (by omega) fun J2 f2 m2 => zaV_of ?_
      have := ways _ 0 (-1) J2 rfl (Nat.zero_le _) (frq_tr f1 (frq_t2 f2)) (asd_eq a1 (f2.1 _ (by decide) (by decide) (by decide) (by decide) (by decide)) (f2.1 _ (by decide) (by decide) (by decide) (by decide) (by decide))) m2 (bsg_0 s _ _ _)
      exact this
    · have hr := hrm t t0 q
      have rows : ∀ (m : Nat) (k : Int) (J2 : zJ), m = (J 234 0 t - k).toNat → 0 ≤ k → k ≤ J 234 0 t → (∀ b : Nat, b ≠ 535 → b ≠ 536 → J2 b = J b) → Asd J J2 t → J2 535 0 t = J 234 0 t → (∀ i : Int, 0 ≤ i → i < k → J2 536 t i = J 229 t i) → zGo L xs (D + 1) 223 55 [some (zr 142), some (zi (-2)), some (zi (((s 40 0 0).toNat ^ (s 18 0 6).toNat : Nat) : Int)), some (zi t), some (zi k), none, none] [] J2 K Q := by
        intro m
        induction m using Nat.strongRecOn with
        | _ m ihm =>
        intro k J2 hm2 k0 k1' k2 a2 v2 u2
        refine z223_55 hL ?_
        rw [k2 234 (by decide) (by decide), k2 229 (by decide) (by decide)]
        refine ⟨t0, by omega, ⟨by omega, by omega⟩, ⟨by omega, by omega⟩, fun q2 => ?_, fun q2 => ⟨t0, by omega, t0, by omega, t0, by omega, k0, by omega, t0, by omega, k0, by omega, ?_⟩⟩
        · refine ih _ (by omega) (t + 1) J2 rfl (by omega) (by omega) k2 fun t' a b => ?_
          by_cases e : t' = t
          · rw [e]
            exact ⟨v2, fun i i0 i1 => u2 i i0 (by omega)⟩
          · exact a2 t' a (by omega)
        · refine ihm _ (by omega) (k + 1) _ rfl (by omega) (by omega) (fun b x y => by rw [zup_ne _ _ _ _ y]; exact k2 b x y) (fun t' a b => ?_) ?_ fun i i0 i1 => ?_
          · obtain ⟨c1, c2⟩ := a2 t' a b
            refine ⟨?_, fun i i0 i1 => ?_⟩
            · rw [zup_ne _ _ _ _ (by decide)]
              exact c1
            · rw [zup_nj _ _ (by omega)]
              exact c2 i i0 i1
          · rw [zup_ne _ _ _ _ (by decide)]
            exact v2
          · by_cases e : i = k
            · rw [e, zup_eq]
            · rw [zup_nk _ _ e]
              exact u2 i i0 (by omega)
      refine rows _ 0 _ rfl (Int.le_refl 0) hr.1 (fun b x y => by rw [zup_ne _ _ _ _ x]; exact k1 b x y) (fun t' a b => ?_) (zup_eq _ _ _ _ _) fun i a b => by omega
      obtain ⟨c1, c2⟩ := a1 t' a b
      refine ⟨?_, fun i i0 i1 => ?_⟩
      · rw [zup_nk _ _ (by omega)]
        exact c1
      · rw [zup_ne _ _ _ _ (by decide)]
        exact c2 i i0 i1
  have pows : ∀ (n : Nat) (k : Int) (w : Int), n = (s 18 0 6 - k).toNat → 0 ≤ k → k ≤ s 18 0 6 → w = (((s 40 0 0).toNat ^ k.toNat : Nat) : Int) → zGo L xs (D + 1) 223 7 [some (zr 142), some (zi (-2)), some (zi w), some (zi k), none, none, none] [] J K Q := by
    intro n; induction n using Nat.strongRecOn with
  | _ n ih =>
    intro k w hm k0 k1 hw
    refine z223_7 hL ?_
    rw [hM.1.2.1, hT]
    refine ⟨by decide, by decide, ⟨by omega, by omega⟩, ⟨by omega, by omega⟩, fun q => ?_, fun q => ?_⟩
    · have ek : k = s 18 0 6 := by omega
      rw [ek] at hw
      rw [hw]
      exact aside _ 0 J rfl (Int.le_refl 0) (by omega) (fun _ _ _ => rfl) fun t' a b => by omega
    · refine ih _ (by omega) (k + 1) _ rfl (by omega) (by omega) ?_
      have e : (k + 1).toNat = k.toNat + 1 := by omega
      rw [e, Nat.pow_succ, hw, ← hTT]
      rfl
  exact z223 hL (pows _ 0 1 rfl (Int.le_refl 0) (by omega) rfl)
