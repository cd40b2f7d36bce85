/-! WRONG SIGNS -/
/-- a sum along a train's row is one over its portions -/
theorem sm_row {s : zJ} (hP : PW s) {t : Int} (t0 : 0 ≤ t) (t1 : t < s 40 0 0) (hn : 0 ≤ s 18 0 6) (f : Int → Int) : sm (fun i => f (s 43 0 (t * 7 + i))) (s 42 0 t).toNat = sm (fun p => if s 44 0 p = t then f p else 0) (s 18 0 6).toNat := by
  have ht := pw_t hP t0 t1
  have h1 : sm (fun i => f (s 43 0 (t * 7 + i))) (s 42 0 t).toNat = sm (fun i => sm (fun p => if p = s 43 0 (t * 7 + i) then f p else 0) (s 18 0 6).toNat) (s 42 0 t).toNat := by
    refine sm_cong fun i i0 i1 => ?_
    have hr := pw_r hP t0 t1 i0 (by omega)
    rw [sm_one (k := s 43 0 (t * 7 + i)) hr.1 (by omega) fun p _ _ hp => if_neg hp, if_pos rfl]
  rw [h1, sm_swap]
  refine sm_cong fun p p0 p1 => ?_
  have hk := pw_k hP p0 (by omega)
  by_cases e : s 44 0 p = t
  · rw [if_pos e]
    rw [e] at hk
    obtain ⟨i, i0, i1, hi⟩ := hk.2.2 t0
    rw [sm_one (k := i) i0 (by omega) fun j j0 j1 hj => if_neg fun q => ?_, if_pos hi.symm]
    rcases Int.lt_or_le i j with z | z
    · exact pw_d hP t0 t1 i0 z (by omega) (by rw [hi, q])
    · exact pw_d hP t0 t1 j0 (show j < i by omega) i1 (by rw [hi, q])
  · rw [if_neg e]
    refine sm_zero fun i i0 i1 => if_neg fun q => e ?_
    have hr := pw_r hP t0 t1 i0 (by omega)
    rw [q]
    exact hr.2.2
/-- a train's portions, as bits -/
theorem c82 {L : Nat} {xs : Nat → Int32} (hL : L ≤ 3072) {D : Nat} {J : zJ} {K : zK} {Q : zR → Nat → zJ → zK → Prop} {s : zJ} (hE : EqS s J) (h : LW s) (hP : PW s) {t : Int} (hD : 1 ≤ D) (t0 : 0 ≤ t) (t1 : t < s 40 0 0) (hQ : ∀ x : Int, 0 ≤ x → x < 2 ^ (s 18 0 6).toNat → (∀ k : Int, 0 ≤ k → k < s 18 0 6 → bt x k = decide (s 44 0 k = t)) → Q (.inl (some (zi (x)))) 0 J K) : zCall L xs D 82 [zr 40, zi t] J K Q := by
  obtain ⟨D, rfl⟩ : ∃ d, D = d + 1 := ⟨D - 1, by omega⟩
  have hn := lw_n h
  have hpn := pw_n hP
  have h7 := pw7 hn.2.2.2.1
  have ht := pw_t hP t0 t1
  have e42 := hE 42 (by decide) (by decide)
  have e43 := hE 43 (by decide) (by decide)
  refine z82 hL ?_
  have key : ∀ (n : Nat) (x2 x3 : Int), n = (s 42 0 t - x3).toNat → 0 ≤ x3 → x3 ≤ s 42 0 t → 0 ≤ x2 → x2 < 2 ^ (s 18 0 6).toNat → (∀ k : Int, 0 ≤ k → k < s 18 0 6 → (bt x2 k = true ↔ ∃ i, 0 ≤ i ∧ i < x3 ∧ s 43 0 (t * 7 + i) = k)) → zGo L xs (D + 1) 82 4 [some (zr 40), some (zi t), some (zi x2), some (zi x3)] [] J K Q := by
    intro n; induction n using Nat.strongRecOn with
    | _ n ih =>
    intro x2 x3 hm h0 h1 y0 y1 hb
    refine z82_4 hL ?_
    rw [e42, e43]
    by_cases hc : x3 < s 42 0 t
    · have hr := pw_r hP t0 t1 h0 hc
      have hp0 := pw_pos (s 43 0 (t * 7 + x3)).toNat
      have hp1 : (2 : Int) ^ (s 43 0 (t * 7 + x3)).toNat < 2 ^ (s 18 0 6).toNat := by
        have h5 : (2 : Int) ^ ((s 43 0 (t * 7 + x3)).toNat + 1) ≤ 2 ^ (s 18 0 6).toNat := pw_le (by omega)
        rw [Int.pow_succ] at h5
        omega
      have hz := zor_lt (x := x2) (y := 2 ^ (s 43 0 (t * 7 + x3)).toNat) (n := (s 18 0 6).toNat) (by omega) y0 y1 (by omega) hp1
      refine ⟨by omega, by omega, ⟨by omega, by omega⟩, ⟨by omega, by omega⟩, fun _ => by omega, fun _ => ⟨by omega, by omega, by omega, by omega, ?_⟩⟩
      rw [Int.one_mul]
      refine ih _ (by omega) _ (x3 + 1) rfl (by omega) (by omega) hz.1 hz.2 fun k k0 k1 => ?_
      rw [bt_or y0 (by omega) (by omega) (by omega), bt_pow hr.1 k0, Bool.or_eq_true, hb k k0 k1, decide_eq_true_iff]
      constructor
      · rintro (⟨i, a, b, c⟩ | e)
        · exact ⟨i, a, by omega, c⟩
        · exact ⟨x3, h0, by omega, e⟩
      · rintro ⟨i, a, b, c⟩
        by_cases e : i = x3
        · right
          rw [← e]
          exact c
        · exact Or.inl ⟨i, a, by omega, c⟩
    · have e : x3 = s 42 0 t := by omega
      subst e
      refine ⟨by omega, by omega, ⟨by omega, by omega⟩, ⟨by omega, by omega⟩, fun _ => hQ x2 y0 y1 fun k k0 k1 => ?_, fun q => by omega⟩
      have hk := pw_k hP k0 k1
      by_cases q : s 44 0 k = t
      · rw [decide_eq_true q, hb k k0 k1]
        rw [q] at hk
        exact hk.2.2 t0
      · rw [decide_eq_false q, ← Bool.not_eq_true, hb k k0 k1]
        rintro ⟨i, a, b, c⟩
        apply q
        have hr := pw_r hP t0 t1 a b
        rw [← c]
        exact hr.2.2
  refine key _ 0 0 rfl (by decide) (by omega) (by decide) (by omega) fun k k0 k1 => ?_
  rw [bt_z]
  constructor
  · intro q
    cases q
  · rintro ⟨i, a, b, c⟩
    omega
def pe (s : zJ) (e : Int) : Int := sm (fun w => if s 30 0 w = e then s 31 0 w else 0) (s 18 0 14).toNat
def cmi (s : zJ) (t p : Int) : Int := sm (fun q => if s 44 0 q = t then s 25 0 q * way s (s 24 0 p) (s 24 0 q) else 0) (s 18 0 6).toNat
def wrf (s : zJ) (t v p : Int) : Int := pe s (s 24 0 p) * (100 - v) * cmi s t p
def wrs (s : zJ) (t v : Int) : Int := sm (fun p => if s 44 0 p = t then wrf s t v p else 0) (s 18 0 6).toNat
def ldt (s : zJ) (t : Int) : Int := sm (fun p => if s 44 0 p = t then s 25 0 p else 0) (s 18 0 6).toNat
def wrv (s : zJ) (t v : Int) : Int := if ldt s t = 0 then 0 else wrs s t v / (100 * ldt s t)
theorem pe_ppl {s : zJ} (h : LW s) {e : Int} (e0 : 0 ≤ e) : ppl s (2 ^ e.toNat) = pe s e := by
  have hn := lw_n h
  unfold ppl pe
  refine sm_cong fun w w0 w1 => ?_
  have hw := lw_w h w0 (by omega)
  rw [bt_pow e0 (by omega)]
  by_cases q : e = s 30 0 w
  · rw [if_pos (by simp [q]), if_pos q.symm]
  · rw [if_neg (by simp [q]), if_neg (fun z => q z.symm)]
theorem pe_rng {s : zJ} (h : LW s) (e : Int) : 0 ≤ pe s e ∧ pe s e ≤ 11988 := by
  have hn := lw_n h
  have := sm_le (f := fun w => if s 30 0 w = e then s 31 0 w else 0) (c := 999) (n := (s 18 0 14).toNat) fun w w0 w1 => by
    have hw := lw_w h w0 (by omega)
    split <;> omega
  unfold pe
  omega
theorem ldt_rng {s : zJ} (h : LW s) (t : Int) : 0 ≤ ldt s t ∧ ldt s t ≤ 105 := by
  have hn := lw_n h
  have := sm_le (f := fun p => if s 44 0 p = t then s 25 0 p else 0) (c := 15) (n := (s 18 0 6).toNat) fun p p0 p1 => by
    have hk := lw_k h p0 (by omega)
    split <;> omega
  unfold ldt
  omega
theorem ldt_0 {s : zJ} (h : LW s) (hP : PW s) {t : Int} (t0 : 0 ≤ t) (t1 : t < s 40 0 0) : ldt s t = 0 ↔ s 42 0 t = 0 := by
  have hn := lw_n h
  have ht := pw_t hP t0 t1
  unfold ldt
  rw [← sm_row hP t0 t1 hn.2.2.1]
  constructor
  · intro q
    rcases Int.lt_or_le 0 (s 42 0 t) with z | z
    · have h1 := sm_mono (f := fun _ => 1) (g := fun i => s 25 0 (s 43 0 (t * 7 + i))) (n := (s 42 0 t).toNat) fun i i0 i1 => by
        have hr := pw_r hP t0 t1 i0 (by omega)
        have := lw_k h hr.1 hr.2.1
        omega
      have h2 : ∀ n : Nat, sm (fun _ => 1) n = n := fun n => by
        induction n with
        | zero => rfl
        | succ n ih =>
          rw [sm, ih]
          omega
      rw [h2, q] at h1
      omega
    · omega
  · intro q
    rw [q]
    rfl
theorem cmi_rng {s : zJ} (h : LW s) (t : Int) {p : Int} (p0 : 0 ≤ p) (p1 : p < s 18 0 6) : 0 ≤ cmi s t p ∧ cmi s t p ≤ ldt s t * 5280 := by
  have hn := lw_n h
  have hp := lw_k h p0 p1
  have hz : ∀ q : Int, 0 ≤ q → q < s 18 0 6 → 0 ≤ (if s 44 0 q = t then s 25 0 q * way s (s 24 0 p) (s 24 0 q) else 0) ∧ (if s 44 0 q = t then s 25 0 q * way s (s 24 0 p) (s 24 0 q) else 0) ≤ (if s 44 0 q = t then s 25 0 q else 0) * 5280 := fun q q0 q1 => by
    have hq := lw_k h q0 q1
    have hw := way_rng h (a := s 24 0 p) (b := s 24 0 q) (by omega) (by omega) (by omega) (by omega)
    split
    · exact ⟨Int.mul_nonneg (by omega) hw.1, Int.mul_le_mul_of_nonneg_left hw.2 (by omega)⟩
    · omega
  unfold cmi ldt
  rw [← sm_mulr]
  constructor
  · have := sm_mono (f := fun _ => 0) (g := fun q => if s 44 0 q = t then s 25 0 q * way s (s 24 0 p) (s 24 0 q) else 0) (n := (s 18 0 6).toNat) fun q q0 q1 => (hz q q0 (by omega)).1
    rw [sm_zero fun _ _ _ => rfl] at this
    exact this
  · exact sm_mono fun q q0 q1 => (hz q q0 (by omega)).2
theorem wrf_rng {s : zJ} (h : LW s) (t : Int) {v p : Int} (v0 : 0 ≤ v) (v1 : v ≤ 100) (p0 : 0 ≤ p) (p1 : p < s 18 0 6) : 0 ≤ wrf s t v p ∧ wrf s t v p ≤ 1198800 * (ldt s t * 5280) := by
  have hc := cmi_rng h t p0 p1
  have hp := pe_rng h (s 24 0 p)
  have h1 : pe s (s 24 0 p) * (100 - v) ≤ 11988 * 100 := Int.mul_le_mul hp.2 (by omega) (by omega) (by decide)
  have h2 : 0 ≤ pe s (s 24 0 p) * (100 - v) := Int.mul_nonneg hp.1 (by omega)
  unfold wrf
  exact ⟨Int.mul_nonneg h2 hc.1, Int.mul_le_mul h1 hc.2 hc.1 (by decide)⟩
theorem wrs_part {s : zJ} (h : LW s) (t : Int) {v : Int} (v0 : 0 ≤ v) (v1 : v ≤ 100) {n : Nat} (hnn : n ≤ (s 18 0 6).toNat) : 0 ≤ sm (fun p => if s 44 0 p = t then wrf s t v p else 0) n ∧ sm (fun p => if s 44 0 p = t then wrf s t v p else 0) n ≤ 44307648000 * ldt s t := by
  have hn := lw_n h
  have hl := ldt_rng h t
  have h1 := sm_le (f := fun p => if s 44 0 p = t then wrf s t v p else 0) (c := 1198800 * (ldt s t * 5280)) (n := n) fun p p0 p1 => by
    have := wrf_rng h t v0 v1 p0 (by omega)
    split <;> omega
  have h2 : (n : Int) * (1198800 * (ldt s t * 5280)) ≤ 7 * (1198800 * (ldt s t * 5280)) := Int.mul_le_mul_of_nonneg_right (by omega) (by omega)
  omega
theorem wrv_rng {s : zJ} (h : LW s) (t : Int) {v : Int} (v0 : 0 ≤ v) (v1 : v ≤ 100) : 0 ≤ wrv s t v ∧ wrv s t v ≤ 443076480 := by
  have hl := ldt_rng h t
  have h1 := wrs_part h t v0 v1 (Nat.le_refl (s 18 0 6).toNat)
  unfold wrv
  split
  · omega
  · have h2 : wrs s t v ≤ 443076480 * (100 * ldt s t) := by
      unfold wrs
      omega
    exact ⟨Int.ediv_nonneg h1.1 (by omega), Int.ediv_le_of_le_mul (by omega) h2⟩
theorem c143 {L : Nat} {xs : Nat → Int32} (hL : L ≤ 3072) {D : Nat} {J : zJ} {K : zK} {Q : zR → Nat → zJ → zK → Prop} {s : zJ} (hE : EqS s J) (h : LW s) (hT : TW s) {t x p : Int} (hD : 2 ≤ D) (x0 : 0 ≤ x) (x1 : x < 2 ^ (s 18 0 6).toNat) (hb : ∀ k : Int, 0 ≤ k → k < s 18 0 6 → bt x k = decide (s 44 0 k = t)) (p0 : 0 ≤ p) (p1 : p < s 18 0 6) (hQ : Q (.inl (some (zi (cmi s t p)))) 0 J K) : zCall L xs D 143 [zr 0, zi x, zi p] J K Q := by
  obtain ⟨D, rfl⟩ : ∃ d, D = d + 1 := ⟨D - 1, by omega⟩
  have hn := lw_n h
  have h7 := pw7 hn.2.2.2.1
  have hp := lw_k h p0 p1
  have e18 := hE 18 (by decide) (by decide)
  have e24 := hE 24 (by decide) (by decide)
  have e25 := hE 25 (by decide) (by decide)
  refine z143 hL ?_
  have key : ∀ (n : Nat) (x4 : Int), n = (s 18 0 6 - x4).toNat → 0 ≤ x4 → x4 ≤ s 18 0 6 → zGo L xs (D + 1) 143 5 [some (zr 0), some (zi x), some (zi p), some (zi (sm (fun q => if s 44 0 q = t then s 25 0 q * way s (s 24 0 p) (s 24 0 q) else 0) x4.toNat)), some (zi x4)] [] J K Q := by
    intro n; induction n using Nat.strongRecOn with
    | _ n ih =>
    intro x4 hm h0 h1
    refine z143_5 hL ?_
    rw [e18, e24, e25]
    by_cases hc : x4 < s 18 0 6
    · have hk := lw_k h h0 hc
      have hi := ih _ (by omega) (x4 + 1) rfl (by omega) (by omega)
      rw [sm_next h0] at hi
      refine ⟨⟨by omega, by omega⟩, ⟨by omega, by omega⟩, fun _ => by omega, fun _ => ⟨⟨by omega, by omega⟩, by omega, by omega, ?_⟩⟩
      rw [bt_shz x0 (by omega), hb x4 h0 hc]
      refine ⟨zin_zb _, fun q => ?_, fun q => ⟨by omega, by omega, by omega, by omega, by omega, by omega, ?_⟩⟩
      · rw [zb_0, decide_eq_false_iff_not] at q
        rw [if_neg q, Int.add_zero] at hi
        exact hi
      · have q2 := zb_1.mp q
        rw [decide_eq_true_iff] at q2
        rw [if_pos q2] at hi
        exact c121 hL hE h hT (by omega) (by omega) (by omega) (by omega) (by omega) (zaI_of hi)
    · have e : x4 = s 18 0 6 := by omega
      subst e
      exact ⟨⟨by omega, by omega⟩, ⟨by omega, by omega⟩, fun _ => hQ, fun q => by omega⟩
  exact key _ 0 rfl (by decide) (by omega)
theorem c260 {L : Nat} {xs : Nat → Int32} (hL : L ≤ 3072) {D : Nat} {J : zJ} {K : zK} {Q : zR → Nat → zJ → zK → Prop} {s : zJ} (hM : ML s J) (h : LW s) (hP : PW s) (hC : MC s J) {t : Int} (hD : 1 ≤ D) (t0 : 0 ≤ t) (t1 : t < s 40 0 0) (hQ : Q (.inl (some (zi (ldt s t)))) 0 J K) : zCall L xs D 260 [zr 142, zw 229 t, zi 0, zi (s 42 0 t)] J K Q := by
  obtain ⟨D, rfl⟩ : ∃ d, D = d + 1 := ⟨D - 1, by omega⟩
  have hn := lw_n h
  have hpn := pw_n hP
  have ht := pw_t hP t0 t1
  have hrow := mc_t hC t0 t1
  unfold ldt at hQ
  rw [← sm_row hP t0 t1 hn.2.2.1 (fun p => s 25 0 p)] at hQ
  refine z260 hL ?_
  have key : ∀ (n : Nat) (x5 : Int), n = (s 42 0 t - x5).toNat → 0 ≤ x5 → x5 ≤ s 42 0 t → zGo L xs (D + 1) 260 6 [some (zr 142), some (zw 229 t), none, some (zi (s 42 0 t)), some (zi (sm (fun i => s 25 0 (s 43 0 (t * 7 + i))) x5.toNat)), some (zi x5)] [] J K Q := by
    intro n; induction n using Nat.strongRecOn with
    | _ n ih =>
    intro x5 hm h0 h1
    refine z260_6 hL ?_
    by_cases hc : x5 < s 42 0 t
    · have hr := pw_r hP t0 t1 h0 hc
      have hi := ih _ (by omega) (x5 + 1) rfl (by omega) (by omega)
      rw [sm_next h0] at hi
      rw [hrow.2.2 x5 h0 hc, (ml_k hM hr.1 hr.2.1).2.1]
      exact ⟨⟨by omega, by omega⟩, ⟨by omega, by omega⟩, fun _ => by omega, fun _ => ⟨by omega, by omega, by omega, by omega, by omega, by omega, by omega, by omega, by decide, by decide, hi⟩⟩
    · have e : x5 = s 42 0 t := by omega
      subst e
      exact ⟨⟨by omega, by omega⟩, ⟨by omega, by omega⟩, fun _ => hQ, fun q => by omega⟩
  exact key _ 0 rfl (by decide) (by omega)
theorem op30 {G : zJ → zK → Prop} (hG : GOk G) : ∀ a b : Int, zin a → zin b → OpW (Inv G) 352 5 189 313 zin [zi a, zi b] := by
  intro a b ha hb
  intro L xs D D2 J K hL hD hD2 hI; obtain ⟨⟨hW, hT, hP, hM, hC, hTp, hF, hIm⟩, hg⟩ := id hI; have hE := eqs_rfl J; have hn := lw_n hW; have hpn := pw_n hP
  obtain ⟨D, rfl⟩ : ∃ d, D = d + 1 := ⟨D - 1, by omega⟩
  obtain ⟨D2, rfl⟩ : ∃ d, D2 = d + 1 := ⟨D2 - 1, by omega⟩
  have h7 := pw7 hn.2.2.2.1
  have hC0 := mc_fm hC (fm_t J 0)
  have hM0 := ml_fm hM (fm_t J 0)
  have t0 : zup J 142 0 0 0 142 0 0 = 0 := zup_eq _ _ _ _ _
  have bad : ¬ (0 ≤ a ∧ a < J 40 0 0) → zCall L xs (D2 + 1) 313 [zr 142, zi a, zi b] J K fun r2 e2 J2 K2 => (∃ v2, r2 = .inl (some (zi v2)) ∧ zin v2) ∧ e2 = 0 ∧ J2 142 0 0 = 1 ∧ Inv G J2 K2 := by
    intro hc
    have fin := fin_x hG hI (fc_rfl J) (fm_t2 J 0 1) rfl (zup_eq _ _ _ _ _) 0 zin_0
    refine z313 hL ?_
    refine c252 hL (by omega) hC0.1 (by omega) ha (zaI_of ⟨zin_zb _, fun q => by rw [zb_1, decide_eq_true_iff] at q; omega, fun _ => ?_⟩)
    exact c195T hL (by omega) t0 (by decide) (zaI_of ⟨zin_1, fun _ => fin, fun q => absurd q (by decide)⟩)
  have bad2 : 0 ≤ a → a < J 40 0 0 → ¬ (0 ≤ b ∧ b ≤ 100) → zCall L xs (D2 + 1) 313 [zr 142, zi a, zi b] J K fun r2 e2 J2 K2 => (∃ v2, r2 = .inl (some (zi v2)) ∧ zin v2) ∧ e2 = 0 ∧ J2 142 0 0 = 2 ∧ Inv G J2 K2 := by
    intro h0 h1 hc
    have fin := fin_x hG hI (fc_rfl J) (fm_t2 J 0 2) rfl (zup_eq _ _ _ _ _) 0 zin_0
    refine z313 hL ?_
    refine c252 hL (by omega) hC0.1 (by omega) ha (zaI_of ⟨zin_zb _, fun _ => ?_, fun q => by rw [zb_0, decide_eq_false_iff_not] at q; omega⟩)
    refine c195F hL (by omega) t0 (zaI_of ⟨zin_0, fun q => absurd rfl q, fun _ => ?_⟩)
    refine c240 hL (by omega) hb zin_0 ⟨by omega, by omega⟩ (zaI_of ⟨zin_zb _, fun q => by rw [zb_1, decide_eq_true_iff] at q; omega, fun _ => ?_⟩)
    exact c195T hL (by omega) t0 (by decide) (zaI_of ⟨zin_1, fun q => absurd q (by decide), fun _ => fin⟩)
  have good : 0 ≤ a → a < J 40 0 0 → 0 ≤ b → b ≤ 100 → ∀ x : Int, zCall L xs (D2 + 1) 313 [zr 142, zi a, zi b] J (zku K 561 0 x) fun r2 e2 J2 K2 => r2 = .inl (some (zi (wrv J a b))) ∧ e2 = 0 ∧ J2 142 0 0 = 0 ∧ K2 561 0 = x ∧ Inv G J2 K2 := by
    intro h0 h1 g0 g1 x
    have ht := pw_t hP h0 h1
    have hrow := mc_t hC0 h0 h1
    have fin := inv_q hG hI (fc_rfl J) (fm_t J 0) (K2 := zku K 561 0 x) (zku_n _ _ (by decide))
    refine z313 hL ?_
    refine c252 hL (by omega) hC0.1 (by omega) ha (zaI_of ⟨zin_zb _, fun _ => ?_, fun q => by rw [zb_0, decide_eq_false_iff_not] at q; omega⟩)
    refine c195F hL (by omega) t0 (zaI_of ⟨zin_0, fun q => absurd rfl q, fun _ => ?_⟩)
    refine c240 hL (by omega) hb zin_0 ⟨by omega, by omega⟩ (zaI_of ⟨zin_zb _, fun _ => ?_, fun q => by rw [zb_0, decide_eq_false_iff_not] at q; omega⟩)
    refine c195F hL (by omega) t0 (zaI_of ⟨zin_0, fun _ => ?_, fun q => absurd rfl q⟩)
    have key : ∀ (n : Nat) (x5 : Int), n = (J 42 0 a - x5).toNat → 0 ≤ x5 → x5 ≤ J 42 0 a → zGo L xs (D2 + 1) 313 56 [some (zr 142), some (zi a), some (zi b), some (zl (sm (fun i => wrf J a b (J 43 0 (a * 7 + i))) x5.toNat)), none, some (zi x5), none, none, none, none] [] (zup J 142 0 0 0) (zku K 561 0 x) fun r2 e2 J2 K2 => r2 = .inl (some (zi (wrv J a b))) ∧ e2 = 0 ∧ J2 142 0 0 = 0 ∧ K2 561 0 = x ∧ Inv G J2 K2 := by
      intro n; induction n using Nat.strongRecOn with
      | _ n ih =>
      intro x5 hm a0 a1
      refine z313_56 hL ?_
      rw [hrow.1]
      by_cases hc : x5 < J 42 0 a
      · have hr := pw_r hP h0 h1 a0 hc
        have hkr := lw_k hW hr.1 hr.2.1
        rw [hrow.2.2 x5 a0 hc, (ml_k hM0 hr.1 hr.2.1).1]
        refine ⟨by omega, by omega, ⟨by omega, by omega⟩, ⟨by omega, by omega⟩, fun _ => by omega, fun _ => ⟨by omega, by omega, by omega, by omega, by omega, by omega, by omega, by omega, by omega, by omega, by decide, by decide, ?_⟩⟩
        have hi := ih _ (by omega) (x5 + 1) rfl (by omega) (by omega)
        rw [sm_next a0] at hi
        have ec : cmi J a (J 43 0 (a * 7 + x5)) = sm (fun i => J 25 0 (J 43 0 (a * 7 + i)) * way J (J 24 0 (J 43 0 (a * 7 + x5))) (J 24 0 (J 43 0 (a * 7 + i)))) (J 42 0 a).toNat := (sm_row hP h0 h1 hn.2.2.1 (fun q => J 25 0 q * way J (J 24 0 (J 43 0 (a * 7 + x5))) (J 24 0 q))).symm
        have inner : ∀ (m : Nat) (x9 : Int), m = (J 42 0 a - x9).toNat → 0 ≤ x9 → x9 ≤ J 42 0 a → zGo L xs (D2 + 1) 313 91 [some (zr 142), some (zi a), some (zi b), some (zl (sm (fun i => wrf J a b (J 43 0 (a * 7 + i))) x5.toNat)), none, some (zi x5), some (zi (J 24 0 (J 43 0 (a * 7 + x5)))), some (zl (sm (fun i => J 25 0 (J 43 0 (a * 7 + i)) * way J (J 24 0 (J 43 0 (a * 7 + x5))) (J 24 0 (J 43 0 (a * 7 + i)))) x9.toNat)), none, some (zi x9)] [] (zup J 142 0 0 0) (zku K 561 0 x) fun r2 e2 J2 K2 => r2 = .inl (some (zi (wrv J a b))) ∧ e2 = 0 ∧ J2 142 0 0 = 0 ∧ K2 561 0 = x ∧ Inv G J2 K2 := by
          intro m; induction m using Nat.strongRecOn with
          | _ m ihm =>
          intro x9 hm9 b0 b1
          refine z313_91 hL ?_
          rw [hrow.1]
          by_cases hc9 : x9 < J 42 0 a
          · have hr9 := pw_r hP h0 h1 b0 hc9
            have hk9 := lw_k hW hr9.1 hr9.2.1
            have hm9' := ml_k hM0 hr9.1 hr9.2.1
            have hw9 := way_rng hW (a := J 24 0 (J 43 0 (a * 7 + x5))) (b := J 24 0 (J 43 0 (a * 7 + x9))) (by omega) (by omega) (by omega) (by omega)
            have hi9 := ihm _ (by omega) (x9 + 1) rfl (by omega) (by omega)
            rw [sm_next b0] at hi9
            rw [hrow.2.2 x9 b0 hc9, hm9'.1, hm9'.2.1]
            refine ⟨by omega, by omega, ⟨by omega, by omega⟩, ⟨by omega, by omega⟩, fun _ => by omega, fun _ => ⟨by omega, by omega, by omega, by omega, by omega, by omega, by omega, by omega, by omega, by omega, by decide, by decide, ⟨by omega, by omega⟩, by omega, by omega, by omega, by omega, by omega, by omega, by omega, by omega, by omega, by omega, by decide, by decide, ?_⟩⟩
            exact c304 hL hM0 hW (by omega) (by omega) (by omega) (by omega) (by omega) (zaI_of ⟨⟨by omega, by omega⟩, hi9⟩)
          · have e : x9 = J 42 0 a := by omega
            subst e
            have hpe := pe_rng hW (J 24 0 (J 43 0 (a * 7 + x5)))
            refine ⟨by omega, by omega, ⟨by omega, by omega⟩, ⟨by omega, by omega⟩, fun _ => ?_, fun q => by omega⟩
            refine c277 hL hM0 hW (by omega) ⟨by omega, by omega⟩ (zaI_of ⟨?_, ⟨by omega, by omega⟩, ?_⟩)
            · show zin (pe J (J 24 0 (J 43 0 (a * 7 + x5))))
              exact ⟨by omega, by omega⟩
            · rw [← ec]
              exact hi
        exact inner _ 0 rfl (by decide) (by omega)
      · have e : x5 = J 42 0 a := by omega
        subst e
        have e1 : sm (fun i => wrf J a b (J 43 0 (a * 7 + i))) (J 42 0 a).toNat = wrs J a b := sm_row hP h0 h1 hn.2.2.1 (fun p => wrf J a b p)
        have hl0 := ldt_0 hW hP h0 h1
        have hlr := ldt_rng hW a
        have hws := wrs_part hW a g0 g1 (Nat.le_refl (J 18 0 6).toNat)
        rw [e1]
        refine ⟨by omega, by omega, ⟨by omega, by omega⟩, ⟨by omega, by omega⟩, fun _ => ⟨by omega, by omega, ⟨by omega, by omega⟩, fun q => ⟨by omega, by omega, by omega, by omega, ?_⟩, fun q => ?_⟩, fun q => by omega⟩
        · have hne : ldt J a ≠ 0 := fun z => q (hl0.mp z)
          refine c260 hL hM0 hW hP hC0 (by omega) h0 h1 (zaI_of ⟨⟨by omega, by omega⟩, hws.1, ?_, by omega, by omega, ?_⟩)
          · have : wrs J a b ≤ 44307648000 * ldt J a := hws.2
            omega
          · refine ⟨?_, rfl, t0, zku_o K x, fin⟩
            unfold wrv
            rw [if_neg hne]
        · refine ⟨?_, rfl, t0, zku_o K x, fin⟩
          unfold wrv
          rw [if_pos (hl0.mpr q)]
    exact key _ 0 rfl (by decide) (by omega)
  refine z189 hL ?_
  refine c169 hL hE (by omega) (by omega) ha (fun h0 h1 => zaV_of ?_) fun hc => zaV_ex (Or.inr ⟨3, 1, rfl, rfl, zonb_ok (by decide +kernel), by decide, by decide, ?_⟩)
  · have ht := pw_t hP h0 h1
    have hvr := fun g0 g1 => wrv_rng hW a (v := b) g0 g1
    refine ⟨hb, fun _ => ⟨by omega, Or.inr ⟨0, 2, rfl, rfl, zonb_ok (by decide +kernel), by decide, by decide, ?_⟩⟩, fun g0 => ⟨hb, ⟨by omega, by omega⟩, fun g1 => ?_, fun _ => ⟨by omega, Or.inr ⟨0, 2, rfl, rfl, zonb_ok (by decide +kernel), by decide, by decide, ?_⟩⟩⟩⟩
    · exact bad2 h0 h1 (by omega)
    · refine c82 hL hE hW hP (by omega) h0 h1 fun y y0 y1 hby => zaI_of ?_
      have el : J 39 0 y = ldt J a := by
        rw [hT.2.2.2.2.2 y y0 y1]
        unfold ldf ldt
        refine sm_cong fun k k0 k1 => ?_
        rw [hby k k0 (by omega)]
        by_cases q : J 44 0 k = a
        · rw [if_pos (by simp [q]), if_pos q]
        · rw [if_neg (by simp [q]), if_neg q]
      have hlr := ldt_rng hW a
      have hvr := wrv_rng hW a g0 g1
      rw [el]
      refine ⟨by omega, by omega, ⟨by omega, by omega⟩, fun q => ?_, fun q => Or.inl ⟨_, rfl, rfl, zin_0, ?_⟩⟩
      · have key : ∀ (n : Nat) (x7 : Int), n = (J 18 0 6 - x7).toNat → 0 ≤ x7 → x7 ≤ J 18 0 6 → zGo L xs (D + 1) 189 59 [some (zr 0), none, some (zi b), some (zi y), some (zi (ldt J a)), some (zl (sm (fun p => if J 44 0 p = a then wrf J a b p else 0) x7.toNat)), none, some (zi x7)] [] J K fun r e J1 K1 => (∃ v, r = .inl (some (zi v)) ∧ e = 0 ∧ zin v ∧ ∀ x, zCall L xs (D2 + 1) 313 [zr 142, zi a, zi b] J1 (zku K1 561 0 x) fun r2 e2 J2 K2 => r2 = .inl (some (zi v)) ∧ e2 = 0 ∧ J2 142 0 0 = 0 ∧ K2 561 0 = x ∧ Inv G J2 K2) ∨ (∃ (E : Nat) (c : Int), r = .inr E ∧ e = 1 ∧ zon 352 5 E = some (.inl (some (zi c))) ∧ 1 ≤ c ∧ c ≤ 2 ∧ zCall L xs (D2 + 1) 313 [zr 142, zi a, zi b] J1 K1 fun r2 e2 J2 K2 => (∃ v2, r2 = .inl (some (zi v2)) ∧ zin v2) ∧ e2 = 0 ∧ J2 142 0 0 = c ∧ Inv G J2 K2) := by
          intro n; induction n using Nat.strongRecOn with
          | _ n ih =>
          intro x7 hm a0 a1
          refine z189_59 hL ?_
          by_cases hc : x7 < J 18 0 6
          · have hk := lw_k hW a0 hc
            have hi := ih _ (by omega) (x7 + 1) rfl (by omega) (by omega)
            rw [sm_next a0] at hi
            refine ⟨⟨by omega, by omega⟩, ⟨by omega, by omega⟩, fun _ => by omega, fun _ => ⟨⟨by omega, by omega⟩, by omega, by omega, ?_⟩⟩
            rw [bt_shz y0 (by omega), hby x7 a0 hc]
            refine ⟨zin_zb _, fun q => ?_, fun q => ⟨by omega, by omega, by omega, by omega, ?_⟩⟩
            · rw [zb_0, decide_eq_false_iff_not] at q
              rw [if_neg q, Int.add_zero] at hi
              exact hi
            · have q2 := zb_1.mp q
              rw [decide_eq_true_iff] at q2
              rw [if_pos q2] at hi
              have hp2 : (2 : Int) ^ (J 24 0 x7).toNat ≤ 2 ^ 11 := pw_le (by omega)
              have hp3 := pw_pos (J 24 0 x7).toNat
              have hpe := pe_rng hW (J 24 0 x7)
              have hcm := cmi_rng hW a a0 hc
              rw [Int.one_mul]
              refine c63 hL hE hW (by omega) ⟨by omega, by omega⟩ (zaI_of ?_)
              rw [pe_ppl hW (by omega)]
              refine ⟨⟨by omega, by omega⟩, ⟨by omega, by omega⟩, ?_⟩
              exact c143 hL hE hW hT (by omega) y0 y1 hby a0 hc (zaI_of ⟨⟨by omega, by omega⟩, hi⟩)
          · have e : x7 = J 18 0 6 := by omega
            subst e
            have hws := wrs_part hW a g0 g1 (Nat.le_refl (J 18 0 6).toNat)
            refine ⟨⟨by omega, by omega⟩, ⟨by omega, by omega⟩, fun _ => ⟨⟨by omega, by omega⟩, hws.1, by omega, by omega, by omega, Or.inl ⟨wrv J a b, ?_, rfl, ⟨by omega, by omega⟩, good h0 h1 g0 g1⟩⟩, fun q => by omega⟩
            unfold wrv
            rw [if_neg q]
            rfl
        exact key _ 0 rfl (by decide) (by omega)
      · have e : wrv J a b = 0 := by
          unfold wrv
          rw [if_pos q]
        have := good h0 h1 g0 g1
        rw [e] at this
        exact this
    · exact bad2 h0 h1 (by omega)
  · exact bad hc
