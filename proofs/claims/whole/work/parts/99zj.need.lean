/-! WHAT A SET NEEDS, place by place: it grows with the set -/
def svx (s : zJ) (x p : Int) : Bool := decide (0 ≤ p) && (decide (p < s 18 0 0) && decide (hd s x p < 7))
theorem svx_t {s : zJ} {x p : Int} : svx s x p = true ↔ (0 ≤ p ∧ p < s 18 0 0) ∧ hd s x p < 7 := by
  unfold svx
  rw [Bool.and_eq_true, Bool.and_eq_true, decide_eq_true_iff, decide_eq_true_iff, decide_eq_true_iff]
  constructor
  · rintro ⟨a, b, c⟩
    exact ⟨⟨a, b⟩, c⟩
  · rintro ⟨⟨a, b⟩, c⟩
    exact ⟨a, b, c⟩
theorem pos_in {s : zJ} (h : LW s) (x : Int) {p : Int} (p0 : 0 ≤ p) (p1 : p < s 18 0 0) : ∀ (n : Nat) (q : Int), n = q.toNat → 0 ≤ q → q < s 18 0 0 → on s p q → hd s x q < 7 → pos s x p ≤ pos s x q ∧ pos s x q + cbh s x q ≤ pos s x p + cbh s x p := by
  intro n
  induction n using Nat.strongRecOn with
  | _ n ih =>
  intro q hm q0 q1 ho h7
  by_cases e : q = p
  · rw [e]
    omega
  · have hpq := on_le h p0 q q0 q1 ho
    have hu := lw_up h (p := q) (by omega) q1
    have hu2 := lw_p h q0 q1
    have ho2 := (on_up h p0 (by omega) q1).mp ho
    have h72 := hd_up h x (q := q) (by omega) q1 h7
    obtain ⟨i1, i2⟩ := ih _ (by omega) (s 19 0 q) rfl (by omega) (by omega) ho2 h72
    obtain ⟨k1, k2⟩ := can_kin h (x := x) (p := s 19 0 q) (c := q) (by omega) q1 (kid_up h (by omega) q1) h7
    have g7 := gT_7 h x (p := s 19 0 q) (by omega) (by omega)
    have gs := sty_nn s x (s 19 0 q)
    omega
/-- carriages behind a place -/
def ldx (s : zJ) (x p : Int) : Int := sm (fun k => if bt x k && onb s p (s 24 0 k) then s 25 0 k else 0) (s 18 0 6).toNat
theorem lns_x {s : zJ} (h : LW s) {x p : Int} (p0 : 0 ≤ p) (p1 : p < s 18 0 0) (h7 : hd s x p < 7) : lns s (sq s x 0) (pos s x p) (pos s x p + cbh s x p) = ldx s x p := by
  have hn := lw_n h
  obtain ⟨⟨g1, g2⟩, g3⟩ := sq_pos h x p p0 p1 h7
  have hc0 := cbh_nn s x p
  have hx := cbh_7 h x 0
  have rng : ∀ i : Int, pos s x p ≤ i → i < pos s x p + cbh s x p → 0 ≤ sq s x 0 i ∧ sq s x 0 i < s 18 0 6 ∧ bt x (sq s x 0 i) = true ∧ on s p (s 24 0 (sq s x 0 i)) := fun i i0 i1 => by
    have e : i = pos s x p + (i - pos s x p) := by omega
    rw [e, g3 _ (by omega) (by omega)]
    exact sq_in h x _ p _ rfl p0 p1 (by omega) (by omega)
  have hh := ldf_sgb h (a := sq s x 0) (fr := pos s x p) g1 (cbh s x p).toNat (pos s x p + cbh s x p) (by omega) (inj_wk (sq_Inj h x) g1 g2) fun i i0 i1 => ⟨(rng i i0 i1).1, (rng i i0 i1).2.1⟩
  rw [← hh]
  unfold ldf ldx
  refine sm_cong fun k k0 k1 => ?_
  have e : bt (sgb (sq s x 0) (pos s x p) (pos s x p + cbh s x p)) k = (bt x k && onb s p (s 24 0 k)) := by
    unfold sgb
    rw [bt_bs _ _ k k0, decide_eq_true (p := k < ((7 : Nat) : Int)) (by omega), Bool.true_and, Bool.eq_iff_iff, sgP_t g1, Bool.and_eq_true, onb_t]
    constructor
    · rintro ⟨i, i0, i1, i2⟩
      obtain ⟨_, _, r3, r4⟩ := rng i i0 i1
      rw [i2] at r3 r4
      exact ⟨r3, r4⟩
    · rintro ⟨hb, ho⟩
      have hk := lw_k h k0 (by omega)
      have hq7 : hd s x (s 24 0 k) < 7 := (hd_has h x (by omega) (by omega)).mpr ⟨k, k0, by omega, hb, on_self s _⟩
      have hin := pos_in h x p0 p1 _ (s 24 0 k) rfl (by omega) (by omega) ho hq7
      have hsp := spt_ok h x k0 (by omega) hb
      have hst : stb s x (s 24 0 k) k = true := by
        unfold stb
        rw [hb, decide_eq_true rfl]
        rfl
      have hlt : cnt (stb s x (s 24 0 k)) k.toNat < sty s x (s 24 0 k) := cnt_lt (P := stb s x (s 24 0 k)) (k := s 18 0 6) k0 (by omega) hst
      have hc := gT_7 h x (p := s 24 0 k) (by omega) (by omega)
      have hg := gT_nn (s := s) x (s 24 0 k) 7
      have hcr := cnt_rng (stb s x (s 24 0 k)) k.toNat
      have hd : spt s x k = pos s x (s 24 0 k) + gT s x (s 24 0 k) 7 + cnt (stb s x (s 24 0 k)) k.toNat := rfl
      exact ⟨spt s x k, by omega, by omega, hsp.2.2⟩
  rw [e]
def cux (s : zJ) (x p : Int) : Int := gro s x p + (if 0 < sty s x p then 1 else 0) - 1
theorem ncu_x {s : zJ} (h : LW s) {x : Int} {u : Vu} (hv : Vis s x u) : ncu u.2.2.2.1 u.2.2.2.2 u.2.2.1 = cux s x u.1 := by
  obtain ⟨⟨p0, p1⟩, h7, e1, e2, e3, e4⟩ := hv
  have hc := gT_7 h x p0 p1
  unfold ncu cux
  rw [e4, e3, e2]
  by_cases q : 0 < sty s x u.1
  · rw [if_pos q, if_pos (by omega)]
  · rw [if_neg q, if_neg (by omega)]
def okp (s : zJ) (x p : Int) : Prop := ldx s x p ≤ s 21 0 p ∧ (0 < cux s x p → opn s p = true)
def okX (s : zJ) (x : Int) : Prop := ∀ p : Int, svx s x p = true → okp s x p
theorem okU_x {s : zJ} (h : LW s) {x : Int} {u : Vu} (hv : Vis s x u) : okU s (sq s x 0) u ↔ okp s x u.1 := by
  have hc := ncu_x h hv
  obtain ⟨⟨p0, p1⟩, h7, e1, e2, e3, e4⟩ := id hv
  have hl := lns_x h p0 p1 h7
  unfold okU okp
  rw [hc, e1, e2, hl, Int.not_lt]
  have : ((isF s u.1 && !bt (s 40 0 10) u.1) = false) ↔ ¬ opn s u.1 = true := by
    unfold opn
    rw [Bool.not_eq_true]
  rw [this]
  constructor
  · rintro ⟨a, b⟩
    refine ⟨a, fun z => ?_⟩
    by_cases q : opn s u.1 = true
    · exact q
    · exact absurd ⟨z, q⟩ b
  · rintro ⟨a, b⟩
    exact ⟨a, fun z => z.2 (b z.1)⟩
theorem viX_mem {s : zJ} (h : LW s) {x : Int} : ∀ u ∈ viX s x, Vis s x u := viW_mem h (cbh_7 h x 0) 84 (rit s x 0) (rit_can h 0 (cbh_7 h x 0)).1
theorem viX_ct {s : zJ} (h : LW s) {x q : Int} (hq : svx s x q = true) : vct q (viX s x) = 1 := by
  obtain ⟨⟨q0, q1⟩, h7⟩ := svx_t.mp hq
  have hr := rit_can h 0 (cbh_7 h x 0)
  have hh := viW_ct h (cbh_7 h x 0) q0 q1 h7 84 (rit s x 0) hr.1 hr.2.1
  have hp := pos_in h x (Int.le_refl 0) (by omega) _ q rfl q0 q1 (on_zero h q q0 q1) h7
  have hc := (hd_cbh h x q0 q1).1.mp h7
  have e : rit s x 0 = [(0, 0, cbh s x 0, 0, -1)] := by
    unfold rit
    rw [if_neg (by omega)]
  have h3 : ict s q (rit s x 0) = 1 := by
    rw [e, ict, ict]
    show zb (onb s 0 q) + 0 = 1
    rw [onb_t.mpr (on_zero h q q0 q1)]
    rfl
  unfold viX
  rw [hh, h3]
theorem vct_in {q : Int} : ∀ {L : List Vu}, 0 < vct q L → ∃ u ∈ L, u.1 = q
  | [], hh => absurd hh (Int.lt_irrefl 0)
  | u :: r, hh => by
    by_cases e : u.1 = q
    · exact ⟨u, List.mem_cons_self, e⟩
    · rw [vct, decide_eq_false e] at hh
      have h2 : zb false = 0 := rfl
      obtain ⟨w, hw, e2⟩ := vct_in (q := q) (L := r) (by omega)
      exact ⟨w, List.mem_cons_of_mem _ hw, e2⟩
theorem viX_vs {s : zJ} (h : LW s) (x p : Int) : vsL (viX s x) p = svx s x p := by
  rw [Bool.eq_iff_iff, vsL_t]
  constructor
  · rintro ⟨u, hu, e⟩
    have hv := viX_mem h u hu
    rw [← e]
    exact svx_t.mpr ⟨hv.1, hv.2.1⟩
  · intro hq
    exact vct_in (by rw [viX_ct h hq]; decide)
theorem okX_u {s : zJ} (h : LW s) (x : Int) : okX s x ↔ ∀ u ∈ viX s x, okU s (sq s x 0) u := by
  constructor
  · intro hk u hu
    have hv := viX_mem h u hu
    exact (okU_x h hv).mpr (hk u.1 (svx_t.mpr ⟨hv.1, hv.2.1⟩))
  · intro hk p hp
    obtain ⟨u, hu, e⟩ := vct_in (q := p) (L := viX s x) (by rw [viX_ct h hp]; decide)
    rw [← e]
    exact (okU_x h (viX_mem h u hu)).mp (hk u hu)
/-- greater sets need more -/
def Sbs (s : zJ) (x y : Int) : Prop := ∀ k : Int, 0 ≤ k → k < s 18 0 6 → bt x k = true → bt y k = true
theorem svx_mono {s : zJ} (h : LW s) {x y : Int} (hs : Sbs s x y) {p : Int} (hp : svx s x p = true) : svx s y p = true := by
  obtain ⟨⟨p0, p1⟩, h7⟩ := svx_t.mp hp
  obtain ⟨k, k0, k1, hb, ho⟩ := (hd_has h x p0 p1).mp h7
  exact svx_t.mpr ⟨⟨p0, p1⟩, (hd_has h y p0 p1).mpr ⟨k, k0, k1, hs k k0 k1 hb, ho⟩⟩
theorem ldx_mono {s : zJ} (h : LW s) {x y : Int} (hs : Sbs s x y) (p : Int) : ldx s x p ≤ ldx s y p := sm_mono fun k k0 k1 => by
  have hk := lw_k h k0 (by omega)
  by_cases q : (bt x k && onb s p (s 24 0 k)) = true
  · rw [if_pos q]
    rw [Bool.and_eq_true] at q
    rw [if_pos (by rw [hs k k0 (by omega) q.1, q.2]; rfl)]
    omega
  · rw [if_neg q]
    split <;> omega
theorem gro_mono {s : zJ} (h : LW s) {x y : Int} (hs : Sbs s x y) {p : Int} : gro s x p ≤ gro s y p := by
  rw [gro_hd h, gro_hd h]
  refine cnt_mono fun c c0 c1 hc => ?_
  rw [Bool.and_eq_true, decide_eq_true_iff] at hc ⊢
  have := svx_t.mp (svx_mono h hs (svx_t.mpr ⟨⟨c0, by omega⟩, hc.2⟩))
  exact ⟨hc.1, this.2⟩
theorem sty_mono {s : zJ} {x y : Int} (hs : Sbs s x y) {p : Int} : sty s x p ≤ sty s y p := cnt_mono fun k k0 k1 hc => by
  rw [Bool.and_eq_true] at hc ⊢
  exact ⟨hs k k0 (by omega) hc.1, hc.2⟩
theorem gro_nn (s : zJ) (x p : Int) : 0 ≤ gro s x p := (cnt_rng _ _).1
theorem okX_mono {s : zJ} (h : LW s) {x y : Int} (hs : Sbs s x y) (hy : okX s y) : okX s x := fun p hp => by
  obtain ⟨a, b⟩ := hy p (svx_mono h hs hp)
  have h1 := ldx_mono h hs p
  have h2 := gro_mono h hs (p := p)
  have h3 := sty_mono hs (p := p)
  refine ⟨by omega, fun z => b ?_⟩
  unfold cux at z ⊢
  split at z <;> split <;> omega
def tcs (s : zJ) (x q : Int) : Int := if svx s x q then tcx s x q else 0
theorem tcx_nn (s : zJ) (x q : Int) : 0 ≤ tcx s x q := by
  unfold tcx
  have : 0 ≤ zb (decide (q = 0)) := by cases decide (q = 0) <;> decide
  split <;> omega
theorem tct_x {s : zJ} (h : LW s) (x q : Int) : tct q (tkX s x) = tcs s x q := by
  unfold tkX tcs
  rw [tkL_tct q (viX s x) (viX_mem h)]
  by_cases e : svx s x q = true
  · rw [viX_ct h e, if_pos e, Int.one_mul]
  · have e0 : vct q (viX s x) = 0 := by
      have nn : ∀ L : List Vu, 0 ≤ vct q L := fun L => by
        induction L with
        | nil => exact Int.le_refl 0
        | cons u r ih =>
          rw [vct]
          have : 0 ≤ zb (decide (u.1 = q)) := by cases decide (u.1 = q) <;> decide
          omega
      have := nn (viX s x)
      by_cases z : 0 < vct q (viX s x)
      · obtain ⟨u, hu, e2⟩ := vct_in z
        exact absurd (svx_t.mpr ⟨by rw [← e2]; exact (viX_mem h u hu).1, by rw [← e2]; exact (viX_mem h u hu).2.1⟩) e
      · omega
    rw [e0, if_neg e, Int.zero_mul]
theorem tcs_mono {s : zJ} (h : LW s) {x y : Int} (hs : Sbs s x y) (q : Int) : tcs s x q ≤ tcs s y q := by
  unfold tcs
  by_cases e : svx s x q = true
  · rw [if_pos e, if_pos (svx_mono h hs e)]
    unfold tcx
    have := gro_mono h hs (p := q)
    split <;> split <;> omega
  · rw [if_neg e]
    have := tcx_nn s y q
    split <;> omega
/-- the class's test of forks -/
def opb (s : zJ) : Int := bs (fun p => opn s p) (s 18 0 0).toNat
theorem fk_test {s : zJ} (h : LW s) (x : Int) : zand (bs (fkL s (sq s x 0) (viX s x)) 13) (zxor (opb s) (-1)) = 0 ↔ okX s x := by
  have hn := lw_n h
  have hb := bs_lt (fkL s (sq s x 0) (viX s x)) 13
  have hb2 : bs (fkL s (sq s x 0) (viX s x)) 13 < 8192 := hb.2
  have ho := bs_lt (fun p => opn s p) (s 18 0 0).toNat
  have ho2 : (2 : Int) ^ (s 18 0 0).toNat ≤ 4096 := by
    have := Nat.pow_le_pow_right (n := 2) (by decide) (show (s 18 0 0).toNat ≤ 12 by omega)
    have e : ((2 ^ (s 18 0 0).toNat : Nat) : Int) = (2 : Int) ^ (s 18 0 0).toNat := by simp
    have e2 : (2 : Nat) ^ 12 = 4096 := rfl
    omega
  have hz := zandn_n (x := bs (fkL s (sq s x 0) (viX s x)) 13) (y := opb s) hb.1 (by omega) ho.1 (by unfold opb; omega)
  have hob : ∀ k : Int, 0 ≤ k → bt (opb s) k = (decide (k < ((s 18 0 0).toNat : Int)) && opn s k) := fun k k0 => bt_bs _ _ k k0
  rw [okX_u h]
  constructor
  · intro z u hu
    have hv := viX_mem h u hu
    obtain ⟨⟨p0, p1⟩, h7, e1, e2, e3, e4⟩ := id hv
    have tst : ∀ k : Int, 0 ≤ k → k < 13 → fkU s (sq s x 0) u k = true → bt (opb s) k = true := fun k k0 k1 hk => by
      have := hz.2.2 k k0
      rw [z, bt_zero, bt_bs _ _ k k0, decide_eq_true (p := k < ((13 : Nat) : Int)) (by omega), fkL_t.mpr ⟨u, hu, hk⟩, Bool.true_and, Bool.true_and] at this
      cases hh : bt (opb s) k
      · rw [hh] at this
        cases this
      · rfl
    refine ⟨fun z1 => ?_, fun z1 => ?_⟩
    · have := tst 12 (by decide) (by decide) (by unfold fkU; rw [decide_eq_true rfl, decide_eq_true z1]; rfl)
      rw [hob 12 (by decide), decide_eq_false (by omega)] at this
      cases this
    · have := tst u.1 p0 (by omega) (by unfold fkU; rw [decide_eq_true (p := u.1 = u.1) rfl, decide_eq_true z1.1, Bool.true_and, Bool.or_true])
      rw [hob u.1 p0, Bool.and_eq_true] at this
      have h2 : opn s u.1 = (isF s u.1 && !bt (s 40 0 10) u.1) := rfl
      rw [h2, z1.2] at this
      cases this.2
  · intro hk
    refine bt_ext hz.1 (Int.le_refl 0) fun k k0 => ?_
    rw [hz.2.2 k k0, bt_zero, ← Bool.not_eq_true, Bool.and_eq_true, bt_bs _ _ k k0, Bool.and_eq_true, fkL_t]
    rintro ⟨⟨_, u, hu, hf⟩, hno⟩
    have hv := viX_mem h u hu
    obtain ⟨⟨p0, p1⟩, h7, e1, e2, e3, e4⟩ := id hv
    obtain ⟨a1, a2⟩ := hk u hu
    unfold fkU at hf
    rw [Bool.or_eq_true, Bool.and_eq_true, Bool.and_eq_true, decide_eq_true_iff, decide_eq_true_iff, decide_eq_true_iff, decide_eq_true_iff] at hf
    rcases hf with ⟨_, z⟩ | ⟨ek, z⟩
    · exact a1 z
    · rw [hob k k0, ek, decide_eq_true (by omega), Bool.true_and] at hno
      have h2 : opn s u.1 = (isF s u.1 && !bt (s 40 0 10) u.1) := rfl
      refine a2 ⟨z, ?_⟩
      rw [← h2]
      cases hh : opn s u.1
      · rfl
      · rw [hh] at hno
        cases hno
