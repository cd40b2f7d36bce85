/-! WHAT A SET NEEDS: wants, and the whole set -/
def nrb (s : zJ) (P : Int → Bool) (p : Int) : Bool := decide (0 < cnt (fun q => decide (1 ≤ q) && (P q && onb s q p)) 12)
theorem nrb_t {s : zJ} {P : Int → Bool} {p : Int} : nrb s P p = true ↔ ∃ q : Int, 1 ≤ q ∧ q < 12 ∧ P q = true ∧ on s q p := by
  unfold nrb
  rw [decide_eq_true_iff, cnt_pos]
  constructor
  · rintro ⟨q, q0, q1, q2⟩
    rw [Bool.and_eq_true, Bool.and_eq_true, decide_eq_true_iff, onb_t] at q2
    exact ⟨q, q2.1, by omega, q2.2.1, q2.2.2⟩
  · rintro ⟨q, q0, q1, q2, q3⟩
    exact ⟨q, by omega, by omega, by rw [decide_eq_true q0, q2, onb_t.mpr q3]; rfl⟩
theorem c41 {L : Nat} {xs : Nat → Int32} (hL : L ≤ 3072) {D : Nat} {J : zJ} {K : zK} {Q : zR → Nat → zJ → zK → Prop} {s : zJ} (hE : EqS s J) (h : LW s) (hT : TW s) {x sv : Int} (x0 : 0 ≤ x) (x1 : x < 128) (s0 : 0 ≤ sv) (s1 : sv < 4096) (hD : 2 ≤ D) (hQ : ∀ J' : zJ, FrX x J K J' K → (∀ b : Nat, b ≠ 107 → b ≠ 108 → J' b = J b) → J' 107 0 x = bs (fun w => bt sv (s 30 0 w)) (s 18 0 14).toNat → J' 108 0 x = bs (fun w => !bt sv (s 30 0 w) && nrb s (bt sv) (s 30 0 w)) (s 18 0 14).toNat → Q (.inl none) 0 J' K) : zCall L xs D 41 [zr 105, zi x, zi sv] J K Q := by
  obtain ⟨D, rfl⟩ : ∃ d, D = d + 1 := ⟨D - 1, by omega⟩
  have hn := lw_n h
  have loop : ∀ (n : Nat) (w : Int) (J1 : zJ), n = (s 18 0 14 - w).toNat → 0 ≤ w → w ≤ s 18 0 14 → FrX x J K J1 K → (∀ b : Nat, b ≠ 107 → b ≠ 108 → J1 b = J b) → J1 107 0 x = bs (fun w => bt sv (s 30 0 w)) w.toNat → J1 108 0 x = bs (fun w => !bt sv (s 30 0 w) && nrb s (bt sv) (s 30 0 w)) w.toNat → zGo L xs (D + 1) 41 16 [some (zr 105), some (zi x), some (zi sv), some (zi w)] [] J1 K Q := by
    intro n; induction n using Nat.strongRecOn with
  | _ n ih =>
    intro w J1 hm w0 w1 f1 k1 v7 v8
    have hE1 : EqS s J1 := fun b x y => (k1 b (by omega) (by omega)).trans (hE b x y)
    have e18 := hE1 18 (by decide) (by decide)
    have e30 := hE1 30 (by decide) (by decide)
    refine z41_16 hL ?_
    rw [e18, e30]
    refine ⟨⟨by omega, by omega⟩, ⟨by omega, by omega⟩, fun q => ?_, fun q => ⟨w0, by omega, ?_⟩⟩
    · have e : w = s 18 0 14 := by omega
      rw [e] at v7 v8
      exact hQ J1 f1 k1 v7 v8
    · have hw := lw_w h w0 q
      have w31 : w < 31 := by omega
      refine c120 hL (by omega) (by omega) (by omega) ⟨s0, by omega⟩ (zaI_of ⟨zin_zb _, fun z => ⟨w0, by omega, ?_⟩, fun z => ⟨x0, x1, w0, by omega, x0, x1, ?_⟩⟩)
      · rw [zb_0] at z
        rw [e30]
        have next : ∀ (J2 : zJ), FrX x J1 K J2 K → (∀ b : Nat, b ≠ 107 → b ≠ 108 → J2 b = J1 b) → J2 107 0 x = J1 107 0 x → J2 108 0 x = bs (fun w => !bt sv (s 30 0 w) && nrb s (bt sv) (s 30 0 w)) (w + 1).toNat → zGo L xs (D + 1) 41 16 [some (zr 105), some (zi x), some (zi sv), some (zi (w + 1))] [] J2 K Q := by
          intro J2 f2 k2 v7' v8'
          refine ih _ (by omega) (w + 1) J2 rfl (by omega) (by omega) (frx_tr f1 f2) (fun b x y => (k2 b x y).trans (k1 b x y)) ?_ v8'
          rw [v7', v7, bs_no (P := fun w => bt sv (s 30 0 w)) w0 z]
        refine c119 hL hE1 h hT (by omega) (by omega) s0 s1 (by omega) (fun z2 => zaI_of ⟨zin_1, fun q => absurd q (by decide), fun _ => ⟨x0, x1, w0, by omega, x0, x1, ?_⟩⟩) (fun z2 => zaI_of ⟨zin_0, fun _ => ?_, fun q => absurd rfl q⟩)
        · refine next _ (frx_up (by decide) _) (fun b x y => zup_ne _ _ _ _ y) (by rw [zup_ne _ _ _ _ (by decide)]) ?_
          rw [zup_eq, v8, bs_or (P := fun w => !bt sv (s 30 0 w) && nrb s (bt sv) (s 30 0 w)) w0 w31 (by rw [z, nrb_t.mpr z2]; rfl)]
        · refine next J1 (frx_rfl x J1 K) (fun _ _ _ => rfl) rfl ?_
          have hf : nrb s (bt sv) (s 30 0 w) = false := by
            rw [← Bool.not_eq_true, nrb_t]
            exact z2
          rw [v8, bs_no (P := fun w => !bt sv (s 30 0 w) && nrb s (bt sv) (s 30 0 w)) w0 (by rw [hf, Bool.and_false])]
      · rw [zb_1] at z
        refine ih _ (by omega) (w + 1) _ rfl (by omega) (by omega) (frx_tr f1 (frx_up (by decide) _)) (fun b x y => by rw [zup_ne _ _ _ _ x]; exact k1 b x y) ?_ ?_
        · rw [zup_eq, v7, bs_or (P := fun w => bt sv (s 30 0 w)) w0 w31 z]
        · rw [zup_ne _ _ _ _ (by decide), v8, bs_no (P := fun w => !bt sv (s 30 0 w) && nrb s (bt sv) (s 30 0 w)) w0 (by rw [z]; rfl)]
  refine z41 hL ⟨x0, x1, x0, x1, loop _ 0 _ rfl (Int.le_refl 0) (by omega) (frx_tr (frx_up (b := 107) (by decide) _) (frx_up (b := 108) (by decide) _)) (fun b x y => by rw [zup_ne _ _ _ _ y, zup_ne _ _ _ _ x]) ?_ ?_⟩
  · rw [zup_ne _ _ _ _ (by decide), zup_eq]
    rfl
  · rw [zup_eq]
    rfl
/-- which places are seen -/
def vsL : List Vu → Int → Bool
  | [], _ => false
  | u :: r, p => decide (p = u.1) || vsL r p
theorem vsL_app (p : Int) : ∀ (l r : List Vu), vsL (l ++ r) p = (vsL l p || vsL r p)
  | [], r => (Bool.false_or _).symm
  | u :: l, r => by rw [List.cons_append, vsL, vsL, vsL_app p l r, Bool.or_assoc]
theorem vsL_t {p : Int} : ∀ {l : List Vu}, vsL l p = true ↔ ∃ u ∈ l, u.1 = p
  | [] => ⟨fun z => (by cases z), fun ⟨u, hu, _⟩ => (by cases hu)⟩
  | u :: l => by
    rw [vsL, Bool.or_eq_true, vsL_t, decide_eq_true_iff]
    constructor
    · rintro (z | ⟨w, hw, z⟩)
      · exact ⟨u, List.mem_cons_self, z.symm⟩
      · exact ⟨w, List.mem_cons_of_mem _ hw, z⟩
    · rintro ⟨w, hw, z⟩
      rcases List.mem_cons.mp hw with e | e
      · rw [e] at z
        exact Or.inl z.symm
      · exact Or.inr ⟨w, e, z⟩
theorem vs_one (W : List Vu) (u : Vu) (u0 : 0 ≤ u.1) (u1 : u.1 < 12) : zor (bs (vsL W) 12) (1 * 2 ^ u.1.toNat) = bs (vsL (W ++ [u])) 12 := by
  have hb := bs_lt (vsL W) 12
  have o1 := bt_or1 (t := bs (vsL W) 12) (k := u.1) (n := 12) (by decide) hb.1 hb.2 u0 (by omega)
  refine bs_of o1.1.1 fun y y0 => ?_
  have eu : decide (u.1 = y) = decide (y = u.1) := by
    rw [Bool.eq_iff_iff, decide_eq_true_iff, decide_eq_true_iff]
    exact eq_comm
  rw [o1.2 y y0, bt_bs _ _ y y0, vsL_app, vsL, vsL, Bool.or_false, eu]
  by_cases e : y = u.1
  · rw [decide_eq_true e, decide_eq_true (p := y < ((12 : Nat) : Int)) (by omega), Bool.or_true, Bool.or_true]
    rfl
  · rw [decide_eq_false e, Bool.or_false, Bool.or_false]
/-- what the walk of a set's first row sees -/
def rit (s : zJ) (x m : Int) : List It := if cbh s x 0 = 0 then [] else [(0, 0, cbh s x 0, m, -1)]
def viX (s : zJ) (x : Int) : List Vu := viW s (sq s x 0) 84 ((rit s x 0).map tri)
def tkX (s : zJ) (x : Int) : List (Int × Int) := tkL s (sq s x 0) (viX s x)
theorem cbh_nn (s : zJ) (x p : Int) : 0 ≤ cbh s x p := (cnt_rng (fun k => bt x k && onb s p (s 24 0 k)) (s 18 0 6).toNat).1
theorem cbh_N {s : zJ} (h : LW s) {x p : Int} (hc : 0 < cbh s x p) : 0 < s 18 0 0 := by
  obtain ⟨k, k0, k1, _⟩ := cnt_pos.mp hc
  have := lw_k h k0 (by omega)
  omega
theorem rit_can {s : zJ} (h : LW s) {x : Int} (m : Int) (hx : cbh s x 0 ≤ 7) : (∀ v ∈ rit s x m, Can s x v) ∧ mus (rit s x m) ≤ 84 ∧ lens (rit s x m) ≤ 7 := by
  unfold rit
  by_cases q : cbh s x 0 = 0
  · rw [if_pos q]
    exact ⟨fun v hv => (by cases hv), by decide, by decide⟩
  · rw [if_neg q]
    have hN := cbh_N h (x := x) (p := 0) (by have := cbh_nn s x 0; omega)
    have h0 := hd_cbh h x (Int.le_refl 0) hN
    refine ⟨fun v hv => ?_, ?_, ?_⟩
    · rw [List.mem_singleton] at hv
      rw [hv]
      exact can_root h hN (h0.1.mpr (by omega)) m (-1)
    · show (12 - 0) * (cbh s x 0 - 0) + 0 ≤ 84
      omega
    · show (cbh s x 0 - 0) + 0 ≤ 7
      omega
theorem rit_tri (s : zJ) (x m m' : Int) : (rit s x m).map tri = (rit s x m').map tri := by
  unfold rit
  split <;> rfl
theorem cbh_7 {s : zJ} (h : LW s) (x p : Int) : cbh s x p ≤ 7 := by
  have hn := lw_n h
  have := (cnt_rng (fun k => bt x k && onb s p (s 24 0 k)) (s 18 0 6).toNat).2
  unfold cbh
  omega
theorem tkX_len {s : zJ} (h : LW s) (x : Int) : (tkX s x).length ≤ 7 := by
  have hx := cbh_7 h x 0
  have hr := rit_can h 0 hx
  have h1 := tkL_len h hx 84 (rit s x 0) hr.1
  by_cases q : cbh s x 0 = 0
  · have e : rit s x 0 = [] := by
      unfold rit
      rw [if_pos q]
    unfold tkX viX
    rw [e]
    exact Nat.zero_le 7
  · have e : rit s x 0 = [(0, 0, cbh s x 0, 0, -1)] := by
      unfold rit
      rw [if_neg q]
    have hN := cbh_N h (x := x) (p := 0) (by have := cbh_nn s x 0; omega)
    have h0 := hd_cbh h x (Int.le_refl 0) hN
    have h2 := viW_ct h hx (Int.le_refl 0) hN (h0.1.mpr (by omega)) 84 (rit s x 0) hr.1 hr.2.1
    have h3 : ict s 0 (rit s x 0) = 1 := by
      rw [e, ict, ict]
      show zb (onb s 0 0) + 0 = 1
      rw [onb_t.mpr (on_self s 0)]
      rfl
    rw [h2, h3] at h1
    have h4 : lens (rit s x 0) = cbh s x 0 := by
      rw [e]
      show (cbh s x 0 - 0) + 0 = _
      omega
    have h5 : ((rit s x 0).length : Int) = 1 := by
      rw [e]
      rfl
    rw [h4, h5] at h1
    show (tkL s (sq s x 0) (viW s (sq s x 0) 84 ((rit s x 0).map tri))).length ≤ 7
    omega
theorem sq_Inj {s : zJ} (h : LW s) (x : Int) : Inj (sq s x 0) 0 (cbh s x 0) := fun i j i0 ij j1 e => by
  have := sq_inj h x (cbh_N h (x := x) (p := 0) (by omega)) i0 (by omega) (by omega) j1 e
  omega
theorem c40w {L : Nat} {xs : Nat → Int32} (hL : L ≤ 3072) {D : Nat} {J : zJ} {K : zK} {Q : zR → Nat → zJ → zK → Prop} {s : zJ} (hE : EqS s J) (h : LW s) (hT : TW s) {x : Int} (x0 : 0 ≤ x) (x1 : x < 128) (hD : 5 ≤ D) (hQ : ∀ (J' : zJ) (K' : zK), FrX x J K J' K' → J' 106 0 x = bs (fkL s (sq s x 0) (viX s x)) 13 → Tb J' K' x (tkX s x) → J' 107 0 x = bs (fun w => bt (bs (vsL (viX s x)) 12) (s 30 0 w)) (s 18 0 14).toNat → J' 108 0 x = bs (fun w => !bt (bs (vsL (viX s x)) 12) (s 30 0 w) && nrb s (bt (bs (vsL (viX s x)) 12)) (s 30 0 w)) (s 18 0 14).toNat → Q (.inl none) 0 J' K') : ∀ (n : Nat) (i : Int) (l : List It) (W : List Vu) (T : List (Int × Int)) (J1 : zJ) (K1 : zK), n = (84 - i).toNat → 0 ≤ i → i ≤ 84 → mus l ≤ n → lens l ≤ 7 → (∀ v ∈ l, Can s x v) → (∀ v ∈ l, 0 ≤ v.2.1 ∧ v.2.2.1 ≤ cbh s x 0) → Stk J1 l → FrX x J K J1 K1 → (∀ w ∈ l, ∀ k : Int, w.2.1 ≤ k → k < w.2.2.1 → J1 93 0 k = sq s x 0 k) → J1 106 0 x = bs (fkL s (sq s x 0) W) 13 → Tb J1 K1 x T → W ++ viW s (sq s x 0) n (l.map tri) = viX s x → T ++ tkL s (sq s x 0) (viW s (sq s x 0) n (l.map tri)) = tkX s x → zGo L xs (D + 1) 40 55 [some (zr 105), some (zi x), some (zi (bs (vsL W) 12)), some (zi i)] [] J1 K1 Q := by
  have hn := lw_n h
  have hx := cbh_7 h x 0
  have htl := tkX_len h x
  have hij := sq_Inj h x
  have fin : ∀ (J1 : zJ) (K1 : zK), FrX x J K J1 K1 → J1 106 0 x = bs (fkL s (sq s x 0) (viX s x)) 13 → Tb J1 K1 x (tkX s x) → zCall L xs D 41 [zr 105, zi x, zi (bs (vsL (viX s x)) 12)] J1 K1 fun r1 e1 J1 K1 => zaV r1 e1 (Q (.inl none) 0 J1 K1) (fun E => Q (.inr E) e1 J1 K1) := by
    intro J1 K1 f1 v6 tb
    have hE1 : EqS s J1 := fun b x y => (f1.1 b (by omega)).trans (hE b x y)
    have hb := bs_lt (vsL (viX s x)) 12
    refine c41 hL hE1 h hT x0 x1 hb.1 hb.2 (by omega) fun J2 f2 k2 v7 v8 => zaV_of ?_
    exact hQ J2 K1 (frx_tr f1 f2) (by rw [k2 106 (by decide) (by decide)]; exact v6) (tb_eq tb (k2 _ (by decide) (by decide)) (k2 _ (by decide) (by decide)) (k2 _ (by decide) (by decide))) v7 v8
  intro n
  induction n with
  | zero =>
    intro i l W T J1 K1 hm i0 i1 hmu hle hc hin hst f1 hrow v6 tb hW hT'
    refine z40_55 hL ⟨⟨by omega, by omega⟩, ⟨by decide, by decide⟩, fun _ => ?_, fun q => by omega⟩
    rw [viW, List.append_nil] at hW
    rw [viW, tkL, List.append_nil] at hT'
    rw [hW] at v6 ⊢
    rw [hT'] at tb
    exact fin J1 K1 f1 v6 tb
  | succ n ih =>
    intro i l W T J1 K1 hm i0 i1 hmu hle hc hin hst f1 hrow v6 tb hW hT'
    have hE1 : EqS s J1 := fun b x y => (f1.1 b (by omega)).trans (hE b x y)
    have hit := can_its h hx hc
    have hg1 := lens_ge hit
    refine z40_55 hL ⟨⟨by omega, by omega⟩, ⟨by decide, by decide⟩, fun q => by omega, fun _ => ?_⟩
    refine c125 hL hst (by omega) (by omega) (fun e => zaI_of ⟨zin_0, fun _ => ?_, fun q => absurd rfl q⟩) fun v r J2 hl f2 k2 k9 k10 k11 k12 k13 s2 => zaI_of ⟨zin_1, fun q => absurd q (by decide), fun _ => ?_⟩
    · subst e
      rw [List.map_nil, viW, List.append_nil] at hW
      rw [List.map_nil, viW, tkL, List.append_nil] at hT'
      rw [hW] at v6 ⊢
      rw [hT'] at tb
      exact fin J1 K1 f1 v6 tb
    · subst hl
      have hcv := hc v List.mem_cons_self
      have hinv := hin v List.mem_cons_self
      have hS := can_seg h hx hcv
      obtain ⟨gs, he, hcn, hlo, hv⟩ := viW_st h hx n (r := r) hcv
      obtain ⟨gs2, hsp, hcn2, hlo2⟩ := can_spl h hx hcv
      have egs : gs2 = gs := by
        have h1 : viW s (sq s x 0) (n + 1) ((v :: r).map tri) = (v.1, v.2.1, v.2.2.1, gs2, pos s x v.1 + gT s x v.1 7) :: viW s (sq s x 0) n (kd3 (ky s (sq s x 0) v.1) gs2 (pos s x v.1 + gT s x v.1 7) ++ r.map tri) := by
          have hsp2 : spl (ky s (sq s x 0) (tri v).1) (tri v).1 (tri v).2.1 (tri v).2.2 = some (gs2, pos s x v.1 + gT s x v.1 7) := hsp
          rw [List.map_cons, viW, hsp2]
          rfl
        rw [h1] at he
        have h2 := (List.cons.inj he).1
        rw [Prod.mk.injEq, Prod.mk.injEq, Prod.mk.injEq, Prod.mk.injEq] at h2
        exact h2.2.2.2.1
      rw [egs] at hsp
      have hmu2 := can_mus h hx hcv hcn hlo (fun _ => 0) (fun _ => 0) 0 0
      have hml : mus (v :: r) = (12 - v.1) * (v.2.2.1 - v.2.1) + mus r := rfl
      have hll : lens (v :: r) = (v.2.2.1 - v.2.1) + lens r := rfl
      obtain ⟨⟨p0, p1⟩, ⟨l0, l1, l2⟩, hro⟩ := id hS
      have hcl := chn_len hcn
      rw [hlo] at hcl
      have hE2 : EqS s J2 := fun b x y => (f2 b (by omega)).trans (hE1 b x y)
      have hrow2 : ∀ j : Int, v.2.1 ≤ j → j < v.2.2.1 → J2 93 0 j = sq s x 0 j := fun j j0 j1 => by
        rw [f2 93 (by decide)]
        exact hrow v List.mem_cons_self j j0 j1
      rw [he] at hW hT'
      rw [tkL] at hT'
      refine c135 hL hE2 h hT hS (by omega) hrow2 k9 k10 k11 fun J3 f3 k3 g3 => ?_
      rw [hsp]
      obtain ⟨g14, g99⟩ := g3 gs _ hsp
      refine zaI_of ⟨zin_zb _, fun q => absurd (show (1 : Int) = 0 from q) (by decide), fun _ => ?_⟩
      have hE3 : EqS s J3 := fun b x y => (f3 b (by omega) (by omega)).trans (hE2 b x y)
      have j9 : J3 92 0 9 = v.1 := by rw [k3 9 (by decide)]; exact k9
      rw [j9]
      refine ⟨p0, by omega, ?_⟩
      have f13 : FrX x J1 K1 J3 K1 := frx_of fun b hb => (f3 b (by omega) (by omega)).trans (f2 b (by omega))
      have e3 : ∀ b : Nat, 100 < b → J3 b = J1 b := fun b hb => (f3 b (by omega) (by omega)).trans (f2 b (by omega))
      have hrow3 : ∀ j : Int, v.2.1 ≤ j → j < v.2.2.1 → J3 93 0 j = sq s x 0 j := fun j j0 j1 => by
        rw [f3 93 (by decide) (by decide)]
        exact hrow2 j j0 j1
      have hlenT : T.length + (tkU s (sq s x 0) (v.1, v.2.1, v.2.2.1, gs, pos s x v.1 + gT s x v.1 7)).length ≤ 7 := by
        have := congrArg List.length hT'
        rw [List.length_append, List.length_append] at this
        omega
      refine c39 hL hE3 h hT x0 x1 hS (inj_wk hij hinv.1 hinv.2) hcn hlo hrow3 j9 (by rw [k3 10 (by decide)]; exact k10) (by rw [k3 11 (by decide)]; exact k11) g14 g99 (by rw [e3 106 (by decide)]; exact v6) (tb_eq tb (e3 _ (by decide)) (e3 _ (by decide)) (e3 _ (by decide))) hlenT (by omega) fun J4 K4 f4 k4 v64 tb4 => zaV_of ?_
      have hE4 : EqS s J4 := fun b x y => (k4 b (by omega)).trans (hE3 b x y)
      have s3 : Stk J3 r := stk_eq s2 (k3 3 (by decide)) (f3 _ (by decide) (by decide)) (f3 _ (by decide) (by decide)) (f3 _ (by decide) (by decide)) (f3 _ (by decide) (by decide)) (f3 _ (by decide) (by decide))
      have s4 : Stk J4 r := stk_eq s3 (by rw [k4 92 (by decide)]) (k4 _ (by decide)) (k4 _ (by decide)) (k4 _ (by decide)) (k4 _ (by decide)) (k4 _ (by decide))
      have hgr := lens_ge (its_tl hit)
      refine c128 hL hE4 h hT hS hcn hlo (fun j j0 j1 => by rw [k4 93 (by decide)]; exact hrow3 j j0 j1) (by rw [k4 92 (by decide)]; exact j9) (by rw [k4 92 (by decide), k3 11 (by decide)]; exact k11) (mi := v.2.2.2.1) (by rw [k4 92 (by decide), k3 12 (by decide)]; exact k12) (by rw [k4 92 (by decide)]; exact g14) (by rw [k4 99 (by decide)]; exact g99) s4 (by omega) (by omega) fun J5 f5 k5 s5 => zaV_of ?_
      rw [vs_one W (v.1, v.2.1, v.2.2.1, gs, pos s x v.1 + gT s x v.1 7) p0 (by show v.1 < 12; omega)]
      have hmu3 := can_mus h hx hcv hcn hlo (s 20 0) (J4 100 0) v.2.2.2.1 (if 0 < ncu gs (pos s x v.1 + gT s x v.1 7) v.2.2.1 then s 22 0 v.1 else 0)
      have hca := can_app h hx hc hcn hlo (s 20 0) (J4 100 0) v.2.2.2.1 (if 0 < ncu gs (pos s x v.1 + gT s x v.1 7) v.2.2.1 then s 22 0 v.1 else 0)
      have hki : ∀ w ∈ kdm (ky s (sq s x 0) v.1) (s 20 0) (J4 100 0) v.2.2.2.1 (if 0 < ncu gs (pos s x v.1 + gT s x v.1 7) v.2.2.1 then s 22 0 v.1 else 0) gs (pos s x v.1 + gT s x v.1 7) 0, v.2.1 ≤ w.2.1 ∧ w.2.2.1 ≤ v.2.2.1 := fun w hw => by
        have := kdm_in _ _ _ _ _ gs _ 0 hcn w hw
        rw [hlo] at this
        exact this
      have emt : ∀ (up en : Int → Int) (mi gap : Int), (kdm (ky s (sq s x 0) v.1) up en mi gap gs (pos s x v.1 + gT s x v.1 7) 0 ++ r).map tri = (kdm (ky s (sq s x 0) v.1) (fun _ => 0) (fun _ => 0) 0 0 gs (pos s x v.1 + gT s x v.1 7) 0 ++ r).map tri := fun up en mi gap => by
        rw [List.map_append, List.map_append, kdm_tri, kdm_tri]
      refine ih (i + 1) _ (W ++ [(v.1, v.2.1, v.2.2.1, gs, pos s x v.1 + gT s x v.1 7)]) (T ++ tkU s (sq s x 0) (v.1, v.2.1, v.2.2.1, gs, pos s x v.1 + gT s x v.1 7)) J5 K4 (by omega) (by omega) (by omega) ?_ ?_ hca ?_ s5 ?_ ?_ ?_ ?_ ?_ ?_
      · rw [mus_app]
        omega
      · have e1 := hcv.2.2.1
        rw [lens_app]
        omega
      · intro w hw
        rcases List.mem_append.mp hw with z | z
        · have := hki w z
          omega
        · exact hin w (List.mem_cons_of_mem _ z)
      · exact frx_tr f1 (frx_tr f13 (frx_tr f4 (frx_of fun b hb => f5 b (by omega) (by omega))))
      · intro w hw j j0 j1
        rw [f5 93 (by decide) (by decide), k4 93 (by decide)]
        rcases List.mem_append.mp hw with z | z
        · have := hki w z
          exact hrow3 j (by omega) (by omega)
        · rw [f3 93 (by decide) (by decide), f2 93 (by decide)]
          exact hrow w (List.mem_cons_of_mem _ z) j j0 j1
      · rw [f5 106 (by decide) (by decide)]
        exact v64
      · exact tb_eq tb4 (f5 _ (by decide) (by decide)) (f5 _ (by decide) (by decide)) (f5 _ (by decide) (by decide))
      · rw [emt, List.append_assoc]
        exact hW
      · rw [emt, List.append_assoc]
        exact hT'
theorem eql_s {s J : zJ} (hE : EqS s J) : EqL s J := fun b x y => hE b x (by omega)
theorem c40 {L : Nat} {xs : Nat → Int32} (hL : L ≤ 3072) {D : Nat} {J : zJ} {K : zK} {Q : zR → Nat → zJ → zK → Prop} {s : zJ} (hE : EqS s J) (h : LW s) (hT : TW s) {x : Int} (x0 : 0 ≤ x) (x1 : x < 2 ^ (s 18 0 6).toNat) (hD : 6 ≤ D) (hQ : ∀ (J' : zJ) (K' : zK), FrX x J K J' K' → J' 106 0 x = bs (fkL s (sq s x 0) (viX s x)) 13 → Tb J' K' x (tkX s x) → J' 107 0 x = bs (fun w => bt (bs (vsL (viX s x)) 12) (s 30 0 w)) (s 18 0 14).toNat → J' 108 0 x = bs (fun w => !bt (bs (vsL (viX s x)) 12) (s 30 0 w) && nrb s (bt (bs (vsL (viX s x)) 12)) (s 30 0 w)) (s 18 0 14).toNat → Q (.inl none) 0 J' K') : zCall L xs D 40 [zr 105, zi x] J K Q := by
  obtain ⟨D, rfl⟩ : ∃ d, D = d + 1 := ⟨D - 1, by omega⟩
  obtain ⟨D, rfl⟩ : ∃ d, D = d + 1 := ⟨D - 1, by omega⟩
  have hn := lw_n h
  have x7 : x < 128 := by
    have := (pw7 (n := s 18 0 6) (by omega)).2
    omega
  have hx := cbh_7 h x 0
  have hcb := cbh_root h x0 x1
  have hc0 := cbh_nn s x 0
  have hr := rit_can h 0 hx
  have f0 : FrX x J K (zup (zup J 106 0 x 0) 109 0 x 0) (zku K 112 x 0) := by
    refine frx_tr (frx_tr (frx_up (b := 106) (by decide) 0) (frx_up (b := 109) (by decide) 0)) ⟨fun _ _ => rfl, fun _ _ => ⟨rfl, rfl, rfl, rfl⟩, fun _ _ => ⟨rfl, rfl⟩, fun b hb => ?_, fun y hy => ?_⟩
    · funext y
      rw [zku_at, if_neg fun z => hb z.1]
    · rw [zku_at, if_neg fun z => hy z.2]
  have v6 : zup (zup J 106 0 x 0) 109 0 x 0 106 0 x = 0 := by rw [zup_ne _ _ _ _ (by decide), zup_eq]
  have tb : Tb (zup (zup J 106 0 x 0) 109 0 x 0) (zku K 112 x 0) x [] := ⟨zup_eq _ _ _ _ _, fun i e he => (by cases he), by rw [zku_at, if_pos ⟨rfl, rfl⟩]; rfl⟩
  refine z40 hL ⟨x0, x7, x0, x7, x0, x7, ?_⟩
  generalize zup (zup J 106 0 x 0) 109 0 x 0 = J1 at f0 v6 tb ⊢
  generalize zku K 112 x 0 = K1 at f0 tb ⊢
  have hE1 : EqS s J1 := fun b x y => (f0.1 b (by omega)).trans (hE b x y)
  refine c67b hL (eql_s hE1) h hT x0 (by omega) (Int.le_refl 0) (by omega) (by omega) fun J2 f2 r2 _ => zaV_of ?_
  refine c317 hL (by omega) x0 (by omega) (zaI_of ?_)
  rw [← hcb]
  have hF0 : ∀ b : Nat, b < 89 ∨ (100 < b ∧ b ≠ 115) → (zup (zcp J2 115 93 0 0 (cbh s x 0)) 92 0 3 0) b = J1 b := fun b hb => by rw [zup_ne _ _ _ _ (by omega), zcp_ne _ _ _ _ (by omega), f2 b (by omega) (by omega) (by omega)]
  have hrow : ∀ k : Int, 0 ≤ k → k < cbh s x 0 → zup (zcp J2 115 93 0 0 (cbh s x 0)) 92 0 3 0 93 0 k = sq s x 0 k := fun k k0 k1 => by
    rw [zup_ne _ _ _ _ (by decide), zcp_at, if_pos ⟨rfl, rfl, by omega, by omega⟩]
    have e : (0 : Int) + (k - 0) = 0 + k := by omega
    rw [e]
    exact r2 k k0 k1
  have hs0 : Stk (zup (zcp J2 115 93 0 0 (cbh s x 0)) 92 0 3 0) [] := ⟨zup_eq _ _ _ _ _, fun j v hv => by simp at hv⟩
  have loop : ∀ J3 : zJ, Stk J3 (rit s x 0) → (∀ b : Nat, b < 92 ∨ 98 < b → J3 b = zup (zcp J2 115 93 0 0 (cbh s x 0)) 92 0 3 0 b) → (∀ k : Int, 0 ≤ k → k < cbh s x 0 → J3 93 0 k = sq s x 0 k) → zGo L xs (D + 1 + 1) 40 55 [some (zr 105), some (zi x), some (zi 0), some (zi 0)] [] J3 K1 Q := by
    intro J3 s3 f3 hr3
    have f13 : FrX x J1 K1 J3 K1 := frx_of fun b hb => (f3 b (by omega)).trans (hF0 b hb)
    have hin : ∀ v ∈ rit s x 0, 0 ≤ v.2.1 ∧ v.2.2.1 ≤ cbh s x 0 := fun v hv => by
      unfold rit at hv
      split at hv
      · cases hv
      · rw [List.mem_singleton] at hv
        rw [hv]
        exact ⟨Int.le_refl 0, Int.le_refl _⟩
    have e100 : ∀ b : Nat, 100 < b → b ≠ 115 → J3 b = J1 b := fun b hb h2 => (f3 b (by omega)).trans (hF0 b (by omega))
    have := c40w (xs := xs) (D := D + 1) hL hE h hT x0 x7 (by omega) hQ 84 0 (rit s x 0) [] [] J3 K1 rfl (Int.le_refl 0) (by decide) hr.2.1 hr.2.2 hr.1 hin s3 (frx_tr f0 f13) (fun w hw k a b => by
      have := hin w hw
      exact hr3 k (by omega) (by omega)) (by
      rw [e100 106 (by decide) (by decide), v6]
      exact (sm_zero fun i _ _ => rfl).symm) (tb_eq tb (e100 _ (by decide) (by decide)) (e100 _ (by decide) (by decide)) (e100 _ (by decide) (by decide))) rfl rfl
    have e0 : bs (vsL []) 12 = 0 := sm_zero fun i _ _ => rfl
    rw [e0] at this
    exact this
  refine z129b hL ⟨by omega, by decide, by decide, by omega, by omega, by omega, ⟨by omega, by omega⟩, fun q => zaV_of ?_, fun q => ?_⟩
  · refine loop _ ?_ (fun _ _ => rfl) hrow
    unfold rit
    rw [if_pos (by omega)]
    exact hs0
  · refine c134 hL ((0, 0, cbh s x 0, 0, -1) : It) hs0 (by decide) (by omega) fun J3 f3 k3 s3 => zaV_of (zaV_of ?_)
    refine loop J3 ?_ (fun b hb => ?_) (fun k k0 k1 => ?_)
    · unfold rit
      rw [if_neg (by omega)]
      exact s3
    · exact f3 b (by omega) (by omega)
    · rw [f3 93 (by decide) (by decide)]
      exact hrow k k0 k1
