/-! CUTS in the class -/
def lens : List It → Int
  | [] => 0
  | v :: r => (v.2.2.1 - v.2.1) + lens r
def mus : List It → Int
  | [] => 0
  | v :: r => (12 - v.1) * (v.2.2.1 - v.2.1) + mus r
def Its (s : zJ) (a : Int → Int) (l : List It) : Prop := ∀ v ∈ l, Seg s a v.1 v.2.1 v.2.2.1
theorem lens_app : ∀ (l r : List It), lens (l ++ r) = lens l + lens r
  | [], r => by simp [lens]
  | v :: l, r => by
    rw [List.cons_append, lens, lens, lens_app l r]
    omega
theorem mus_app : ∀ (l r : List It), mus (l ++ r) = mus l + mus r
  | [], r => by simp [mus]
  | v :: l, r => by
    rw [List.cons_append, mus, mus, mus_app l r]
    omega
theorem lens_ge {s : zJ} {a : Int → Int} : ∀ {l : List It}, Its s a l → (l.length : Int) ≤ lens l
  | [], _ => by simp [lens]
  | v :: r, h => by
    have h1 := lens_ge (l := r) fun w hw => h w (List.mem_cons_of_mem _ hw)
    have h2 := (h v List.mem_cons_self).2.1
    rw [List.length_cons, lens]
    omega
theorem mus_ge {s : zJ} (hW : LW s) {a : Int → Int} : ∀ {l : List It}, Its s a l → lens l ≤ mus l
  | [], _ => by simp [lens, mus]
  | v :: r, h => by
    have hn := lw_n hW
    have h1 := mus_ge hW (l := r) fun w hw => h w (List.mem_cons_of_mem _ hw)
    have h2 := h v List.mem_cons_self
    have h3 : 1 * (v.2.2.1 - v.2.1) ≤ (12 - v.1) * (v.2.2.1 - v.2.1) := Int.mul_le_mul_of_nonneg_right (by have := h2.1; omega) (by have := h2.2.1; omega)
    rw [lens, mus]
    omega
theorem kdm_ok {s : zJ} (h : LW s) {a : Int → Int} {p lo hi : Int} (hS : Seg s a p lo hi) (up en : Int → Int) (mi gap : Int) : ∀ (gs : List Int) (st j : Int), Chn (ky s a p) p hi gs st → lo ≤ hdo gs st → Its s a (kdm (ky s a p) up en mi gap gs st j) ∧ lens (kdm (ky s a p) up en mi gap gs st j) = st - hdo gs st ∧ mus (kdm (ky s a p) up en mi gap gs st j) ≤ (11 - p) * (st - hdo gs st)
  | [], st, j, _, _ => ⟨fun v hv => (by cases hv), by show (0 : Int) = st - st; omega, by
      show (0 : Int) ≤ (11 - p) * (st - st)
      rw [Int.sub_self, Int.mul_zero]
      omega⟩
  | b :: r, st, j, hn, hlo => by
    obtain ⟨g1, g2, g3, g4, g5, g6⟩ := hn
    have hlo2 : lo ≤ b := hlo
    have hk := seg_kid (b := b) h hS hlo g1 g2 g3 g4
    obtain ⟨i1, i2, i3⟩ := kdm_ok h hS up en mi gap r st (j + 1) g6 (by omega)
    rw [kdm]
    refine ⟨fun v hv => ?_, ?_, ?_⟩
    · rcases List.mem_cons.mp hv with e | e
      · rw [e]
        exact hk.1
      · exact i1 v e
    · rw [lens, i2]
      show hdo r st - b + (st - hdo r st) = st - b
      omega
    · rw [mus]
      show (12 - ky s a p b) * (hdo r st - b) + _ ≤ (11 - p) * (st - b)
      have h1 : (12 - ky s a p b) * (hdo r st - b) ≤ (11 - p) * (hdo r st - b) := Int.mul_le_mul_of_nonneg_right (by omega) (by omega)
      have e : (11 - p) * (st - b) = (11 - p) * (hdo r st - b) + (11 - p) * (st - hdo r st) := by
        rw [← Int.mul_add]
        congr 1
        omega
      omega
theorem kdm_in {p hi : Int} (f up en : Int → Int) (mi gap : Int) : ∀ (gs : List Int) (st j : Int), Chn f p hi gs st → ∀ w ∈ kdm f up en mi gap gs st j, hdo gs st ≤ w.2.1 ∧ w.2.2.1 ≤ hi
  | [], _, _, _, w, hw => (by cases hw)
  | b :: r, st, j, hn, w, hw => by
    obtain ⟨g1, g2, g3, g4, g5, g6⟩ := hn
    rw [kdm] at hw
    show b ≤ w.2.1 ∧ w.2.2.1 ≤ hi
    rcases List.mem_cons.mp hw with e | e
    · rw [e]
      exact ⟨Int.le_refl b, g2⟩
    · have := kdm_in f up en mi gap r st (j + 1) g6 w e
      omega
/-- rows one after the other -/
def cuW (s : zJ) (a : Int → Int) : List It → Int → Int
  | [], c => c
  | v :: r, c => if cuF s a 12 v.1 v.2.1 v.2.2.1 = -1 then -1 else cuW s a r (c + cuF s a 12 v.1 v.2.1 v.2.2.1)
theorem cuL_W {s : zJ} (h : LW s) {a : Int → Int} {p lo hi : Int} (hS : Seg s a p lo hi) (up en : Int → Int) (mi gap c : Int) (l : List It) : ∀ (gs : List Int) (st j c0 : Int), Chn (ky s a p) p hi gs st → lo ≤ hdo gs st → 0 ≤ c0 → (if cuL (cuF s a 12) (ky s a p) gs st c0 = -1 then -1 else cuW s a l (c + cuL (cuF s a 12) (ky s a p) gs st c0)) = cuW s a (kdm (ky s a p) up en mi gap gs st j ++ l) (c + c0)
  | [], st, j, c0, _, _, h0 => by
    rw [cuL, kdm, List.nil_append, if_neg (by omega)]
  | b :: r, st, j, c0, hn, hlo, h0 => by
    obtain ⟨g1, g2, g3, g4, g5, g6⟩ := hn
    have hlo2 : lo ≤ b := hlo
    have hk := seg_kid (b := b) h hS hlo g1 g2 g3 g4
    have hr := cuF_rng h a 12 _ _ _ hk.1
    rw [cuL, kdm, List.cons_append, cuW]
    simp only
    by_cases q : cuF s a 12 (ky s a p b) b (hdo r st) = -1
    · rw [if_pos q, if_pos q, if_pos rfl]
    · rw [if_neg q, if_neg q, cuL_W h hS up en mi gap c l r st (j + 1) _ g6 (by omega) (by omega), Int.add_assoc]
theorem cuW_step {s : zJ} (h : LW s) {a : Int → Int} {p lo hi m e st c : Int} {gs : List Int} (hS : Seg s a p lo hi) (hs : spl (ky s a p) p lo hi = some (gs, st)) (up en : Int → Int) (mi gap : Int) (l : List It) : cuW s a ((p, lo, hi, m, e) :: l) c = cuW s a (kdm (ky s a p) up en mi gap gs st 0 ++ l) (c + ncu gs st hi) := by
  obtain ⟨⟨p0, p1⟩, ⟨l0, l1, l2⟩, hrow⟩ := id hS
  have hn := lw_n h
  obtain ⟨hc, hlo, hst, _⟩ := (spl_ok (f := ky s a p) p0 l1 fun i h0 h1 => (ky_rng h hS h0 h1).1).2 gs st hs
  have hnc := ncu_rng hc hlo l1
  have e1 : cuF s a 12 p lo hi = cuL (cuF s a 12) (ky s a p) gs st (ncu gs st hi) := by
    rw [cuF, hs]
    exact cuL_cong h hS (fun q b e hq hpq => cuF_fuel h a 11 12 q b e hq (by omega) (by omega)) gs st _ hc (by omega)
  rw [cuW]
  simp only
  rw [e1]
  exact cuL_W h hS up en mi gap c l gs st 0 _ hc (by omega) hnc.1
theorem c127w {L : Nat} {xs : Nat → Int32} (hL : L ≤ 3072) {D : Nat} {J : zJ} {K : zK} {Q : zR → Nat → zJ → zK → Prop} {s : zJ} (h : LW s) (hT : TW s) {a : Int → Int} {v : Int} (hE : EqS s J) (hD : 3 ≤ D) (hQ : ∀ J' : zJ, Fr 92 100 J J' → Q (.inl (some (zi (v)))) 0 J' K) : ∀ (n : Nat) (i c : Int) (l : List It) (J1 : zJ), n = (84 - i).toNat → 0 ≤ i → i ≤ 84 → mus l ≤ 84 - i → lens l ≤ 7 → Its s a l → Stk J1 l → Fr 92 100 J J1 → (∀ w ∈ l, ∀ k : Int, w.2.1 ≤ k → k < w.2.2.1 → J1 93 0 k = a k) → v = cuW s a l c → zGo L xs (D + 1) 127 13 [some (zr 92), none, none, some (zi c), some (zi i)] [] J1 K Q := by
  have hn := lw_n h
  intro n
  induction n using Nat.strongRecOn with
  | _ n ih =>
  intro i c l J1 hm h0 h1 hmu hle hit hst hF1 har hv
  have hE1 := eqs_fr hE hF1 (by omega)
  have hg1 := lens_ge hit
  have hg2 := mus_ge h hit
  refine z127_13 hL ?_
  by_cases hc : i < 84
  · refine ⟨⟨by omega, by omega⟩, ⟨by omega, by omega⟩, fun _ => by omega, fun _ => ?_⟩
    refine c125 hL hst (by omega) (by omega) (fun e => zaI_of ⟨zin_0, fun _ => ?_, fun q => absurd rfl q⟩) fun w r J2 hl f2 k2 k9 k10 k11 k12 k13 s2 => zaI_of ⟨zin_1, fun q => absurd q (by decide), fun _ => ?_⟩
    · subst e
      rw [cuW] at hv
      rw [← hv]
      exact hQ J1 hF1
    · subst hl
      obtain ⟨p, lo, hi, mi, en⟩ := w
      have hS : Seg s a p lo hi := hit _ List.mem_cons_self
      have hitr : Its s a r := fun w hw => hit w (List.mem_cons_of_mem _ hw)
      have hF2 : Fr 92 100 J J2 := fun b hb => (f2 b (by omega)).trans (hF1 b hb)
      have hE2 := eqs_fr hE hF2 (by omega)
      have hrow : ∀ j : Int, lo ≤ j → j < hi → J2 93 0 j = a j := fun j j0 j1 => by
        rw [f2 93 (by decide)]
        exact har _ List.mem_cons_self j j0 j1
      obtain ⟨⟨p0, p1⟩, ⟨l0, l1, l2⟩, hro⟩ := id hS
      have hsp := spl_ok (f := ky s a p) p0 l1 fun i h0 h1 => (ky_rng h hS h0 h1).1
      refine c135 hL hE2 h hT hS (by omega) hrow k9 k10 k11 fun J3 f3 k3 g3 => zaI_of ?_
      have hF3 : Fr 92 100 J J3 := fun b hb => (f3 b (by omega) (by omega)).trans (hF2 b hb)
      have hE3 := eqs_fr hE hF3 (by omega)
      have s3 : Stk J3 r := stk_eq s2 (k3 3 (by decide)) (f3 _ (by decide) (by decide)) (f3 _ (by decide) (by decide)) (f3 _ (by decide) (by decide)) (f3 _ (by decide) (by decide)) (f3 _ (by decide) (by decide))
      cases hs : spl (ky s a p) p lo hi with
      | none =>
        refine ⟨zin_0, fun q => absurd rfl q, fun _ => ?_⟩
        have e : v = -1 := by
          rw [hv, cuW]
          have e1 : cuF s a 12 p lo hi = -1 := by rw [cuF, hs]
          simp only
          rw [if_pos e1]
        rw [← e]
        exact hQ J3 hF3
      | some x =>
        obtain ⟨gs, st⟩ := x
        obtain ⟨hcn, hlo, hsth, _⟩ := hsp.2 gs st hs
        obtain ⟨g31, g32⟩ := g3 gs st hs
        have hcl := chn_len hcn
        have hnc := ncu_rng hcn hlo l1
        rw [hlo] at hcl
        have hll : lens ((p, lo, hi, mi, en) :: r) = (hi - lo) + lens r := rfl
        have hml : mus ((p, lo, hi, mi, en) :: r) = (12 - p) * (hi - lo) + mus r := rfl
        have hgr := lens_ge hitr
        refine ⟨zin_1, fun _ => ?_, fun q => absurd (show (1 : Int) = 0 from q) (by decide)⟩
        refine c126 (hi := hi) hL g31 g32 ((k3 11 (by decide)).trans k11) (by omega) (by omega) (by omega) (by omega) (zaI_of ?_)
        refine c128 hL hE3 h hT hS hcn hlo (fun j j0 j1 => by rw [f3 93 (by decide) (by decide)]; exact hrow j j0 j1) ((k3 9 (by decide)).trans k9) ((k3 11 (by decide)).trans k11) (mi := mi) ((k3 12 (by decide)).trans k12) g31 g32 s3 (by omega) (by omega) fun J4 f4 k4 s4 => zaV_of ?_
        have hF4 : Fr 92 100 J J4 := fun b hb => (f4 b (by omega) (by omega)).trans (hF3 b hb)
        obtain ⟨i1, i2, i3⟩ := kdm_ok h hS (s 20 0) (J3 100 0) mi (if 0 < ncu gs st hi then s 22 0 p else 0) gs st 0 hcn (by omega)
        have hmm : (11 - p) * (st - hdo gs st) ≤ (11 - p) * (hi - lo) := Int.mul_le_mul_of_nonneg_left (by omega) (by omega)
        have hm2 : (12 - p) * (hi - lo) = (11 - p) * (hi - lo) + (hi - lo) := by
          have e : 12 - p = (11 - p) + 1 := by omega
          rw [e, Int.add_mul, Int.one_mul]
        refine ih _ (by omega) (i + 1) (c + ncu gs st hi) _ J4 rfl (by omega) (by omega) ?_ ?_ ?_ s4 hF4 ?_ ?_
        · rw [mus_app]
          omega
        · rw [lens_app, i2]
          omega
        · intro w hw
          rcases List.mem_append.mp hw with z | z
          · exact i1 w z
          · exact hitr w z
        · intro w hw k kk0 kk1
          rw [f4 93 (by decide) (by decide), f3 93 (by decide) (by decide), f2 93 (by decide)]
          rcases List.mem_append.mp hw with z | z
          · have hwin := kdm_in (ky s a p) (s 20 0) (J3 100 0) mi (if 0 < ncu gs st hi then s 22 0 p else 0) gs st 0 hcn w z
            exact har _ List.mem_cons_self k (by show lo ≤ k; omega) (by show k < hi; omega)
          · exact har w (List.mem_cons_of_mem _ z) k kk0 kk1
        · rw [hv]
          exact cuW_step h hS hs (s 20 0) (J3 100 0) mi _ r
  · refine ⟨⟨by omega, by omega⟩, ⟨by omega, by omega⟩, fun _ => ?_, fun q => by omega⟩
    have hl : l = [] := by
      cases l with
      | nil => rfl
      | cons w r =>
        rw [List.length_cons] at hg1
        omega
    subst hl
    rw [cuW] at hv
    rw [← hv]
    exact hQ J1 hF1
/-- a row of a list -/
def lat (l : List Int) (i : Int) : Int := l.getD i.toNat 0
theorem lat_ar {f : Int → Int} {l : List Int} (h : Ar f l) {i : Int} (h0 : 0 ≤ i) (h1 : i < l.length) : f i = lat l i := by
  have hi : i.toNat < l.length := by omega
  have e : ((i.toNat : Nat) : Int) = i := by omega
  have := h i.toNat _ (List.getElem?_eq_getElem hi)
  rw [e] at this
  rw [this]
  unfold lat
  rw [List.getD_eq_getElem?_getD, List.getElem?_eq_getElem hi]
  rfl
theorem lat_mem {l : List Int} {i : Int} (h0 : 0 ≤ i) (h1 : i < l.length) : lat l i ∈ l := by
  have hi : i.toNat < l.length := by omega
  unfold lat
  rw [List.getD_eq_getElem?_getD, List.getElem?_eq_getElem hi]
  exact List.getElem_mem hi
theorem seg_root {s : zJ} (h : LW s) {l : List Int} (hl : 0 < l.length) (hl7 : l.length ≤ 7) (hm : ∀ k ∈ l, 0 ≤ k ∧ k < s 18 0 6) : Seg s (lat l) 0 0 l.length := by
  have hn := lw_n h
  refine ⟨⟨by decide, ?_⟩, ⟨by decide, by omega, by omega⟩, fun i i0 i1 => ?_⟩
  · have h1 := hm _ (lat_mem (i := 0) (by decide) (by omega))
    have := lw_k h h1.1 h1.2
    omega
  · have h1 := hm _ (lat_mem i0 i1)
    have hk := lw_k h h1.1 h1.2
    exact ⟨h1.1, h1.2, on_zero h _ (by omega) (by omega)⟩
/-- cuts of a row that stands in the spare one -/
theorem c127 {L : Nat} {xs : Nat → Int32} (hL : L ≤ 3072) {D : Nat} {J : zJ} {K : zK} {Q : zR → Nat → zJ → zK → Prop} {s : zJ} (hE : EqS s J) (h : LW s) (hT : TW s) {l : List Int} (hl7 : l.length ≤ 7) (hm : ∀ k ∈ l, 0 ≤ k ∧ k < s 18 0 6) (har : Ar (J 141 0) l) (hD : 5 ≤ D) (hQ : ∀ J' : zJ, Fr 92 100 J J' → Q (.inl (some (zi (if l.length = 0 then 0 else cuF s (lat l) 12 0 0 l.length)))) 0 J' K) : zCall L xs D 127 [zr 92, zi (l.length : Int), zr 141] J K Q := by
  obtain ⟨D, rfl⟩ : ∃ d, D = d + 1 := ⟨D - 1, by omega⟩
  obtain ⟨D, rfl⟩ : ∃ d, D = d + 1 := ⟨D - 1, by omega⟩
  have hn := lw_n h
  have hF0 : Fr 92 100 J (zup (zcp J 141 93 0 0 (l.length : Int)) 92 0 3 0) := fr_up (fr_cp (fr_rfl _ _ J) (by decide) (by decide) _ _ _) (by decide) (by decide) _ _ _
  have hrow : ∀ k : Int, 0 ≤ k → k < l.length → zup (zcp J 141 93 0 0 (l.length : Int)) 92 0 3 0 93 0 k = lat l k := fun k k0 k1 => by
    rw [zup_ne _ _ _ _ (by decide), zcp_at, if_pos ⟨rfl, rfl, by omega, by omega⟩]
    have e : (0 : Int) + (k - 0) = k := by omega
    rw [e]
    exact lat_ar har k0 k1
  have hs0 : Stk (zup (zcp J 141 93 0 0 (l.length : Int)) 92 0 3 0) [] := ⟨zup_eq _ _ _ _ _, fun j v hv => by simp at hv⟩
  refine z127 hL ?_
  refine z129a hL ⟨by omega, by decide, by decide, by omega, by omega, by omega, ⟨by omega, by omega⟩, fun q => zaV_of ?_, fun q => ?_⟩
  · refine c127w hL h hT (a := lat l) (v := 0) hE (by omega) (fun J' hF => ?_) _ 0 0 [] _ rfl (by decide) (by decide) (by decide) (by decide) (fun v hv => (by cases hv)) hs0 hF0 (fun w hw => (by cases hw)) rfl
    have := hQ J' hF
    rw [if_pos (by omega)] at this
    exact this
  · have hS := seg_root h (l := l) (by omega) hl7 hm
    refine c134 hL ((0, 0, (l.length : Int), 0, -1) : It) hs0 (by decide) (by omega) fun J2 f2 k2 s2 => zaV_of (zaV_of ?_)
    have hcr := cuF_rng h (lat l) 12 _ _ _ hS
    refine c127w hL h hT (a := lat l) (v := cuF s (lat l) 12 0 0 l.length) hE (by omega) (fun J' hF => ?_) _ 0 0 [(0, 0, (l.length : Int), 0, -1)] J2 rfl (by decide) (by decide) ?_ ?_ (fun v hv => ?_) s2 (fun b hb => by rw [f2 b (by omega) (by omega)]; exact hF0 b hb) (fun w hw k k0 k1 => ?_) ?_
    · have := hQ J' hF
      rw [if_neg (by omega)] at this
      exact this
    · show (12 - 0) * ((l.length : Int) - 0) + 0 ≤ 84 - 0
      omega
    · show ((l.length : Int) - 0) + 0 ≤ 7
      omega
    · rw [List.mem_singleton] at hv
      rw [hv]
      exact hS
    · rw [List.mem_singleton] at hw
      rw [hw] at k0 k1
      rw [f2 93 (by decide) (by decide)]
      exact hrow k k0 k1
    · rw [cuW, cuW]
      simp only
      split
      · rename_i e
        exact e
      · omega
/-- a train's row of a day -/
def dli (s : zJ) (t d : Int) : Nat → List Int
  | 0 => []
  | m + 1 => dli s t d m ++ (if bt (s 50 0 (s 43 0 (t * 7 + m))) d then [s 43 0 (t * 7 + m)] else [])
theorem dli_len (s : zJ) (t d : Int) : ∀ m, (dli s t d m).length ≤ m
  | 0 => Nat.le_refl 0
  | m + 1 => by
    have := dli_len s t d m
    rw [dli, List.length_append]
    split
    · simp
      omega
    · simp
      omega
theorem dli_mem {s : zJ} (hP : PW s) {t d : Int} (t0 : 0 ≤ t) (t1 : t < s 40 0 0) : ∀ m : Nat, (m : Int) ≤ s 42 0 t → ∀ k ∈ dli s t d m, 0 ≤ k ∧ k < s 18 0 6
  | 0, _, k, hk => (by cases hk)
  | m + 1, hm, k, hk => by
    rw [dli] at hk
    rcases List.mem_append.mp hk with z | z
    · exact dli_mem hP t0 t1 m (by omega) k z
    · split at z
      · rw [List.mem_singleton] at z
        have := pw_r hP t0 t1 (i := m) (by omega) (by omega)
        rw [z]
        exact ⟨this.1, this.2.1⟩
      · cases z
theorem ar_snoc {f : Int → Int} {l : List Int} {v : Int} (h : Ar f l) (hv : f (l.length : Int) = v) : Ar f (l ++ [v]) := fun j w hw => by
  by_cases hj : j < l.length
  · rw [List.getElem?_append_left hj] at hw
    exact h j w hw
  · have hj2 : j = l.length := by
      have := (List.getElem?_eq_some_iff.mp hw).1
      simp at this
      omega
    subst hj2
    rw [List.getElem?_append_right (by omega), Nat.sub_self] at hw
    rw [hv]
    exact Option.some.inj hw
theorem c84 {L : Nat} {xs : Nat → Int32} (hL : L ≤ 3072) {D : Nat} {J : zJ} {K : zK} {Q : zR → Nat → zJ → zK → Prop} {s : zJ} (hE : EqS s J) (h : LW s) (hP : PW s) {t d : Int} (hD : 1 ≤ D) (t0 : 0 ≤ t) (t1 : t < s 40 0 0) (d0 : 0 ≤ d) (d1 : d < 7) (hQ : ∀ J' : zJ, (∀ b : Nat, b ≠ 141 → J' b = J b) → Ar (J' 141 0) (dli s t d (s 42 0 t).toNat) → Q (.inl (some (zi ((dli s t d (s 42 0 t).toNat).length)))) 0 J' K) : zCall L xs D 84 [zr 40, zi t, zi d, zr 141] J K Q := by
  obtain ⟨D, rfl⟩ : ∃ d, D = d + 1 := ⟨D - 1, by omega⟩
  have hn := lw_n h
  have hpn := pw_n hP
  have ht := pw_t hP t0 t1
  refine z84 hL ?_
  have key : ∀ (n m : Nat) (J1 : zJ), n = (s 42 0 t).toNat - m → m ≤ (s 42 0 t).toNat → (∀ b : Nat, b ≠ 141 → J1 b = J b) → Ar (J1 141 0) (dli s t d m) → zGo L xs (D + 1) 84 6 [some (zr 40), some (zi t), some (zi d), some (zr 141), some (zi ((dli s t d m).length : Int)), some (zi (m : Int)), none] [] J1 K Q := by
    intro n; induction n using Nat.strongRecOn with
    | _ n ih =>
    intro m J1 hm h1 hb har
    have hE1 : EqS s J1 := fun b x y => (hb b (by omega)).trans (hE b x y)
    have hlen := dli_len s t d m
    refine z84_6 hL ?_
    rw [hE1 42 (by decide) (by decide), hE1 43 (by decide) (by decide), hE1 50 (by decide) (by decide)]
    by_cases hc : m < (s 42 0 t).toNat
    · have hr := pw_r hP t0 t1 (i := m) (by omega) (by omega)
      have he := pw_e hP hr.1 (by omega)
      have ej : (m : Int) + 1 = ((m + 1 : Nat) : Int) := by omega
      refine ⟨by omega, by omega, ⟨by omega, by omega⟩, ⟨by omega, by omega⟩, fun _ => by omega, fun _ => ⟨by omega, by omega, by omega, by omega, ⟨by omega, by omega⟩, by omega, by omega, ?_⟩⟩
      rw [bt_shz he.1 (by omega)]
      refine ⟨zin_zb _, fun q => ?_, fun q => ⟨by omega, by omega, ?_⟩⟩
      · have e : dli s t d (m + 1) = dli s t d m := by
          rw [dli, zb_0.mp q]
          simp
        have hi := ih _ (by omega) (m + 1) J1 rfl (by omega) hb (by rw [e]; exact har)
        rw [e] at hi
        rw [ej]
        exact hi
      · have e : dli s t d (m + 1) = dli s t d m ++ [s 43 0 (t * 7 + m)] := by
          rw [dli, zb_1.mp q]
          simp
        have hi := ih _ (by omega) (m + 1) (zup J1 141 0 ((dli s t d m).length : Int) (s 43 0 (t * 7 + m))) rfl (by omega) (fun b x => by rw [zup_ne _ _ _ _ x]; exact hb b x) (by
          rw [e]
          exact ar_snoc (ar_cong har fun j hj => zup_nk _ _ (by omega)) (zup_eq _ _ _ _ _))
        rw [e, List.length_append] at hi
        rw [ej]
        exact hi
    · have e : m = (s 42 0 t).toNat := by omega
      subst e
      exact ⟨by omega, by omega, ⟨by omega, by omega⟩, ⟨by omega, by omega⟩, fun _ => hQ J1 hb har, fun q => by omega⟩
  exact key _ 0 J rfl (by omega) (fun _ _ => rfl) (fun j v hv => by simp [dli] at hv)
theorem op37 {G : zJ → zK → Prop} (hG : GOk G) : ∀ a b : Int, zin a → zin b → OpW (Inv G) 327 5 146 209 zin [zi a, zi b] := by
  intro a b ha hb
  intro L xs D D2 J K hL hD hD2 hI; obtain ⟨⟨hW, hT, hP, hM, hC, hTp, hF, hIm⟩, hg⟩ := id hI; have hE := eqs_rfl J; have hn := lw_n hW; have hpn := pw_n hP
  obtain ⟨D, rfl⟩ : ∃ d, D = d + 1 := ⟨D - 1, by omega⟩
  obtain ⟨D2, rfl⟩ : ∃ d, D2 = d + 1 := ⟨D2 - 1, by omega⟩
  have hC0 := mc_fm hC (fm_t J 0)
  have t0 : zup J 142 0 0 0 142 0 0 = 0 := zup_eq _ _ _ _ _
  have bad : ¬ (0 ≤ a ∧ a < J 40 0 0) → zCall L xs (D2 + 1) 209 [zr 142, zi a, zi b] J K fun r2 e2 J2 K2 => (∃ v2, r2 = .inl (some (zi v2)) ∧ zin v2) ∧ e2 = 0 ∧ J2 142 0 0 = 1 ∧ Inv G J2 K2 := by
    intro hc
    have fin := fin_x hG hI (fc_rfl J) (fm_t2 J 0 1) rfl (zup_eq _ _ _ _ _) 0 zin_0
    refine z209 hL ?_
    refine c252 hL (by omega) hC0.1 (by omega) ha (zaI_of ⟨zin_zb _, fun q => by rw [zb_1, decide_eq_true_iff] at q; omega, fun _ => ?_⟩)
    exact c195T hL (by omega) t0 (by decide) (zaI_of ⟨zin_1, fun _ => fin, fun q => absurd q (by decide)⟩)
  have bad2 : 0 ≤ a → a < J 40 0 0 → ¬ (0 ≤ b ∧ b ≤ 6) → zCall L xs (D2 + 1) 209 [zr 142, zi a, zi b] J K fun r2 e2 J2 K2 => (∃ v2, r2 = .inl (some (zi v2)) ∧ zin v2) ∧ e2 = 0 ∧ J2 142 0 0 = 2 ∧ Inv G J2 K2 := by
    intro h0 h1 hc
    have fin := fin_x hG hI (fc_rfl J) (fm_t2 J 0 2) rfl (zup_eq _ _ _ _ _) 0 zin_0
    refine z209 hL ?_
    refine c252 hL (by omega) hC0.1 (by omega) ha (zaI_of ⟨zin_zb _, fun _ => ?_, fun q => by rw [zb_0, decide_eq_false_iff_not] at q; omega⟩)
    refine c195F hL (by omega) t0 (zaI_of ⟨zin_0, fun q => absurd rfl q, fun _ => ?_⟩)
    refine c240 hL (by omega) hb zin_0 ⟨by omega, by omega⟩ (zaI_of ⟨zin_zb _, fun q => by rw [zb_1, decide_eq_true_iff] at q; omega, fun _ => ?_⟩)
    exact c195T hL (by omega) t0 (by decide) (zaI_of ⟨zin_1, fun q => absurd q (by decide), fun _ => fin⟩)
  refine z146 hL ?_
  refine c169 hL hE (by omega) (by omega) ha (fun h0 h1 => zaV_of ?_) fun hc => zaV_ex (Or.inr ⟨3, 1, rfl, rfl, zonb_ok (by decide +kernel), by decide, by decide, ?_⟩)
  · have ht := pw_t hP h0 h1
    refine ⟨hb, fun _ => ⟨by omega, Or.inr ⟨0, 2, rfl, rfl, zonb_ok (by decide +kernel), by decide, by decide, ?_⟩⟩, fun g0 => ⟨hb, ⟨by omega, by omega⟩, fun g1 => ?_, fun _ => ⟨by omega, Or.inr ⟨0, 2, rfl, rfl, zonb_ok (by decide +kernel), by decide, by decide, ?_⟩⟩⟩⟩
    · exact bad2 h0 h1 (by omega)
    · have hll := dli_len J a b (J 42 0 a).toNat
      have hmm := dli_mem hP (d := b) h0 h1 (J 42 0 a).toNat (by omega)
      refine c84 hL hE hW hP (by omega) h0 h1 g0 g1 fun J1 f1 har1 => zaI_of ?_
      have hE1 : EqS J J1 := fun c x y => f1 c (by omega)
      refine c127 hL hE1 hW hT (by omega) hmm har1 (by omega) fun J2 hF2 => zaI_of (Or.inl ⟨_, rfl, rfl, ?_, fun x => ?_⟩)
      · split
        · exact zin_0
        · have hS := seg_root hW (by omega) (by omega) hmm
          have := cuF_rng hW (lat (dli J a b (J 42 0 a).toNat)) 12 _ _ _ hS
          exact ⟨by omega, by omega⟩
      have fc : FrC J J2 := fun c hc => (hF2 c (by omega)).trans (f1 c (by omega))
      have f2 := fm_t J2 0
      have hM2 := ml_fm (ml_fc hM fc) f2
      have hC2 := mc_fm (mc_fc hC fc) f2
      have t2 : zup J2 142 0 0 0 142 0 0 = 0 := zup_eq _ _ _ _ _
      refine z209 hL ?_
      refine c252 hL (by omega) hC2.1 (by omega) ha (zaI_of ⟨zin_zb _, fun _ => ?_, fun q => by rw [zb_0, decide_eq_false_iff_not] at q; omega⟩)
      refine c195F hL (by omega) t2 (zaI_of ⟨zin_0, fun q => absurd rfl q, fun _ => ?_⟩)
      refine c240 hL (by omega) hb zin_0 ⟨by omega, by omega⟩ (zaI_of ⟨zin_zb _, fun _ => ?_, fun q => by rw [zb_0, decide_eq_false_iff_not] at q; omega⟩)
      refine c195F hL (by omega) t2 (zaI_of ⟨zin_0, fun _ => ?_, fun q => absurd rfl q⟩)
      have key : ∀ (n m : Nat) (J3 : zJ), n = (J 42 0 a).toNat - m → m ≤ (J 42 0 a).toNat → FrM J2 J3 → J3 142 0 0 = 0 → J3 142 0 37 = (dli J a b m).length → Ar (J3 533 0) (dli J a b m) → zGo L xs (D2 + 1) 209 58 [some (zr 142), some (zi a), some (zi b), some (zi (m : Int))] [] J3 (zku K 561 0 x) fun r2 e2 J4 K2 => r2 = .inl (some (zi (if (dli J a b (J 42 0 a).toNat).length = 0 then 0 else cuF J (lat (dli J a b (J 42 0 a).toNat)) 12 0 0 (dli J a b (J 42 0 a).toNat).length))) ∧ e2 = 0 ∧ J4 142 0 0 = 0 ∧ K2 561 0 = x ∧ Inv G J4 K2 := by
        intro n; induction n using Nat.strongRecOn with
        | _ n ih =>
        intro m J3 hm m1 hF3 ht3 hl3 har3
        have hM3 := ml_fm (ml_fc hM fc) hF3
        have hC3 := mc_fm (mc_fc hC fc) hF3
        have hrow := mc_t hC3 h0 h1
        have hlen := dli_len J a b m
        refine z209_58 hL ?_
        rw [hrow.1]
        by_cases hc : m < (J 42 0 a).toNat
        · have hr := pw_r hP h0 h1 (i := m) (by omega) (by omega)
          have he := pw_e hP hr.1 (by omega)
          have ej : (m : Int) + 1 = ((m + 1 : Nat) : Int) := by omega
          rw [hrow.2.2 m (by omega) (by omega), (mc_k hC3 hr.1 hr.2.1).2]
          refine ⟨by omega, by omega, ⟨by omega, by omega⟩, ⟨by omega, by omega⟩, fun _ => by omega, fun _ => ⟨by omega, by omega, by omega, by omega, by omega, by omega, by omega, by omega, ⟨by omega, by omega⟩, by omega, by omega, ?_⟩⟩
          rw [bt_shz he.1 (by omega)]
          refine ⟨zin_zb _, fun q => ⟨by omega, by omega, by omega, by omega, by omega, by omega, by omega, by omega, ?_⟩, fun q => ?_⟩
          · have e : dli J a b (m + 1) = dli J a b m ++ [J 43 0 (a * 7 + m)] := by
              rw [dli, zb_1.mp q]
              simp
            rw [hl3, ej]
            refine ih _ (by omega) (m + 1) _ rfl (by omega) (fm_fd (fm_up hF3 (by decide) (by decide) _ _ _) (by decide) _) ?_ ?_ ?_
            · rw [zup_nk _ _ (by decide), zup_ne _ _ _ _ (by decide)]
              exact ht3
            · rw [zup_eq, e, List.length_append]
              simp
            · rw [e, zup_ne _ _ _ _ (by decide)]
              exact ar_snoc (ar_cong har3 fun j hj => zup_nk _ _ (by omega)) (zup_eq _ _ _ _ _)
          · have e : dli J a b (m + 1) = dli J a b m := by
              rw [dli, zb_0.mp q]
              simp
            rw [ej]
            exact ih _ (by omega) (m + 1) J3 rfl (by omega) hF3 ht3 (by rw [e]; exact hl3) (by rw [e]; exact har3)
        · have e : m = (J 42 0 a).toNat := by omega
          subst e
          have fin := inv_q hG hI fc hF3 (K2 := zku K 561 0 x) (zku_n _ _ (by decide))
          rw [hl3]
          refine ⟨by omega, by omega, ⟨by omega, by omega⟩, ⟨by omega, by omega⟩, fun _ => ⟨⟨by omega, by omega⟩, fun q => ?_, fun q => ?_⟩, fun q => by omega⟩
          · have hS := seg_root hW (l := dli J a b (J 42 0 a).toNat) (by omega) (by omega) hmm
            refine c211 hL hM3 hW 12 D2 0 0 _ _ hS (fun j j0 j1 => lat_ar har3 j0 j1) (by omega) (by omega) (by omega) (zaI_of ?_)
            rw [if_neg (by omega)]
            exact ⟨rfl, rfl, ht3, zku_o K x, fin⟩
          · rw [if_pos (by omega)]
            exact ⟨rfl, rfl, ht3, zku_o K x, fin⟩
      refine key _ 0 _ rfl (by omega) (fm_fd f2 (by decide) 0) ?_ ?_ (fun j v hv => by simp [dli] at hv)
      · rw [zup_nk _ _ (by decide)]
        exact t2
      · rw [zup_eq]
        rfl
    · exact bad2 h0 h1 (by omega)
  · exact bad hc
