/-! WHY: what the walk parts at a place -/
theorem kdm_mem {p hi : Int} (f up en : Int → Int) (mi gap : Int) : ∀ (gs : List Int) (st j : Int), Chn f p hi gs st → ∀ w ∈ kdm f up en mi gap gs st j, ∃ b e : Int, w.1 = f b ∧ w.2.1 = b ∧ w.2.2.1 = e ∧ hdo gs st ≤ b ∧ b < e ∧ e ≤ st ∧ (∀ i, b ≤ i → i < e → f i = f b) ∧ f b ≠ p ∧ (e < hi → f e ≠ f b) ∧ (hdo gs st < b → f (b - 1) ≠ f b)
  | [], _, _, _, w, hw => (by cases hw)
  | b :: r, st, j, hn, w, hw => by
    obtain ⟨g1, g2, g3, g4, g5, g6⟩ := hn
    rw [kdm] at hw
    have hc := chn_len g6
    rcases List.mem_cons.mp hw with e | e
    · refine ⟨b, hdo r st, by rw [e], by rw [e], by rw [e], Int.le_refl b, g1, hc.2.1, g3, g4, g5, fun z => ?_⟩
      have : b < b := z
      omega
    · obtain ⟨b', e', h1, h2, h3, h4, h5, h6, h7, h8, h9, h10⟩ := kdm_mem f up en mi gap r st (j + 1) g6 w e
      refine ⟨b', e', h1, h2, h3, by show b ≤ b'; omega, h5, h6, h7, h8, h9, fun _ => ?_⟩
      by_cases q : hdo r st < b'
      · exact h10 q
      · have e1 : b' = hdo r st := by omega
        rw [e1, g3 (hdo r st - 1) (by omega) (by omega)]
        exact fun z => g5 (by omega) z.symm
theorem kdm_full {p lo hi : Int} {f up en : Int → Int} {mi gap : Int} {gs : List Int} {st j : Int} (hc : Chn f p hi gs st) (hlo : hdo gs st = lo) (hs : ¬ SI f p lo hi) {w : It} (hw : w ∈ kdm f up en mi gap gs st j) {i : Int} (i0 : lo ≤ i) (i1 : i < hi) (hi2 : f i = w.1) : w.2.1 ≤ i ∧ i < w.2.2.1 := by
  obtain ⟨b, e, h1, h2, h3, h4, h5, h6, h7, h8, h9, h10⟩ := kdm_mem f up en mi gap gs st j hc w hw
  have hst := (chn_len hc).2.2
  rw [h2, h3]
  rw [h1] at hi2
  rcases Int.lt_or_le i b with q | q
  · exfalso
    have h11 := h10 (by omega)
    have hne : i ≠ b - 1 := fun z => h11 (by rw [← z]; exact hi2)
    exact hs ⟨i, b, i0, q, by omega, Or.inr ⟨by rw [hi2]; exact h8, hi2.symm, b - 1, by omega, by omega, by rw [hi2]; exact h11⟩⟩
  · refine ⟨q, ?_⟩
    rcases Int.lt_or_le i e with q2 | q2
    · exact q2
    · exfalso
      have h11 := h9 (by omega)
      have hne : i ≠ e := fun z => h11 (by rw [← z]; exact hi2)
      exact hs ⟨b, i, by omega, by omega, i1, Or.inr ⟨h8, hi2, e, by omega, by omega, h11⟩⟩
theorem kdm_cov {p hi : Int} (f up en : Int → Int) (mi gap : Int) : ∀ (gs : List Int) (st j : Int), Chn f p hi gs st → ∀ i, hdo gs st ≤ i → i < st → ∃ w ∈ kdm f up en mi gap gs st j, w.1 = f i ∧ w.2.1 ≤ i ∧ i < w.2.2.1
  | [], st, _, _, i, h0, h1 => by
    have : st ≤ i := h0
    omega
  | b :: r, st, j, hn, i, h0, h1 => by
    obtain ⟨g1, g2, g3, g4, g5, g6⟩ := hn
    have h0' : b ≤ i := h0
    rw [kdm]
    rcases Int.lt_or_le i (hdo r st) with q | q
    · exact ⟨_, List.mem_cons_self, (g3 i h0' q).symm, h0', q⟩
    · obtain ⟨w, hw, h2⟩ := kdm_cov f up en mi gap r st (j + 1) g6 i q h1
      exact ⟨w, List.mem_cons_of_mem _ hw, h2⟩
def Inc (l : List It) : Prop := l.Pairwise fun v w => v.2.2.1 ≤ w.2.1
theorem kdm_inc {p hi : Int} (f up en : Int → Int) (mi gap : Int) : ∀ (gs : List Int) (st j : Int), Chn f p hi gs st → Inc (kdm f up en mi gap gs st j)
  | [], _, _, _ => List.Pairwise.nil
  | b :: r, st, j, hn => by
    obtain ⟨g1, g2, g3, g4, g5, g6⟩ := hn
    rw [kdm]
    refine List.Pairwise.cons (fun w hw => ?_) (kdm_inc f up en mi gap r st (j + 1) g6)
    exact (kdm_in f up en mi gap r st (j + 1) g6 w hw).1
theorem chn_st {f : Int → Int} {p hi : Int} : ∀ {gs : List Int} {st : Int}, Chn f p hi gs st → ∀ j, st ≤ j → j < hi → f j = p
  | [], _, h => h.2
  | _ :: _, _, h => chn_st h.2.2.2.2.2
/-- the first group, and the row's groups behind it -/
theorem inc_step {p lo hi m e : Int} {f up en : Int → Int} {mi gap : Int} {gs : List Int} {st j : Int} {r : List It} (hc : Chn f p hi gs st) (h : Inc ((p, lo, hi, m, e) :: r)) : Inc (kdm f up en mi gap gs st j ++ r) := by
  unfold Inc at h ⊢
  rw [List.pairwise_cons] at h
  rw [List.pairwise_append]
  refine ⟨kdm_inc f up en mi gap gs st j hc, h.2, fun v hv w hw => ?_⟩
  have h1 := (kdm_in f up en mi gap gs st j hc v hv).2
  have h2 : hi ≤ w.2.1 := h.1 w hw
  omega
def Bad (s : zJ) (a : Int → Int) (l : List It) : Prop := ∃ v ∈ l, cuF s a 12 v.1 v.2.1 v.2.2.1 = -1
theorem cuW_bad {s : zJ} (h : LW s) {a : Int → Int} : ∀ (l : List It) (c : Int), Its s a l → 0 ≤ c → (cuW s a l c = -1 ↔ Bad s a l)
  | [], c, _, c0 => by
    rw [cuW]
    constructor
    · intro z
      omega
    · rintro ⟨v, hv, _⟩
      cases hv
  | v :: r, c, hi, c0 => by
    have hr := cuF_rng h a 12 _ _ _ (hi v List.mem_cons_self)
    rw [cuW]
    by_cases q : cuF s a 12 v.1 v.2.1 v.2.2.1 = -1
    · rw [if_pos q]
      exact ⟨fun _ => ⟨v, List.mem_cons_self, q⟩, fun _ => rfl⟩
    · rw [if_neg q, cuW_bad h r _ (fun w hw => hi w (List.mem_cons_of_mem _ hw)) (by omega)]
      constructor
      · rintro ⟨w, hw, h2⟩
        exact ⟨w, List.mem_cons_of_mem _ hw, h2⟩
      · rintro ⟨w, hw, h2⟩
        rcases List.mem_cons.mp hw with e | e
        · rw [e] at h2
          exact absurd h2 q
        · exact ⟨w, e, h2⟩
theorem bad_step {s : zJ} (h : LW s) {a : Int → Int} {p lo hi m e st : Int} {gs : List Int} {r : List It} (hS : Seg s a p lo hi) (hr : Its s a r) (hs : spl (ky s a p) p lo hi = some (gs, st)) (up en : Int → Int) (mi gap : Int) : Bad s a ((p, lo, hi, m, e) :: r) ↔ Bad s a (kdm (ky s a p) up en mi gap gs st 0 ++ r) := by
  obtain ⟨⟨p0, p1⟩, ⟨l0, l1, l2⟩, hrow⟩ := id hS
  obtain ⟨hc, hlo, hst, _⟩ := (spl_ok (f := ky s a p) p0 l1 fun i h0 h1 => (ky_rng h hS h0 h1).1).2 gs st hs
  have hnc := ncu_rng hc hlo l1
  have hk := (kdm_ok h hS up en mi gap gs st 0 hc (by omega)).1
  rw [← cuW_bad h _ 0 (fun v hv => ?_) (Int.le_refl 0), cuW_step h hS hs up en mi gap r, cuW_bad h _ _ (fun v hv => ?_) (by omega)]
  · rcases List.mem_append.mp hv with z | z
    · exact hk v z
    · exact hr v z
  · rcases List.mem_cons.mp hv with z | z
    · rw [z]
      exact hS
    · exact hr v z
/-- where the first of the row that go on from p go -/
def whX (s : zJ) (a : Int → Int) (N p i : Int) : Bool := decide (s 24 0 (a i) ≠ p) && onb s p (s 24 0 (a i))
def whF (s : zJ) (a : Int → Int) (N p : Int) : Int := if fnd (whX s a N p) N.toNat < 0 then -1 else tw s p 12 (s 24 0 (a (fnd (whX s a N p) N.toNat)))
def whI (s : zJ) (a : Int → Int) (N p x i : Int) : Bool := whX s a N p i && decide (tw s p 12 (s 24 0 (a i)) ≠ whF s a N p) && onb s x (s 24 0 (a i))
def whT (s : zJ) (a : Int → Int) (N p : Int) : Int := bs (fun x => decide (0 < cnt (whI s a N p x) N.toNat) && !onb s x p) 12
theorem wh_here {s : zJ} (h : LW s) {a : Int → Int} {N p lo hi st : Int} {gs : List Int} (hS : Seg s a p lo hi) (hN : hi ≤ N) (hH : ∀ i : Int, 0 ≤ i → i < N → on s p (s 24 0 (a i)) → lo ≤ i ∧ i < hi) (hc : Chn (ky s a p) p hi gs st) (hlo : hdo gs st = lo) (hs : ¬ SI (ky s a p) p lo hi) : (gs ≠ [] → pb s a p (hdo (gs.drop 1) st) st = whT s a N p) ∧ (gs = [] → whT s a N p = 0) := by
  obtain ⟨⟨p0, p1⟩, ⟨l0, l1, l2⟩, hrow⟩ := id hS
  have hcl := chn_len hc
  have hst := chn_st hc
  have kk : ∀ i : Int, lo ≤ i → i < hi → ky s a p i ≠ p → s 24 0 (a i) ≠ p ∧ tw s p 12 (s 24 0 (a i)) = ky s a p i := by
    intro i i0 i1 hk
    have hr := ky_rng h hS i0 i1
    have hne : s 24 0 (a i) ≠ p := fun z => hk (hr.2.2.1.mpr z)
    refine ⟨hne, ?_⟩
    unfold ky nx
    rw [if_neg hne]
  constructor
  · intro hg
    unfold pb whT
    refine bs_cong fun x x0 x1 => ?_
    unfold pbb
    congr 1
    have hiff : (0 < cnt (fun i => decide (hdo (gs.drop 1) st ≤ i) && onb s x (s 24 0 (a i))) st.toNat) ↔ (0 < cnt (whI s a N p x) N.toNat) := by
      cases gs with
      | nil => exact absurd rfl hg
      | cons b r =>
        obtain ⟨g1, g2, g3, g4, g5, g6⟩ := hc
        have hb : b = lo := hlo
        subst hb
        have hr6 := chn_len g6
        show (0 < cnt (fun i => decide (hdo r st ≤ i) && onb s x (s 24 0 (a i))) st.toNat) ↔ _
        have hk0 := kk b (Int.le_refl b) (by omega) g4
        have hfX : ∀ i : Int, 0 ≤ i → i < b → whX s a N p i = false := fun i i0 i1 => by
          unfold whX
          have : onb s p (s 24 0 (a i)) = false := onb_f.mpr fun z => by
            have := hH i i0 (by omega) z
            omega
          rw [this, Bool.and_false]
        have hXb : whX s a N p b = true := by
          unfold whX
          rw [decide_eq_true hk0.1, onb_t.mpr (hrow b (Int.le_refl b) (by omega)).2.2]
          rfl
        have hfnd : fnd (whX s a N p) N.toNat = b := fnd_at l0 (by omega) hXb hfX
        have hF : whF s a N p = ky s a p b := by
          unfold whF
          rw [hfnd, if_neg (by omega), hk0.2]
        rw [cnt_pos, cnt_pos]
        constructor
        · rintro ⟨i, i0, i1, hi2⟩
          rw [Bool.and_eq_true, decide_eq_true_iff] at hi2
          have hkp : ky s a p i ≠ p := by
            obtain ⟨w, hw, w1, w2, w3⟩ := kdm_cov (ky s a p) (fun _ => 0) (fun _ => 0) 0 0 r st 0 g6 i hi2.1 (by omega)
            obtain ⟨b', e', h1, h2, h3, h4, h5, h6, h7, h8, h9, h10⟩ := kdm_mem (ky s a p) (fun _ => 0) (fun _ => 0) 0 0 r st 0 g6 w hw
            rw [← w1, h1]
            exact h8
          have hk1 := kk i (by omega) (by omega) hkp
          refine ⟨i, i0, by omega, ?_⟩
          unfold whI whX
          rw [decide_eq_true hk1.1, onb_t.mpr (hrow i (by omega) (by omega)).2.2, hi2.2, hk1.2, hF, decide_eq_true (p := ky s a p i ≠ ky s a p b)]
          · rfl
          · intro z
            have h5 := g5 (by omega)
            have hne : i ≠ hdo r st := fun z2 => h5 (by rw [← z2]; exact z)
            exact hs ⟨b, i, Int.le_refl b, by omega, by omega, Or.inr ⟨g4, z, hdo r st, by omega, by omega, h5⟩⟩
        · rintro ⟨i, i0, i1, hi2⟩
          unfold whI whX at hi2
          rw [Bool.and_eq_true, Bool.and_eq_true, Bool.and_eq_true, decide_eq_true_iff, decide_eq_true_iff, onb_t, hF] at hi2
          have hh := hH i i0 (by omega) hi2.1.1.2
          have hr := ky_rng h hS hh.1 hh.2
          have hkp : ky s a p i ≠ p := fun z => hi2.1.1.1 (hr.2.2.1.mp z)
          have hk1 := kk i hh.1 hh.2 hkp
          have h6 : i < st := by
            rcases Int.lt_or_le i st with z | z
            · exact z
            · exact absurd (hst i z hh.2) hkp
          have h7 : hdo r st ≤ i := by
            rcases Int.lt_or_le i (hdo r st) with z | z
            · exact absurd (by rw [hk1.2]; exact g3 i hh.1 z) hi2.1.2
            · exact z
          exact ⟨i, i0, by omega, by rw [decide_eq_true h7, hi2.2]; rfl⟩
    exact decide_eq_decide.mpr hiff
  · intro hg
    subst hg
    have hb : st = lo := hlo
    symm
    unfold whT
    refine bs_of (by decide) fun k k0 => ?_
    rw [bt_z]
    have : cnt (whI s a N p k) N.toNat = 0 := sm_zero fun i i0 i1 => by
      show zb (whI s a N p k i) = 0
      rw [zb_0]
      unfold whI whX
      by_cases q : on s p (s 24 0 (a i))
      · have hh := hH i i0 (by omega) q
        have hr := ky_rng h hS hh.1 hh.2
        rw [decide_eq_false (p := s 24 0 (a i) ≠ p) (fun z => z (hr.2.2.1.mp (hst i (by omega) hh.2)))]
        rfl
      · rw [onb_f.mpr q, Bool.and_false]
        rfl
    rw [this]
    simp
theorem kid_ab {s : zJ} (h : LW s) {q c p : Int} (q0 : 0 ≤ q) (c1 : c < s 18 0 0) (p0 : 0 ≤ p) (p1 : p < s 18 0 0) (hk : q < c) (hu : s 19 0 c = q) (ho : on s c p) : on s q p := on_trans h q0 (by omega) (kid_on h q0 c1 (kid_t.mpr ⟨hk, hu⟩)) p p0 p1 ho
theorem paW_ok {s : zJ} (h : LW s) {a : Int → Int} {N p : Int} (p0 : 0 ≤ p) (p1 : p < s 18 0 0) (hE : ∀ i : Int, 0 ≤ i → i < N → 0 ≤ a i ∧ a i < s 18 0 6) : ∀ (n : Nat) (l : List It) (c : Int), mus l ≤ n → Its s a l → (∀ w ∈ l, 0 ≤ w.2.1 ∧ w.2.2.1 ≤ N) → Inc l → (∀ w ∈ l, on s w.1 p → ∀ i : Int, 0 ≤ i → i < N → on s p (s 24 0 (a i)) → w.2.1 ≤ i ∧ i < w.2.2.1) → (((∃ i : Int, 0 ≤ i ∧ i < N ∧ on s p (s 24 0 (a i))) ∧ (∃ w ∈ l, on s w.1 p) ∧ c = 0) ∨ (c = whT s a N p ∧ ((∃ i : Int, 0 ≤ i ∧ i < N ∧ on s p (s 24 0 (a i))) → ∀ w ∈ l, ¬ on s w.1 p))) → (Bad s a l → paW s a p n (l.map tri) c = 0) ∧ (¬ Bad s a l → paW s a p n (l.map tri) c = whT s a N p) := by
  have hn := lw_n h
  have nil : ∀ (n : Nat) (c : Int), (((∃ i : Int, 0 ≤ i ∧ i < N ∧ on s p (s 24 0 (a i))) ∧ (∃ w ∈ ([] : List It), on s w.1 p) ∧ c = 0) ∨ (c = whT s a N p ∧ ((∃ i : Int, 0 ≤ i ∧ i < N ∧ on s p (s 24 0 (a i))) → ∀ w ∈ ([] : List It), ¬ on s w.1 p))) → (Bad s a [] → paW s a p n (([] : List It).map tri) c = 0) ∧ (¬ Bad s a [] → paW s a p n (([] : List It).map tri) c = whT s a N p) := by
    intro n c hst
    refine ⟨fun ⟨v, hv, _⟩ => (by cases hv), fun _ => ?_⟩
    have e : paW s a p n [] c = c := by cases n <;> rfl
    rw [List.map_nil, e]
    rcases hst with ⟨_, ⟨w, hw, _⟩, _⟩ | ⟨h1, _⟩
    · cases hw
    · exact h1
  intro n
  induction n with
  | zero =>
    intro l c hmu hit hin hinc hab hst
    have hg1 := lens_ge hit
    have hg2 := mus_ge h hit
    cases l with
    | nil => exact nil 0 c hst
    | cons w r =>
      rw [List.length_cons] at hg1
      omega
  | succ n ih =>
    intro l c hmu hit hin hinc hab hst
    cases l with
    | nil => exact nil _ c hst
    | cons v r =>
      obtain ⟨q, lo, hi, mi, en⟩ := v
      have hS : Seg s a q lo hi := hit _ List.mem_cons_self
      have hitr : Its s a r := fun w hw => hit w (List.mem_cons_of_mem _ hw)
      obtain ⟨⟨q0, q1⟩, ⟨l0, l1, l2⟩, hrow⟩ := id hS
      have hNv : 0 ≤ lo ∧ hi ≤ N := hin _ List.mem_cons_self
      have hsp := spl_ok (f := ky s a q) q0 l1 fun i h0 h1 => (ky_rng h hS h0 h1).1
      rw [List.map_cons]
      cases hs : spl (ky s a q) q lo hi with
      | none =>
        have e1 : cuF s a 12 q lo hi = -1 := by rw [cuF, hs]
        have e2 : paW s a p (n + 1) (tri (q, lo, hi, mi, en) :: r.map tri) c = 0 := by
          rw [paW]
          show (match spl (ky s a q) q lo hi with
            | none => 0
            | some (gs, st) => paW s a p n (kd3 (ky s a q) gs st ++ r.map tri) (if q = p ∧ gs ≠ [] then pb s a q (hdo (gs.drop 1) st) st else c)) = 0
          rw [hs]
        exact ⟨fun _ => e2, fun z => absurd ⟨_, List.mem_cons_self, e1⟩ z⟩
      | some x =>
        obtain ⟨gs, st⟩ := x
        obtain ⟨hc, hlo, hsth, hsi⟩ := hsp.2 gs st hs
        have hcl := chn_len hc
        have e2 : paW s a p (n + 1) (tri (q, lo, hi, mi, en) :: r.map tri) c = paW s a p n ((kdm (ky s a q) (fun _ => 0) (fun _ => 0) 0 0 gs st 0 ++ r).map tri) (if q = p ∧ gs ≠ [] then pb s a q (hdo (gs.drop 1) st) st else c) := by
          rw [paW, List.map_append, kdm_tri]
          show (match spl (ky s a q) q lo hi with
            | none => 0
            | some (gs, st) => paW s a p n (kd3 (ky s a q) gs st ++ r.map tri) (if q = p ∧ gs ≠ [] then pb s a q (hdo (gs.drop 1) st) st else c)) = _
          rw [hs]
        rw [e2, bad_step h hS hitr hs (fun _ => 0) (fun _ => 0) 0 0]
        obtain ⟨i1, i2, i3⟩ := kdm_ok h hS (fun _ => 0) (fun _ => 0) 0 0 gs st 0 hc (by omega)
        have hmm : (11 - q) * (st - hdo gs st) ≤ (11 - q) * (hi - lo) := Int.mul_le_mul_of_nonneg_left (by omega) (by omega)
        have hm2 : (12 - q) * (hi - lo) = (11 - q) * (hi - lo) + (hi - lo) := by
          have e : 12 - q = (11 - q) + 1 := by omega
          rw [e, Int.add_mul, Int.one_mul]
        have hml : mus ((q, lo, hi, mi, en) :: r) = (12 - q) * (hi - lo) + mus r := rfl
        -- the kids lie next behind q
        have kidq : ∀ w ∈ kdm (ky s a q) (fun _ => 0) (fun _ => 0) 0 0 gs st 0, q < w.1 ∧ s 19 0 w.1 = q ∧ w.1 < s 18 0 0 ∧ lo ≤ w.2.1 ∧ w.2.1 < w.2.2.1 ∧ w.2.2.1 ≤ hi := by
          intro w hw
          obtain ⟨b, e, h1, h2, h3, h4, h5, h6, h7, h8, h9, h10⟩ := kdm_mem (ky s a q) (fun _ => 0) (fun _ => 0) 0 0 gs st 0 hc w hw
          have hr := ky_rng h hS (i := b) (by omega) (by omega)
          have h11 := hr.2.2.2.2 h8
          rw [h1, h2, h3]
          exact ⟨h11.1, h11.2, hr.2.1, by omega, h5, by omega⟩
        have kidab : ∀ w ∈ kdm (ky s a q) (fun _ => 0) (fun _ => 0) 0 0 gs st 0, on s w.1 p → on s q p ∧ q ≠ p := by
          intro w hw ho
          have hk := kidq w hw
          have h1 := on_le h (by omega) p p0 p1 ho
          exact ⟨kid_ab h q0 hk.2.2.1 p0 p1 hk.1 hk.2.1 ho, by omega⟩
        -- all that come by p go on towards it
        have key : on s q p → q ≠ p → ∀ i : Int, lo ≤ i → i < hi → on s p (s 24 0 (a i)) → ky s a q i = tw s q 12 p ∧ on s (tw s q 12 p) p := by
          intro ho hne i j0 j1 hp
          have hle := on_le h q0 p p0 p1 ho
          have hk := lw_k h (hrow i j0 j1).1 (hrow i j0 j1).2.1
          have hle2 := on_le h p0 _ (by omega) (by omega) hp
          have ht := tw_ok h q0 12 p (by omega) p1 ho (by omega)
          refine ⟨?_, ht.2.2.2⟩
          unfold ky nx
          rw [if_neg (by omega)]
          exact tw_one h q0 ht.1 ht.2.1 (by omega) (by omega) (on_trans h (by omega) (by omega) ht.2.2.2 _ (by omega) (by omega) hp)
        refine ih _ _ ?_ ?_ ?_ (inc_step hc hinc) ?_ ?_
        · rw [mus_app]
          omega
        · intro w hw
          rcases List.mem_append.mp hw with z | z
          · exact i1 w z
          · exact hitr w z
        · intro w hw
          rcases List.mem_append.mp hw with z | z
          · have := kidq w z
            omega
          · exact hin w (List.mem_cons_of_mem _ z)
        · intro w hw ho i j0 j1 hp
          rcases List.mem_append.mp hw with z | z
          · obtain ⟨ho2, hne⟩ := kidab w z ho
            have hii : lo ≤ i ∧ i < hi := hab _ List.mem_cons_self ho2 i j0 j1 hp
            obtain ⟨k1, k2⟩ := key ho2 hne i hii.1 hii.2 hp
            have hk := kidq w z
            have hle := on_le h (by omega) p p0 p1 ho
            refine kdm_full hc hlo hsi z hii.1 hii.2 ?_
            rw [k1]
            exact tw_one h q0 hk.2.1 hk.1 hle p1 ho
          · exact hab w (List.mem_cons_of_mem _ z) ho i j0 j1 hp
        · rcases hst with ⟨⟨i, j0, j1, hp⟩, ⟨w, hw, ho⟩, hc0⟩ | ⟨hct, hno⟩
          · rcases List.mem_cons.mp hw with z | z
            · rw [z] at ho
              have ho : on s q p := ho
              have hii : lo ≤ i ∧ i < hi := hab _ List.mem_cons_self ho i j0 j1 hp
              -- none of the others comes by p
              have hrn : ∀ w2 ∈ r, ¬ on s w2.1 p := fun w2 hw2 ho2 => by
                have h5 := hab w2 (List.mem_cons_of_mem _ hw2) ho2 i j0 j1 hp
                have h6 := (List.pairwise_cons.mp hinc).1 w2 hw2
                have h7 : hi ≤ w2.2.1 := h6
                omega
              by_cases hqp : q = p
              · subst hqp
                right
                have hw1 := wh_here h hS hNv.2 (fun i j0 j1 hp => hab _ List.mem_cons_self ho i j0 j1 hp) hc hlo hsi
                refine ⟨?_, fun _ w2 hw2 ho2 => ?_⟩
                · by_cases hg : gs = []
                  · rw [if_neg (fun z => z.2 hg), hc0, hw1.2 hg]
                  · rw [if_pos ⟨rfl, hg⟩, hw1.1 hg]
                · rcases List.mem_append.mp hw2 with y | y
                  · exact (kidab w2 y ho2).2 rfl
                  · exact hrn w2 y ho2
              · left
                rw [if_neg (fun z => hqp z.1)]
                refine ⟨⟨i, j0, j1, hp⟩, ?_, hc0⟩
                obtain ⟨k1, k2⟩ := key ho hqp i hii.1 hii.2 hp
                have hr := ky_rng h hS hii.1 hii.2
                have hle := on_le h q0 p p0 p1 ho
                have ht := tw_ok h q0 12 p (by omega) p1 ho (by omega)
                have his : i < st := by
                  rcases Int.lt_or_le i st with y | y
                  · exact y
                  · have := chn_st hc i y hii.2
                    omega
                obtain ⟨w2, hw2, w21, w22, w23⟩ := kdm_cov (ky s a q) (fun _ => 0) (fun _ => 0) 0 0 gs st 0 hc i (by omega) his
                exact ⟨w2, List.mem_append_left _ hw2, by rw [w21, k1]; exact k2⟩
            · -- it is one of the others
              have hii := hab w hw ho i j0 j1 hp
              have hqn : ¬ on s q p := fun ho2 => by
                have h5 : lo ≤ i ∧ i < hi := hab _ List.mem_cons_self ho2 i j0 j1 hp
                have h6 := (List.pairwise_cons.mp hinc).1 w z
                have h7 : hi ≤ w.2.1 := h6
                omega
              left
              rw [if_neg (fun y => hqn (by rw [y.1]; exact on_self s p))]
              exact ⟨⟨i, j0, j1, hp⟩, ⟨w, List.mem_append_right _ z, ho⟩, hc0⟩
          · right
            have hqp : q ≠ p := fun e => by
              subst e
              exact hno ⟨lo, l0, by omega, (hrow lo (Int.le_refl lo) l1).2.2⟩ _ List.mem_cons_self (on_self s q)
            rw [if_neg (fun z => hqp z.1)]
            refine ⟨hct, fun hex w hw ho => ?_⟩
            rcases List.mem_append.mp hw with z | z
            · exact hno hex _ List.mem_cons_self (kidab w z ho).1
            · exact hno hex w (List.mem_cons_of_mem _ z) ho
/-- those of a want that is parted at p -/
def whJ (s : zJ) (a : Int → Int) (N p x i : Int) : Bool := decide (s 24 0 (a i) ≠ p) && (onb s p (s 24 0 (a i)) && (decide (tw s p 12 (s 24 0 (a i)) ≠ whF s a N p) && (decide (x ≠ p) && (onb s p x && onb s x (s 24 0 (a i))))))
theorem wh_want {s : zJ} (h : LW s) {a : Int → Int} {N p x : Int} (p0 : 0 ≤ p) (p1 : p < s 18 0 0) (x0 : 0 ≤ x) (x1 : x < s 18 0 0) (hE : ∀ i : Int, 0 ≤ i → i < N → 0 ≤ a i ∧ a i < s 18 0 6) : bt (whT s a N p) x = decide (0 < cnt (whJ s a N p x) N.toNat) := by
  have hn := lw_n h
  unfold whT
  rw [bt_bs _ _ x x0, decide_eq_true (p := x < ((12 : Nat) : Int)) (by omega), Bool.true_and, Bool.eq_iff_iff, Bool.and_eq_true, decide_eq_true_iff, decide_eq_true_iff, cnt_pos, cnt_pos, Bool.not_eq_true', onb_f]
  have hb : ∀ i : Int, 0 ≤ i → i < N → on s p (s 24 0 (a i)) → on s x (s 24 0 (a i)) → (¬ on s x p ↔ x ≠ p ∧ on s p x) := by
    intro i i0 i1 h1 h2
    have hk := lw_k h (hE i i0 i1).1 (hE i i0 i1).2
    constructor
    · intro hx
      have hne : x ≠ p := fun e => hx (by rw [e]; exact on_self s p)
      refine ⟨hne, ?_⟩
      rcases Int.lt_or_le p x with z | z
      · exact on_chain h p0 (by omega) _ (by omega) (by omega) h1 h2
      · exact absurd (on_chain h x0 z _ (by omega) (by omega) h2 h1) hx
    · rintro ⟨h3, h4⟩ h5
      have := on_le h p0 x x0 x1 h4
      have := on_le h x0 p p0 p1 h5
      omega
  constructor
  · rintro ⟨⟨i, i0, i1, hi⟩, hx⟩
    unfold whI whX at hi
    rw [Bool.and_eq_true, Bool.and_eq_true, Bool.and_eq_true, decide_eq_true_iff, decide_eq_true_iff, onb_t, onb_t] at hi
    have h4 := (hb i i0 (by omega) hi.1.1.2 hi.2).mp hx
    refine ⟨i, i0, i1, ?_⟩
    unfold whJ
    rw [decide_eq_true hi.1.1.1, onb_t.mpr hi.1.1.2, decide_eq_true hi.1.2, decide_eq_true h4.1, onb_t.mpr h4.2, onb_t.mpr hi.2]
    rfl
  · rintro ⟨i, i0, i1, hi⟩
    unfold whJ at hi
    rw [Bool.and_eq_true, Bool.and_eq_true, Bool.and_eq_true, Bool.and_eq_true, Bool.and_eq_true, decide_eq_true_iff, decide_eq_true_iff, decide_eq_true_iff, onb_t, onb_t, onb_t] at hi
    refine ⟨⟨i, i0, i1, ?_⟩, (hb i i0 (by omega) hi.2.1 hi.2.2.2.2.2).mpr ⟨hi.2.2.2.1, hi.2.2.2.2.1⟩⟩
    unfold whI whX
    rw [decide_eq_true hi.1, onb_t.mpr hi.2.1, decide_eq_true hi.2.2.1, onb_t.mpr hi.2.2.2.2.2]
    rfl
theorem seg_tr {s : zJ} (h : LW s) (hP : PW s) {t : Int} (t0 : 0 ≤ t) (t1 : t < s 40 0 0) (hl : 0 < s 42 0 t) : Seg s (fun i => s 43 0 (t * 7 + i)) 0 0 (s 42 0 t) := by
  have hn := lw_n h
  have ht := pw_t hP t0 t1
  refine ⟨⟨by decide, pw_l hP (by omega)⟩, ⟨by decide, hl, by omega⟩, fun i i0 i1 => ?_⟩
  have hr := pw_r hP t0 t1 i0 i1
  have hk := lw_k h hr.1 hr.2.1
  have ho : on s 0 (s 24 0 (s 43 0 (t * 7 + i))) := on_zero h _ (by omega) (by omega)
  exact ⟨hr.1, hr.2.1, ho⟩
/-- the answer -/
def whA (s : zJ) (t p : Int) : Int := if s 42 0 t = 0 ∨ cuF s (fun i => s 43 0 (t * 7 + i)) 12 0 0 (s 42 0 t) = -1 then 0 else sm (fun w => if 0 < cnt (whJ s (fun i => s 43 0 (t * 7 + i)) (s 42 0 t) p (s 30 0 w)) (s 42 0 t).toNat then s 31 0 w else 0) (s 18 0 14).toNat
theorem ppl_0 (s : zJ) : ppl s 0 = 0 := sm_zero fun w _ _ => by
  show (if bt 0 (s 30 0 w) then s 31 0 w else 0) = 0
  rw [bt_z]
  rfl
theorem whA_rng {s : zJ} (h : LW s) (t p : Int) : 0 ≤ whA s t p ∧ whA s t p ≤ 11988 := by
  have hn := lw_n h
  unfold whA
  split
  · omega
  · have := sm_nn (f := fun w => if 0 < cnt (whJ s (fun i => s 43 0 (t * 7 + i)) (s 42 0 t) p (s 30 0 w)) (s 42 0 t).toNat then s 31 0 w else 0) (c := 999) (n := (s 18 0 14).toNat) fun w w0 w1 => by
      have hw := lw_w h w0 (by omega)
      split <;> omega
    omega
theorem c187 {L : Nat} {xs : Nat → Int32} (hL : L ≤ 3072) {D : Nat} {J : zJ} {K : zK} {Q : zR → Nat → zJ → zK → Prop} {s : zJ} (hE : EqS s J) (h : LW s) (hT : TW s) (hP : PW s) {t p : Int} (t0 : 0 ≤ t) (t1 : t < s 40 0 0) (p0 : 0 ≤ p) (p1 : p < s 18 0 0) (hD : 8 ≤ D) (hQ : ∀ J' : zJ, Fr 92 100 J J' → Q (.inl (some (zi (whA s t p)))) 0 J' K) : zCall L xs D 129 [zr 92, zr 43, zi (t * 7), zi (s 42 0 t), zi 0] J K fun r3 e3 J3 K3 => zaV r3 e3 (zCall L xs D 132 [zr 92, zi p] J3 K3 fun r4 e4 J4 K4 => zaI r4 e4 (fun x4_ => zCall L xs D 63 [zr 18, zi x4_] J4 K4 fun r5 e5 J5 K5 => zaI r5 e5 (fun x5_ => Q (.inl (some (zi x5_))) 0 J5 K5) (fun E => Q (.inr E) e5 J5 K5)) (fun E => Q (.inr E) e4 J4 K4)) (fun E => Q (.inr E) e3 J3 K3) := by
  obtain ⟨D, rfl⟩ : ∃ d, D = d + 1 := ⟨D - 1, by omega⟩
  obtain ⟨D, rfl⟩ : ∃ d, D = d + 1 := ⟨D - 1, by omega⟩
  have hn := lw_n h
  have ht := pw_t hP t0 t1
  have hpn := pw_n hP
  have e12 : (2 : Int) ^ 12 = 4096 := by decide
  have zp : zin p := ⟨by omega, by omega⟩
  have hF0 : Fr 92 100 J (zup (zcp J 43 93 (t * 7) 0 (s 42 0 t)) 92 0 3 0) := fr_up (fr_cp (fr_rfl _ _ J) (by decide) (by decide) _ _ _) (by decide) (by decide) _ _ _
  have hrow : ∀ k : Int, 0 ≤ k → k < s 42 0 t → zup (zcp J 43 93 (t * 7) 0 (s 42 0 t)) 92 0 3 0 93 0 k = s 43 0 (t * 7 + k) := fun k k0 k1 => by
    rw [zup_ne _ _ _ _ (by decide), zcp_at, if_pos ⟨rfl, rfl, by omega, by omega⟩, hE 43 (by decide) (by decide)]
    have e : k - 0 = k := by omega
    rw [e]
  have hs0 : Stk (zup (zcp J 43 93 (t * 7) 0 (s 42 0 t)) 92 0 3 0) [] := ⟨zup_eq _ _ _ _ _, fun j v hv => by simp at hv⟩
  -- what is left behind the walk
  have rest : ∀ (x : Int) (J4 : zJ), 0 ≤ x → x < 4096 → Fr 92 100 J J4 → ppl s x = whA s t p → zCall L xs (D + 1 + 1) 63 [zr 18, zi x] J4 K fun r5 e5 J5 K5 => zaI r5 e5 (fun x5_ => Q (.inl (some (zi x5_))) 0 J5 K5) (fun E => Q (.inr E) e5 J5 K5) := by
    intro x J4 x0 x1 hF hx
    refine c63 hL (eqs_fr hE hF (by decide)) h (by omega) ⟨x0, by omega⟩ (zaI_of ?_)
    rw [hx]
    exact hQ J4 hF
  refine z129 hL ⟨by omega, by omega, by decide, by omega, by omega, by omega, ⟨by omega, by omega⟩, fun q => zaV_of ?_, fun q => ?_⟩
  · refine z132 hL ?_
    refine c132w hL h hT (a := fun i => s 43 0 (t * 7 + i)) (v := 0) hE zp (by omega) (fun J' hF => zaI_of (rest 0 J' (by decide) (by decide) hF ?_)) _ 0 0 [] _ rfl (by decide) (by decide) (by decide) (fun v hv => (by cases hv)) hs0 hF0 (fun w hw => (by cases hw)) rfl
    unfold whA
    rw [ppl_0, if_pos (Or.inl (by omega))]
  · have hS := seg_tr h hP t0 t1 q
    have hE2 : ∀ i : Int, 0 ≤ i → i < s 42 0 t → 0 ≤ s 43 0 (t * 7 + i) ∧ s 43 0 (t * 7 + i) < s 18 0 6 := fun i i0 i1 => ⟨(pw_r hP t0 t1 i0 i1).1, (pw_r hP t0 t1 i0 i1).2.1⟩
    have hon0 : on s 0 p := on_zero h p p0 p1
    refine c134 hL ((0, 0, s 42 0 t, 0, -1) : It) hs0 (by decide) (by omega) fun J2 f2 k2 s2 => zaV_of (zaV_of ?_)
    have hpa := paW_ok h (a := fun i => s 43 0 (t * 7 + i)) (N := s 42 0 t) p0 p1 hE2 84 [(0, 0, s 42 0 t, 0, -1)] 0 (by show (12 - 0) * (s 42 0 t - 0) + 0 ≤ 84; omega) (fun v hv => by
      rw [List.mem_singleton] at hv
      rw [hv]
      exact hS) (fun w hw => by
      rw [List.mem_singleton] at hw
      rw [hw]
      exact ⟨Int.le_refl 0, Int.le_refl _⟩) (List.pairwise_singleton _ _) (fun w hw _ i i0 i1 _ => by
      rw [List.mem_singleton] at hw
      rw [hw]
      exact ⟨i0, i1⟩) (by
      by_cases hex : ∃ i : Int, 0 ≤ i ∧ i < s 42 0 t ∧ on s p (s 24 0 (s 43 0 (t * 7 + i)))
      · exact Or.inl ⟨hex, ⟨_, List.mem_singleton_self _, hon0⟩, rfl⟩
      · refine Or.inr ⟨?_, fun z => absurd z hex⟩
        unfold whT
        refine bs_of (by decide) fun k k0 => ?_
        rw [bt_z]
        have : cnt (whI s (fun i => s 43 0 (t * 7 + i)) (s 42 0 t) p k) (s 42 0 t).toNat = 0 := sm_zero fun i i0 i1 => by
          show zb (whI s (fun i => s 43 0 (t * 7 + i)) (s 42 0 t) p k i) = 0
          rw [zb_0]
          unfold whI whX
          have : onb s p (s 24 0 (s 43 0 (t * 7 + i))) = false := onb_f.mpr fun z => hex ⟨i, i0, by omega, z⟩
          rw [this, Bool.and_false]
          rfl
        rw [this]
        simp)
    have hbad : Bad s (fun i => s 43 0 (t * 7 + i)) [(0, 0, s 42 0 t, 0, -1)] ↔ cuF s (fun i => s 43 0 (t * 7 + i)) 12 0 0 (s 42 0 t) = -1 := by
      constructor
      · rintro ⟨v, hv, h2⟩
        rw [List.mem_singleton] at hv
        rw [hv] at h2
        exact h2
      · intro z
        exact ⟨_, List.mem_singleton_self _, z⟩
    have hwb := bs_lt (fun x => decide (0 < cnt (whI s (fun i => s 43 0 (t * 7 + i)) (s 42 0 t) p x) (s 42 0 t).toNat) && !onb s x p) 12
    have hwT : 0 ≤ whT s (fun i => s 43 0 (t * 7 + i)) (s 42 0 t) p ∧ whT s (fun i => s 43 0 (t * 7 + i)) (s 42 0 t) p < 4096 := ⟨hwb.1, by unfold whT; omega⟩
    have hval : (0 ≤ paW s (fun i => s 43 0 (t * 7 + i)) p 84 ([(0, 0, s 42 0 t, 0, -1)].map tri) 0 ∧ paW s (fun i => s 43 0 (t * 7 + i)) p 84 ([(0, 0, s 42 0 t, 0, -1)].map tri) 0 < 4096) ∧ ppl s (paW s (fun i => s 43 0 (t * 7 + i)) p 84 ([(0, 0, s 42 0 t, 0, -1)].map tri) 0) = whA s t p := by
      by_cases hb : cuF s (fun i => s 43 0 (t * 7 + i)) 12 0 0 (s 42 0 t) = -1
      · rw [hpa.1 (hbad.mpr hb), ppl_0]
        unfold whA
        rw [if_pos (Or.inr hb)]
        exact ⟨⟨by decide, by decide⟩, rfl⟩
      · rw [hpa.2 (fun z => hb (hbad.mp z))]
        unfold whA
        rw [if_neg (fun z => z.elim (by omega) hb)]
        refine ⟨hwT, ?_⟩
        unfold ppl
        refine sm_cong fun w w0 w1 => ?_
        have hw := lw_w h w0 (by omega)
        rw [wh_want h p0 p1 (by omega) hw.2.1 hE2]
        by_cases z : 0 < cnt (whJ s (fun i => s 43 0 (t * 7 + i)) (s 42 0 t) p (s 30 0 w)) (s 42 0 t).toNat
        · rw [if_pos z, decide_eq_true z, if_pos rfl]
        · rw [if_neg z, decide_eq_false z, if_neg (by decide)]
    refine z132 hL ?_
    refine c132w hL h hT (a := fun i => s 43 0 (t * 7 + i)) (v := paW s (fun i => s 43 0 (t * 7 + i)) p 84 ([(0, 0, s 42 0 t, 0, -1)].map tri) 0) hE zp (by omega) (fun J' hF => zaI_of (rest _ J' hval.1.1 hval.1.2 hF hval.2)) _ 0 0 [(0, 0, s 42 0 t, 0, -1)] J2 rfl (by decide) (by decide) ?_ (fun v hv => ?_) s2 (fun b hb => by rw [f2 b (by omega) (by omega)]; exact hF0 b hb) (fun w hw k k0 k1 => ?_) rfl
    · show (s 42 0 t - 0) + 0 ≤ 7
      omega
    · rw [List.mem_singleton] at hv
      rw [hv]
      exact hS
    · rw [List.mem_singleton] at hw
      rw [hw] at k0 k1
      rw [f2 93 (by decide) (by decide)]
      exact hrow k k0 k1
/-- the model's -/
theorem c305w {L : Nat} {xs : Nat → Int32} (hL : L ≤ 3072) {D : Nat} {J : zJ} {K : zK} {Q : zR → Nat → zJ → zK → Prop} {s : zJ} (hM : ML s J) (h : LW s) (hP : PW s) (hC : MC s J) {t p : Int} (t0 : 0 ≤ t) (t1 : t < s 40 0 0) (p0 : 0 ≤ p) (p1 : p < s 18 0 0) (hl : s 42 0 t ≠ 0) (hcu : cuF s (fun i => s 43 0 (t * 7 + i)) 12 0 0 (s 42 0 t) ≠ -1) (hD : 4 ≤ D) (hQ : Q (.inl (some (zi (whA s t p)))) 0 J K) : zGo L xs D 305 88 [some (zr 142), some (zi t), some (zi p), some (zi (s 42 0 t)), some (zi (-1)), some (zi 0), some (zi 0), none, none, none, none] [] J K Q := by
  obtain ⟨D, rfl⟩ : ∃ d, D = d + 1 := ⟨D - 1, by omega⟩
  have hn := lw_n h
  have ht := pw_t hP t0 t1
  have hpn := pw_n hP
  have hmt := mc_t hC t0 t1
  obtain ⟨-, -, -, hm3⟩ := ml_n hM
  unfold whA at hQ
  rw [if_neg (fun z => z.elim hl hcu)] at hQ
  have row : ∀ k : Int, 0 ≤ k → k < s 42 0 t → (J 229 t k = s 43 0 (t * 7 + k) ∧ 0 ≤ s 43 0 (t * 7 + k) ∧ s 43 0 (t * 7 + k) < s 18 0 6 ∧ J 170 (s 43 0 (t * 7 + k)) 0 = s 24 0 (s 43 0 (t * 7 + k)) ∧ 1 ≤ s 24 0 (s 43 0 (t * 7 + k)) ∧ s 24 0 (s 43 0 (t * 7 + k)) < s 18 0 0) := by
    intro k k0 k1
    have hr := pw_r hP t0 t1 k0 k1
    have hk := lw_k h hr.1 hr.2.1
    exact ⟨hmt.2.2 k k0 k1, hr.1, hr.2.1, (ml_k hM hr.1 hr.2.1).1, hk.1, hk.2.1⟩
  have zF : zin (whF s (fun i => s 43 0 (t * 7 + i)) (s 42 0 t) p) := by
    unfold whF
    rcases fnd_is (whX s (fun i => s 43 0 (t * 7 + i)) (s 42 0 t) p) (s 42 0 t).toNat with ⟨z, _⟩ | ⟨z, z1, z2, _⟩
    · rw [z, if_pos (by decide)]
      exact ⟨by decide, by decide⟩
    · rw [if_neg (by omega)]
      generalize fnd (whX s (fun i => s 43 0 (t * 7 + i)) (s 42 0 t) p) (s 42 0 t).toNat = j at z z1 z2 ⊢
      have hr := row j z (by omega)
      have z3 : (decide (s 24 0 (s 43 0 (t * 7 + j)) ≠ p) && onb s p (s 24 0 (s 43 0 (t * 7 + j)))) = true := z2
      rw [Bool.and_eq_true, decide_eq_true_iff, onb_t] at z3
      have hle := on_le h p0 _ (by omega) (by omega) z3.2
      have := tw_ok h p0 12 _ (by omega) (by omega) z3.2 (by omega)
      show zin (tw s p 12 (s 24 0 (s 43 0 (t * 7 + j))))
      exact ⟨by omega, by omega⟩
  -- the wants
  have wants : ∀ (n : Nat) (w : Int), n = (s 18 0 14 - w).toNat → 0 ≤ w → w ≤ s 18 0 14 → zGo L xs (D + 1) 305 152 [some (zr 142), some (zi t), some (zi p), some (zi (s 42 0 t)), some (zi (whF s (fun i => s 43 0 (t * 7 + i)) (s 42 0 t) p)), some (zi (sm (fun w => if 0 < cnt (whJ s (fun i => s 43 0 (t * 7 + i)) (s 42 0 t) p (s 30 0 w)) (s 42 0 t).toNat then s 31 0 w else 0) w.toNat)), some (zi w), none, none, none, none] [] J K Q := by
    intro n; induction n using Nat.strongRecOn with
  | _ n ih =>
    intro w hm w0 w1
    refine z305_152 hL ?_
    rw [hm3]
    by_cases hc : w < s 18 0 14
    · have hw := lw_w h w0 hc
      have hmw := ml_w hM w0 hc
      have hi := ih _ (by omega) (w + 1) rfl (by omega) (by omega)
      rw [sm_next w0] at hi
      refine ⟨by decide, by decide, ⟨by omega, by omega⟩, ⟨by omega, by omega⟩, fun _ => by omega, fun _ => ?_⟩
      have inner : ∀ (m : Nat) (k : Int), m = (s 42 0 t - k).toNat → 0 ≤ k → k ≤ s 42 0 t → zGo L xs (D + 1) 305 169 [some (zr 142), some (zi t), some (zi p), some (zi (s 42 0 t)), some (zi (whF s (fun i => s 43 0 (t * 7 + i)) (s 42 0 t) p)), some (zi (sm (fun w => if 0 < cnt (whJ s (fun i => s 43 0 (t * 7 + i)) (s 42 0 t) p (s 30 0 w)) (s 42 0 t).toNat then s 31 0 w else 0) w.toNat)), some (zi w), some (zi (zb (decide (0 < cnt (whJ s (fun i => s 43 0 (t * 7 + i)) (s 42 0 t) p (s 30 0 w)) k.toNat)))), some (zi k), none, none] [] J K Q := by
        intro m; induction m using Nat.strongRecOn with
        | _ m ihm =>
        intro k hmk k0 k1
        refine z305_169 hL ?_
        by_cases hck : k < s 42 0 t
        · obtain ⟨r1, r2, r3, r4, r5, r6⟩ := row k k0 hck
          have hj := ihm _ (by omega) (k + 1) rfl (by omega) (by omega)
          rw [cnt_next k0] at hj
          have hcr := cnt_rng (whJ s (fun i => s 43 0 (t * 7 + i)) (s 42 0 t) p (s 30 0 w)) k.toNat
          rw [r1, r4, hmw.1]
          -- the two ways on
          have yes : (0 < cnt (whJ s (fun i => s 43 0 (t * 7 + i)) (s 42 0 t) p (s 30 0 w)) k.toNat ∨ whJ s (fun i => s 43 0 (t * 7 + i)) (s 42 0 t) p (s 30 0 w) k = true) → zGo L xs (D + 1) 305 264 [some (zr 142), some (zi t), some (zi p), some (zi (s 42 0 t)), some (zi (whF s (fun i => s 43 0 (t * 7 + i)) (s 42 0 t) p)), some (zi (sm (fun w => if 0 < cnt (whJ s (fun i => s 43 0 (t * 7 + i)) (s 42 0 t) p (s 30 0 w)) (s 42 0 t).toNat then s 31 0 w else 0) w.toNat)), some (zi w), none, some (zi k), none, none] [] J K Q := by
            intro hy
            rw [decide_eq_true (p := 0 < cnt (whJ s (fun i => s 43 0 (t * 7 + i)) (s 42 0 t) p (s 30 0 w)) k.toNat + zb (whJ s (fun i => s 43 0 (t * 7 + i)) (s 42 0 t) p (s 30 0 w) k)) (by
              rcases hy with z | z
              · have := zb_01 (whJ s (fun i => s 43 0 (t * 7 + i)) (s 42 0 t) p (s 30 0 w) k)
                omega
              · rw [z, zb_t]
                omega)] at hj
            exact z305_264 hL (z305_269 hL hj)
          have no : ¬ 0 < cnt (whJ s (fun i => s 43 0 (t * 7 + i)) (s 42 0 t) p (s 30 0 w)) k.toNat → whJ s (fun i => s 43 0 (t * 7 + i)) (s 42 0 t) p (s 30 0 w) k = false → zGo L xs (D + 1) 305 268 [some (zr 142), some (zi t), some (zi p), some (zi (s 42 0 t)), some (zi (whF s (fun i => s 43 0 (t * 7 + i)) (s 42 0 t) p)), some (zi (sm (fun w => if 0 < cnt (whJ s (fun i => s 43 0 (t * 7 + i)) (s 42 0 t) p (s 30 0 w)) (s 42 0 t).toNat then s 31 0 w else 0) w.toNat)), some (zi w), none, some (zi k), none, none] [] J K Q := by
            intro h1 h2
            rw [h2, zb_f, Int.add_zero, decide_eq_false h1] at hj
            exact z305_268 hL (z305_269 hL hj)
          refine ⟨⟨by omega, by omega⟩, ⟨by omega, by omega⟩, fun _ => by omega, fun _ => ⟨by omega, by omega, by omega, by omega, by omega, by omega, by omega, by omega, by omega, by omega, by decide, by decide, by omega, by omega, by omega, by omega, by decide, by decide, zin_zb _, fun q => yes (Or.inl (of_decide_eq_true (zb_1.mp q))), fun q => ?_⟩⟩
          have q := of_decide_eq_false (zb_0.mp q)
          have wJ : ∀ b : Bool, whJ s (fun i => s 43 0 (t * 7 + i)) (s 42 0 t) p (s 30 0 w) k = b ↔ (decide (s 24 0 (s 43 0 (t * 7 + k)) ≠ p) && (onb s p (s 24 0 (s 43 0 (t * 7 + k))) && (decide (tw s p 12 (s 24 0 (s 43 0 (t * 7 + k))) ≠ whF s (fun i => s 43 0 (t * 7 + i)) (s 42 0 t) p) && (decide (s 30 0 w ≠ p) && (onb s p (s 30 0 w) && onb s (s 30 0 w) (s 24 0 (s 43 0 (t * 7 + k)))))))) = b := fun b => Iff.rfl
          refine ⟨⟨by omega, by omega⟩, ⟨by omega, by omega⟩, fun q1 => no q ((wJ false).mpr ?_), fun q1 => ?_⟩
          · rw [decide_eq_false (fun z => z q1)]
            rfl
          refine c247 hL hM h (by omega) p0 p1 (by omega) (by omega) (zaI_of ⟨zin_zb _, fun q2 => no q ((wJ false).mpr ?_), fun q2 => ?_⟩)
          · rw [zb_0.mp q2, Bool.false_and, Bool.and_false]
          have q2 := zb_1.mp q2
          have hle := on_le h p0 _ (by omega) (by omega) (onb_t.mp q2)
          have htw := tw_ok h p0 12 _ (by omega) (by omega) (onb_t.mp q2) (by omega)
          refine c300 hL hM h (by omega) p0 (by omega) (by omega) (onb_t.mp q2) (zaI_of ⟨⟨by omega, by omega⟩, zF, fun q3 => no q ((wJ false).mpr ?_), fun q3 => ⟨⟨by omega, by omega⟩, ⟨by omega, by omega⟩, fun q4 => no q ((wJ false).mpr ?_), fun q4 => ?_⟩⟩)
          · rw [decide_eq_false (p := tw s p 12 (s 24 0 (s 43 0 (t * 7 + k))) ≠ _) (fun z => z q3), Bool.false_and, Bool.and_false, Bool.and_false]
          · rw [decide_eq_false (p := s 30 0 w ≠ p) (fun z => z q4), Bool.false_and, Bool.and_false, Bool.and_false, Bool.and_false]
          refine c247 hL hM h (by omega) p0 p1 (by omega) (by omega) (zaI_of ⟨zin_zb _, fun q5 => no q ((wJ false).mpr ?_), fun q5 => ?_⟩)
          · rw [zb_0.mp q5, Bool.false_and, Bool.and_false, Bool.and_false, Bool.and_false, Bool.and_false]
          refine c247 hL hM h (by omega) (by omega) (by omega) (by omega) (by omega) (zaI_of ⟨zin_zb _, fun q6 => no q ((wJ false).mpr ?_), fun q6 => yes (Or.inr ((wJ true).mpr ?_))⟩)
          · rw [zb_0.mp q6, Bool.and_false, Bool.and_false, Bool.and_false, Bool.and_false, Bool.and_false]
          · rw [decide_eq_true q1, q2, decide_eq_true q3, decide_eq_true q4, zb_1.mp q5, zb_1.mp q6]
            rfl
        · have e : k = s 42 0 t := by omega
          subst e
          rw [hmw.2.1]
          refine ⟨⟨by omega, by omega⟩, ⟨by omega, by omega⟩, fun _ => ⟨zin_zb _, fun q => ?_, fun q => ⟨by omega, by omega, by omega, by omega, by decide, by decide, ?_⟩⟩, fun z => by omega⟩
          · rw [if_neg (of_decide_eq_false (zb_0.mp q))] at hi
            exact z305_297 hL hi
          · rw [if_pos (of_decide_eq_true (zb_1.mp q))] at hi
            exact z305_297 hL hi
      have h0 := inner _ 0 rfl (by decide) (by omega)
      exact h0
    · have e : w = s 18 0 14 := by omega
      subst e
      exact ⟨by decide, by decide, ⟨by omega, by omega⟩, ⟨by omega, by omega⟩, fun _ => hQ, fun z => by omega⟩
  have hw0 := wants _ 0 rfl (by decide) (by omega)
  -- the first that goes on
  have first : ∀ (n : Nat) (k : Int), n = (s 42 0 t - k).toNat → 0 ≤ k → k ≤ s 42 0 t → (∀ i : Int, 0 ≤ i → i < k → whX s (fun i => s 43 0 (t * 7 + i)) (s 42 0 t) p i = false) → zGo L xs (D + 1) 305 88 [some (zr 142), some (zi t), some (zi p), some (zi (s 42 0 t)), some (zi (-1)), some (zi 0), some (zi k), none, none, none, none] [] J K Q := by
    intro n; induction n using Nat.strongRecOn with
  | _ n ih =>
    intro k hm k0 k1 hf
    refine z305_88 hL ?_
    by_cases hc : k < s 42 0 t
    · obtain ⟨r1, r2, r3, r4, r5, r6⟩ := row k k0 hc
      rw [r1, r4]
      have no : whX s (fun i => s 43 0 (t * 7 + i)) (s 42 0 t) p k = false → zGo L xs (D + 1) 305 143 [some (zr 142), some (zi t), some (zi p), some (zi (s 42 0 t)), some (zi (-1)), some (zi 0), some (zi k), none, none, none, none] [] J K Q := by
        intro hx
        refine z305_143 hL (ih _ (by omega) (k + 1) rfl (by omega) (by omega) fun i i0 i1 => ?_)
        by_cases e : i = k
        · rw [e]
          exact hx
        · exact hf i i0 (by omega)
      refine ⟨⟨by omega, by omega⟩, ⟨by omega, by omega⟩, fun _ => by omega, fun _ => ⟨⟨by decide, by decide⟩, ⟨by decide, by decide⟩, fun z => absurd rfl z, fun _ => ⟨by omega, by omega, by omega, by omega, by omega, by omega, by omega, by omega, by omega, by omega, by decide, by decide, ⟨by omega, by omega⟩, ⟨by omega, by omega⟩, fun q1 => no ?_, fun q1 => ?_⟩⟩⟩
      · unfold whX
        rw [decide_eq_false (fun z => z q1)]
        rfl
      refine c247 hL hM h (by omega) p0 p1 (by omega) (by omega) (zaI_of ⟨zin_zb _, fun q2 => no ?_, fun q2 => ?_⟩)
      · unfold whX
        rw [zb_0.mp q2, Bool.and_false]
      have q2 := zb_1.mp q2
      have hle := on_le h p0 _ (by omega) (by omega) (onb_t.mp q2)
      have htw := tw_ok h p0 12 _ (by omega) (by omega) (onb_t.mp q2) (by omega)
      refine c300 hL hM h (by omega) p0 (by omega) (by omega) (onb_t.mp q2) (zaI_of (z305_143 hL ?_))
      have hX : whX s (fun i => s 43 0 (t * 7 + i)) (s 42 0 t) p k = true := by
        unfold whX
        rw [decide_eq_true q1, q2]
        rfl
      have eF : whF s (fun i => s 43 0 (t * 7 + i)) (s 42 0 t) p = tw s p 12 (s 24 0 (s 43 0 (t * 7 + k))) := by
        unfold whF
        rw [fnd_at k0 (by omega) hX hf, if_neg (by omega)]
      rw [← eF]
      refine z305_88 hL ⟨⟨by omega, by omega⟩, ⟨by omega, by omega⟩, fun _ => z305_149 hL hw0, fun _ => ⟨zF, ⟨by decide, by decide⟩, fun _ => z305_149 hL hw0, fun z => ?_⟩⟩
      exfalso
      rw [eF] at z
      omega
    · have e : k = s 42 0 t := by omega
      subst e
      have eF : whF s (fun i => s 43 0 (t * 7 + i)) (s 42 0 t) p = -1 := by
        unfold whF
        rw [fnd_no fun i i0 i1 => hf i i0 (by omega)]
        rfl
      rw [eF] at hw0
      exact ⟨⟨by omega, by omega⟩, ⟨by omega, by omega⟩, fun _ => z305_149 hL hw0, fun z => by omega⟩
  exact first _ 0 rfl (by decide) (by omega) fun i i0 i1 => by omega
theorem op38 {G : zJ → zK → Prop} (hG : GOk G) : ∀ a b : Int, zin a → zin b → OpW (Inv G) 350 5 187 305 zin [zi a, zi b] := by
  intro a b ha hb
  intro L xs D D2 J K hL hD hD2 hI; obtain ⟨⟨hW, hT, hP, hM, hC, hTp, hF, hIm⟩, hg⟩ := id hI; have hE := eqs_rfl J; have hn := lw_n hW; have hpn := pw_n hP
  obtain ⟨D, rfl⟩ : ∃ d, D = d + 1 := ⟨D - 1, by omega⟩
  obtain ⟨D2, rfl⟩ : ∃ d, D2 = d + 1 := ⟨D2 - 1, by omega⟩
  have hC0 := mc_fm hC (fm_t J 0)
  have hM0 := ml_fm hM (fm_t J 0)
  have t0 : zup J 142 0 0 0 142 0 0 = 0 := zup_eq _ _ _ _ _
  have bad : ¬ (0 ≤ a ∧ a < J 40 0 0) → zCall L xs (D2 + 1) 305 [zr 142, zi a, zi b] J K fun r2 e2 J2 K2 => (∃ v2, r2 = .inl (some (zi v2)) ∧ zin v2) ∧ e2 = 0 ∧ J2 142 0 0 = 1 ∧ Inv G J2 K2 := by
    intro hc
    have fin := fin_x hG hI (fc_rfl J) (fm_t2 J 0 1) rfl (zup_eq _ _ _ _ _) 0 zin_0
    refine z305 hL ?_
    refine c252 hL (by omega) hC0.1 (by omega) ha (zaI_of ⟨zin_zb _, fun q => by rw [zb_1, decide_eq_true_iff] at q; omega, fun _ => z305_19 hL ?_⟩)
    exact c195T hL (by omega) t0 (by decide) (zaI_of ⟨zin_1, fun _ => z305_47 hL fin, fun q => absurd q (by decide)⟩)
  have bad2 : 0 ≤ a → a < J 40 0 0 → ¬ (0 ≤ b ∧ b < J 18 0 0) → zCall L xs (D2 + 1) 305 [zr 142, zi a, zi b] J K fun r2 e2 J2 K2 => (∃ v2, r2 = .inl (some (zi v2)) ∧ zin v2) ∧ e2 = 0 ∧ J2 142 0 0 = 2 ∧ Inv G J2 K2 := by
    intro h0 h1 hc
    have fin := fin_x hG hI (fc_rfl J) (fm_t2 J 0 2) rfl (zup_eq _ _ _ _ _) 0 zin_0
    refine z305 hL ?_
    refine c252 hL (by omega) hC0.1 (by omega) ha (zaI_of ⟨zin_zb _, fun _ => z305_19 hL ?_, fun q => by rw [zb_0, decide_eq_false_iff_not] at q; omega⟩)
    refine c195F hL (by omega) t0 (zaI_of ⟨zin_0, fun q => absurd rfl q, fun _ => ?_⟩)
    refine c248 hL hM0 hW (by omega) hb (zaI_of ⟨zin_zb _, fun q => by rw [zb_1, decide_eq_true_iff] at q; omega, fun _ => z305_40 hL ?_⟩)
    exact c195T hL (by omega) t0 (by decide) (zaI_of ⟨zin_1, fun q => absurd q (by decide), fun _ => z305_47 hL fin⟩)
  refine z187 hL ?_
  refine c169 hL hE (by omega) (by omega) ha (fun h0 h1 => zaV_of ?_) fun hc => zaV_ex (Or.inr ⟨3, 1, rfl, rfl, zonb_ok (by decide +kernel), by decide, by decide, ?_⟩)
  · refine c166 hL hE hW (by omega) hb (fun g0 g1 => zaV_of ⟨h0, by omega, ?_⟩) fun hc => zaV_ex (Or.inr ⟨1, 2, rfl, rfl, zonb_ok (by decide +kernel), by decide, by decide, ?_⟩)
    · refine c187 (D := D) (Q := fun r e J1 K1 => (∃ v, r = .inl (some (zi v)) ∧ e = 0 ∧ zin v ∧ ∀ x, zCall L xs (D2 + 1) 305 (zr 142 :: [zi a, zi b]) J1 (zku K1 561 0 x) fun r2 e2 J2 K2 => r2 = .inl (some (zi v)) ∧ e2 = 0 ∧ J2 142 0 0 = 0 ∧ K2 561 0 = x ∧ Inv G J2 K2) ∨ (∃ (E : Nat) (c : Int), r = .inr E ∧ e = 1 ∧ zon 350 5 E = some (.inl (some (zi c))) ∧ 1 ≤ c ∧ c ≤ 2 ∧ zCall L xs (D2 + 1) 305 (zr 142 :: [zi a, zi b]) J1 K1 fun r2 e2 J2 K2 => (∃ v2, r2 = .inl (some (zi v2)) ∧ zin v2) ∧ e2 = 0 ∧ J2 142 0 0 = c ∧ Inv G J2 K2)) hL hE hW hT hP h0 h1 g0 g1 (by omega) fun J1 hF1 => Or.inl ⟨_, rfl, rfl, ?_, fun x => ?_⟩
      · have := whA_rng hW a b
        exact ⟨by omega, by omega⟩
      · have fc : FrC J J1 := fc_fr (fc_rfl J) hF1 (by decide)
        have t1 : zup J1 142 0 0 0 142 0 0 = 0 := zup_eq _ _ _ _ _
        have hM1 := ml_fm (ml_fc hM fc) (fm_t J1 0)
        have hC1 := mc_fm (mc_fc hC fc) (fm_t J1 0)
        have fin := fin_w hG hI fc (fm_t J1 0) rfl t1 (whA J a b) x
        have hmt := mc_t hC1 h0 h1
        have htt := pw_t hP h0 h1
        refine z305 hL ?_
        refine c252 hL (by omega) hC1.1 (by omega) ha (zaI_of ⟨zin_zb _, fun _ => z305_19 hL ?_, fun q => by rw [zb_0, decide_eq_false_iff_not] at q; omega⟩)
        refine c195F hL (by omega) t1 (zaI_of ⟨zin_0, fun q => absurd rfl q, fun _ => ?_⟩)
        refine c248 hL hM1 hW (by omega) hb (zaI_of ⟨zin_zb _, fun _ => z305_40 hL ?_, fun q => by rw [zb_0, decide_eq_false_iff_not] at q; omega⟩)
        refine c195F hL (by omega) t1 (zaI_of ⟨zin_0, fun _ => ⟨h0, by omega, ?_⟩, fun q => absurd rfl q⟩)
        rw [hmt.1]
        have zero : (J 42 0 a = 0 ∨ cuF J (fun i => J 43 0 (a * 7 + i)) 12 0 0 (J 42 0 a) = -1) → whA J a b = 0 := fun z => by
          unfold whA
          rw [if_pos z]
        refine ⟨⟨by omega, by omega⟩, fun q => z305_83 hL ?_, fun q => ⟨h0, by omega, ?_⟩⟩
        · rw [zero (Or.inl q)] at fin
          rw [zero (Or.inl q)]
          exact fin
        · have hS := seg_tr hW hP h0 h1 (by omega)
          have hcr := cuF_rng hW (fun i => J 43 0 (a * 7 + i)) 12 _ _ _ hS
          refine c211a hL hM1 hW (t := a) ⟨h0, by omega⟩ (a := fun i => J 43 0 (a * 7 + i)) 12 D2 0 0 _ _ hS (fun j j0 j1 => hmt.2.2 j j0 j1) (by omega) (by omega) (by omega) (zaI_of ⟨⟨by omega, by omega⟩, ⟨by decide, by decide⟩, fun q2 => ?_, fun q2 => z305_83 hL ?_⟩)
          · exact c305w hL hM1 hW hP hC1 h0 h1 g0 g1 q q2 (by omega) fin
          · rw [zero (Or.inr q2)] at fin
            rw [zero (Or.inr q2)]
            exact fin
    · exact bad2 h0 h1 hc
  · exact bad hc
