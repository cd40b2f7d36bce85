/-! THE FIRST ROW on its way: shut in nowhere -/
theorem sq_in {s : zJ} (h : LW s) (x : Int) : ∀ (n : Nat) (p j : Int), n = (s 18 0 0 - p).toNat → 0 ≤ p → p < s 18 0 0 → 0 ≤ j → j < cbh s x p → 0 ≤ sq s x p j ∧ sq s x p j < s 18 0 6 ∧ bt x (sq s x p j) = true ∧ on s p (s 24 0 (sq s x p j)) := by
  intro n
  induction n using Nat.strongRecOn with
  | _ n ih =>
  intro p j hm p0 p1 j0 j1
  by_cases q : j < gT s x p 7
  · obtain ⟨c, c0, c1, hk, c7, d0, d1⟩ := gT_tile h x (i := j) p0 j0 7 (by decide) (by have e : ((7 : Nat) : Int) = 7 := rfl; rw [e]; omega)
    have hk1 := kid_t.mp hk
    have hs := sq_kid h x (i := j - gT s x p (hd s x c)) p0 p1 c1 hk c7 (by omega) (by omega)
    have e : gT s x p (hd s x c) + (j - gT s x p (hd s x c)) = j := by omega
    rw [e] at hs
    obtain ⟨a1, a2, a3, a4⟩ := ih _ (by omega) c (j - gT s x p (hd s x c)) rfl c0 c1 (by omega) (by omega)
    rw [hs]
    exact ⟨a1, a2, a3, (kid_tw h p0 c1 hk a1 a2 a4).2.1⟩
  · have hc := gT_7 h x p0 p1
    obtain ⟨k, k0, k1, k2, k3⟩ := cnt_nth (P := stb s x p) (s 18 0 6).toNat (j - gT s x p 7) (by omega) (by
      have e : cnt (stb s x p) (s 18 0 6).toNat = sty s x p := rfl
      rw [e]
      omega)
    have hs := sq_stay h x p0 p1 k0 (by omega) k2
    have e : gT s x p 7 + cnt (stb s x p) k.toNat = j := by
      have k3' : cnt (stb s x p) k.toNat = j - gT s x p 7 := k3
      omega
    rw [e] at hs
    unfold stb at k2
    rw [Bool.and_eq_true, decide_eq_true_iff] at k2
    rw [hs]
    refine ⟨k0, by omega, k2.1, ?_⟩
    rw [k2.2]
    exact on_self s p
def Can (s : zJ) (x : Int) (v : It) : Prop := (0 ≤ v.1 ∧ v.1 < s 18 0 0) ∧ hd s x v.1 < 7 ∧ v.2.1 = pos s x v.1 ∧ v.2.2.1 = pos s x v.1 + cbh s x v.1
theorem can_seg {s : zJ} (h : LW s) {x : Int} {v : It} (hx : cbh s x 0 ≤ 7) (hc : Can s x v) : Seg s (sq s x 0) v.1 v.2.1 v.2.2.1 := by
  obtain ⟨⟨p0, p1⟩, h7, e1, e2⟩ := hc
  obtain ⟨⟨g1, g2⟩, g3⟩ := sq_pos h x v.1 p0 p1 h7
  have hcb := (hd_cbh h x p0 p1).1.mp h7
  rw [e1, e2]
  refine ⟨⟨p0, p1⟩, ⟨g1, by omega, by omega⟩, fun i i0 i1 => ?_⟩
  have := g3 (i - pos s x v.1) (by omega) (by omega)
  have e : pos s x v.1 + (i - pos s x v.1) = i := by omega
  rw [e] at this
  rw [this]
  obtain ⟨a1, a2, a3, a4⟩ := sq_in h x _ v.1 (i - pos s x v.1) rfl p0 p1 (by omega) (by omega)
  exact ⟨a1, a2, a4⟩
/-- where those at i go on to -/
theorem can_ky {s : zJ} (h : LW s) {x p : Int} (p0 : 0 ≤ p) (p1 : p < s 18 0 0) (h7 : hd s x p < 7) : (∀ c i : Int, 0 ≤ c → c < s 18 0 0 → kid s p c = true → hd s x c < 7 → pos s x c ≤ i → i < pos s x c + cbh s x c → ky s (sq s x 0) p i = c) ∧ (∀ i : Int, pos s x p + gT s x p 7 ≤ i → i < pos s x p + cbh s x p → ky s (sq s x 0) p i = p) := by
  obtain ⟨⟨g1, g2⟩, g3⟩ := sq_pos h x p p0 p1 h7
  constructor
  · intro c i c0 c1 hk c7 i0 i1
    obtain ⟨_, k3⟩ := sq_pos h x c c0 c1 c7
    have e1 := k3 (i - pos s x c) (by omega) (by omega)
    have e : pos s x c + (i - pos s x c) = i := by omega
    rw [e] at e1
    obtain ⟨a1, a2, a3, a4⟩ := sq_in h x _ c (i - pos s x c) rfl c0 c1 (by omega) (by omega)
    obtain ⟨b1, b2, b3⟩ := kid_tw h p0 c1 hk a1 a2 a4
    unfold ky nx
    rw [e1, if_neg b3]
    exact b1
  · intro i i0 i1
    have hc := gT_7 h x p0 p1
    obtain ⟨k, k0, k1, k2, k3⟩ := cnt_nth (P := stb s x p) (s 18 0 6).toNat (i - pos s x p - gT s x p 7) (by omega) (by
      have e : cnt (stb s x p) (s 18 0 6).toNat = sty s x p := rfl
      rw [e]
      omega)
    have hs := sq_stay h x p0 p1 k0 (by omega) k2
    have hg := g3 (gT s x p 7 + cnt (stb s x p) k.toNat) (by have := gT_nn (s := s) x p 7; have := (cnt_rng (stb s x p) k.toNat).1; omega) (by
      have k3' : cnt (stb s x p) k.toNat = i - pos s x p - gT s x p 7 := k3
      omega)
    have e : pos s x p + (gT s x p 7 + cnt (stb s x p) k.toNat) = i := by
      have k3' : cnt (stb s x p) k.toNat = i - pos s x p - gT s x p 7 := k3
      omega
    rw [e, hs] at hg
    unfold stb at k2
    rw [Bool.and_eq_true, decide_eq_true_iff] at k2
    unfold ky nx
    rw [hg, if_pos k2.2]
/-- each place of a group's part is that of one of the next, or of one who stays -/
theorem can_at {s : zJ} (h : LW s) {x p i : Int} (p0 : 0 ≤ p) (p1 : p < s 18 0 0) (i0 : pos s x p ≤ i) (i1 : i < pos s x p + gT s x p 7) : ∃ c : Int, 0 ≤ c ∧ c < s 18 0 0 ∧ kid s p c = true ∧ hd s x c < 7 ∧ pos s x c ≤ i ∧ i < pos s x c + cbh s x c := by
  obtain ⟨c, c0, c1, hk, c7, d0, d1⟩ := gT_tile h x (i := i - pos s x p) p0 (by omega) 7 (by decide) (by have e : ((7 : Nat) : Int) = 7 := rfl; rw [e]; omega)
  have hk1 := kid_t.mp hk
  have e := pos_up h x (q := c) (by omega) c1
  rw [hk1.2] at e
  exact ⟨c, c0, c1, hk, c7, by omega, by omega⟩
theorem can_kin {s : zJ} (h : LW s) {x p c : Int} (p0 : 0 ≤ p) (c1 : c < s 18 0 0) (hk : kid s p c = true) (c7 : hd s x c < 7) : pos s x p ≤ pos s x c ∧ pos s x c + cbh s x c ≤ pos s x p + gT s x p 7 := by
  have hk1 := kid_t.mp hk
  have e := pos_up h x (q := c) (by omega) c1
  rw [hk1.2] at e
  have h1 := gT_in h x p0 c1 hk c7
  have h2 := gT_nn (s := s) x p (hd s x c)
  omega
theorem can_si {s : zJ} (h : LW s) {x p : Int} (p0 : 0 ≤ p) (p1 : p < s 18 0 0) (h7 : hd s x p < 7) : ¬ SI (ky s (sq s x 0) p) p (pos s x p) (pos s x p + cbh s x p) := by
  obtain ⟨k1, k2⟩ := can_ky h p0 p1 h7
  have hc := gT_7 h x p0 p1
  have hs := sty_nn s x p
  rintro ⟨a, b, a0, ab, b1, hor⟩
  have ha : a < pos s x p + gT s x p 7 ∨ pos s x p + gT s x p 7 ≤ a := by omega
  have key : ∀ i : Int, pos s x p ≤ i → i < pos s x p + cbh s x p → (ky s (sq s x 0) p i = p ∧ pos s x p + gT s x p 7 ≤ i) ∨ ∃ c : Int, 0 ≤ c ∧ c < s 18 0 0 ∧ kid s p c = true ∧ hd s x c < 7 ∧ pos s x c ≤ i ∧ i < pos s x c + cbh s x c ∧ ky s (sq s x 0) p i = c ∧ p < c := by
    intro i i0 i1
    by_cases q : pos s x p + gT s x p 7 ≤ i
    · exact Or.inl ⟨k2 i q i1, q⟩
    · obtain ⟨c, c0, c1, hk, c7, d0, d1⟩ := can_at h p0 p1 i0 (by omega)
      exact Or.inr ⟨c, c0, c1, hk, c7, d0, d1, k1 c i c0 c1 hk c7 d0 d1, (kid_t.mp hk).1⟩
  rcases hor with ⟨h1, h2⟩ | ⟨h1, h2, d, d0, d1, d2⟩
  · rcases key a a0 (by omega) with ⟨_, z⟩ | ⟨c, _, _, _, _, _, _, z, z2⟩
    · exact h2 (k2 b (by omega) b1)
    · omega
  · rcases key a a0 (by omega) with ⟨z, _⟩ | ⟨c, c0, c1, hk, c7, e0, e1, z, z2⟩
    · exact h1 z
    · rcases key b (by omega) b1 with ⟨y, _⟩ | ⟨c', c0', c1', hk', c7', e0', e1', y, _⟩
      · omega
      · have e : c' = c := by omega
        subst e
        exact d2 (by rw [z]; exact k1 c' d c0' c1' hk' c7' (by omega) (by omega))
theorem can_spl {s : zJ} (h : LW s) {x : Int} {v : It} (hx : cbh s x 0 ≤ 7) (hc : Can s x v) : ∃ gs : List Int, spl (ky s (sq s x 0) v.1) v.1 v.2.1 v.2.2.1 = some (gs, pos s x v.1 + gT s x v.1 7) ∧ Chn (ky s (sq s x 0) v.1) v.1 v.2.2.1 gs (pos s x v.1 + gT s x v.1 7) ∧ hdo gs (pos s x v.1 + gT s x v.1 7) = v.2.1 := by
  have hS := can_seg h hx hc
  obtain ⟨⟨p0, p1⟩, h7, e1, e2⟩ := id hc
  obtain ⟨_, ⟨l0, l1, l2⟩, hrow⟩ := id hS
  have hsp := spl_ok (f := ky s (sq s x 0) v.1) p0 l1 fun i h0 h1 => (ky_rng h hS h0 h1).1
  obtain ⟨k1, k2⟩ := can_ky h p0 p1 h7
  have hc7 := gT_7 h x p0 p1
  have hst := sty_nn s x v.1
  have hg := gT_nn (s := s) x v.1 7
  cases hs : spl (ky s (sq s x 0) v.1) v.1 v.2.1 v.2.2.1 with
  | none =>
    exfalso
    have := hsp.1 hs
    rw [e1, e2] at this
    exact can_si h p0 p1 h7 this
  | some y =>
    obtain ⟨gs, st⟩ := y
    obtain ⟨hcn, hlo, hsth, _⟩ := hsp.2 gs st hs
    have hcl := chn_len hcn
    have est : st = pos s x v.1 + gT s x v.1 7 := by
      rcases Int.lt_trichotomy st (pos s x v.1 + gT s x v.1 7) with z | z | z
      · exfalso
        have h1 := chn_st hcn st (Int.le_refl _) (by omega)
        obtain ⟨c, c0, c1, hk, c7, d0, d1⟩ := can_at h (x := x) (i := st) p0 p1 (by omega) z
        rw [k1 c st c0 c1 hk c7 d0 d1] at h1
        have := (kid_t.mp hk).1
        omega
      · exact z
      · exfalso
        obtain ⟨w, hw, w1, w2, w3⟩ := kdm_cov (ky s (sq s x 0) v.1) (fun _ => 0) (fun _ => 0) 0 0 gs st 0 hcn (pos s x v.1 + gT s x v.1 7) (by omega) z
        obtain ⟨b, e, h1, h2, h3, h4, h5, h6, h7', h8, h9, h10⟩ := kdm_mem _ _ _ _ _ gs st 0 hcn w hw
        have h11 := k2 (pos s x v.1 + gT s x v.1 7) (Int.le_refl _) (by omega)
        rw [← w1, h1] at h11
        exact h8 h11
    subst est
    exact ⟨gs, rfl, hcn, hlo⟩
/-- what goes on from a place -/
theorem can_kids {s : zJ} (h : LW s) {x : Int} {v : It} (hx : cbh s x 0 ≤ 7) (hc : Can s x v) {gs : List Int} (hcn : Chn (ky s (sq s x 0) v.1) v.1 v.2.2.1 gs (pos s x v.1 + gT s x v.1 7)) (hlo : hdo gs (pos s x v.1 + gT s x v.1 7) = v.2.1) (up en : Int → Int) (mi gap : Int) : (∀ w ∈ kdm (ky s (sq s x 0) v.1) up en mi gap gs (pos s x v.1 + gT s x v.1 7) 0, Can s x w ∧ kid s v.1 w.1 = true) ∧ ∀ c : Int, 0 ≤ c → c < s 18 0 0 → kid s v.1 c = true → hd s x c < 7 → ∃ w ∈ kdm (ky s (sq s x 0) v.1) up en mi gap gs (pos s x v.1 + gT s x v.1 7) 0, w.1 = c := by
  have hS := can_seg h hx hc
  obtain ⟨⟨p0, p1⟩, h7, e1, e2⟩ := id hc
  obtain ⟨k1, k2⟩ := can_ky h p0 p1 h7
  have hc7 := gT_7 h x p0 p1
  have hsn := sty_nn s x v.1
  have hsi : ¬ SI (ky s (sq s x 0) v.1) v.1 v.2.1 v.2.2.1 := by
    rw [e1, e2]
    exact can_si h p0 p1 h7
  constructor
  · intro w hw
    obtain ⟨b, e, h1, h2, h3, h4, h5, h6, h7', h8, h9, h10⟩ := kdm_mem _ up en mi gap gs _ 0 hcn w hw
    obtain ⟨c, c0, c1, hk, c7, d0, d1⟩ := can_at h (x := x) (i := b) p0 p1 (by omega) (by omega)
    have hb := k1 c b c0 c1 hk c7 d0 d1
    have hin := can_kin h p0 c1 hk c7
    have hcb := (hd_cbh h x c0 c1).1.mp c7
    have hw1 : w.1 = c := by rw [h1, hb]
    -- the part is just that of c
    have full : ∀ i : Int, pos s x c ≤ i → i < pos s x c + cbh s x c → w.2.1 ≤ i ∧ i < w.2.2.1 := fun i i0 i1 => kdm_full hcn hlo hsi hw (by omega) (by omega) (by rw [hw1]; exact k1 c i c0 c1 hk c7 i0 i1)
    have f1 := full (pos s x c) (Int.le_refl _) (by omega)
    have f2 := full (pos s x c + cbh s x c - 1) (by omega) (by omega)
    have back : ∀ i : Int, b ≤ i → i < e → pos s x c ≤ i ∧ i < pos s x c + cbh s x c := fun i i0 i1 => by
      have hki := h7' i i0 i1
      rw [hb] at hki
      by_cases q : i < pos s x v.1 + gT s x v.1 7
      · obtain ⟨c', c0', c1', hk', c7', d0', d1'⟩ := can_at h (x := x) (i := i) p0 p1 (by omega) q
        have := k1 c' i c0' c1' hk' c7' d0' d1'
        have ec : c' = c := by omega
        rw [ec] at d0' d1'
        exact ⟨d0', d1'⟩
      · omega
    have g1 := back b (Int.le_refl _) h5
    have g2 := back (e - 1) (by omega) (by omega)
    rw [h2] at f1 f2
    rw [h3] at f1 f2
    refine ⟨⟨by rw [hw1]; exact ⟨c0, c1⟩, by rw [hw1]; exact c7, by rw [h2, hw1]; omega, by rw [h3, hw1]; omega⟩, by rw [hw1]; exact hk⟩
  · intro c c0 c1 hk c7
    have hin := can_kin h p0 c1 hk c7
    have hcb := (hd_cbh h x c0 c1).1.mp c7
    obtain ⟨w, hw, w1, w2, w3⟩ := kdm_cov (ky s (sq s x 0) v.1) up en mi gap gs _ 0 hcn (pos s x c) (by omega) (by omega)
    exact ⟨w, hw, by rw [w1]; exact k1 c _ c0 c1 hk c7 (Int.le_refl _) (by omega)⟩
/-- lists of places: how many -/
theorem lst_cnt {P : Int → Bool} {n : Nat} : ∀ (l : List Int), l.Nodup → (∀ c : Int, c ∈ l ↔ (0 ≤ c ∧ c < n ∧ P c = true)) → (l.length : Int) = cnt P n
  | [], _, h => by
    have : cnt P n = 0 := sm_zero fun c c0 c1 => by
      show zb (P c) = 0
      rw [zb_0, ← Bool.not_eq_true]
      intro z
      have := (h c).mpr ⟨c0, c1, z⟩
      cases this
    rw [this]
    rfl
  | a :: l, hn, h => by
    rw [List.nodup_cons] at hn
    obtain ⟨a0, a1, a2⟩ := (h a).mp List.mem_cons_self
    rw [cnt_del a0 a1 a2, List.length_cons]
    have := lst_cnt (P := fun x => P x && decide (x ≠ a)) (n := n) l hn.2 (fun c => by
      rw [Bool.and_eq_true, decide_eq_true_iff]
      constructor
      · intro hc
        obtain ⟨c0, c1, c2⟩ := (h c).mp (List.mem_cons_of_mem _ hc)
        exact ⟨c0, c1, c2, fun e => hn.1 (by rw [← e]; exact hc)⟩
      · rintro ⟨c0, c1, c2, c3⟩
        rcases List.mem_cons.mp ((h c).mpr ⟨c0, c1, c2⟩) with e | e
        · exact absurd e c3
        · exact e)
    omega
/-- how many groups -/
theorem can_gro {s : zJ} (h : LW s) {x : Int} {v : It} (hx : cbh s x 0 ≤ 7) (hc : Can s x v) {gs : List Int} (hcn : Chn (ky s (sq s x 0) v.1) v.1 v.2.2.1 gs (pos s x v.1 + gT s x v.1 7)) (hlo : hdo gs (pos s x v.1 + gT s x v.1 7) = v.2.1) : (gs.length : Int) = gro s x v.1 := by
  obtain ⟨k1, k2⟩ := can_kids h hx hc hcn hlo (fun _ => 0) (fun _ => 0) 0 0
  have hin := kdm_inc (ky s (sq s x 0) v.1) (fun _ => 0) (fun _ => 0) 0 0 gs (pos s x v.1 + gT s x v.1 7) 0 hcn
  have hl := kdm_len (ky s (sq s x 0) v.1) (fun _ => 0) (fun _ => 0) 0 0 gs (pos s x v.1 + gT s x v.1 7) 0
  rw [gro_hd h]
  have hnd : ((kdm (ky s (sq s x 0) v.1) (fun _ => 0) (fun _ => 0) 0 0 gs (pos s x v.1 + gT s x v.1 7) 0).map fun w => w.1).Nodup := by
    unfold List.Nodup
    rw [List.pairwise_map]
    refine List.Pairwise.imp_of_mem (fun {a b} ha hb hab e => ?_) hin
    obtain ⟨⟨_, a7, a1, a2⟩, _⟩ := k1 a ha
    obtain ⟨⟨⟨b0, b1⟩, b7, b2, b3⟩, _⟩ := k1 b hb
    have := (hd_cbh h x b0 b1).1.mp b7
    rw [a2, b2, e] at hab
    omega
  have := lst_cnt (P := fun c => kid s v.1 c && decide (hd s x c < 7)) (n := (s 18 0 0).toNat) _ hnd (fun c => by
    rw [List.mem_map, Bool.and_eq_true, decide_eq_true_iff]
    constructor
    · rintro ⟨w, hw, e⟩
      obtain ⟨⟨⟨w0, w1⟩, w7, _⟩, wk⟩ := k1 w hw
      rw [← e]
      exact ⟨w0, by omega, wk, w7⟩
    · rintro ⟨c0, c1, c2, c3⟩
      obtain ⟨w, hw, e⟩ := k2 c c0 (by omega) c2 c3
      exact ⟨w, hw, e⟩)
  rw [List.length_map, hl] at this
  exact this
theorem can_root {s : zJ} (h : LW s) {x : Int} (hN : 0 < s 18 0 0) (h7 : hd s x 0 < 7) (mi en : Int) : Can s x (0, 0, cbh s x 0, mi, en) := ⟨⟨Int.le_refl 0, hN⟩, h7, (pos_0 s x).symm, by show cbh s x 0 = pos s x 0 + cbh s x 0; rw [pos_0]; omega⟩
