/-! WHO IS PARTED: the class's walk -/
def pbb (s : zJ) (a : Int → Int) (p fr to x : Int) : Bool := decide (0 < cnt (fun i => decide (fr ≤ i) && onb s x (s 24 0 (a i))) to.toNat) && !onb s x p
def pb (s : zJ) (a : Int → Int) (p fr to : Int) : Int := bs (pbb s a p fr to) 12
theorem c133 {L : Nat} {xs : Nat → Int32} (hL : L ≤ 3072) {D : Nat} {J : zJ} {K : zK} {Q : zR → Nat → zJ → zK → Prop} {s : zJ} (hE : EqS s J) (h : LW s) (hT : TW s) {a : Int → Int} {p fr to : Int} (f0 : 0 ≤ fr) (f1 : fr ≤ to) (f2 : to ≤ 7) (ha : ∀ i : Int, fr ≤ i → i < to → J 93 0 i = a i ∧ 0 ≤ a i ∧ a i < s 18 0 6) (p0 : 0 ≤ p) (p1 : p < s 18 0 0) (hp : J 92 0 9 = p) (hD : 1 ≤ D) (hQ : Q (.inl (some (zi (pb s a p fr to)))) 0 J K) : zCall L xs D 133 [zr 92, zi fr, zi to] J K Q := by
  obtain ⟨D, rfl⟩ : ∃ d, D = d + 1 := ⟨D - 1, by omega⟩
  have hn := lw_n h
  have e24 := hE 24 (by decide) (by decide)
  have e36 := hE 36 (by decide) (by decide)
  have hpath : ∀ q : Int, 0 ≤ q → q < s 18 0 0 → s 36 0 q = bs (fun x => onb s x q) 12 := hT.2.2.1
  refine z133 hL ?_
  have key : ∀ (n : Nat) (i : Int), n = (to - i).toNat → fr ≤ i → i ≤ to → zGo L xs (D + 1) 133 5 [some (zr 92), none, some (zi to), some (zi (bs (fun x => decide (0 < cnt (fun i => decide (fr ≤ i) && onb s x (s 24 0 (a i))) i.toNat)) 12)), some (zi i)] [] J K Q := by
    intro n; induction n using Nat.strongRecOn with
    | _ n ih =>
    intro i hm h0 h1
    have hb := bs_lt (fun x => decide (0 < cnt (fun i => decide (fr ≤ i) && onb s x (s 24 0 (a i))) i.toNat)) 12
    have e12 : (2 : Int) ^ 12 = 4096 := by decide
    refine z133_5 hL ?_
    rw [e24, e36, hp]
    by_cases hc : i < to
    · obtain ⟨g1, g2, g3⟩ := ha i h0 hc
      have hk := lw_k h g2 g3
      rw [g1]
      refine ⟨⟨by omega, by omega⟩, ⟨by omega, by omega⟩, fun _ => by omega, fun _ => ⟨by omega, by omega, by omega, by omega, by omega, by omega, ?_⟩⟩
      have hi := ih _ (by omega) (i + 1) rfl (by omega) (by omega)
      rw [hpath _ (by omega) (by omega)]
      have hb2 := bs_lt (fun x => onb s x (s 24 0 (a i))) 12
      have hz := zor_lt (x := bs (fun x => decide (0 < cnt (fun i => decide (fr ≤ i) && onb s x (s 24 0 (a i))) i.toNat)) 12) (y := bs (fun x => onb s x (s 24 0 (a i))) 12) (n := 12) (by decide) hb.1 hb.2 hb2.1 hb2.2
      have e : zor (bs (fun x => decide (0 < cnt (fun i => decide (fr ≤ i) && onb s x (s 24 0 (a i))) i.toNat)) 12) (bs (fun x => onb s x (s 24 0 (a i))) 12) = bs (fun x => decide (0 < cnt (fun i => decide (fr ≤ i) && onb s x (s 24 0 (a i))) (i + 1).toNat)) 12 := by
        refine bs_of hz.1 fun k k0 => ?_
        rw [bt_or hb.1 (by omega) hb2.1 (by omega), bt_bs _ _ k k0, bt_bs _ _ k k0, ← Bool.and_or_distrib_left]
        congr 1
        rw [cnt_next (by omega), decide_eq_true h0, Bool.true_and]
        have hcr := cnt_rng (fun i => decide (fr ≤ i) && onb s k (s 24 0 (a i))) i.toNat
        cases onb s k (s 24 0 (a i)) with
        | true =>
          rw [zb_t, Bool.or_true, decide_eq_true (by omega)]
        | false => rw [zb_f, Bool.or_false, Int.add_zero]
      rw [e]
      exact hi
    · have ei : i = to := by omega
      subst ei
      have hb3 := bs_lt (fun x => onb s x p) 12
      refine ⟨⟨by omega, by omega⟩, ⟨by omega, by omega⟩, fun _ => ⟨by omega, by omega, ?_⟩, fun q => by omega⟩
      rw [hpath p p0 p1]
      have hz := zandn_n (x := bs (fun x => decide (0 < cnt (fun j => decide (fr ≤ j) && onb s x (s 24 0 (a j))) i.toNat)) 12) (y := bs (fun x => onb s x p) 12) hb.1 (by omega) hb3.1 (by omega)
      have e : zand (bs (fun x => decide (0 < cnt (fun j => decide (fr ≤ j) && onb s x (s 24 0 (a j))) i.toNat)) 12) (zxor (bs (fun x => onb s x p) 12) (-1)) = pb s a p fr i := by
        unfold pb
        refine bs_of hz.1 fun k k0 => ?_
        rw [hz.2.2 k k0, bt_bs _ _ k k0, bt_bs _ _ k k0]
        unfold pbb
        cases decide (k < ((12 : Nat) : Int)) <;> simp
      rw [e]
      exact hQ
  have hk := key _ fr rfl (Int.le_refl _) f1
  have e0 : bs (fun x => decide (0 < cnt (fun i => decide (fr ≤ i) && onb s x (s 24 0 (a i))) fr.toNat)) 12 = 0 := by
    symm
    refine bs_of (by decide) fun k k0 => ?_
    rw [bt_z, cnt_low fun c c0 c1 => by rw [decide_eq_false (by omega), Bool.false_and]]
    simp
  rw [e0] at hk
  exact hk
def tri (v : It) : Int × Int × Int := (v.1, v.2.1, v.2.2.1)
def kd3 (f : Int → Int) : List Int → Int → List (Int × Int × Int)
  | [], _ => []
  | b :: r, st => (f b, b, hdo r st) :: kd3 f r st
theorem kdm_tri (f up en : Int → Int) (mi gap : Int) : ∀ (gs : List Int) (st j : Int), (kdm f up en mi gap gs st j).map tri = kd3 f gs st
  | [], _, _ => rfl
  | b :: r, st, j => by
    rw [kdm, List.map_cons, kd3, kdm_tri f up en mi gap r st]
    rfl
/-- the walk: what is parted at wh -/
def paW (s : zJ) (a : Int → Int) (wh : Int) : Nat → List (Int × Int × Int) → Int → Int
  | 0, _, c => c
  | _ + 1, [], c => c
  | n + 1, v :: r, c => match spl (ky s a v.1) v.1 v.2.1 v.2.2 with
    | none => 0
    | some (gs, st) => paW s a wh n (kd3 (ky s a v.1) gs st ++ r) (if v.1 = wh ∧ gs ≠ [] then pb s a v.1 (hdo (gs.drop 1) st) st else c)
theorem c132w {L : Nat} {xs : Nat → Int32} (hL : L ≤ 3072) {D : Nat} {J : zJ} {K : zK} {Q : zR → Nat → zJ → zK → Prop} {s : zJ} (h : LW s) (hT : TW s) {a : Int → Int} {v wh : Int} (hE : EqS s J) (hwh : zin wh) (hD : 3 ≤ D) (hQ : ∀ J' : zJ, Fr 92 100 J J' → Q (.inl (some (zi (v)))) 0 J' K) : ∀ (n : Nat) (i c : Int) (l : List It) (J1 : zJ), n = (84 - i).toNat → 0 ≤ i → i ≤ 84 → lens l ≤ 7 → Its s a l → Stk J1 l → Fr 92 100 J J1 → (∀ w ∈ l, ∀ k : Int, w.2.1 ≤ k → k < w.2.2.1 → J1 93 0 k = a k) → v = paW s a wh n (l.map tri) c → zGo L xs (D + 1) 132 4 [some (zr 92), some (zi wh), some (zi c), some (zi i)] [] J1 K Q := by
  have hn := lw_n h
  intro n
  induction n with
  | zero =>
    intro i c l J1 hm h0 h1 hle hit hst hF1 har hv
    rw [paW] at hv
    refine z132_4 hL ⟨⟨by omega, by omega⟩, ⟨by omega, by omega⟩, fun _ => ?_, fun q => by omega⟩
    rw [← hv]
    exact hQ J1 hF1
  | succ n ih =>
  intro i c l J1 hm h0 h1 hle hit hst hF1 har hv
  have hE1 := eqs_fr hE hF1 (by omega)
  have hg1 := lens_ge hit
  refine z132_4 hL ⟨⟨by omega, by omega⟩, ⟨by omega, by omega⟩, fun _ => by omega, fun _ => ?_⟩
  refine c125 hL hst (by omega) (by omega) (fun e => zaI_of ⟨zin_0, fun _ => ?_, fun q => absurd rfl q⟩) fun w r J2 hl f2 k2 k9 k10 k11 k12 k13 s2 => zaI_of ⟨zin_1, fun q => absurd q (by decide), fun _ => ?_⟩
  · subst e
    rw [List.map_nil, paW] at hv
    rw [← hv]
    exact hQ J1 hF1
  · subst hl
    obtain ⟨p, lo, hi, mi, en⟩ := w
    have hS : Seg s a p lo hi := hit _ List.mem_cons_self
    have hitr : Its s a r := fun w hw => hit w (List.mem_cons_of_mem _ hw)
    have hF2 : Fr 92 100 J J2 := fun b hb => (f2 b (by omega)).trans (hF1 b hb)
    have hE2 := eqs_fr hE hF2 (by omega)
    have hrow : ∀ j : Int, lo ≤ j → j < hi → J2 93 0 j = a j := fun j j0 j1 => by
      rw [f2 93 (by decide)]
      exact har _ List.mem_cons_self j j0 j1
    obtain ⟨⟨p0, p1⟩, ⟨l0, l1, l2⟩, hro⟩ := id hS
    have hsp := spl_ok (f := ky s a p) p0 l1 fun i h0 h1 => (ky_rng h hS h0 h1).1
    rw [List.map_cons, paW] at hv
    have hv2 : v = match spl (ky s a p) p lo hi with
      | none => 0
      | some (gs, st) => paW s a wh n (kd3 (ky s a p) gs st ++ r.map tri) (if p = wh ∧ gs ≠ [] then pb s a p (hdo (gs.drop 1) st) st else c) := hv
    refine c135 hL hE2 h hT hS (by omega) hrow k9 k10 k11 fun J3 f3 k3 g3 => zaI_of ?_
    have hF3 : Fr 92 100 J J3 := fun b hb => (f3 b (by omega) (by omega)).trans (hF2 b hb)
    have hE3 := eqs_fr hE hF3 (by omega)
    have s3 : Stk J3 r := stk_eq s2 (k3 3 (by decide)) (f3 _ (by decide) (by decide)) (f3 _ (by decide) (by decide)) (f3 _ (by decide) (by decide)) (f3 _ (by decide) (by decide)) (f3 _ (by decide) (by decide))
    cases hs : spl (ky s a p) p lo hi with
    | none =>
      rw [hs] at hv2
      refine ⟨zin_0, fun q => absurd rfl q, fun _ => ?_⟩
      have e : v = 0 := hv2
      rw [← e]
      exact hQ J3 hF3
    | some x =>
      obtain ⟨gs, st⟩ := x
      rw [hs] at hv2
      have hv3 : v = paW s a wh n (kd3 (ky s a p) gs st ++ r.map tri) (if p = wh ∧ gs ≠ [] then pb s a p (hdo (gs.drop 1) st) st else c) := hv2
      obtain ⟨hcn, hlo, hsth, _⟩ := hsp.2 gs st hs
      obtain ⟨g31, g32⟩ := g3 gs st hs
      have hcl := chn_len hcn
      rw [hlo] at hcl
      have hll : lens ((p, lo, hi, mi, en) :: r) = (hi - lo) + lens r := rfl
      have hgr := lens_ge hitr
      have k93 : J3 92 0 9 = p := (k3 9 (by decide)).trans k9
      have hrow3 : ∀ j : Int, lo ≤ j → j < hi → J3 93 0 j = a j := fun j j0 j1 => by rw [f3 93 (by decide) (by decide)]; exact hrow j j0 j1
      -- whatever the bits are by now
      have go : ∀ c2 : Int, c2 = (if p = wh ∧ gs ≠ [] then pb s a p (hdo (gs.drop 1) st) st else c) → zCall L xs D 128 [zr 92] J3 K fun r4 e4 J4 K4 => zaV r4 e4 (zGo L xs (D + 1) 132 4 [some (zr 92), some (zi wh), some (zi c2), some (zi (i + 1))] [] J4 K4 Q) (fun E => Q (.inr E) e4 J4 K4) := by
        intro c2 hc2
        refine c128 hL hE3 h hT hS hcn hlo hrow3 k93 ((k3 11 (by decide)).trans k11) (mi := mi) ((k3 12 (by decide)).trans k12) g31 g32 s3 (by omega) (by omega) fun J4 f4 k4 s4 => zaV_of ?_
        have hF4 : Fr 92 100 J J4 := fun b hb => (f4 b (by omega) (by omega)).trans (hF3 b hb)
        obtain ⟨i1, i2, i3⟩ := kdm_ok h hS (s 20 0) (J3 100 0) mi (if 0 < ncu gs st hi then s 22 0 p else 0) gs st 0 hcn (by omega)
        refine ih (i + 1) c2 _ J4 (by omega) (by omega) (by omega) ?_ ?_ s4 hF4 ?_ ?_
        · rw [lens_app, i2]
          omega
        · intro w hw
          rcases List.mem_append.mp hw with z | z
          · exact i1 w z
          · exact hitr w z
        · intro w hw k kk0 kk1
          rw [f4 93 (by decide) (by decide), f3 93 (by decide) (by decide), f2 93 (by decide)]
          rcases List.mem_append.mp hw with z | z
          · have hwin := kdm_in (ky s a p) (s 20 0) (J3 100 0) mi (if 0 < ncu gs st hi then s 22 0 p else 0) gs st 0 hcn w z
            exact har _ List.mem_cons_self k (by show lo ≤ k; omega) (by show k < hi; omega)
          · exact har w (List.mem_cons_of_mem _ z) k kk0 kk1
        · rw [List.map_append, kdm_tri, hc2]
          exact hv3
      refine ⟨zin_1, fun _ => ?_, fun q => absurd (show (1 : Int) = 0 from q) (by decide)⟩
      rw [k93, g31]
      refine ⟨⟨by omega, by omega⟩, hwh, fun q => ?_, fun q => ⟨⟨by omega, by omega⟩, fun q2 => ?_, fun q2 => ⟨by decide, by decide, by omega, by omega, ?_⟩⟩⟩
      · exact go c (by rw [if_neg (fun z => q z.1)])
      · have hg0 : gs = [] := by
          cases gs with
          | nil => rfl
          | cons b r2 =>
            rw [List.length_cons] at q2
            omega
        exact go c (by rw [if_neg (fun z => z.2 hg0)])
      · have hne : gs ≠ [] := by
          intro z
          rw [z] at q2
          exact absurd q2 (by decide)
        have hg1l : 1 ≤ gs.length := by omega
        have e1 : J3 99 0 1 = hdo (gs.drop 1) st := g32 1 _ (hdo_drop st gs 1 hg1l)
        have e2 : J3 99 0 (gs.length : Int) = st := g32 gs.length st (by rw [List.getElem?_append_right (by omega)]; simp)
        have hcd := chn_drop (st := st) 1 hcn
        have hcl2 := chn_len hcd.1
        rw [hlo] at hcd
        rw [e1, e2]
        exact c133 hL hE3 h hT (by omega) (by omega) (by omega) (fun j j0 j1 => ⟨hrow3 j (by omega) (by omega), (hro j (by omega) (by omega)).1, (hro j (by omega) (by omega)).2.1⟩) p0 p1 k93 (by omega) (zaI_of (go _ (by rw [if_pos ⟨q, hne⟩])))
