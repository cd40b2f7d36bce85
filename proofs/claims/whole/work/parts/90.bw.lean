/-! BEST WAITS: what a wait changes -/
def wv (s : zJ) (p v : Int) : Int → Int := fun q => if q = p then v else s 49 0 q
def bwi (f : Nat → Int) : Nat → Nat
  | 0 => 0
  | i + 1 => if f (i + 1) < f (bwi f i) then i + 1 else bwi f i
def bwv (s : zJ) (p : Int) : Int := 5 * (bwi (fun i => men s (wv s p (5 * i))) 12 : Nat)
theorem bwi_le (f : Nat → Int) : ∀ i : Nat, bwi f i ≤ i
  | 0 => Nat.le_refl 0
  | i + 1 => by
    have := bwi_le f i
    rw [bwi]
    split <;> omega
theorem bwi_cong {f g : Nat → Int} : ∀ {i : Nat}, (∀ j, j ≤ i → f j = g j) → bwi f i = bwi g i
  | 0, _ => rfl
  | i + 1, h => by
    have hl := bwi_le g i
    rw [bwi, bwi, bwi_cong (i := i) fun j hj => h j (by omega), h (i + 1) (Nat.le_refl _), h _ (show bwi g i ≤ i + 1 by omega)]
theorem bwi_const {f : Nat → Int} : ∀ {i : Nat}, (∀ j, j ≤ i → f j = f 0) → bwi f i = 0
  | 0, _ => rfl
  | i + 1, h => by
    rw [bwi, bwi_const (i := i) fun j hj => h j (by omega), h (i + 1) (Nat.le_refl _), if_neg (by omega)]
theorem bwv_rng (s : zJ) (p : Int) : 0 ≤ bwv s p ∧ bwv s p ≤ 60 := by
  have := bwi_le (fun i => men s (wv s p (5 * i))) 12
  unfold bwv
  omega
/-- pairs that come within one wait as within another one -/
def prq (f : Int → Int) (v v' : Int) : List Int → Prop
  | [] => True
  | g :: r => (∀ o ∈ r, f o ≤ f g + v ↔ f o ≤ f g + v') ∧ prq f v v' r
theorem joinP_pair {s : zJ} {v v' L p g : Int} : ∀ (l : List Int) (E : Ev) (la n : Int), (∀ o ∈ l, E.2.1 o ≤ E.2.1 g + v ↔ E.2.1 o ≤ E.2.1 g + v') → joinP s v L p g l E la n = joinP s v' L p g l E la n
  | [], _, _, _, _ => rfl
  | o :: r, E, la, n, h => by
    have ho := h o List.mem_cons_self
    have hr : ∀ x ∈ r, E.2.1 x ≤ E.2.1 g + v ↔ E.2.1 x ≤ E.2.1 g + v' := fun x hx => h x (List.mem_cons_of_mem _ hx)
    rw [joinP, joinP]
    simp only [ho]
    split
    · exact joinP_pair r _ _ _ hr
    · exact joinP_pair r _ _ _ hr
theorem joinP_tm {s : zJ} {v L p g : Int} : ∀ (l : List Int) (E : Ev) (la n : Int), (joinP s v L p g l E la n).1.2.1 = E.2.1
  | [], _, _, _ => rfl
  | o :: r, E, la, n => by
    rw [joinP]
    split
    · exact joinP_tm r _ _ _
    · exact joinP_tm r _ _ _
theorem goP_pair {s : zJ} {b : Bool} {v v' p : Int} {f : Int → Int} : ∀ (l : List Int) (E : Ev), (∀ x ∈ l, E.2.1 x = f x) → l.Nodup → prq f v v' l → goP s b v p l E = goP s b v' p l E
  | [], _, _, _, _ => rfl
  | g :: r, E, hf, hd, hp => by
    rw [List.nodup_cons] at hd
    have hfr : ∀ x ∈ r, E.2.1 x = f x := fun x hx => hf x (List.mem_cons_of_mem _ hx)
    by_cases hg : E.2.2 g = p
    · have hj : joinB s b v (s 21 0 p) p g r E = joinB s b v' (s 21 0 p) p g r E := by
        unfold joinB
        split
        · refine joinP_pair r E _ _ fun o ho => ?_
          rw [hfr o ho, hf g List.mem_cons_self]
          exact hp.1 o ho
        · rfl
      rw [goP, goP, if_pos hg, if_pos hg, hj]
      refine goP_pair r _ (fun x hx => ?_) hd.2 hp.2
      simp only
      rw [eup_ne _ _ (fun e => hd.1 (by rw [← e]; exact hx))]
      have e : (joinB s b v' (s 21 0 p) p g r E).1.2.1 = E.2.1 := by
        unfold joinB
        split
        · exact joinP_tm r E _ _
        · rfl
      rw [e]
      exact hfr x hx
    · rw [goP, goP, if_neg hg, if_neg hg]
      exact goP_pair r E hfr hd.2 hp.2
theorem goP_false {s : zJ} {v v' p : Int} : ∀ (l : List Int) (E : Ev), goP s false v p l E = goP s false v' p l E
  | [], _ => rfl
  | g :: r, E => by
    rw [goP, goP]
    split
    · exact goP_false r _
    · exact goP_false r E
/-- at a place that rows run through no wait counts -/
theorem evs_run {s : zJ} (h : LW s) {w w' : Int → Int} {E : Ev} {p T : Int} (hp : 1 ≤ p) (hp2 : p < s 18 0 0) (hh : hlt s p = false) (hO : EO s E p T) : evs s w p E = evs s w' p E := by
  have hn := lw_n h
  unfold evs
  cases ho : opn s p with
  | false => exact goP_false _ _
  | true =>
    have hnd := nodup_ord E p (s 18 0 6).toNat
    have hlen : (ord E p (s 18 0 6).toNat).length ≤ 1 := by
      unfold hlt at hh
      rw [ho, decide_eq_true hp] at hh
      simp only [Bool.true_and, decide_eq_false_iff_not] at hh
      have hmm : ∀ x ∈ ord E p (s 18 0 6).toNat, 0 ≤ x ∧ x < s 18 0 6 ∧ onb s p (s 24 0 x) = true := by
        intro x hx
        have hm := mem_ord.mp hx
        have hbx := hO.2.1 x hm.1 (by omega) (by omega)
        obtain ⟨r, hr⟩ := hbx.2.1
        have := hbx.2.2.2.1 x (by rw [hr]; exact List.mem_cons_self)
        rw [hm.2.2] at this
        exact ⟨this.1, this.2.1, onb_t.mpr this.2.2⟩
      generalize ord E p (s 18 0 6).toNat = l at hnd hmm
      rcases Nat.lt_or_ge 1 l.length with q | q
      · exfalso
        apply hh
        have a := hmm _ (List.getElem_mem (n := 0) (by omega : 0 < l.length))
        have b := hmm _ (List.getElem_mem (n := 1) (by omega : 1 < l.length))
        have hne := List.pairwise_iff_getElem.mp hnd 0 1 (by omega) (by omega) (by omega)
        generalize l[0] = x at a hne
        generalize l[1] = y at b hne
        have h2 : sm (fun i => zb (decide (i = x)) + zb (decide (i = y))) (s 18 0 6).toNat ≤ cnt (fun k => onb s p (s 24 0 k)) (s 18 0 6).toNat := by
          refine sm_mono fun i i0 i1 => ?_
          by_cases e1 : i = x
          · have e2 : i ≠ y := by omega
            rw [e1] at e2
            simp [e1, e2, a.2.2, zb]
          · by_cases e2 : i = y
            · rw [e2] at e1
              simp [e1, e2, b.2.2, zb]
            · simp only [e1, e2, decide_false, zb_f]
              rcases zb_01 (onb s p (s 24 0 i)) with v | v <;> omega
        rw [sm_add, sm_one (k := x) a.1 (by omega) fun i _ _ v => by simp [v, zb], sm_one (k := y) b.1 (by omega) fun i _ _ v => by simp [v, zb]] at h2
        simp only [decide_true, zb_t] at h2
        omega
      · exact q
    refine goP_pair (f := E.2.1) _ E (fun _ _ => rfl) hnd ?_
    generalize ord E p (s 18 0 6).toNat = l at hlen
    match l, hlen with
    | [], _ => trivial
    | [g], _ => exact ⟨fun o ho => (by cases ho), trivial⟩
    | _ :: _ :: _, hq => simp at hq
theorem evs_w {s : zJ} {w w' : Int → Int} {E : Ev} {p : Int} (h : w p = w' p) : evs s w p E = evs s w' p E := by
  unfold evs
  rw [h]
theorem evD_w {s : zJ} (h : LW s) {w w' : Int → Int} : ∀ (m : Nat) (E : Ev) (T : Int), (m : Int) < s 18 0 0 → EO s E m T → (∀ p : Int, 1 ≤ p → p ≤ m → w p = w' p ∨ hlt s p = false) → evD s w m E = evD s w' m E
  | 0, _, _, _, _, _ => rfl
  | m + 1, E, T, hm, hE, hw => by
    have e : ((m + 1 : Nat) : Int) = (m : Int) + 1 := by omega
    rw [e] at hE
    have h1 : evs s w ((m : Int) + 1) E = evs s w' ((m : Int) + 1) E := by
      rcases hw ((m : Int) + 1) (by omega) (by omega) with q | q
      · exact evs_w q
      · exact evs_run h (by omega) (by omega) q hE
    have h2 := evs_ok h (w := w') (p := (m : Int) + 1) (by omega) (by omega) hE
    have e1 : (m : Int) + 1 - 1 = m := by omega
    rw [e1] at h2
    rw [evD, evD, h1]
    exact evD_w h m _ _ (by omega) h2 fun p p0 p1 => hw p p0 (by omega)
theorem evT_w {s : zJ} {w w' : Int → Int} : ∀ (c : Nat) (m : Int) (E : Ev), (∀ p, m - c < p → p ≤ m → w p = w' p) → evT s w c m E = evT s w' c m E
  | 0, _, _, _ => rfl
  | c + 1, m, E, hw => by
    rw [evT, evT, evs_w (hw m (by omega) (Int.le_refl m))]
    exact evT_w c (m - 1) _ fun p p0 p1 => hw p (by omega) (by omega)
/-- where the fork isn't one at which rows join, its wait doesn't count -/
theorem men_run {s : zJ} (h : LW s) (hP : PW s) {p v v' : Int} (hh : hlt s p = false) : men s (wv s p v) = men s (wv s p v') := by
  have hn := lw_n h
  unfold men
  refine sm_cong fun x x0 x1 => ?_
  unfold mnf
  split
  · congr 2
    unfold evF
    by_cases h0 : s 18 0 0 = 0
    · have e : (s 18 0 0 - 1).toNat = 0 := by omega
      rw [e]
      rfl
    · have hO := ev0_ok h (st := stl s x) fun k k0 k1 => stl_rng h hP x k0 k1
      have e : (((s 18 0 0 - 1).toNat : Nat) : Int) = s 18 0 0 - 1 := by omega
      rw [← e] at hO
      refine evD_w h _ _ _ (by omega) hO fun q q0 q1 => ?_
      by_cases eq : q = p
      · rw [eq]
        exact Or.inr hh
      · left
        unfold wv
        rw [if_neg eq, if_neg eq]
  · rfl
theorem pd_rng {f : Int → Int} {c : Int} (hc : 0 ≤ c) : ∀ {n : Nat}, (∀ i : Int, 0 ≤ i → i < n → 0 ≤ f i ∧ f i ≤ c) → 0 ≤ pd f n ∧ pd f n ≤ c ^ n
  | 0, _ => by simp [pd]
  | n + 1, h => by
    have h1 := pd_rng hc (n := n) fun i a b => h i a (by omega)
    have h2 := h n (by omega) (by omega)
    rw [pd, Int.pow_succ]
    exact ⟨Int.mul_nonneg h1.1 h2.1, Int.mul_le_mul h1.2 h2.2 h2.1 (Int.le_trans h1.1 h1.2)⟩
theorem pw20 {n : Nat} (h : n ≤ 7) : (20 : Int) ^ n ≤ 1280000000 := by
  have h2 : n = 0 ∨ n = 1 ∨ n = 2 ∨ n = 3 ∨ n = 4 ∨ n = 5 ∨ n = 6 ∨ n = 7 := by omega
  rcases h2 with q | q | q | q | q | q | q | q <;> subst q <;> decide
theorem wgt_rng {s : zJ} (h : LW s) (x : Int) : 0 ≤ wgt s x ∧ wgt s x ≤ 1280000000 := by
  have hn := lw_n h
  have h1 := pd_rng (f := wgf s x) (c := 20) (by decide) (n := (s 18 0 6).toNat) fun i i0 i1 => by
    have hk := lw_k h i0 (by omega)
    unfold wgf
    split
    · split <;> omega
    · omega
  have h2 := pw20 (n := (s 18 0 6).toNat) (by omega)
  unfold wgt
  omega
/-- weights times harms are no more than a long holds -/
theorem mnf_rng {s : zJ} (h : LW s) (hP : PW s) (w : Int → Int) (x : Int) : -2560000000000000 ≤ mnf s w x ∧ mnf s w x ≤ 2560000000000000 := by
  have hw := wgt_rng h x
  have hr := hrm_rng h hP (ev_okw h hP w x) (by decide)
  unfold mnf
  split
  · have a1 : wgt s x * hrm s (evF s w (stl s x)) ≤ wgt s x * 2000000 := Int.mul_le_mul_of_nonneg_left hr.2 hw.1
    have a2 : wgt s x * (-1000000) ≤ wgt s x * hrm s (evF s w (stl s x)) := Int.mul_le_mul_of_nonneg_left hr.1 hw.1
    omega
  · omega
theorem sm_abs {f : Int → Int} {c : Int} : ∀ {n : Nat}, (∀ i : Int, 0 ≤ i → i < n → -c ≤ f i ∧ f i ≤ c) → -(n * c) ≤ sm f n ∧ sm f n ≤ n * c
  | 0, _ => by simp [sm]
  | n + 1, h => by
    have h1 := sm_abs (n := n) fun i h0 h1 => h i h0 (by omega)
    have h2 := h n (by omega) (by omega)
    rw [sm]
    have e : ((n + 1 : Nat) : Int) * c = n * c + c := by
      have : ((n + 1 : Nat) : Int) = n + 1 := by omega
      rw [this, Int.add_mul, Int.one_mul]
    omega
theorem men_part {s : zJ} (h : LW s) (hP : PW s) (w : Int → Int) {n : Nat} (hn : n ≤ 128) : -327680000000000000 ≤ sm (mnf s w) n ∧ sm (mnf s w) n ≤ 327680000000000000 := by
  have := sm_abs (f := mnf s w) (c := 2560000000000000) (n := n) fun i _ _ => mnf_rng h hP w i
  omega
theorem men_rng {s : zJ} (h : LW s) (hP : PW s) (w : Int → Int) : -327680000000000000 ≤ men s w ∧ men s w ≤ 327680000000000000 := by
  have hn := lw_n h
  have h7 := pw7 hn.2.2.2.1
  have e2 : ((2 ^ (s 18 0 6).toNat : Nat) : Int) = 2 ^ (s 18 0 6).toNat := by simp
  exact men_part h hP w (by omega)
def zlin (x : Int) : Prop := -9223372036854775808 ≤ x ∧ x < 9223372036854775808
theorem zlin_e {x : Int} (h : zlin x) : (Int64.ofInt x).toInt = x := Int64.toInt_ofInt_of_le (by unfold zlin at h; simp; omega) (by unfold zlin at h; simp; omega)
theorem zcmp_lt {x y : Int} (hx : zlin x) (hy : zlin y) : (zcmp x y < 0 ↔ x < y) ∧ zin (zcmp x y) := by
  have h1 : (Int64.ofInt y < Int64.ofInt x) ↔ y < x := by rw [Int64.lt_iff_toInt_lt, zlin_e hx, zlin_e hy]
  have h2 : (Int64.ofInt x = Int64.ofInt y) ↔ x = y := by rw [← Int64.toInt_inj, zlin_e hx, zlin_e hy]
  refine ⟨?_, zin_xs _⟩
  unfold zcmp lg_cmp
  by_cases q1 : y < x
  · rw [if_pos (h1.mpr q1)]
    have : (1 : Int32).toInt = 1 := by decide
    omega
  · rw [if_neg (fun q => q1 (h1.mp q))]
    by_cases q2 : x = y
    · rw [if_pos (h2.mpr q2)]
      have : (0 : Int32).toInt = 0 := by decide
      omega
    · rw [if_neg (fun q => q2 (h2.mp q))]
      have : (-1 : Int32).toInt = -1 := by decide
      omega
