/-! THE EVENING as a picture: of each row its portions in order, its minute, where it is (-1: it has joined another one) -/
abbrev Ev : Type := (Int → List Int) × (Int → Int) × (Int → Int)
def eup {α : Type} (f : Int → α) (k : Int) (v : α) : Int → α := fun x => if x = k then v else f x
theorem eup_eq {α : Type} (f : Int → α) (k : Int) (v : α) : eup f k v k = v := if_pos rfl
theorem eup_ne {α : Type} (f : Int → α) {k x : Int} (v : α) (h : x ≠ k) : eup f k v x = f x := if_neg h
def lln (s : zJ) : List Int → Int
  | [] => 0
  | k :: r => s 25 0 k + lln s r
def lmn : List Int → Int
  | [] => 8
  | k :: r => if k < lmn r then k else lmn r
def ahd (E : Ev) (g o : Int) : Bool := decide (E.2.1 g < E.2.1 o) || (decide (E.2.1 g = E.2.1 o) && decide (lmn (E.1 g) < lmn (E.1 o)))
/-- from where on all are so -/
def cut (P : Int → Bool) : List Int → Nat
  | [] => 0
  | e :: r => if (e :: r).all P then 0 else cut P r + 1
def ins (P : Int → Bool) (l : List Int) (g : Int) : List Int := l.take (cut P l) ++ g :: l.drop (cut P l)
/-- the rows at p in the order in which they come -/
def ord (E : Ev) (p : Int) : Nat → List Int
  | 0 => []
  | n + 1 => if E.2.2 n = p then ins (fun e => ahd E n e) (ord E p n) n else ord E p n
/-- others join a row g, waiting w, L carriages at most: the evening, when the last of them came, how many -/
def joinP (s : zJ) (w L p g : Int) : List Int → Ev → Int → Int → Ev × Int × Int
  | [], E, la, n => (E, la, n)
  | o :: r, E, la, n => if E.2.2 o = p ∧ E.2.1 o ≤ E.2.1 g + w ∧ lln s (E.1 g) + lln s (E.1 o) ≤ L then joinP s w L p g r (eup E.1 g (E.1 g ++ E.1 o), E.2.1, eup E.2.2 o (-1)) (E.2.1 o) (n + 1) else joinP s w L p g r E la n
def joinB (s : zJ) (b : Bool) (w L p g : Int) (l : List Int) (E : Ev) : Ev × Int × Int := if b then joinP s w L p g l E (E.2.1 g) 0 else (E, E.2.1 g, 0)
/-- the rows of a list go on from p -/
def goP (s : zJ) (b : Bool) (w p : Int) : List Int → Ev → Ev
  | [], E => E
  | g :: r, E => if E.2.2 g = p then goP s b w p r ((joinB s b w (s 21 0 p) p g r E).1.1, eup (joinB s b w (s 21 0 p) p g r E).1.2.1 g ((joinB s b w (s 21 0 p) p g r E).2.1 + s 23 0 p * (joinB s b w (s 21 0 p) p g r E).2.2 + s 20 0 p), eup (joinB s b w (s 21 0 p) p g r E).1.2.2 g (s 19 0 p)) else goP s b w p r E
/-- where rows join -/
def opn (s : zJ) (p : Int) : Bool := isF s p && !bt (s 40 0 10) p
def evs (s : zJ) (w : Int → Int) (p : Int) (E : Ev) : Ev := goP s (opn s p) (w p) p (ord E p (s 18 0 6).toNat) E
/-- from the place m on down to 1 -/
def evD (s : zJ) (w : Int → Int) : Nat → Ev → Ev
  | 0, E => E
  | m + 1, E => evD s w m (evs s w ((m : Int) + 1) E)
def ev0 (s : zJ) (st : Int → Int) : Ev := (fun k => [k], st, fun k => s 24 0 k)
/-! order -/
theorem cut_le (P : Int → Bool) : ∀ l : List Int, cut P l ≤ l.length
  | [] => Nat.le_refl 0
  | e :: r => by
    rw [cut]
    split
    · exact Nat.zero_le _
    · have := cut_le P r
      simp only [List.length_cons]
      omega
theorem cut_all (P : Int → Bool) : ∀ l : List Int, (l.drop (cut P l)).all P = true
  | [] => rfl
  | e :: r => by
    rw [cut]
    split
    · next h => exact h
    · exact cut_all P r
theorem cut_at {P : Int → Bool} : ∀ {l : List Int} {i : Nat}, i ≤ l.length → (l.drop i).all P = true → (i = 0 ∨ ∃ e, l[i - 1]? = some e ∧ P e = false) → cut P l = i
  | [], i, hi, _, _ => by
    have : i = 0 := by simpa using hi
    rw [this]
    rfl
  | e :: r, 0, _, h, _ => by
    have h' : (e :: r).all P = true := h
    rw [cut, if_pos h']
  | e :: r, i + 1, hi, h, hx => by
    obtain ⟨x, hx1, hx2⟩ : ∃ x, (e :: r)[i]? = some x ∧ P x = false := by
      rcases hx with q | q
      · omega
      · exact q
    have hna : ¬ (e :: r).all P = true := by
      intro hall
      rw [List.all_eq_true] at hall
      have := hall x (List.mem_of_getElem? hx1)
      rw [hx2] at this
      cases this
    rw [cut, if_neg hna]
    congr 1
    refine cut_at (by simpa using hi) h ?_
    cases i with
    | zero => exact Or.inl rfl
    | succ i => exact Or.inr ⟨x, hx1, hx2⟩
theorem mem_ins {P : Int → Bool} {l : List Int} {g x : Int} : x ∈ ins P l g ↔ x = g ∨ x ∈ l := by
  unfold ins
  rw [List.mem_append, List.mem_cons]
  constructor
  · rintro (h | h | h)
    · exact Or.inr (List.mem_of_mem_take h)
    · exact Or.inl h
    · exact Or.inr (List.mem_of_mem_drop h)
  · rintro (h | h)
    · exact Or.inr (Or.inl h)
    · rw [← List.take_append_drop (cut P l) l, List.mem_append] at h
      rcases h with h | h
      · exact Or.inl h
      · exact Or.inr (Or.inr h)
theorem mem_ord {E : Ev} {p x : Int} : ∀ {n : Nat}, x ∈ ord E p n ↔ 0 ≤ x ∧ x < n ∧ E.2.2 x = p
  | 0 => by
    simp only [ord]
    constructor
    · intro h
      cases h
    · intro h
      omega
  | n + 1 => by
    rw [ord]
    split
    · next h =>
      rw [mem_ins, mem_ord]
      constructor
      · rintro (q | q)
        · exact ⟨by omega, by omega, by rw [q]; exact h⟩
        · exact ⟨q.1, by omega, q.2.2⟩
      · rintro ⟨a, b, c⟩
        by_cases e : x = n
        · exact Or.inl e
        · exact Or.inr ⟨a, by omega, c⟩
    · next h =>
      rw [mem_ord]
      constructor
      · rintro ⟨a, b, c⟩
        exact ⟨a, by omega, c⟩
      · rintro ⟨a, b, c⟩
        refine ⟨a, ?_, c⟩
        by_cases e : x = n
        · exact absurd (by rw [← e]; exact c) h
        · omega
theorem len_ins (P : Int → Bool) (l : List Int) (g : Int) : (ins P l g).length = l.length + 1 := by
  have := cut_le P l
  unfold ins
  rw [List.length_append, List.length_cons, List.length_take, List.length_drop]
  omega
theorem len_ord (E : Ev) (p : Int) : ∀ n : Nat, (ord E p n).length ≤ n
  | 0 => Nat.le_refl 0
  | n + 1 => by
    have := len_ord E p n
    rw [ord]
    split
    · rw [len_ins]
      omega
    · omega
theorem nodup_ins {P : Int → Bool} {l : List Int} {g : Int} (h : l.Nodup) (hg : g ∉ l) : (ins P l g).Nodup := by
  unfold ins
  rw [List.nodup_append]
  have h1 := List.take_append_drop (cut P l) l
  rw [← h1, List.nodup_append] at h
  refine ⟨h.1, List.nodup_cons.mpr ⟨fun q => hg (List.mem_of_mem_drop q), h.2.1⟩, fun a ha b hb => ?_⟩
  rw [List.mem_cons] at hb
  rcases hb with q | q
  · intro e
    exact hg (by rw [← q, ← e]; exact List.mem_of_mem_take ha)
  · exact h.2.2 a ha b q
theorem nodup_ord (E : Ev) (p : Int) : ∀ n : Nat, (ord E p n).Nodup
  | 0 => List.nodup_nil
  | n + 1 => by
    rw [ord]
    split
    · refine nodup_ins (nodup_ord E p n) fun q => ?_
      have := (mem_ord.mp q).2.1
      omega
    · exact nodup_ord E p n
/-- not falling -/
def ris (f : Int → Int) : List Int → Prop
  | [] => True
  | e :: r => (∀ x ∈ r, f e ≤ f x) ∧ ris f r
theorem ris_app {f : Int → Int} : ∀ {a b : List Int}, ris f (a ++ b) ↔ ris f a ∧ ris f b ∧ ∀ x ∈ a, ∀ y ∈ b, f x ≤ f y
  | [], b => by simp [ris]
  | e :: a, b => by
    simp only [List.cons_append, ris, ris_app, List.mem_append, List.mem_cons]
    constructor
    · rintro ⟨h1, h2, h3, h4⟩
      refine ⟨⟨fun x hx => h1 x (Or.inl hx), h2⟩, h3, ?_⟩
      rintro x (q | q) y hy
      · rw [q]
        exact h1 y (Or.inr hy)
      · exact h4 x q y hy
    · rintro ⟨⟨h1, h2⟩, h3, h4⟩
      refine ⟨?_, h2, h3, fun x hx y hy => h4 x (Or.inr hx) y hy⟩
      rintro x (q | q)
      · exact h1 x q
      · exact h4 e (Or.inl rfl) x q
theorem cut_no {P : Int → Bool} {l : List Int} (h : 0 < cut P l) : ∃ e, l[cut P l - 1]? = some e ∧ P e = false := by
  induction l with
  | nil => cases h
  | cons e r ih =>
    rw [cut] at h ⊢
    split at h
    · cases h
    · next hn =>
      rw [if_neg hn]
      by_cases hc : 0 < cut P r
      · obtain ⟨x, h1, h2⟩ := ih hc
        refine ⟨x, ?_, h2⟩
        have : cut P r + 1 - 1 = (cut P r - 1) + 1 := by omega
        rw [this, List.getElem?_cons_succ]
        exact h1
      · have h0 : cut P r = 0 := by omega
        have hr := cut_all P r
        rw [h0, List.drop_zero] at hr
        refine ⟨e, by rw [h0]; rfl, ?_⟩
        rw [List.all_cons, hr, Bool.and_true] at hn
        simpa using hn
theorem ris_ins {f : Int → Int} {P : Int → Bool} {l : List Int} {g : Int} (hl : ris f l) (h1 : ∀ e, P e = true → f g ≤ f e) (h2 : ∀ e, P e = false → f e ≤ f g) : ris f (ins P l g) := by
  unfold ins
  have e := List.take_append_drop (cut P l) l
  have hl0 := hl
  rw [← e, ris_app] at hl
  have hall := cut_all P l
  rw [List.all_eq_true] at hall
  have hlow : ∀ x ∈ l.take (cut P l), f x ≤ f g := by
    intro x hx
    by_cases hc : 0 < cut P l
    · obtain ⟨y, hy1, hy2⟩ := cut_no hc
      have hy3 := h2 y hy2
      rw [List.mem_take_iff_getElem] at hx
      obtain ⟨i, hi, rfl⟩ := hx
      have hle := cut_le P l
      by_cases hi2 : i = cut P l - 1
      · subst hi2
        rw [List.getElem?_eq_getElem (by omega)] at hy1
        rw [Option.some.inj hy1]
        exact hy3
      · have hlt : i < cut P l - 1 := by omega
        have h6 := List.take_append_drop (i + 1) l
        have h7 := hl0
        rw [← h6, ris_app] at h7
        have m1 : l[i] ∈ l.take (i + 1) := by
          rw [List.mem_take_iff_getElem]
          exact ⟨i, by omega, rfl⟩
        have m2 : y ∈ l.drop (i + 1) := by
          rw [List.mem_drop_iff_getElem]
          refine ⟨cut P l - 1 - (i + 1), by omega, ?_⟩
          rw [List.getElem?_eq_getElem (by omega)] at hy1
          have e9 : cut P l - 1 - (i + 1) + (i + 1) = cut P l - 1 := by omega
          rw [← Option.some.inj hy1]
          congr 1
          omega
        exact Int.le_trans (h7.2.2 _ m1 _ m2) hy3
    · have : cut P l = 0 := by omega
      rw [this] at hx
      cases hx
  rw [ris_app]
  refine ⟨hl.1, ⟨fun x hx => h1 x (hall x hx), hl.2.1⟩, fun x hx y hy => ?_⟩
  rw [List.mem_cons] at hy
  rcases hy with q | q
  · rw [q]
    exact hlow x hx
  · exact Int.le_trans (hlow x hx) (h1 y (hall y q))
theorem ris_ord (E : Ev) (p : Int) : ∀ n : Nat, ris E.2.1 (ord E p n)
  | 0 => trivial
  | n + 1 => by
    rw [ord]
    split
    · refine ris_ins (ris_ord E p n) (fun e he => ?_) (fun e he => ?_)
      · simp only [ahd, Bool.or_eq_true, Bool.and_eq_true, decide_eq_true_eq] at he
        omega
      · simp only [ahd, Bool.or_eq_false_iff, Bool.and_eq_false_iff, decide_eq_false_iff_not] at he
        omega
    · exact ris_ord E p n
/-! what holds while rows go on from p: T bounds the minutes of those that are still there -/
def EO (s : zJ) (E : Ev) (p T : Int) : Prop :=
  (∀ g, 0 ≤ g → g < s 18 0 6 → -1 ≤ E.2.2 g) ∧
  (∀ g, 0 ≤ g → g < s 18 0 6 → 0 ≤ E.2.2 g → E.2.2 g ≤ p ∧ (∃ r, E.1 g = g :: r) ∧ (E.1 g).Nodup ∧ (∀ k ∈ E.1 g, 0 ≤ k ∧ k < s 18 0 6 ∧ on s (E.2.2 g) (s 24 0 k)) ∧ 0 ≤ E.2.1 g ∧ E.2.1 g ≤ T + 1000 ∧ (E.2.2 g = p → E.2.1 g ≤ T)) ∧
  (∀ g h, 0 ≤ g → g < s 18 0 6 → 0 ≤ h → h < s 18 0 6 → 0 ≤ E.2.2 g → 0 ≤ E.2.2 h → g ≠ h → ∀ k, k ∈ E.1 g → k ∉ E.1 h) ∧
  (∀ k, 0 ≤ k → k < s 18 0 6 → ∃ g, 0 ≤ g ∧ g < s 18 0 6 ∧ 0 ≤ E.2.2 g ∧ k ∈ E.1 g)
theorem len_nodup {l : List Int} {n : Nat} (h : l.Nodup) (hr : ∀ k ∈ l, 0 ≤ k ∧ k < n) : l.length ≤ n := by
  refine pigeon n l.length (fun i => l.getD i.toNat 0) (fun i j i0 ij jl => ?_) (fun i i0 il => ?_)
  · have h1 : i.toNat < l.length := by omega
    have h2 : j.toNat < l.length := by omega
    simp only [List.getD_eq_getElem?_getD, List.getElem?_eq_getElem h1, List.getElem?_eq_getElem h2, Option.getD_some]
    exact List.pairwise_iff_getElem.mp h i.toNat j.toNat h1 h2 (by omega)
  · have h1 : i.toNat < l.length := by omega
    simp only [List.getD_eq_getElem?_getD, List.getElem?_eq_getElem h1, Option.getD_some]
    exact hr _ (List.getElem_mem h1)
theorem eo_len {s : zJ} (hW : LW s) {E : Ev} {p T : Int} (h : EO s E p T) {g : Int} (h0 : 0 ≤ g) (h1 : g < s 18 0 6) (h2 : 0 ≤ E.2.2 g) : 1 ≤ (E.1 g).length ∧ ((E.1 g).length : Int) ≤ s 18 0 6 := by
  have hn := lw_n hW
  obtain ⟨-, ⟨r, hr⟩, hd, hm, -⟩ := h.2.1 g h0 h1 h2
  refine ⟨by rw [hr]; simp, ?_⟩
  have := len_nodup (n := (s 18 0 6).toNat) hd fun k hk => by
    have := hm k hk
    omega
  omega
/-- two rows together -/
theorem eo_two {s : zJ} (hW : LW s) {E : Ev} {p T : Int} (h : EO s E p T) {g o : Int} (h0 : 0 ≤ g) (h1 : g < s 18 0 6) (h2 : 0 ≤ E.2.2 g) (o0 : 0 ≤ o) (o1 : o < s 18 0 6) (o2 : 0 ≤ E.2.2 o) (hgo : g ≠ o) : (E.1 g ++ E.1 o).Nodup ∧ ((E.1 g).length : Int) + (E.1 o).length ≤ s 18 0 6 := by
  have hn := lw_n hW
  obtain ⟨-, -, hd, hm, -⟩ := h.2.1 g h0 h1 h2
  obtain ⟨-, -, hd2, hm2, -⟩ := h.2.1 o o0 o1 o2
  have hnd : (E.1 g ++ E.1 o).Nodup := by
    rw [List.nodup_append]
    refine ⟨hd, hd2, fun a ha b hb e => ?_⟩
    rw [e] at ha
    exact h.2.2.1 g o h0 h1 o0 o1 h2 o2 hgo b ha hb
  refine ⟨hnd, ?_⟩
  have := len_nodup (n := (s 18 0 6).toNat) hnd fun k hk => by
    rw [List.mem_append] at hk
    rcases hk with q | q
    · have := hm k q
      omega
    · have := hm2 k q
      omega
  rw [List.length_append] at this
  omega
/-- a row joins another one -/
theorem eo_join {s : zJ} {E : Ev} {p T : Int} (h : EO s E p T) {g o : Int} (h0 : 0 ≤ g) (h1 : g < s 18 0 6) (h2 : E.2.2 g = p) (hp : 0 ≤ p) (o0 : 0 ≤ o) (o1 : o < s 18 0 6) (o2 : E.2.2 o = p) (hgo : g ≠ o) : EO s (eup E.1 g (E.1 g ++ E.1 o), E.2.1, eup E.2.2 o (-1)) p T := by
  obtain ⟨a, b, c, d⟩ := h
  have live : ∀ x, 0 ≤ eup E.2.2 o (-1) x → x ≠ o ∧ 0 ≤ E.2.2 x ∧ eup E.2.2 o (-1) x = E.2.2 x := by
    intro x hx
    by_cases e : x = o
    · rw [e, eup_eq] at hx
      omega
    · rw [eup_ne _ _ e] at hx ⊢
      exact ⟨e, hx, rfl⟩
  refine ⟨fun x x0 x1 => ?_, fun x x0 x1 hx => ?_, fun x y x0 x1 y0 y1 hx hy hxy k hk => ?_, fun k k0 k1 => ?_⟩
  · simp only
    by_cases e : x = o
    · rw [e, eup_eq]
      exact Int.le_refl _
    · rw [eup_ne _ _ e]
      exact a x x0 x1
  · simp only at hx ⊢
    obtain ⟨e1, e2, e3⟩ := live x hx
    rw [e3]
    have hb := b x x0 x1 e2
    by_cases e : x = g
    · subst e
      rw [eup_eq]
      obtain ⟨b1, ⟨r, b2⟩, b3, b4, b5⟩ := hb
      have ho := b o o0 o1 (by omega)
      refine ⟨b1, ⟨r ++ E.1 o, by rw [b2]; rfl⟩, ?_, fun k hk => ?_, b5⟩
      · rw [List.nodup_append]
        refine ⟨b3, ho.2.2.1, fun u hu v hv e => ?_⟩
        rw [e] at hu
        exact c x o x0 x1 o0 o1 e2 (by omega) hgo v hu hv
      · rw [List.mem_append] at hk
        rcases hk with q | q
        · exact b4 k q
        · have := ho.2.2.2.1 k q
          rw [o2] at this
          rw [h2]
          exact this
    · rw [eup_ne _ _ e]
      exact hb
  · simp only at hx hy hk ⊢
    obtain ⟨e1, e2, e3⟩ := live x hx
    obtain ⟨f1, f2, f3⟩ := live y hy
    by_cases e : x = g
    · subst e
      rw [eup_eq, List.mem_append] at hk
      rw [eup_ne _ _ (Ne.symm hxy)]
      rcases hk with q | q
      · exact c x y x0 x1 y0 y1 e2 f2 hxy k q
      · exact c o y o0 o1 y0 y1 (by omega) f2 (Ne.symm f1) k q
    · rw [eup_ne _ _ e] at hk
      by_cases f : y = g
      · subst f
        rw [eup_eq, List.mem_append]
        rintro (q | q)
        · exact c x y x0 x1 y0 y1 e2 f2 hxy k hk q
        · exact c x o x0 x1 o0 o1 e2 (by omega) e1 k hk q
      · rw [eup_ne _ _ f]
        exact c x y x0 x1 y0 y1 e2 f2 hxy k hk
  · obtain ⟨x, x0, x1, x2, x3⟩ := d k k0 k1
    simp only
    by_cases e : x = o
    · refine ⟨g, h0, h1, ?_, ?_⟩
      · rw [eup_ne _ _ hgo]
        omega
      · rw [eup_eq, List.mem_append]
        rw [e] at x3
        exact Or.inr x3
    · refine ⟨x, x0, x1, ?_, ?_⟩
      · rw [eup_ne _ _ e]
        exact x2
      · by_cases f : x = g
        · rw [f, eup_eq, List.mem_append]
          rw [f] at x3
          exact Or.inl x3
        · rw [eup_ne _ _ f]
          exact x3
/-- what a row's joining leaves as it is -/
theorem joinP_ok {s : zJ} {w L p g T : Int} (hp : 0 ≤ p) (h0 : 0 ≤ g) (h1 : g < s 18 0 6) : ∀ (l : List Int) (E : Ev) (la n : Int), EO s E p T → E.2.2 g = p → (∀ o ∈ l, 0 ≤ o ∧ o < s 18 0 6 ∧ o ≠ g) → 0 ≤ la → la ≤ T → 0 ≤ n → (joinP s w L p g l E la n).1.2.1 = E.2.1 ∧ EO s (joinP s w L p g l E la n).1 p T ∧ (joinP s w L p g l E la n).1.2.2 g = p ∧ (∀ x, (joinP s w L p g l E la n).1.2.2 x = E.2.2 x ∨ (x ∈ l ∧ (joinP s w L p g l E la n).1.2.2 x = -1)) ∧ 0 ≤ (joinP s w L p g l E la n).2.1 ∧ (joinP s w L p g l E la n).2.1 ≤ T ∧ 0 ≤ (joinP s w L p g l E la n).2.2 ∧ (joinP s w L p g l E la n).2.2 ≤ n + l.length := by
  intro l
  induction l with
  | nil =>
    intro E la n hE hg _ l0 l1 n0
    exact ⟨rfl, hE, hg, fun x => Or.inl rfl, l0, l1, n0, by simp [joinP]⟩
  | cons o r ih =>
    intro E la n hE hg hl l0 l1 n0
    have ho := hl o List.mem_cons_self
    rw [joinP]
    split
    · next hc =>
      have hb := hE.2.1 o ho.1 ho.2.1 (by omega)
      have hj := eo_join hE h0 h1 hg hp ho.1 ho.2.1 hc.1 (Ne.symm ho.2.2)
      obtain ⟨a, b, c, d, e, f, i, j⟩ := ih _ (E.2.1 o) (n + 1) hj (by simp only; rw [eup_ne _ _ (Ne.symm ho.2.2)]; exact hg) (fun x hx => hl x (List.mem_cons_of_mem _ hx)) hb.2.2.2.2.1 (hb.2.2.2.2.2.2 hc.1) (by omega)
      refine ⟨a, b, c, fun x => ?_, e, f, i, ?_⟩
      · rcases d x with q | q
        · simp only at q
          by_cases ex : x = o
          · rw [ex, eup_eq] at q
            rw [ex]
            exact Or.inr ⟨List.mem_cons_self, q⟩
          · rw [eup_ne _ _ ex] at q
            exact Or.inl q
        · exact Or.inr ⟨List.mem_cons_of_mem _ q.1, q.2⟩
      · simp only [List.length_cons]
        omega
    · obtain ⟨a, b, c, d, e, f, i, j⟩ := ih E la n hE hg (fun x hx => hl x (List.mem_cons_of_mem _ hx)) l0 l1 n0
      refine ⟨a, b, c, fun x => ?_, e, f, i, ?_⟩
      · rcases d x with q | q
        · exact Or.inl q
        · exact Or.inr ⟨List.mem_cons_of_mem _ q.1, q.2⟩
      · simp only [List.length_cons]
        omega
theorem joinB_ok {s : zJ} {b : Bool} {w L p g T : Int} (hp : 0 ≤ p) (h0 : 0 ≤ g) (h1 : g < s 18 0 6) {l : List Int} {E : Ev} (hE : EO s E p T) (hg : E.2.2 g = p) (hl : ∀ o ∈ l, 0 ≤ o ∧ o < s 18 0 6 ∧ o ≠ g) : (joinB s b w L p g l E).1.2.1 = E.2.1 ∧ EO s (joinB s b w L p g l E).1 p T ∧ (joinB s b w L p g l E).1.2.2 g = p ∧ (∀ x, (joinB s b w L p g l E).1.2.2 x = E.2.2 x ∨ (x ∈ l ∧ (joinB s b w L p g l E).1.2.2 x = -1)) ∧ 0 ≤ (joinB s b w L p g l E).2.1 ∧ (joinB s b w L p g l E).2.1 ≤ T ∧ 0 ≤ (joinB s b w L p g l E).2.2 ∧ (joinB s b w L p g l E).2.2 ≤ l.length := by
  have hb := hE.2.1 g h0 h1 (by omega)
  unfold joinB
  cases b with
  | true =>
    have := joinP_ok (w := w) (L := L) hp h0 h1 l E (E.2.1 g) 0 hE hg hl hb.2.2.2.2.1 (hb.2.2.2.2.2.2 hg) (Int.le_refl 0)
    rw [if_pos rfl]
    refine ⟨this.1, this.2.1, this.2.2.1, this.2.2.2.1, this.2.2.2.2.1, this.2.2.2.2.2.1, this.2.2.2.2.2.2.1, ?_⟩
    have := this.2.2.2.2.2.2.2
    omega
  | false =>
    rw [if_neg (by decide)]
    exact ⟨rfl, hE, hg, fun x => Or.inl rfl, hb.2.2.2.2.1, hb.2.2.2.2.2.2 hg, Int.le_refl 0, by simp⟩
/-- a row leaves p -/
theorem eo_leave {s : zJ} (hW : LW s) {E : Ev} {p T : Int} (h : EO s E p T) {g t : Int} (h0 : 0 ≤ g) (h1 : g < s 18 0 6) (h2 : E.2.2 g = p) (hp : 1 ≤ p) (hp2 : p < s 18 0 0) (t0 : 0 ≤ t) (t1 : t ≤ T + 1000) : EO s (E.1, eup E.2.1 g t, eup E.2.2 g (s 19 0 p)) p T := by
  obtain ⟨a, b, c, d⟩ := h
  have hu := lw_up hW hp hp2
  have hq := lw_p hW (p := p) (by omega) hp2
  have wh : ∀ x, (x = g ∧ eup E.2.2 g (s 19 0 p) x = s 19 0 p) ∨ (x ≠ g ∧ eup E.2.2 g (s 19 0 p) x = E.2.2 x) := by
    intro x
    by_cases e : x = g
    · exact Or.inl ⟨e, by rw [e, eup_eq]⟩
    · exact Or.inr ⟨e, eup_ne _ _ e⟩
  have live : ∀ x, 0 ≤ eup E.2.2 g (s 19 0 p) x → 0 ≤ E.2.2 x := by
    intro x hx
    rcases wh x with q | q
    · rw [q.1]
      omega
    · rw [q.2] at hx
      exact hx
  refine ⟨fun x x0 x1 => ?_, fun x x0 x1 hx => ?_, fun x y x0 x1 y0 y1 hx hy => c x y x0 x1 y0 y1 (live x hx) (live y hy), fun k k0 k1 => ?_⟩
  · simp only
    rcases wh x with q | q
    · rw [q.2]
      omega
    · rw [q.2]
      exact a x x0 x1
  · simp only at hx ⊢
    have hb := b x x0 x1 (live x hx)
    rcases wh x with q | q
    · rw [q.2, q.1, eup_eq]
      rw [q.1] at hb
      refine ⟨by omega, hb.2.1, hb.2.2.1, fun k hk => ?_, t0, t1, fun e => by omega⟩
      have hk2 := hb.2.2.2.1 k hk
      have hkk := lw_k hW hk2.1 hk2.2.1
      refine ⟨hk2.1, hk2.2.1, ?_⟩
      rw [h2] at hk2
      refine on_trans hW (by omega) (by omega) ?_ _ (by omega) (by omega) hk2.2.2
      exact (on_up hW (by omega) (by omega) hp2).mpr (on_self s _)
    · rw [q.2, eup_ne _ _ q.1]
      exact hb
  · obtain ⟨x, x0, x1, x2, x3⟩ := d k k0 k1
    refine ⟨x, x0, x1, ?_, x3⟩
    simp only
    rcases wh x with q | q
    · rw [q.2]
      omega
    · rw [q.2]
      exact x2
/-- all rows of the list have gone on -/
theorem goP_ok {s : zJ} (hW : LW s) {b : Bool} {w p T : Int} (hp : 1 ≤ p) (hp2 : p < s 18 0 0) : ∀ (l : List Int) (E : Ev), EO s E p T → (∀ o ∈ l, 0 ≤ o ∧ o < s 18 0 6) → l.Nodup → l.length ≤ 7 → (∀ x, 0 ≤ x → x < s 18 0 6 → E.2.2 x = p → x ∈ l) → EO s (goP s b w p l E) p T ∧ ∀ x, 0 ≤ x → x < s 18 0 6 → (goP s b w p l E).2.2 x ≠ p := by
  intro l
  induction l with
  | nil =>
    intro E hE _ _ _ hx
    exact ⟨hE, fun x x0 x1 e => absurd (hx x x0 x1 e) (by simp)⟩
  | cons g r ih =>
    intro E hE hl hd hlen hx
    have hg := hl g List.mem_cons_self
    have hlr : ∀ o ∈ r, 0 ≤ o ∧ o < s 18 0 6 := fun o ho => hl o (List.mem_cons_of_mem _ ho)
    rw [List.nodup_cons] at hd
    have hu := lw_up hW hp hp2
    have hq := lw_p hW (p := p) (by omega) hp2
    simp only [List.length_cons] at hlen
    rw [goP]
    split
    · next hc =>
      obtain ⟨a1, a2, a3, a4, a5, a6, a7, a8⟩ := joinB_ok (b := b) (w := w) (L := s 21 0 p) (by omega) hg.1 hg.2 hE hc fun o ho => ⟨(hlr o ho).1, (hlr o ho).2, fun e => hd.1 (by rw [← e]; exact ho)⟩
      generalize joinB s b w (s 21 0 p) p g r E = q at a1 a2 a3 a4 a5 a6 a7 a8 ⊢
      have hm1 : 0 ≤ s 23 0 p * q.2.2 := Int.mul_nonneg (by omega) a7
      have hm2 : s 23 0 p * q.2.2 ≤ 60 * 6 := Int.mul_le_mul (by omega) (by omega) a7 (by omega)
      have hlv := eo_leave hW a2 hg.1 hg.2 a3 hp hp2 (t := q.2.1 + s 23 0 p * q.2.2 + s 20 0 p) (by omega) (by omega)
      refine ih _ hlv hlr hd.2 (by omega) fun x x0 x1 e => ?_
      simp only at e
      by_cases ex : x = g
      · rw [ex, eup_eq] at e
        omega
      · rw [eup_ne _ _ ex] at e
        rcases a4 x with z | z
        · have := hx x x0 x1 (by rw [← z]; exact e)
          rw [List.mem_cons] at this
          rcases this with y | y
          · exact absurd y ex
          · exact y
        · exact z.1
    · next hc =>
      refine ih E hE hlr hd.2 (by omega) fun x x0 x1 e => ?_
      have := hx x x0 x1 e
      rw [List.mem_cons] at this
      rcases this with y | y
      · exact absurd (by rw [← y]; exact e) hc
      · exact y
theorem evs_ok {s : zJ} (hW : LW s) {w : Int → Int} {p T : Int} (hp : 1 ≤ p) (hp2 : p < s 18 0 0) {E : Ev} (hE : EO s E p T) : EO s (evs s w p E) (p - 1) (T + 1000) := by
  have hn := lw_n hW
  have h1 := goP_ok hW (b := opn s p) (w := w p) hp hp2 (ord E p (s 18 0 6).toNat) E hE (fun o ho => by
    have := mem_ord.mp ho
    omega) (nodup_ord E p _) (by have := len_ord E p (s 18 0 6).toNat; omega) (fun x x0 x1 e => mem_ord.mpr ⟨x0, by omega, e⟩)
  unfold evs
  generalize goP s (opn s p) (w p) p (ord E p (s 18 0 6).toNat) E = F at h1
  obtain ⟨⟨a, b, c, d⟩, h2⟩ := h1
  refine ⟨a, fun g g0 g1 g2 => ?_, c, d⟩
  obtain ⟨b1, b2, b3, b4, b5, b6, b7⟩ := b g g0 g1 g2
  have := h2 g g0 g1
  exact ⟨by omega, b2, b3, b4, b5, by omega, fun _ => b6⟩
theorem evD_ok {s : zJ} (hW : LW s) {w : Int → Int} : ∀ (m : Nat) (E : Ev) (T : Int), (m : Int) < s 18 0 0 → EO s E m T → EO s (evD s w m E) 0 (T + 1000 * m)
  | 0, E, T, _, hE => by
    rw [evD]
    simpa using hE
  | m + 1, E, T, hm, hE => by
    rw [evD]
    have h1 := evs_ok hW (w := w) (p := (m : Int) + 1) (by omega) (by omega) (by
      have e : ((m + 1 : Nat) : Int) = (m : Int) + 1 := by omega
      rw [e] at hE
      exact hE)
    have e1 : (m : Int) + 1 - 1 = m := by omega
    rw [e1] at h1
    have h2 := evD_ok hW (w := w) m _ _ (by omega) h1
    have e2 : T + 1000 + 1000 * (m : Int) = T + 1000 * ((m + 1 : Nat) : Int) := by omega
    rw [e2] at h2
    exact h2
theorem ev0_ok {s : zJ} (hW : LW s) {st : Int → Int} (hs : ∀ k, 0 ≤ k → k < s 18 0 6 → 0 ≤ st k ∧ st k ≤ 2000) : EO s (ev0 s st) (s 18 0 0 - 1) 2000 := by
  refine ⟨fun g g0 g1 => ?_, fun g g0 g1 _ => ?_, fun g h _ _ _ _ _ _ hgh k hk => ?_, fun k k0 k1 => ⟨k, k0, k1, ?_, by simp [ev0]⟩⟩
  · have := lw_k hW g0 g1
    show -1 ≤ s 24 0 g
    omega
  · have hk := lw_k hW g0 g1
    have hst := hs g g0 g1
    refine ⟨?_, ⟨[], rfl⟩, by simp [ev0], fun k hk2 => ?_, hst.1, by simp only [ev0]; omega, fun _ => hst.2⟩
    · show s 24 0 g ≤ _
      omega
    · simp only [ev0, List.mem_singleton] at hk2
      rw [hk2]
      exact ⟨g0, g1, on_self s _⟩
  · simp only [ev0, List.mem_singleton] at hk ⊢
    omega
  · have := lw_k hW k0 k1
    show 0 ≤ s 24 0 k
    omega
