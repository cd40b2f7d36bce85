/-! THE PLACES OF A ROW, in the walk's order; the engines that it takes -/
abbrev Vu : Type := Int × Int × Int × List Int × Int
def viW (s : zJ) (a : Int → Int) : Nat → List (Int × Int × Int) → List Vu
  | 0, _ => []
  | _ + 1, [] => []
  | n + 1, v :: r => match spl (ky s a v.1) v.1 v.2.1 v.2.2 with
    | none => []
    | some (gs, st) => (v.1, v.2.1, v.2.2, gs, st) :: viW s a n (kd3 (ky s a v.1) gs st ++ r)
/-- loads of groups -/
def gld (ld : Int → Int → Int) (p : Int) : List Int → Int → List (Int × Int)
  | [], _ => []
  | b :: r, st => (p, ld b (hdo r st)) :: gld ld p r st
def tkU (s : zJ) (a : Int → Int) (u : Vu) : List (Int × Int) := (if u.1 = 0 then [(0, lns s a u.2.1 u.2.2.1)] else []) ++ gld (lns s a) u.1 (u.2.2.2.1.drop 1) u.2.2.2.2
def tkL (s : zJ) (a : Int → Int) : List Vu → List (Int × Int)
  | [] => []
  | u :: r => tkU s a u ++ tkL s a r
/-- engines for them, one after the other -/
def enQ (s : zJ) : List (Int × Int) → Int → Option Int
  | [], tk => some tk
  | e :: r, tk => if frE s e.1 e.2 tk = -1 then none else enQ s r (tke tk (frE s e.1 e.2 tk))
def okU (s : zJ) (a : Int → Int) (u : Vu) : Prop := ¬ (s 21 0 u.1 < lns s a u.2.1 u.2.2.1) ∧ ¬ (0 < ncu u.2.2.2.1 u.2.2.2.2 u.2.2.1 ∧ (isF s u.1 && !bt (s 40 0 10) u.1) = false)
theorem enQ_app {s : zJ} : ∀ (l r : List (Int × Int)) (tk : Int), enQ s (l ++ r) tk = (enQ s l tk).bind (enQ s r)
  | [], r, tk => rfl
  | e :: l, r, tk => by
    rw [List.cons_append, enQ, enQ]
    by_cases q : frE s e.1 e.2 tk = -1
    · rw [if_pos q, if_pos q]
      rfl
    · rw [if_neg q, if_neg q, enQ_app l r]
theorem enQ_rng {s : zJ} (h : LW s) : ∀ (l : List (Int × Int)) (tk t2 : Int), 0 ≤ tk → tk < 256 → enQ s l tk = some t2 → 0 ≤ t2 ∧ t2 < 256
  | [], tk, t2, t0, t1, he => by
    have e : t2 = tk := (Option.some.inj he).symm
    rw [e]
    exact ⟨t0, t1⟩
  | e :: l, tk, t2, t0, t1, he => by
    rw [enQ] at he
    by_cases q : frE s e.1 e.2 tk = -1
    · rw [if_pos q] at he
      cases he
    · rw [if_neg q] at he
      have hf := (frE_rng h e.1 e.2 tk).resolve_left q
      have ht := (tke_ok t0 t1 hf.1 hf.2).1
      exact enQ_rng h l _ t2 ht.1 ht.2 he
theorem jeg_enQ {s : zJ} (p : Int) (ld : Int → Int → Int) : ∀ (gs : List Int) (st tk : Int), (enQ s (gld ld p gs st) tk = none ∧ (jeg s p ld gs st tk).1 = none) ∨ ∃ (es : List Int) (t2 : Int), enQ s (gld ld p gs st) tk = some t2 ∧ jeg s p ld gs st tk = (some es, t2)
  | [], st, tk => Or.inr ⟨[], tk, rfl, rfl⟩
  | b :: r, st, tk => by
    rw [gld, enQ, jeg]
    by_cases q : frE s p (ld b (hdo r st)) tk = -1
    · rw [if_pos q, if_pos q]
      exact Or.inl ⟨rfl, rfl⟩
    · rw [if_neg q, if_neg q]
      rcases jeg_enQ p ld r st (tke tk (frE s p (ld b (hdo r st)) tk)) with ⟨h1, h2⟩ | ⟨es, t2, h1, h2⟩
      · refine Or.inl ⟨h1, ?_⟩
        unfold jpre
        rw [h2]
        rfl
      · refine Or.inr ⟨frE s p (ld b (hdo r st)) tk :: es, t2, h1, ?_⟩
        rw [h2]
        rfl
theorem jhr_vi {s : zJ} {a : Int → Int} {v : It} {tk st : Int} {gs : List Int} (hsp : spl (ky s a v.1) v.1 v.2.1 v.2.2.1 = some (gs, st)) : (∃ e t2, jhr s a v tk = .inl (e, t2) ∧ (¬ okU s a (v.1, v.2.1, v.2.2.1, gs, st) ∨ enQ s (tkU s a (v.1, v.2.1, v.2.2.1, gs, st)) tk = none)) ∨ (okU s a (v.1, v.2.1, v.2.2.1, gs, st) ∧ ∃ t2 ks e0, enQ s (tkU s a (v.1, v.2.1, v.2.2.1, gs, st)) tk = some t2 ∧ jhr s a v tk = .inr (ks, t2, st, e0)) := by
  unfold jhr okU
  by_cases q1 : s 21 0 v.1 < lns s a v.2.1 v.2.2.1
  · rw [if_pos q1]
    exact Or.inl ⟨_, _, rfl, Or.inl fun z => z.1 q1⟩
  rw [if_neg q1, hsp]
  simp only
  by_cases q2 : 0 < ncu gs st v.2.2.1 ∧ (isF s v.1 && !bt (s 40 0 10) v.1) = false
  · rw [if_pos q2]
    exact Or.inl ⟨_, _, rfl, Or.inl fun z => z.2 q2⟩
  rw [if_neg q2]
  have ett : tkU s a (v.1, v.2.1, v.2.2.1, gs, st) = (if v.1 = 0 then [(0, lns s a v.2.1 v.2.2.1)] else []) ++ gld (lns s a) v.1 (gs.drop 1) st := rfl
  rw [ett]
  clear ett
  unfold jhe
  by_cases q3 : v.1 = 0
  · have e1 : enQ s ((if v.1 = 0 then [(0, lns s a v.2.1 v.2.2.1)] else []) ++ gld (lns s a) v.1 (gs.drop 1) st) tk = if frE s 0 (lns s a v.2.1 v.2.2.1) tk = -1 then none else enQ s (gld (lns s a) v.1 (gs.drop 1) st) (tke tk (frE s 0 (lns s a v.2.1 v.2.2.1) tk)) := by
      rw [if_pos q3]
      rfl
    rw [e1]
    clear e1
    by_cases q4 : frE s 0 (lns s a v.2.1 v.2.2.1) tk = -1
    · rw [if_pos ⟨q3, q4⟩, if_pos q4]
      exact Or.inl ⟨_, _, rfl, Or.inr rfl⟩
    · rcases jeg_enQ (s := s) v.1 (lns s a) (gs.drop 1) st (tke tk (frE s 0 (lns s a v.2.1 v.2.2.1) tk)) with ⟨h1, h2⟩ | ⟨es, t2, h1, h2⟩
      · cases hj : jeg s v.1 (lns s a) (gs.drop 1) st (tke tk (frE s 0 (lns s a v.2.1 v.2.2.1) tk)) with
        | mk o t2 =>
          rw [hj] at h2
          have h3 : o = none := h2
          subst h3
          rw [if_neg q4, h1, if_neg (fun z => q4 z.2), if_pos q3, hj]
          exact Or.inl ⟨_, _, rfl, Or.inr rfl⟩
      · rw [if_neg q4, h1, if_neg (fun z => q4 z.2), if_pos q3, h2]
        exact Or.inr ⟨⟨q1, q2⟩, _, _, _, rfl, rfl⟩
  · have e1 : enQ s ((if v.1 = 0 then [(0, lns s a v.2.1 v.2.2.1)] else []) ++ gld (lns s a) v.1 (gs.drop 1) st) tk = enQ s (gld (lns s a) v.1 (gs.drop 1) st) tk := by
      rw [if_neg q3]
      rfl
    rw [e1]
    clear e1
    rcases jeg_enQ (s := s) v.1 (lns s a) (gs.drop 1) st tk with ⟨h1, h2⟩ | ⟨es, t2, h1, h2⟩
    · cases hj : jeg s v.1 (lns s a) (gs.drop 1) st tk with
      | mk o t2 =>
        rw [hj] at h2
        have h3 : o = none := h2
        subst h3
        rw [h1, if_neg (fun z => q3 z.1), if_neg q3, hj]
        exact Or.inl ⟨_, _, rfl, Or.inr rfl⟩
    · rw [h1, if_neg (fun z => q3 z.1), if_neg q3, h2]
      exact Or.inr ⟨⟨q1, q2⟩, _, _, _, rfl, rfl⟩
/-- a first row is judged by what its places need -/
theorem jdW_vi {s : zJ} (h : LW s) {x : Int} (hx : cbh s x 0 ≤ 7) : ∀ (n : Nat) (l : List It) (tk : Int), 0 ≤ tk → tk < 256 → (∀ v ∈ l, Can s x v) → ((jdW s (sq s x 0) n l tk).1 = 0 ∧ (∀ u ∈ viW s (sq s x 0) n (l.map tri), okU s (sq s x 0) u) ∧ enQ s (tkL s (sq s x 0) (viW s (sq s x 0) n (l.map tri))) tk = some (jdW s (sq s x 0) n l tk).2.1) ∨ ((jdW s (sq s x 0) n l tk).1 ≠ 0 ∧ ((∃ u ∈ viW s (sq s x 0) n (l.map tri), ¬ okU s (sq s x 0) u) ∨ enQ s (tkL s (sq s x 0) (viW s (sq s x 0) n (l.map tri))) tk = none)) := by
  have hn := lw_n h
  intro n
  induction n with
  | zero =>
    intro l tk t0 t1 hl
    exact Or.inl ⟨rfl, fun u hu => (by cases hu), rfl⟩
  | succ n ih =>
    intro l tk t0 t1 hl
    cases l with
    | nil => exact Or.inl ⟨rfl, fun u hu => (by cases hu), rfl⟩
    | cons v r =>
      have hc := hl v List.mem_cons_self
      have hS := can_seg h hx hc
      obtain ⟨gs, hsp, hcn, hlo⟩ := can_spl h hx hc
      have hsp2 : spl (ky s (sq s x 0) (tri v).1) (tri v).1 (tri v).2.1 (tri v).2.2 = some (gs, pos s x v.1 + gT s x v.1 7) := hsp
      rw [List.map_cons, viW, jdW, hsp2]
      simp only
      rcases jhr_vi (s := s) (a := sq s x 0) (v := v) (tk := tk) hsp with ⟨e, t2, hj, hor⟩ | ⟨hok, t2, ks, e0, hq, hj⟩
      · have he := jhr_err hS.1.1 (by have := hS.1.2; omega) hj
        rw [hj]
        refine Or.inr ⟨by show e ≠ 0; omega, ?_⟩
        rcases hor with z | z
        · exact Or.inl ⟨_, List.mem_cons_self, z⟩
        · right
          rw [tkL, enQ_app]
          have z2 : enQ s (tkU s (sq s x 0) ((tri v).1, (tri v).2.1, (tri v).2.2, gs, pos s x v.1 + gT s x v.1 7)) tk = none := z
          rw [z2]
          rfl
      · obtain ⟨h4, h5, gs', es, hsp', hel, hes, hk⟩ := (jhr_ok h t0 t1 hS).2 ks t2 _ e0 hj
        have egs : gs' = gs := by
          have := hsp'.symm.trans hsp
          have := Option.some.inj this
          rw [Prod.mk.injEq] at this
          exact this.1
        rw [egs] at hk
        have hkc := (can_kids h hx hc hcn hlo (s 20 0) (lat (e0 :: es)) v.2.2.2.1 (if 0 < ncu gs (pos s x v.1 + gT s x v.1 7) v.2.2.1 then s 22 0 v.1 else 0)).1
        rw [← hk] at hkc
        have hmt : kd3 (ky s (sq s x 0) (tri v).1) gs (pos s x v.1 + gT s x v.1 7) ++ r.map tri = (ks ++ r).map tri := by
          rw [List.map_append, hk, kdm_tri]
          rfl
        rw [hj, hmt]
        simp only
        have := ih (ks ++ r) t2 h4.1 h4.2 (fun w hw => by
          rcases List.mem_append.mp hw with z | z
          · exact (hkc w z).1
          · exact hl w (List.mem_cons_of_mem _ z))
        have ee : enQ s (tkL s (sq s x 0) (((tri v).1, (tri v).2.1, (tri v).2.2, gs, pos s x v.1 + gT s x v.1 7) :: viW s (sq s x 0) n ((ks ++ r).map tri))) tk = enQ s (tkL s (sq s x 0) (viW s (sq s x 0) n ((ks ++ r).map tri))) t2 := by
          have hq2 : enQ s (tkU s (sq s x 0) ((tri v).1, (tri v).2.1, (tri v).2.2, gs, pos s x v.1 + gT s x v.1 7)) tk = some t2 := hq
          rw [tkL, enQ_app, hq2]
          rfl
        rcases this with ⟨a1, a2, a3⟩ | ⟨a1, a2⟩
        · refine Or.inl ⟨a1, fun u hu => ?_, by rw [ee]; exact a3⟩
          rcases List.mem_cons.mp hu with z | z
          · rw [z]
            exact hok
          · exact a2 u z
        · refine Or.inr ⟨a1, ?_⟩
          rcases a2 with ⟨u, hu, z⟩ | z
          · exact Or.inl ⟨u, List.mem_cons_of_mem _ hu, z⟩
          · exact Or.inr (by rw [ee]; exact z)
/-- what the walk sees of a place -/
def Vis (s : zJ) (x : Int) (u : Vu) : Prop := (0 ≤ u.1 ∧ u.1 < s 18 0 0) ∧ hd s x u.1 < 7 ∧ u.2.1 = pos s x u.1 ∧ u.2.2.1 = pos s x u.1 + cbh s x u.1 ∧ u.2.2.2.2 = pos s x u.1 + gT s x u.1 7 ∧ (u.2.2.2.1.length : Int) = gro s x u.1
theorem can_nd {s : zJ} (h : LW s) {x : Int} {v : It} (hx : cbh s x 0 ≤ 7) (hc : Can s x v) {gs : List Int} (hcn : Chn (ky s (sq s x 0) v.1) v.1 v.2.2.1 gs (pos s x v.1 + gT s x v.1 7)) (hlo : hdo gs (pos s x v.1 + gT s x v.1 7) = v.2.1) (up en : Int → Int) (mi gap : Int) : ((kdm (ky s (sq s x 0) v.1) up en mi gap gs (pos s x v.1 + gT s x v.1 7) 0).map fun w => w.1).Nodup := by
  obtain ⟨k1, k2⟩ := can_kids h hx hc hcn hlo up en mi gap
  have hin := kdm_inc (ky s (sq s x 0) v.1) up en mi gap gs (pos s x v.1 + gT s x v.1 7) 0 hcn
  unfold List.Nodup
  rw [List.pairwise_map]
  refine List.Pairwise.imp_of_mem (fun {a b} ha hb hab e => ?_) hin
  obtain ⟨⟨_, a7, a1, a2⟩, _⟩ := k1 a ha
  obtain ⟨⟨⟨b0, b1⟩, b7, b2, b3⟩, _⟩ := k1 b hb
  have := (hd_cbh h x b0 b1).1.mp b7
  rw [a2, b2, e] at hab
  omega
theorem viW_st {s : zJ} (h : LW s) {x : Int} (hx : cbh s x 0 ≤ 7) (n : Nat) {v : It} {r : List It} (hc : Can s x v) : ∃ gs : List Int, viW s (sq s x 0) (n + 1) ((v :: r).map tri) = (v.1, v.2.1, v.2.2.1, gs, pos s x v.1 + gT s x v.1 7) :: viW s (sq s x 0) n ((kdm (ky s (sq s x 0) v.1) (fun _ => 0) (fun _ => 0) 0 0 gs (pos s x v.1 + gT s x v.1 7) 0 ++ r).map tri) ∧ Chn (ky s (sq s x 0) v.1) v.1 v.2.2.1 gs (pos s x v.1 + gT s x v.1 7) ∧ hdo gs (pos s x v.1 + gT s x v.1 7) = v.2.1 ∧ Vis s x (v.1, v.2.1, v.2.2.1, gs, pos s x v.1 + gT s x v.1 7) := by
  obtain ⟨gs, hsp, hcn, hlo⟩ := can_spl h hx hc
  have hsp2 : spl (ky s (sq s x 0) (tri v).1) (tri v).1 (tri v).2.1 (tri v).2.2 = some (gs, pos s x v.1 + gT s x v.1 7) := hsp
  refine ⟨gs, ?_, hcn, hlo, hc.1, hc.2.1, hc.2.2.1, hc.2.2.2, rfl, can_gro h hx hc hcn hlo⟩
  rw [List.map_cons, viW, hsp2, List.map_append, kdm_tri]
  rfl
theorem can_app {s : zJ} (h : LW s) {x : Int} (hx : cbh s x 0 ≤ 7) {v : It} {r : List It} (hl : ∀ w ∈ v :: r, Can s x w) {gs : List Int} (hcn : Chn (ky s (sq s x 0) v.1) v.1 v.2.2.1 gs (pos s x v.1 + gT s x v.1 7)) (hlo : hdo gs (pos s x v.1 + gT s x v.1 7) = v.2.1) (up en : Int → Int) (mi gap : Int) : ∀ w ∈ kdm (ky s (sq s x 0) v.1) up en mi gap gs (pos s x v.1 + gT s x v.1 7) 0 ++ r, Can s x w := fun w hw => by
  rcases List.mem_append.mp hw with z | z
  · exact ((can_kids h hx (hl v List.mem_cons_self) hcn hlo up en mi gap).1 w z).1
  · exact hl w (List.mem_cons_of_mem _ z)
theorem viW_mem {s : zJ} (h : LW s) {x : Int} (hx : cbh s x 0 ≤ 7) : ∀ (n : Nat) (l : List It), (∀ v ∈ l, Can s x v) → ∀ u ∈ viW s (sq s x 0) n (l.map tri), Vis s x u := by
  intro n
  induction n with
  | zero =>
    intro l hl u hu
    cases hu
  | succ n ih =>
    intro l hl u hu
    cases l with
    | nil => cases hu
    | cons v r =>
      obtain ⟨gs, he, hcn, hlo, hv⟩ := viW_st h hx n (r := r) (hl v List.mem_cons_self)
      rw [he] at hu
      rcases List.mem_cons.mp hu with z | z
      · rw [z]
        exact hv
      · exact ih _ (can_app h hx hl hcn hlo _ _ _ _) u z
/-- how often a place is seen -/
def vct (q : Int) : List Vu → Int
  | [] => 0
  | u :: r => zb (decide (u.1 = q)) + vct q r
def ict (s : zJ) (q : Int) : List It → Int
  | [] => 0
  | v :: r => zb (onb s v.1 q) + ict s q r
theorem ict_app (s : zJ) (q : Int) : ∀ (l r : List It), ict s q (l ++ r) = ict s q l + ict s q r
  | [], r => (Int.zero_add _).symm
  | v :: l, r => by
    rw [List.cons_append, ict, ict, ict_app s q l r]
    omega
theorem ict_zero {s : zJ} {q : Int} : ∀ (l : List It), (∀ v ∈ l, onb s v.1 q = false) → ict s q l = 0
  | [], _ => rfl
  | v :: l, hh => by
    rw [ict, hh v List.mem_cons_self, ict_zero l fun w hw => hh w (List.mem_cons_of_mem _ hw)]
    rfl
theorem ict_one {s : zJ} {q c : Int} (ho : onb s c q = true) : ∀ (l : List It), (l.map fun w => w.1).Nodup → c ∈ l.map (fun w => w.1) → (∀ v ∈ l, v.1 ≠ c → onb s v.1 q = false) → ict s q l = 1
  | [], _, hm, _ => by cases hm
  | v :: l, hn, hm, hh => by
    rw [List.map_cons, List.nodup_cons] at hn
    rw [ict]
    by_cases e : v.1 = c
    · rw [e, ho, ict_zero l fun w hw => hh w (List.mem_cons_of_mem _ hw) fun z => hn.1 (by rw [e, ← z]; exact List.mem_map_of_mem hw)]
      rfl
    · rw [hh v List.mem_cons_self e]
      rcases List.mem_cons.mp hm with z | z
      · exact absurd z.symm e
      · rw [ict_one ho l hn.2 z fun w hw => hh w (List.mem_cons_of_mem _ hw)]
        rfl
theorem can_ict {s : zJ} (h : LW s) {x : Int} {v : It} (hx : cbh s x 0 ≤ 7) (hc : Can s x v) {gs : List Int} (hcn : Chn (ky s (sq s x 0) v.1) v.1 v.2.2.1 gs (pos s x v.1 + gT s x v.1 7)) (hlo : hdo gs (pos s x v.1 + gT s x v.1 7) = v.2.1) (up en : Int → Int) (mi gap : Int) {q : Int} (q0 : 0 ≤ q) (q1 : q < s 18 0 0) (hq : hd s x q < 7) : zb (decide (v.1 = q)) + ict s q (kdm (ky s (sq s x 0) v.1) up en mi gap gs (pos s x v.1 + gT s x v.1 7) 0) = zb (onb s v.1 q) := by
  obtain ⟨k1, k2⟩ := can_kids h hx hc hcn hlo up en mi gap
  have hnd := can_nd h hx hc hcn hlo up en mi gap
  obtain ⟨⟨p0, p1⟩, _⟩ := id hc
  rcases kid_one h p0 p1 q0 q1 with ⟨⟨h1, h2⟩, c, c0, c1, hk, ho, hu⟩ | ⟨h1, h2⟩
  · have hc7 : hd s x c < 7 := by
      obtain ⟨k, k0, kk, kb, ko⟩ := (hd_has h x q0 q1).mp hq
      have hkk := lw_k h k0 kk
      exact (hd_has h x c0 c1).mpr ⟨k, k0, kk, kb, on_trans h c0 (on_le h c0 q q0 q1 ho) ho _ (by omega) (by omega) ko⟩
    obtain ⟨w, hw, ew⟩ := k2 c c0 c1 hk hc7
    rw [ict_one (onb_t.mpr ho) _ hnd (List.mem_map.mpr ⟨w, hw, ew⟩) (fun v' hv' hne => by
      rw [← Bool.not_eq_true, onb_t]
      intro z
      obtain ⟨⟨⟨w0, w1⟩, _⟩, wk⟩ := k1 v' hv'
      exact hu v'.1 w0 w1 hne ⟨wk, z⟩), onb_t.mpr h1, decide_eq_false (fun z => h2 z.symm)]
    rfl
  · rw [ict_zero _ (fun v' hv' => by
      rw [← Bool.not_eq_true, onb_t]
      intro z
      obtain ⟨⟨⟨w0, w1⟩, _⟩, wk⟩ := k1 v' hv'
      exact h2 v'.1 w0 w1 ⟨wk, z⟩)]
    by_cases e : v.1 = q
    · rw [decide_eq_true e, ← e, onb_t.mpr (on_self s v.1)]
      rfl
    · have : onb s v.1 q = false := by
        rw [← Bool.not_eq_true, onb_t]
        intro z
        exact h1 ⟨z, fun y => e y.symm⟩
      rw [this, decide_eq_false e]
      rfl
theorem can_its {s : zJ} (h : LW s) {x : Int} (hx : cbh s x 0 ≤ 7) {l : List It} (hl : ∀ v ∈ l, Can s x v) : Its s (sq s x 0) l := fun v hv => can_seg h hx (hl v hv)
theorem can_mus {s : zJ} (h : LW s) {x : Int} {v : It} (hx : cbh s x 0 ≤ 7) (hc : Can s x v) {gs : List Int} (hcn : Chn (ky s (sq s x 0) v.1) v.1 v.2.2.1 gs (pos s x v.1 + gT s x v.1 7)) (hlo : hdo gs (pos s x v.1 + gT s x v.1 7) = v.2.1) (up en : Int → Int) (mi gap : Int) : mus (kdm (ky s (sq s x 0) v.1) up en mi gap gs (pos s x v.1 + gT s x v.1 7) 0) + 1 ≤ (12 - v.1) * (v.2.2.1 - v.2.1) ∧ lens (kdm (ky s (sq s x 0) v.1) up en mi gap gs (pos s x v.1 + gT s x v.1 7) 0) = gT s x v.1 7 := by
  have hn := lw_n h
  have hS := can_seg h hx hc
  obtain ⟨⟨p0, p1⟩, ⟨l0, l1, l2⟩, hrow⟩ := id hS
  have hcl := chn_len hcn
  obtain ⟨i1, i2, i3⟩ := kdm_ok h hS up en mi gap gs _ 0 hcn (by omega)
  have hlo2 := hc.2.2.1
  have hmm : (11 - v.1) * (pos s x v.1 + gT s x v.1 7 - hdo gs (pos s x v.1 + gT s x v.1 7)) ≤ (11 - v.1) * (v.2.2.1 - v.2.1) := Int.mul_le_mul_of_nonneg_left (by omega) (by omega)
  have hm2 : (12 - v.1) * (v.2.2.1 - v.2.1) = (11 - v.1) * (v.2.2.1 - v.2.1) + (v.2.2.1 - v.2.1) := by
    have e : 12 - v.1 = (11 - v.1) + 1 := by omega
    rw [e, Int.add_mul, Int.one_mul]
  omega
/-- each place is seen once -/
theorem viW_ct {s : zJ} (h : LW s) {x : Int} (hx : cbh s x 0 ≤ 7) {q : Int} (q0 : 0 ≤ q) (q1 : q < s 18 0 0) (hq : hd s x q < 7) : ∀ (n : Nat) (l : List It), (∀ v ∈ l, Can s x v) → mus l ≤ n → vct q (viW s (sq s x 0) n (l.map tri)) = ict s q l := by
  intro n
  induction n with
  | zero =>
    intro l hl hm
    rw [mus_nil h (can_its h hx hl) (by omega)]
    rfl
  | succ n ih =>
    intro l hl hm
    cases l with
    | nil => rfl
    | cons v r =>
      have hc := hl v List.mem_cons_self
      obtain ⟨gs, he, hcn, hlo, hv⟩ := viW_st h hx n (r := r) hc
      have hmu := (can_mus h hx hc hcn hlo (fun _ => 0) (fun _ => 0) 0 0).1
      have hml : mus (v :: r) = (12 - v.1) * (v.2.2.1 - v.2.1) + mus r := rfl
      have hic := can_ict h hx hc hcn hlo (fun _ => 0) (fun _ => 0) 0 0 q0 q1 hq
      rw [he, vct, ih _ (can_app h hx hl hcn hlo _ _ _ _) (by rw [mus_app]; omega), ict_app, ict, ← hic]
      show zb (decide (v.1 = q)) + _ = _
      omega
/-- engines taken at a place -/
def tct (q : Int) : List (Int × Int) → Int
  | [] => 0
  | e :: r => zb (decide (e.1 = q)) + tct q r
theorem tct_app (q : Int) : ∀ (l r : List (Int × Int)), tct q (l ++ r) = tct q l + tct q r
  | [], r => (Int.zero_add _).symm
  | v :: l, r => by
    rw [List.cons_append, tct, tct, tct_app q l r]
    omega
theorem tct_nn (q : Int) : ∀ (l : List (Int × Int)), 0 ≤ tct q l ∧ tct q l ≤ l.length
  | [] => ⟨Int.le_refl _, Int.le_refl _⟩
  | v :: l => by
    have := tct_nn q l
    rw [tct, List.length_cons]
    have : 0 ≤ zb (decide (v.1 = q)) ∧ zb (decide (v.1 = q)) ≤ 1 := by
      cases decide (v.1 = q) <;> decide
    omega
theorem gld_len (ld : Int → Int → Int) (p : Int) : ∀ (gs : List Int) (st : Int), (gld ld p gs st).length = gs.length
  | [], _ => rfl
  | b :: r, st => by rw [gld, List.length_cons, List.length_cons, gld_len ld p r st]
theorem gld_tct (ld : Int → Int → Int) (p q : Int) : ∀ (gs : List Int) (st : Int), tct q (gld ld p gs st) = if p = q then (gs.length : Int) else 0
  | [], _ => by
    rw [gld, tct]
    split <;> rfl
  | b :: r, st => by
    rw [gld, tct, gld_tct ld p q r st, List.length_cons]
    by_cases e : p = q
    · rw [if_pos e, if_pos e, decide_eq_true e]
      show (1 : Int) + _ = _
      omega
    · rw [if_neg e, if_neg e, decide_eq_false e]
      rfl
def tcx (s : zJ) (x q : Int) : Int := zb (decide (q = 0)) + (if 0 < gro s x q then gro s x q - 1 else 0)
theorem tkU_len {s : zJ} {a : Int → Int} (u : Vu) : ((tkU s a u).length : Int) = zb (decide (u.1 = 0)) + ((u.2.2.2.1.drop 1).length : Nat) := by
  unfold tkU
  rw [List.length_append, gld_len]
  by_cases e : u.1 = 0
  · rw [if_pos e, decide_eq_true e]
    show ((1 + _ : Nat) : Int) = 1 + _
    omega
  · rw [if_neg e, decide_eq_false e]
    show ((0 + _ : Nat) : Int) = 0 + _
    omega
theorem tkU_tct {s : zJ} {a : Int → Int} {x : Int} {u : Vu} (hv : Vis s x u) (q : Int) : tct q (tkU s a u) = if u.1 = q then tcx s x q else 0 := by
  have hg := hv.2.2.2.2.2
  have hd1 : ((u.2.2.2.1.drop 1).length : Int) = if 0 < gro s x u.1 then gro s x u.1 - 1 else 0 := by
    rw [List.length_drop]
    split <;> omega
  unfold tkU tcx
  rw [tct_app, gld_tct]
  by_cases e : u.1 = q
  · rw [if_pos e, if_pos e, hd1, e]
    by_cases e0 : q = 0
    · rw [if_pos e0, decide_eq_true e0, tct, tct]
      show zb (decide ((0 : Int) = q)) + 0 + _ = _
      rw [decide_eq_true e0.symm]
      omega
    · rw [if_neg e0, decide_eq_false e0, tct]
      rfl
  · rw [if_neg e, if_neg e]
    by_cases e0 : u.1 = 0
    · rw [if_pos e0, tct, tct]
      show zb (decide ((0 : Int) = q)) + 0 + _ = _
      rw [decide_eq_false (fun z => e (by rw [e0]; exact z))]
      rfl
    · rw [if_neg e0, tct]
      rfl
theorem tkL_tct {s : zJ} {a : Int → Int} {x : Int} (q : Int) : ∀ (L : List Vu), (∀ u ∈ L, Vis s x u) → tct q (tkL s a L) = vct q L * tcx s x q
  | [], _ => (Int.zero_mul _).symm
  | u :: r, hv => by
    rw [tkL, tct_app, tkU_tct (hv u List.mem_cons_self), tkL_tct q r fun w hw => hv w (List.mem_cons_of_mem _ hw), vct, Int.add_mul]
    by_cases e : u.1 = q
    · rw [if_pos e, decide_eq_true e]
      show _ = 1 * _ + _
      omega
    · rw [if_neg e, decide_eq_false e]
      show _ = 0 * _ + _
      omega
/-- never more engines than portions -/
theorem tkL_len {s : zJ} (h : LW s) {x : Int} (hx : cbh s x 0 ≤ 7) : ∀ (n : Nat) (l : List It), (∀ v ∈ l, Can s x v) → ((tkL s (sq s x 0) (viW s (sq s x 0) n (l.map tri))).length : Int) + l.length ≤ lens l + vct 0 (viW s (sq s x 0) n (l.map tri)) := by
  intro n
  induction n with
  | zero =>
    intro l hl
    have := lens_ge (can_its h hx hl)
    show (0 : Int) + l.length ≤ lens l + 0
    omega
  | succ n ih =>
    intro l hl
    cases l with
    | nil => exact Int.le_refl 0
    | cons v r =>
      have hc := hl v List.mem_cons_self
      obtain ⟨gs, he, hcn, hlo, hv⟩ := viW_st h hx n (r := r) hc
      have hmu := (can_mus h hx hc hcn hlo (fun _ => 0) (fun _ => 0) 0 0).2
      have hml : lens (v :: r) = (v.2.2.1 - v.2.1) + lens r := rfl
      have hS := can_seg h hx hc
      obtain ⟨⟨p0, p1⟩, ⟨l0, l1, l2⟩, hrow⟩ := id hS
      have hcl := chn_len hcn
      have h7 := gT_7 h x p0 p1
      have hs := sty_nn s x v.1
      have i := ih _ (can_app h hx hl hcn hlo (fun _ => 0) (fun _ => 0) 0 0)
      rw [List.length_append, lens_app, kdm_len, hmu] at i
      rw [he, tkL, vct, List.length_append, hml, List.length_cons]
      have hu := tkU_len (s := s) (a := sq s x 0) (v.1, v.2.1, v.2.2.1, gs, pos s x v.1 + gT s x v.1 7)
      have hu2 : ((tkU s (sq s x 0) (v.1, v.2.1, v.2.2.1, gs, pos s x v.1 + gT s x v.1 7)).length : Int) = zb (decide (v.1 = 0)) + ((gs.drop 1).length : Nat) := hu
      have hd1 : (gs.drop 1).length = gs.length - 1 := List.length_drop
      have e1 := hc.2.2.1
      have e2 := hc.2.2.2
      have hnil : gs.length = 0 → gT s x v.1 7 = 0 := fun z => by
        cases gs with
        | nil =>
          have : pos s x v.1 + gT s x v.1 7 = v.2.1 := hlo
          omega
        | cons b r2 => cases z
      show _ ≤ _ + (zb (decide (v.1 = 0)) + _)
      generalize zb (decide (v.1 = 0)) = z0 at *
      rw [Int.natCast_add, hu2]
      omega
