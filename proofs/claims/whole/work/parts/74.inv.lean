/-! WHAT HOLDS BETWEEN OPERATIONS: the class's land, tree and plan are well, the model's cells say the same -/
/-- a plan that is well: cells 40 to 51 (40: trains 0, jobs 5, shut 10; 41 minute, 42 size, 43 row, 44 train of a portion, 45 to 48 jobs, 49 wait, 50 days, 51 start) -/
def PW (s : zJ) : Prop :=
  (0 ≤ s 40 0 0 ∧ s 40 0 0 ≤ 4 ∧ 0 ≤ s 40 0 5 ∧ s 40 0 5 ≤ 14 ∧ 0 ≤ s 40 0 10 ∧ s 40 0 10 < 4096) ∧
  (∀ t, 0 ≤ t → t < s 40 0 0 → 0 ≤ s 41 0 t ∧ s 41 0 t ≤ 1439 ∧ 0 ≤ s 42 0 t ∧ s 42 0 t ≤ s 18 0 6) ∧
  (∀ t i, 0 ≤ t → t < s 40 0 0 → 0 ≤ i → i < s 42 0 t → 0 ≤ s 43 0 (t * 7 + i) ∧ s 43 0 (t * 7 + i) < s 18 0 6 ∧ s 44 0 (s 43 0 (t * 7 + i)) = t) ∧
  (∀ t i j, 0 ≤ t → t < s 40 0 0 → 0 ≤ i → i < j → j < s 42 0 t → s 43 0 (t * 7 + i) ≠ s 43 0 (t * 7 + j)) ∧
  (∀ k, 0 ≤ k → k < s 18 0 6 → -1 ≤ s 44 0 k ∧ s 44 0 k < s 40 0 0 ∧ (0 ≤ s 44 0 k → ∃ i, 0 ≤ i ∧ i < s 42 0 (s 44 0 k) ∧ s 43 0 (s 44 0 k * 7 + i) = k)) ∧
  (0 < s 40 0 0 → 0 < s 18 0 0) ∧
  (∀ j, 0 ≤ j → j < s 40 0 5 → 0 ≤ s 45 0 j ∧ s 45 0 j < s 18 0 0 ∧ 0 ≤ s 47 0 j ∧ s 47 0 j < s 18 0 0 ∧ 0 ≤ s 46 0 j ∧ s 46 0 j < s 48 0 j ∧ s 48 0 j ≤ 2879 ∧ way s (s 45 0 j) (s 47 0 j) ≤ s 48 0 j - s 46 0 j) ∧
  (∀ p, 0 ≤ p → p < 12 → 0 ≤ s 49 0 p ∧ s 49 0 p ≤ 60) ∧
  (∀ k, 0 ≤ k → k < 7 → 0 ≤ s 50 0 k ∧ s 50 0 k ≤ 127 ∧ 0 ≤ s 51 0 k ∧ s 51 0 k ≤ 1439)
theorem pw_n {s : zJ} (h : PW s) : 0 ≤ s 40 0 0 ∧ s 40 0 0 ≤ 4 ∧ 0 ≤ s 40 0 5 ∧ s 40 0 5 ≤ 14 ∧ 0 ≤ s 40 0 10 ∧ s 40 0 10 < 4096 := h.1
theorem pw_t {s : zJ} (h : PW s) {t : Int} (h0 : 0 ≤ t) (h1 : t < s 40 0 0) : 0 ≤ s 41 0 t ∧ s 41 0 t ≤ 1439 ∧ 0 ≤ s 42 0 t ∧ s 42 0 t ≤ s 18 0 6 := h.2.1 t h0 h1
theorem pw_r {s : zJ} (h : PW s) {t i : Int} (h0 : 0 ≤ t) (h1 : t < s 40 0 0) (g0 : 0 ≤ i) (g1 : i < s 42 0 t) : 0 ≤ s 43 0 (t * 7 + i) ∧ s 43 0 (t * 7 + i) < s 18 0 6 ∧ s 44 0 (s 43 0 (t * 7 + i)) = t := h.2.2.1 t i h0 h1 g0 g1
theorem pw_d {s : zJ} (h : PW s) {t i j : Int} (h0 : 0 ≤ t) (h1 : t < s 40 0 0) (g0 : 0 ≤ i) (g1 : i < j) (g2 : j < s 42 0 t) : s 43 0 (t * 7 + i) ≠ s 43 0 (t * 7 + j) := h.2.2.2.1 t i j h0 h1 g0 g1 g2
theorem pw_k {s : zJ} (h : PW s) {k : Int} (h0 : 0 ≤ k) (h1 : k < s 18 0 6) : -1 ≤ s 44 0 k ∧ s 44 0 k < s 40 0 0 ∧ (0 ≤ s 44 0 k → ∃ i, 0 ≤ i ∧ i < s 42 0 (s 44 0 k) ∧ s 43 0 (s 44 0 k * 7 + i) = k) := h.2.2.2.2.1 k h0 h1
theorem pw_l {s : zJ} (h : PW s) (h0 : 0 < s 40 0 0) : 0 < s 18 0 0 := h.2.2.2.2.2.1 h0
theorem pw_j {s : zJ} (h : PW s) {j : Int} (h0 : 0 ≤ j) (h1 : j < s 40 0 5) : 0 ≤ s 45 0 j ∧ s 45 0 j < s 18 0 0 ∧ 0 ≤ s 47 0 j ∧ s 47 0 j < s 18 0 0 ∧ 0 ≤ s 46 0 j ∧ s 46 0 j < s 48 0 j ∧ s 48 0 j ≤ 2879 ∧ way s (s 45 0 j) (s 47 0 j) ≤ s 48 0 j - s 46 0 j := h.2.2.2.2.2.2.1 j h0 h1
theorem pw_w {s : zJ} (h : PW s) {p : Int} (h0 : 0 ≤ p) (h1 : p < 12) : 0 ≤ s 49 0 p ∧ s 49 0 p ≤ 60 := h.2.2.2.2.2.2.2.1 p h0 h1
theorem pw_e {s : zJ} (h : PW s) {k : Int} (h0 : 0 ≤ k) (h1 : k < 7) : 0 ≤ s 50 0 k ∧ s 50 0 k ≤ 127 ∧ 0 ≤ s 51 0 k ∧ s 51 0 k ≤ 1439 := h.2.2.2.2.2.2.2.2 k h0 h1
/-- the model's land -/
def ML (s J : zJ) : Prop :=
  (J 144 0 0 = s 18 0 0 ∧ J 144 0 1 = s 18 0 6 ∧ J 144 0 2 = s 18 0 11 ∧ J 144 0 3 = s 18 0 14) ∧
  (∀ p, 0 ≤ p → p < s 18 0 0 → J 145 p 0 = (if p = 0 then -1 else s 19 0 p) ∧ J 145 p 1 = s 20 0 p ∧ J 145 p 2 = s 21 0 p ∧ J 145 p 3 = s 22 0 p ∧ J 145 p 4 = s 23 0 p) ∧
  (∀ k, 0 ≤ k → k < s 18 0 6 → J 170 k 0 = s 24 0 k ∧ J 170 k 1 = s 25 0 k ∧ J 170 k 2 = s 26 0 k ∧ J 170 k 3 = s 27 0 k) ∧
  (∀ e, 0 ≤ e → e < s 18 0 11 → J 187 e 0 = s 28 0 e ∧ J 187 e 1 = s 29 0 e) ∧
  (∀ w, 0 ≤ w → w < s 18 0 14 → J 204 w 0 = s 30 0 w ∧ J 204 w 1 = s 31 0 w ∧ J 204 w 2 = s 32 0 w)
/-- the model's plan, or an image of it -/
def MP (s : zJ) (tr jb : Int) (rm lv sh wt ev dy : Int → Int) (rw jo : Int → Int → Int) : Prop :=
  tr = s 40 0 0 ∧ jb = s 40 0 5 ∧
  (∀ t, 0 ≤ t → t < s 40 0 0 → rm t = s 42 0 t ∧ lv t = s 41 0 t ∧ ∀ i, 0 ≤ i → i < s 42 0 t → rw t i = s 43 0 (t * 7 + i)) ∧
  (∀ p, 0 ≤ p → p < 12 → sh p = zb (bt (s 40 0 10) p) ∧ wt p = s 49 0 p) ∧
  (∀ k, 0 ≤ k → k < s 18 0 6 → ev k = s 51 0 k ∧ dy k = s 50 0 k) ∧
  (∀ j, 0 ≤ j → j < s 40 0 5 → jo j 0 = s 45 0 j ∧ jo j 1 = s 46 0 j ∧ jo j 2 = s 47 0 j ∧ jo j 3 = s 48 0 j)
def MC (s J : zJ) : Prop := MP s (J 142 0 15) (J 142 0 16) (J 234 0) (J 235 0) (J 236 0) (J 237 0) (J 238 0) (J 239 0) (J 229) (J 240)
/-- a memory whose plan is the image i -/
def shf (J : zJ) (i : Nat) : zJ := fun c => if 40 ≤ c ∧ c ≤ 51 then J (c + 13 + 12 * i) else J c
def MJ (J : zJ) (i : Nat) : Prop := MP (shf J i) (J 557 i 0) (J 557 i 1) (fun t => J 557 i (2 + t)) (fun t => J 557 i (6 + t)) (fun p => J 557 i (10 + p)) (fun p => J 557 i (22 + p)) (fun k => J 557 i (34 + k)) (fun k => J 557 i (42 + k)) (fun t k => J 557 i (50 + t * 8 + k)) (fun j c => J 557 i (82 + j * 4 + c))
/-- the tape -/
def TP (J : zJ) : Prop := 0 ≤ J 0 0 1 ∧ J 0 0 1 ≤ 500 ∧ J 142 0 1 = J 0 0 1 ∧ ∀ k, 0 ≤ k → k < J 0 0 1 → 0 ≤ J 143 0 k ∧ J 143 0 k < 256 ∧ J 1 0 k = (if J 143 0 k < 128 then J 143 0 k else J 143 0 k - 256)
/-- all that isn't the grouping's -/
def In (J : zJ) : Prop := LW J ∧ TW J ∧ PW J ∧ ML J J ∧ MC J J ∧ TP J ∧ (zin (J 0 0 2) ∧ J 142 0 3 = J 0 0 2 ∧ J 142 0 14 = (if 0 < J 18 0 0 then 1 else 0)) ∧ (0 ≤ J 0 0 8 ∧ J 0 0 8 ≤ 3 ∧ J 142 0 17 = J 0 0 8 ∧ ∀ i : Nat, (i : Int) < J 0 0 8 → PW (shf J i) ∧ MJ J i)
/-- what the grouping keeps, G, speaks of land and tree, of the trains' number and minutes, of what is shut, and of its own cells alone; what is known may be forgotten -/
def GOk (G : zJ → zK → Prop) : Prop :=
  (∀ (J J' : zJ) (K K' : zK), G J K → (∀ b, 18 ≤ b → b ≤ 39 → J' b = J b) → J' 40 0 0 = J 40 0 0 → J' 40 0 10 = J 40 0 10 → (∀ t, 0 ≤ t → t < J 40 0 0 → J' 41 0 t = J 41 0 t) → (∀ b, 106 ≤ b → b ≤ 113 → J' b = J b) → J' 105 0 5 = J 105 0 5 → J' 105 0 13 = J 105 0 13 → K' 112 = K 112 → G J' K') ∧
  (∀ (J J' : zJ) (K K' : zK), G J K → (∀ b, 18 ≤ b → b ≤ 39 → J' b = J b) → (∀ b, 106 ≤ b → b ≤ 112 → J' b = J b) → J' 105 0 5 = (if 1 < J 105 0 5 then 1 else J 105 0 5) → K' 112 = K 112 → G J' K') ∧
  (∀ (J : zJ) (K : zK), J 105 0 5 = 0 → G J K) ∧
  (∀ (J : zJ) (K : zK), G J K → 0 ≤ J 105 0 5 ∧ J 105 0 5 ≤ 2)
def Inv (G : zJ → zK → Prop) (J : zJ) (K : zK) : Prop := In J ∧ G J K
/-- the class's cells that no question changes -/
def FrC (J J' : zJ) : Prop := ∀ b, b < 89 ∨ (105 ≤ b ∧ b ≤ 113) ∨ 141 < b → J' b = J b
/-- the model's -/
def FrM (J J' : zJ) : Prop := (∀ b, b ≠ 142 → b < 255 ∨ 556 < b → J' b = J b) ∧ J' 142 0 1 = J 142 0 1 ∧ J' 142 0 3 = J 142 0 3 ∧ J' 142 0 14 = J 142 0 14 ∧ J' 142 0 15 = J 142 0 15 ∧ J' 142 0 16 = J 142 0 16 ∧ J' 142 0 17 = J 142 0 17
theorem fm_rfl (J : zJ) : FrM J J := ⟨fun _ _ _ => rfl, rfl, rfl, rfl, rfl, rfl, rfl⟩
theorem fm_tr {J J1 J2 : zJ} (h1 : FrM J J1) (h2 : FrM J1 J2) : FrM J J2 := ⟨fun b a c => (h2.1 b a c).trans (h1.1 b a c), h2.2.1.trans h1.2.1, h2.2.2.1.trans h1.2.2.1, h2.2.2.2.1.trans h1.2.2.2.1, h2.2.2.2.2.1.trans h1.2.2.2.2.1, h2.2.2.2.2.2.1.trans h1.2.2.2.2.2.1, h2.2.2.2.2.2.2.trans h1.2.2.2.2.2.2⟩
theorem fm_fr {J J1 J2 : zJ} (h1 : FrM J J1) {a b : Nat} (h : Fr a b J1 J2) (ha : 255 ≤ a) (hb : b ≤ 556) : FrM J J2 := by
  have e := h 142 (Or.inl (by omega))
  exact ⟨fun c h2 h3 => (h c (by omega)).trans (h1.1 c h2 h3), by rw [e]; exact h1.2.1, by rw [e]; exact h1.2.2.1, by rw [e]; exact h1.2.2.2.1, by rw [e]; exact h1.2.2.2.2.1, by rw [e]; exact h1.2.2.2.2.2.1, by rw [e]; exact h1.2.2.2.2.2.2⟩
theorem fm_up {J J1 : zJ} (h1 : FrM J J1) {a : Nat} (ha : 255 ≤ a) (hb : a ≤ 556) (i k v : Int) : FrM J (zup J1 a i k v) := fm_fr h1 (fr_up (fr_rfl a a J1) (Nat.le_refl a) (Nat.le_refl a) i k v) ha hb
/-- a field of the model that isn't kept -/
theorem fm_fd {J J1 : zJ} (h1 : FrM J J1) {k : Int} (hk : k ≠ 1 ∧ k ≠ 3 ∧ k ≠ 14 ∧ k ≠ 15 ∧ k ≠ 16 ∧ k ≠ 17) (v : Int) : FrM J (zup J1 142 0 k v) := by
  obtain ⟨k1, k2, k3, k4, k5, k6⟩ := hk
  refine ⟨fun c h2 h3 => ?_, ?_, ?_, ?_, ?_, ?_, ?_⟩
  · rw [zup_ne _ _ _ _ h2]
    exact h1.1 c h2 h3
  · rw [zup_nk _ _ (Ne.symm k1)]; exact h1.2.1
  · rw [zup_nk _ _ (Ne.symm k2)]; exact h1.2.2.1
  · rw [zup_nk _ _ (Ne.symm k3)]; exact h1.2.2.2.1
  · rw [zup_nk _ _ (Ne.symm k4)]; exact h1.2.2.2.2.1
  · rw [zup_nk _ _ (Ne.symm k5)]; exact h1.2.2.2.2.2.1
  · rw [zup_nk _ _ (Ne.symm k6)]; exact h1.2.2.2.2.2.2
theorem fc_rfl (J : zJ) : FrC J J := fun _ _ => rfl
theorem fc_tr {J J1 J2 : zJ} (h1 : FrC J J1) (h2 : FrC J1 J2) : FrC J J2 := fun b h => (h2 b h).trans (h1 b h)
theorem fc_fr {J J1 J2 : zJ} (h1 : FrC J J1) {a b : Nat} (h : Fr a b J1 J2) (ha : (89 ≤ a ∧ b ≤ 104) ∨ (114 ≤ a ∧ b ≤ 141)) : FrC J J2 := fun c h2 => (h c (by omega)).trans (h1 c h2)
theorem fc_up {J J1 : zJ} (h1 : FrC J J1) {a : Nat} (ha : (89 ≤ a ∧ a ≤ 104) ∨ (114 ≤ a ∧ a ≤ 141)) (i k v : Int) : FrC J (zup J1 a i k v) := fc_fr h1 (fr_up (fr_rfl a a J1) (Nat.le_refl a) (Nat.le_refl a) i k v) ha
theorem fc_eqs {J J' : zJ} (h : FrC J J') : EqS J J' := fun b _ h2 => h b (by omega)
theorem fm_eqs {s J J' : zJ} (hE : EqS s J) (h : FrM J J') : EqS s J' := fun b h1 h2 => (h.1 b (by omega) (by omega)).trans (hE b h1 h2)
theorem ml_eq {s J J' : zJ} (h : ML s J) (a : J' 144 = J 144) (b : J' 145 = J 145) (c : J' 170 = J 170) (d : J' 187 = J 187) (e : J' 204 = J 204) : ML s J' := by
  unfold ML at h ⊢
  rw [a, b, c, d, e]
  exact h
theorem ml_fm {s J J' : zJ} (h : ML s J) (f : FrM J J') : ML s J' := ml_eq h (f.1 144 (by decide) (by decide)) (f.1 145 (by decide) (by decide)) (f.1 170 (by decide) (by decide)) (f.1 187 (by decide) (by decide)) (f.1 204 (by decide) (by decide))
theorem ml_fc {s J J' : zJ} (h : ML s J) (f : FrC J J') : ML s J' := ml_eq h (f 144 (by decide)) (f 145 (by decide)) (f 170 (by decide)) (f 187 (by decide)) (f 204 (by decide))
theorem mc_eq {s J J' : zJ} (h : MC s J) (a : J' 142 0 15 = J 142 0 15) (b : J' 142 0 16 = J 142 0 16) (c : J' 234 = J 234) (d : J' 235 = J 235) (e : J' 236 = J 236) (f : J' 237 = J 237) (g : J' 238 = J 238) (i : J' 239 = J 239) (j : J' 229 = J 229) (k : J' 240 = J 240) : MC s J' := by
  unfold MC at h ⊢
  rw [a, b, c, d, e, f, g, i, j, k]
  exact h
theorem mc_fm {s J J' : zJ} (h : MC s J) (f : FrM J J') : MC s J' := mc_eq h f.2.2.2.2.1 f.2.2.2.2.2.1 (f.1 _ (by decide) (by decide)) (f.1 _ (by decide) (by decide)) (f.1 _ (by decide) (by decide)) (f.1 _ (by decide) (by decide)) (f.1 _ (by decide) (by decide)) (f.1 _ (by decide) (by decide)) (f.1 _ (by decide) (by decide)) (f.1 _ (by decide) (by decide))
theorem mc_fc {s J J' : zJ} (h : MC s J) (f : FrC J J') : MC s J' := mc_eq h (by rw [f 142 (by decide)]) (by rw [f 142 (by decide)]) (f _ (by decide)) (f _ (by decide)) (f _ (by decide)) (f _ (by decide)) (f _ (by decide)) (f _ (by decide)) (f _ (by decide)) (f _ (by decide))
/-- pure pictures speak of their cells alone -/
theorem cl_eq {s s' : zJ} (e : s' 19 = s 19) (p : Int) : ∀ (n : Nat) (q : Int), cl s' p n q = cl s p n q
  | 0, _ => rfl
  | n + 1, q => by rw [cl, cl, cl_eq e p n, e]
theorem onb_eq {s s' : zJ} (e : s' 19 = s 19) (p q : Int) : onb s' p q = onb s p q := by
  unfold onb
  rw [cl_eq e]
theorem on_eq {s s' : zJ} (e : s' 19 = s 19) (p q : Int) : on s' p q ↔ on s p q := by
  unfold on
  rw [cl_eq e]
theorem tw_eq {s s' : zJ} (e : s' 19 = s 19) (p : Int) : ∀ (n : Nat) (q : Int), tw s' p n q = tw s p n q
  | 0, _ => rfl
  | n + 1, q => by rw [tw, tw, tw_eq e p n, e]
theorem nx_eq {s s' : zJ} (e : s' 19 = s 19) (p q : Int) : nx s' p q = nx s p q := by
  unfold nx
  rw [tw_eq e]
theorem dpf_eq {s s' : zJ} (e : s' 19 = s 19) (e2 : s' 20 = s 20) : ∀ (n : Nat) (q : Int), dpf s' n q = dpf s n q
  | 0, _ => rfl
  | n + 1, q => by rw [dpf, dpf, dpf_eq e e2 n, e, e2]
theorem mt_eq {s s' : zJ} (e : s' 19 = s 19) : ∀ (n : Nat) (p q : Int), mt s' n p q = mt s n p q
  | 0, _, _ => rfl
  | n + 1, p, q => by rw [mt, mt, mt_eq e n, mt_eq e n, e]
theorem way_eq {s s' : zJ} (e : s' 19 = s 19) (e2 : s' 20 = s 20) (a b : Int) : way s' a b = way s a b := by
  unfold way dep
  rw [mt_eq e, dpf_eq e e2, dpf_eq e e2, dpf_eq e e2]
theorem ldf_eq {s s' : zJ} (e : s' 18 = s 18) (e2 : s' 25 = s 25) (x : Int) : ldf s' x = ldf s x := by
  unfold ldf
  rw [e, e2]
theorem tw_s {s s' : zJ} (h : TW s) (e : ∀ b, 18 ≤ b → b ≤ 39 → s' b = s b) : TW s' := by
  have e18 := e 18 (by decide) (by decide)
  have e19 := e 19 (by decide) (by decide)
  have e20 := e 20 (by decide) (by decide)
  have e24 := e 24 (by decide) (by decide)
  have e25 := e 25 (by decide) (by decide)
  have e34 := e 34 (by decide) (by decide)
  have e35 := e 35 (by decide) (by decide)
  have e36 := e 36 (by decide) (by decide)
  have e37 := e 37 (by decide) (by decide)
  have e38 := e 38 (by decide) (by decide)
  have e39 := e 39 (by decide) (by decide)
  unfold TW at h ⊢
  simp only [e18, e24, e34, e35, e36, e37, e38, e39, way_eq e19 e20, on_eq e19, nx_eq e19, onb_eq e19, ldf_eq e18 e25]
  exact h
theorem pw_s {s s' : zJ} (h : PW s) (e1 : s' 18 = s 18) (e2 : s' 19 = s 19) (e3 : s' 20 = s 20) (e : ∀ b, 40 ≤ b → b ≤ 51 → s' b = s b) : PW s' := by
  unfold PW at h ⊢
  simp only [e1, way_eq e2 e3, e 40 (by decide) (by decide), e 41 (by decide) (by decide), e 42 (by decide) (by decide), e 43 (by decide) (by decide), e 44 (by decide) (by decide), e 45 (by decide) (by decide), e 46 (by decide) (by decide), e 47 (by decide) (by decide), e 48 (by decide) (by decide), e 49 (by decide) (by decide), e 50 (by decide) (by decide), e 51 (by decide) (by decide)]
  exact h
theorem mp_s {s s' : zJ} {tr jb : Int} {rm lv sh wt ev dy : Int → Int} {rw jo : Int → Int → Int} (h : MP s tr jb rm lv sh wt ev dy rw jo) (e1 : s' 18 = s 18) (e : ∀ b, 40 ≤ b → b ≤ 51 → s' b = s b) : MP s' tr jb rm lv sh wt ev dy rw jo := by
  unfold MP at h ⊢
  simp only [e1, e 40 (by decide) (by decide), e 41 (by decide) (by decide), e 42 (by decide) (by decide), e 43 (by decide) (by decide), e 45 (by decide) (by decide), e 46 (by decide) (by decide), e 47 (by decide) (by decide), e 48 (by decide) (by decide), e 49 (by decide) (by decide), e 50 (by decide) (by decide), e 51 (by decide) (by decide)]
  exact h
theorem ml_s {s s' J : zJ} (h : ML s J) (e : ∀ b, 18 ≤ b → b ≤ 39 → s' b = s b) : ML s' J := by
  unfold ML at h ⊢
  simp only [e 18 (by decide) (by decide), e 19 (by decide) (by decide), e 20 (by decide) (by decide), e 21 (by decide) (by decide), e 22 (by decide) (by decide), e 23 (by decide) (by decide), e 24 (by decide) (by decide), e 25 (by decide) (by decide), e 26 (by decide) (by decide), e 27 (by decide) (by decide), e 28 (by decide) (by decide), e 29 (by decide) (by decide), e 30 (by decide) (by decide), e 31 (by decide) (by decide), e 32 (by decide) (by decide)]
  exact h
/-- an image speaks of land, of the images' cells and of the model's 557 -/
theorem im_s {J J' : zJ} {i : Nat} (hi : i < 3) (h : PW (shf J i) ∧ MJ J i) (e : ∀ b, 18 ≤ b → b ≤ 39 → J' b = J b) (e2 : ∀ b, 53 ≤ b → b ≤ 88 → J' b = J b) (e3 : J' 557 = J 557) : PW (shf J' i) ∧ MJ J' i := by
  have f : ∀ b, 18 ≤ b → b ≤ 51 → shf J' i b = shf J i b := by
    intro b h1 h2
    unfold shf
    split
    · exact e2 _ (by omega) (by omega)
    · exact e b h1 (by omega)
  have f18 := f 18 (by decide) (by decide)
  have f19 := f 19 (by decide) (by decide)
  have f20 := f 20 (by decide) (by decide)
  refine ⟨pw_s h.1 f18 f19 f20 fun b a c => f b (by omega) c, ?_⟩
  have h2 := h.2
  unfold MJ at h2 ⊢
  rw [e3]
  exact mp_s h2 f18 fun b a c => f b (by omega) c
theorem inv_s {G : zJ → zK → Prop} (hG : GOk G) {J J' : zJ} {K K' : zK} (h : Inv G J K) (a0 : J' 0 = J 0) (a1 : J' 1 = J 1) (ac : ∀ b, 18 ≤ b → b ≤ 88 → J' b = J b) (ag : ∀ b, 106 ≤ b → b ≤ 113 → J' b = J b) (g5 : J' 105 0 5 = J 105 0 5) (g13 : J' 105 0 13 = J 105 0 13) (hK : K' 112 = K 112) (am : ∀ b, 143 ≤ b → b < 255 ∨ b = 557 → J' b = J b) (f1 : J' 142 0 1 = J 142 0 1) (f3 : J' 142 0 3 = J 142 0 3) (f14 : J' 142 0 14 = J 142 0 14) (f15 : J' 142 0 15 = J 142 0 15) (f16 : J' 142 0 16 = J 142 0 16) (f17 : J' 142 0 17 = J 142 0 17) : Inv G J' K' := by
  obtain ⟨⟨h1, h2, h3, h4, h5, h6, h7, h8⟩, hg⟩ := h
  have ac2 : ∀ b, 18 ≤ b → b ≤ 39 → J' b = J b := fun b x y => ac b x (by omega)
  refine ⟨⟨lw_eq h1 fun b x y => ac b x (by omega), tw_s h2 ac2, pw_s h3 (ac _ (by decide) (by decide)) (ac _ (by decide) (by decide)) (ac _ (by decide) (by decide)) fun b x y => ac b (by omega) (by omega), ?_, ?_, ?_, ?_, ?_⟩, ?_⟩
  · exact ml_s (ml_eq h4 (am _ (by decide) (by decide)) (am _ (by decide) (by decide)) (am _ (by decide) (by decide)) (am _ (by decide) (by decide)) (am _ (by decide) (by decide))) ac2
  · have := mc_eq h5 f15 f16 (am _ (by decide) (by decide)) (am _ (by decide) (by decide)) (am _ (by decide) (by decide)) (am _ (by decide) (by decide)) (am _ (by decide) (by decide)) (am _ (by decide) (by decide)) (am _ (by decide) (by decide)) (am _ (by decide) (by decide))
    exact mp_s this (ac _ (by decide) (by decide)) fun b x y => ac b (by omega) (by omega)
  · unfold TP at h6 ⊢
    rw [a0, a1, f1, am 143 (by decide) (by decide)]
    exact h6
  · rw [a0, f3, f14, ac 18 (by decide) (by decide)]
    exact h7
  · rw [a0, f17]
    refine ⟨h8.1, h8.2.1, h8.2.2.1, fun i hi => ?_⟩
    exact im_s (by omega) (h8.2.2.2 i hi) ac2 (fun b x y => ac b (by omega) y) (am _ (by decide) (by decide))
  · exact hG.1 J J' K K' hg ac2 (by rw [ac 40 (by decide) (by decide)]) (by rw [ac 40 (by decide) (by decide)]) (fun t _ _ => by rw [ac 41 (by decide) (by decide)]) ag g5 g13 hK
/-- a question: the class's scratch cells and the model's may have changed -/
theorem inv_q {G : zJ → zK → Prop} (hG : GOk G) {J J1 J2 : zJ} {K K2 : zK} (h : Inv G J K) (f1 : FrC J J1) (f2 : FrM J1 J2) (hK : K2 112 = K 112) : Inv G J2 K2 := by
  have e142 := f1 142 (by decide)
  refine inv_s hG h ?_ ?_ ?_ ?_ ?_ ?_ hK ?_ ?_ ?_ ?_ ?_ ?_ ?_
  · rw [f2.1 0 (by decide) (by decide), f1 0 (by decide)]
  · rw [f2.1 1 (by decide) (by decide), f1 1 (by decide)]
  · intro b x y
    rw [f2.1 b (by omega) (by omega), f1 b (by omega)]
  · intro b x y
    rw [f2.1 b (by omega) (by omega), f1 b (by omega)]
  · rw [f2.1 105 (by decide) (by decide), f1 105 (by decide)]
  · rw [f2.1 105 (by decide) (by decide), f1 105 (by decide)]
  · intro b x y
    rw [f2.1 b (by omega) (by omega), f1 b (by omega)]
  · rw [f2.2.1, e142]
  · rw [f2.2.2.1, e142]
  · rw [f2.2.2.2.1, e142]
  · rw [f2.2.2.2.2.1, e142]
  · rw [f2.2.2.2.2.2.1, e142]
  · rw [f2.2.2.2.2.2.2, e142]
/-- the plan has changed, in the class and in the model -/
theorem in_m {J J' : zJ} (h : In J) (a0 : J' 0 = J 0) (a1 : J' 1 = J 1) (ac : ∀ b, 18 ≤ b → b ≤ 39 → J' b = J b) (ai : ∀ b, 53 ≤ b → b ≤ 88 → J' b = J b) (am : ∀ b, 143 ≤ b → b ≤ 204 → J' b = J b) (a5 : J' 557 = J 557) (f1 : J' 142 0 1 = J 142 0 1) (f3 : J' 142 0 3 = J 142 0 3) (f14 : J' 142 0 14 = J 142 0 14) (f17 : J' 142 0 17 = J 142 0 17) (hP : PW J') (hC : MC J' J') : In J' := by
  obtain ⟨h1, h2, h3, h4, h5, h6, h7, h8⟩ := h
  refine ⟨lw_eq h1 fun b x y => ac b x (by omega), tw_s h2 ac, hP, ?_, hC, ?_, ?_, ?_⟩
  · exact ml_s (ml_eq h4 (am _ (by decide) (by decide)) (am _ (by decide) (by decide)) (am _ (by decide) (by decide)) (am _ (by decide) (by decide)) (am _ (by decide) (by decide))) ac
  · unfold TP at h6 ⊢
    rw [a0, a1, f1, am 143 (by decide) (by decide)]
    exact h6
  · rw [a0, f3, f14, ac 18 (by decide) (by decide)]
    exact h7
  · rw [a0, f17]
    exact ⟨h8.1, h8.2.1, h8.2.2.1, fun i hi => im_s (by omega) (h8.2.2.2 i hi) ac ai a5⟩
theorem inv_p {G : zJ → zK → Prop} {J J1 J2 : zJ} {K K2 : zK} (h : Inv G J K) (e1 : ∀ b, b < 40 ∨ 51 < b → b ≠ 105 → J1 b = J b) (e2 : ∀ b, b < 142 → J2 b = J1 b) (e3 : ∀ b, 143 ≤ b → b < 229 ∨ 240 < b → J2 b = J b) (f1 : J2 142 0 1 = J 142 0 1) (f3 : J2 142 0 3 = J 142 0 3) (f14 : J2 142 0 14 = J 142 0 14) (f17 : J2 142 0 17 = J 142 0 17) (hP : PW J1) (hC : MC J1 J2) (hg : G J2 K2) : Inv G J2 K2 := by
  have e4 : ∀ b, b < 40 ∨ 51 < b → b ≠ 105 → b < 142 → J2 b = J b := fun b a c d => (e2 b d).trans (e1 b a c)
  refine ⟨in_m h.1 (e4 _ (by decide) (by decide) (by decide)) (e4 _ (by decide) (by decide) (by decide)) (fun b a c => e4 b (by omega) (by omega) (by omega)) (fun b a c => e4 b (by omega) (by omega) (by omega)) (fun b a c => e3 b a (by omega)) (e3 _ (by decide) (by decide)) f1 f3 f14 f17 ?_ ?_, hg⟩
  · exact pw_s hP (e2 _ (by decide)) (e2 _ (by decide)) (e2 _ (by decide)) fun b a c => e2 b (by omega)
  · exact mp_s hC (e2 _ (by decide)) fun b a c => e2 b (by omega)
/-- the same, where the grouping's part isn't touched -/
theorem inv_pg {G : zJ → zK → Prop} (hG : GOk G) {J J1 J2 : zJ} {K K2 : zK} (h : Inv G J K) (e1 : ∀ b, b < 42 ∨ 51 < b → b ≠ 40 → J1 b = J b) (g0 : J1 40 0 0 = J 40 0 0) (g10 : J1 40 0 10 = J 40 0 10) (e2 : ∀ b, b < 142 → J2 b = J1 b) (e3 : ∀ b, 143 ≤ b → b < 229 ∨ 240 < b → J2 b = J b) (f1 : J2 142 0 1 = J 142 0 1) (f3 : J2 142 0 3 = J 142 0 3) (f14 : J2 142 0 14 = J 142 0 14) (f17 : J2 142 0 17 = J 142 0 17) (hP : PW J1) (hC : MC J1 J2) (hK : K2 112 = K 112) : Inv G J2 K2 := by
  have e5 : ∀ b, b < 42 ∨ 51 < b → b ≠ 40 → b < 142 → J2 b = J b := fun b a c d => (e2 b d).trans (e1 b a c)
  refine inv_p h (fun b a c => e1 b (by omega) (by omega)) e2 e3 f1 f3 f14 f17 hP hC ?_
  refine hG.1 J J2 K K2 h.2 (fun b a c => e5 b (by omega) (by omega) (by omega)) ?_ ?_ (fun t _ _ => ?_) (fun b a c => e5 b (by omega) (by omega) (by omega)) ?_ ?_ hK
  · rw [e2 _ (by decide)]; exact g0
  · rw [e2 _ (by decide)]; exact g10
  · rw [e5 _ (by decide) (by decide) (by decide)]
  · rw [e5 _ (by decide) (by decide) (by decide)]
  · rw [e5 _ (by decide) (by decide) (by decide)]
