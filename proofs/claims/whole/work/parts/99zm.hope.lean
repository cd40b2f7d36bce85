/-! THE CLASS: tables of all sets; engines suffice; hope -/
theorem viX_chn {s : zJ} (h : LW s) {x : Int} (hx : cbh s x 0 ≤ 7) : ∀ (n : Nat) (l : List It), (∀ v ∈ l, Can s x v) → ∀ u ∈ viW s (sq s x 0) n (l.map tri), Chn (ky s (sq s x 0) u.1) u.1 u.2.2.1 u.2.2.2.1 u.2.2.2.2 := by
  intro n
  induction n with
  | zero =>
    intro l hl u hu
    cases hu
  | succ n ih =>
    intro l hl u hu
    cases l with
    | nil => cases hu
    | cons v r =>
      obtain ⟨gs, he, hcn, hlo, hv⟩ := viW_st h hx n (r := r) (hl v List.mem_cons_self)
      rw [he] at hu
      rcases List.mem_cons.mp hu with z | z
      · rw [z]
        exact hcn
      · exact ih _ (can_app h hx hl hcn hlo _ _ _ _) u z
theorem gld_mem {f : Int → Int} {p hi : Int} (ld : Int → Int → Int) : ∀ (gs : List Int) (st : Int), Chn f p hi gs st → ∀ e ∈ gld ld p gs st, e.1 = p ∧ ∃ b c : Int, e.2 = ld b c ∧ c ≤ st
  | [], st, _, e, he => by cases he
  | b :: r, st, hc, e, he => by
    rw [gld] at he
    have hd := (chn_drop (gs := b :: r) (st := st) 1 hc).1
    rcases List.mem_cons.mp he with z | z
    · rw [z]
      exact ⟨rfl, b, hdo r st, rfl, (chn_len (gs := r) hd).2.1⟩
    · exact gld_mem ld r st hd e z
theorem lns_b {s : zJ} (h : LW s) {a : Int → Int} (fr : Int) {to : Int} (t7 : to ≤ 7) (hr : ∀ i : Int, 0 ≤ i → i < to → 0 ≤ a i ∧ a i < s 18 0 6) : 0 ≤ lns s a fr to ∧ lns s a fr to ≤ 105 := by
  have := sm_nn (f := fun i => if fr ≤ i then s 25 0 (a i) else 0) (c := 15) (n := to.toNat) fun i i0 i1 => by
    have h1 := hr i i0 (by omega)
    have := lw_k h h1.1 h1.2
    by_cases q : fr ≤ i
    · rw [if_pos q]
      omega
    · rw [if_neg q]
      omega
  unfold lns
  omega
theorem tkX_mem {s : zJ} (h : LW s) {x : Int} : ∀ e ∈ tkX s x, (0 ≤ e.1 ∧ e.1 < 12) ∧ 0 ≤ e.2 ∧ e.2 ≤ 105 := by
  have hn := lw_n h
  have hx := cbh_7 h x 0
  have rng : ∀ i : Int, 0 ≤ i → i < cbh s x 0 → 0 ≤ sq s x 0 i ∧ sq s x 0 i < s 18 0 6 := fun i i0 i1 => by
    have := sq_in h x _ 0 i rfl (Int.le_refl 0) (cbh_N h (x := x) (p := 0) (by omega)) i0 i1
    exact ⟨this.1, this.2.1⟩
  have key : ∀ L : List Vu, (∀ u ∈ L, Vis s x u ∧ Chn (ky s (sq s x 0) u.1) u.1 u.2.2.1 u.2.2.2.1 u.2.2.2.2) → ∀ e ∈ tkL s (sq s x 0) L, (0 ≤ e.1 ∧ e.1 < 12) ∧ 0 ≤ e.2 ∧ e.2 ≤ 105 := by
    intro L
    induction L with
    | nil =>
      intro _ e he
      cases he
    | cons u r ih =>
      intro hu e he
      rw [tkL] at he
      obtain ⟨hv, hc⟩ := hu u List.mem_cons_self
      obtain ⟨⟨p0, p1⟩, h7, e1, e2, e3, e4⟩ := hv
      have hp := (sq_pos h x u.1 p0 p1 h7).1
      have hcl := chn_len hc
      rcases List.mem_append.mp he with z | z
      · unfold tkU at z
        rcases List.mem_append.mp z with y | y
        · split at y
          · rw [List.mem_singleton] at y
            rw [y]
            exact ⟨⟨Int.le_refl 0, by show (0 : Int) < 12; decide⟩, lns_b h _ (by omega) fun i i0 i1 => rng i i0 (by omega)⟩
          · cases y
        · obtain ⟨g1, b, c, g2, g3⟩ := gld_mem _ _ _ (chn_drop 1 hc).1 e y
          rw [g1, g2]
          exact ⟨⟨p0, by omega⟩, lns_b h _ (by omega) fun i i0 i1 => rng i i0 (by omega)⟩
      · exact ih (fun w hw => hu w (List.mem_cons_of_mem _ hw)) e z
  have hr := rit_can h 0 hx
  exact key (viX s x) fun u hu => ⟨viX_mem h u hu, viX_chn h hx 84 _ hr.1 u hu⟩
/-- what is learnt of all sets -/
def Gtb (s J : zJ) (K : zK) (m : Int) : Prop := ∀ x : Int, 0 ≤ x → x < m → J 106 0 x = bs (fkL s (sq s x 0) (viX s x)) 13 ∧ Tb J K x (tkX s x) ∧ J 107 0 x = bs (fun w => svx s x (s 30 0 w)) (s 18 0 14).toNat ∧ J 108 0 x = bs (fun w => !svx s x (s 30 0 w) && nrb s (svx s x) (s 30 0 w)) (s 18 0 14).toNat
theorem gtb_eq {s J J' : zJ} {K K' : zK} {m : Int} (hg : Gtb s J K m) (e : ∀ b : Nat, 106 ≤ b → b ≤ 111 → J' b = J b) (ek : K' 112 = K 112) : Gtb s J' K' m := fun x x0 x1 => by
  unfold Tb
  rw [e 106 (by decide) (by decide), e 107 (by decide) (by decide), e 108 (by decide) (by decide), e 109 (by decide) (by decide), e 110 (by decide) (by decide), e 111 (by decide) (by decide), ek]
  exact hg x x0 x1
theorem vs_svx {s : zJ} (h : LW s) (x : Int) {p : Int} (p0 : 0 ≤ p) (p1 : p < 12) : bt (bs (vsL (viX s x)) 12) p = svx s x p := by
  rw [bt_bs _ _ p p0, decide_eq_true (p := p < ((12 : Nat) : Int)) (by omega), Bool.true_and, viX_vs h]
theorem nr_svx {s : zJ} (h : LW s) (x p : Int) : nrb s (bt (bs (vsL (viX s x)) 12)) p = nrb s (svx s x) p := by
  rw [Bool.eq_iff_iff, nrb_t, nrb_t]
  constructor
  · rintro ⟨q, q0, q1, q2, q3⟩
    rw [vs_svx h x (by omega) q1] at q2
    exact ⟨q, q0, q1, q2, q3⟩
  · rintro ⟨q, q0, q1, q2, q3⟩
    rw [← vs_svx h x (by omega) q1] at q2
    exact ⟨q, q0, q1, q2, q3⟩
/-- enginesSuffice -/
theorem c32 {L : Nat} {xs : Nat → Int32} (hL : L ≤ 3072) {D : Nat} {J : zJ} {K : zK} {Q : zR → Nat → zJ → zK → Prop} {s : zJ} (hE : EqS s J) (h : LW s) (hP : PW s) {X : Int → Int} (hG : Gtb s J K (2 ^ (s 18 0 6).toNat)) (hX : ∀ t : Int, 0 ≤ t → t < s 40 0 0 → J 114 0 t = X t ∧ 0 ≤ X t ∧ X t < 2 ^ (s 18 0 6).toNat) (hD : 2 ≤ D) (h1 : (∃ tk : Int, enQ s (tkA s X (s 40 0 0).toNat) 0 = some tk) → Q (.inl (some (zi (1)))) 0 J K) (h0 : enQ s (tkA s X (s 40 0 0).toNat) 0 = none → Q (.inl (some (zi (0)))) 0 J K) : zCall L xs D 32 [zr 105] J K Q := by
  obtain ⟨D, rfl⟩ : ∃ d, D = d + 1 := ⟨D - 1, by omega⟩
  have hn := lw_n h
  have hpn := pw_n hP
  have p7 := pw7 (n := s 18 0 6) (by omega)
  have e40 := hE 40 (by decide) (by decide)
  have rest : ∀ (T t : Nat), t ≤ T → ∃ l : List (Int × Int), tkA s X T = tkA s X t ++ l := by
    intro T
    induction T with
    | zero =>
      intro t ht
      have e : t = 0 := by omega
      exact ⟨[], by rw [e, List.append_nil]⟩
    | succ T ih =>
      intro t ht
      by_cases q : t = T + 1
      · exact ⟨[], by rw [q, List.append_nil]⟩
      · obtain ⟨l, hl⟩ := ih t (by omega)
        exact ⟨l ++ tkX s (X T), by rw [tkA, hl, List.append_assoc]⟩
  have outer : ∀ (n : Nat) (t tk : Int), n = (s 40 0 0 - t).toNat → 0 ≤ t → t ≤ s 40 0 0 → 0 ≤ tk → tk < 256 → enQ s (tkA s X t.toNat) 0 = some tk → zGo L xs (D + 1) 32 4 [some (zr 105), some (zi tk), some (zi t), none, none, none, none] [] J K Q := by
    intro n; induction n using Nat.strongRecOn with
  | _ n ih =>
    intro t tk hm t0 t1 k0 k1 he
    refine z32_4 hL ?_
    rw [e40]
    refine ⟨⟨by omega, by omega⟩, ⟨by omega, by omega⟩, fun q => ⟨Or.inr rfl, h1 ⟨tk, ?_⟩⟩, fun q => ⟨t0, by omega, ?_⟩⟩
    · have e : t = s 40 0 0 := by omega
      rw [← e]
      exact he
    obtain ⟨x1, x2, x3⟩ := hX t t0 q
    obtain ⟨_, ⟨b1, b2, _⟩, _⟩ := hG (X t) x2 x3
    have htl := tkX_len h (X t)
    rw [x1]
    have inner : ∀ (m i : Nat) (tk : Int), m = (tkX s (X t)).length - i → i ≤ (tkX s (X t)).length → 0 ≤ tk → tk < 256 → enQ s (tkA s X t.toNat ++ (tkX s (X t)).take i) 0 = some tk → zGo L xs (D + 1) 32 25 [some (zr 105), some (zi tk), some (zi t), some (zi (X t)), some (zi (i : Int)), none, none] [] J K Q := by
      intro m
      induction m with
      | zero =>
        intro i tk hm2 i1 k0 k1 he2
        refine z32_25 hL ?_
        rw [b1]
        refine ⟨x2, by omega, ⟨by omega, by omega⟩, ⟨by omega, by omega⟩, fun _ => ?_, fun q2 => by omega⟩
        have ei : i = (tkX s (X t)).length := by omega
        rw [ei, List.take_length] at he2
        have et : (t + 1).toNat = t.toNat + 1 := by omega
        have et2 : ((t.toNat : Nat) : Int) = t := by omega
        refine ih _ (by omega) (t + 1) tk rfl (by omega) (by omega) k0 k1 ?_
        rw [et, tkA, et2]
        exact he2
      | succ m ihm =>
        intro i tk hm2 i1 k0 k1 he2
        have hil : i < (tkX s (X t)).length := by omega
        obtain ⟨g1, g2⟩ := b2 i _ (List.getElem?_eq_getElem hil)
        have hmem := tkX_mem h (x := X t) _ (List.getElem_mem hil)
        refine z32_25 hL ?_
        rw [b1]
        refine ⟨x2, by omega, ⟨by omega, by omega⟩, ⟨by omega, by omega⟩, fun q2 => by omega, fun _ => ⟨by omega, by omega, by omega, by omega, ?_⟩⟩
        rw [g1, g2]
        have hta : (tkX s (X t)).take (i + 1) = (tkX s (X t)).take i ++ [(tkX s (X t))[i]] := by
          rw [List.take_succ, List.getElem?_eq_getElem hil]
          rfl
        have hf := frE_rng h (tkX s (X t))[i].1 (tkX s (X t))[i].2 tk
        refine c59 hL hE h (by omega) ⟨by omega, by omega⟩ ⟨by omega, by omega⟩ ⟨k0, by omega⟩ (zaI_of ⟨⟨by omega, by omega⟩, ⟨by decide, by decide⟩, fun q2 => ?_, fun q2 => ⟨Or.inl rfl, h0 ?_⟩⟩)
        · have hf2 := hf.resolve_left q2
          have ht := (tke_ok k0 k1 hf2.1 hf2.2).1
          refine ⟨by omega, by omega, ?_⟩
          have ei : (i : Int) + 1 = ((i + 1 : Nat) : Int) := by omega
          rw [ei]
          refine ihm (i + 1) (tke tk (frE s (tkX s (X t))[i].1 (tkX s (X t))[i].2 tk)) (by omega) (by omega) ht.1 ht.2 ?_
          rw [hta, ← List.append_assoc, enQ_app, he2]
          show enQ s [(tkX s (X t))[i]] tk = _
          rw [enQ, if_neg q2]
          rfl
        · obtain ⟨l, hl⟩ := rest (s 40 0 0).toNat (t.toNat + 1) (by omega)
          have et2 : ((t.toNat : Nat) : Int) = t := by omega
          have hsp : tkX s (X t) = (tkX s (X t)).take i ++ ((tkX s (X t))[i] :: (tkX s (X t)).drop (i + 1)) := by
            rw [← List.drop_eq_getElem_cons hil, List.take_append_drop]
          rw [hl, tkA, et2, hsp, ← List.append_assoc, List.append_assoc _ _ l, enQ_app, he2]
          show enQ s ((tkX s (X t))[i] :: (_ ++ l)) tk = none
          rw [enQ, if_pos q2]
    refine inner _ 0 tk rfl (by omega) k0 k1 ?_
    rw [List.take_zero, List.append_nil]
    exact he
  exact z32 hL (outer _ 0 0 rfl (Int.le_refl 0) (by omega) (Int.le_refl 0) (by decide) rfl)
/-- the hope -/
theorem c36 {L : Nat} {xs : Nat → Int32} (hL : L ≤ 3072) {D : Nat} {J : zJ} {K : zK} {Q : zR → Nat → zJ → zK → Prop} {s : zJ} (hE : EqS s J) (h : LW s) (hP : PW s) {X : Int → Int} {r : Int} (hG : Gtb s J K (2 ^ (s 18 0 6).toNat)) (hX : ∀ t : Int, 0 ≤ t → t < s 40 0 0 → J 114 0 t = X t ∧ 0 ≤ zor (X t) r ∧ zor (X t) r < 2 ^ (s 18 0 6).toNat) (hF : ∀ t w : Int, 0 ≤ t → t < s 40 0 0 → 0 ≤ w → w < s 18 0 14 → J 116 0 (t * 12 + w) = fw s w (s 41 0 t)) (hD : 1 ≤ D) (hQ : Q (.inl (some (zi (wth s (fun t => zor (X t) r) (s 40 0 0).toNat)))) 0 J K) : zCall L xs D 36 [zr 105, zi r] J K Q := by
  obtain ⟨D, rfl⟩ : ∃ d, D = d + 1 := ⟨D - 1, by omega⟩
  have hn := lw_n h
  have hpn := pw_n hP
  have p7 := pw7 (n := s 18 0 6) (by omega)
  have e40 := hE 40 (by decide) (by decide)
  have e18 := hE 18 (by decide) (by decide)
  have outer : ∀ (n : Nat) (w sum : Int), n = (s 18 0 14 - w).toNat → 0 ≤ w → w ≤ s 18 0 14 → sum = sm (fun w => mx0 (fun t => wvx s (zor (X t) r) w (s 41 0 t)) (s 40 0 0).toNat) w.toNat → zGo L xs (D + 1) 36 4 [some (zr 105), some (zi r), some (zi sum), some (zi w), none, none, none, none] [] J K Q := by
    intro n; induction n using Nat.strongRecOn with
  | _ n ih =>
    intro w sum hm w0 w1 hs
    refine z36_4 hL ?_
    rw [e18]
    refine ⟨⟨by omega, by omega⟩, ⟨by omega, by omega⟩, fun q => ?_, fun q => ?_⟩
    · have e : w = s 18 0 14 := by omega
      rw [e] at hs
      rw [hs]
      exact hQ
    have inner : ∀ (m : Nat) (t best : Int), m = (s 40 0 0 - t).toNat → 0 ≤ t → t ≤ s 40 0 0 → best = mx0 (fun t => wvx s (zor (X t) r) w (s 41 0 t)) t.toNat → zGo L xs (D + 1) 36 21 [some (zr 105), some (zi r), some (zi sum), some (zi w), some (zi best), some (zi t), none, none] [] J K Q := by
      intro m
      induction m using Nat.strongRecOn with
      | _ m ihm =>
      intro t best hm2 t0 t1 hb
      have hbr : 0 ≤ best ∧ best ≤ 99900 := by
        rw [hb]
        exact mx0_rng (by decide) fun i i0 i1 => by
          have := pw_t hP i0 (by omega)
          exact (wvx_rng h (zor (X i) r) w0 q (by omega) (by omega)).2
      refine z36_21 hL ?_
      rw [e40]
      refine ⟨⟨by omega, by omega⟩, ⟨by omega, by omega⟩, fun q2 => ?_, fun q2 => ?_⟩
      · have e : t = s 40 0 0 := by omega
        refine ih _ (by omega) (w + 1) (sum + best) rfl (by omega) (by omega) ?_
        rw [sm_next w0, hs, hb, e]
      obtain ⟨x1, x2, x3⟩ := hX t t0 q2
      have hfx := hF t w t0 q2 w0 q
      have htt := pw_t hP t0 q2
      have hfr := fw_rng h w0 q (m := s 41 0 t) (by omega) (by omega)
      obtain ⟨_, _, g7, g8⟩ := hG (zor (X t) r) x2 x3
      have b7 := bs_lt (fun w => svx s (zor (X t) r) (s 30 0 w)) (s 18 0 14).toNat
      have b8 := bs_lt (fun w => !svx s (zor (X t) r) (s 30 0 w) && nrb s (svx s (zor (X t) r)) (s 30 0 w)) (s 18 0 14).toNat
      have pw : (2 : Int) ^ (s 18 0 14).toNat ≤ 4096 := by
        have := Nat.pow_le_pow_right (n := 2) (by decide) (show (s 18 0 14).toNat ≤ 12 by omega)
        have e : ((2 ^ (s 18 0 14).toNat : Nat) : Int) = (2 : Int) ^ (s 18 0 14).toNat := by simp
        have e2 : (2 : Nat) ^ 12 = 4096 := rfl
        omega
      have t7 := bt_bs (fun w => svx s (zor (X t) r) (s 30 0 w)) (s 18 0 14).toNat w w0
      have t8 := bt_bs (fun w => !svx s (zor (X t) r) (s 30 0 w) && nrb s (svx s (zor (X t) r)) (s 30 0 w)) (s 18 0 14).toNat w w0
      rw [decide_eq_true (by omega), Bool.true_and] at t7 t8
      have hnx : ∀ v : Int, v = wvx s (zor (X t) r) w (s 41 0 t) → mx0 (fun t => wvx s (zor (X t) r) w (s 41 0 t)) (t + 1).toNat = if best < v then v else best := fun v hv => by
        rw [mx0_next t0, hb, hv]
      rw [x1, hfx, g7, g8, bt_shz b7.1 (by omega), bt_shz b8.1 (by omega), t7, t8]
      refine ⟨t0, by omega, by omega, by omega, x2, by omega, ⟨by omega, by omega⟩, w0, by omega, zin_zb _, fun z => ⟨x2, by omega, ⟨by omega, by omega⟩, w0, by omega, zin_zb _, fun z2 => ?_, fun z2 => ⟨by omega, by omega, by decide, by decide, ⟨by omega, by omega⟩, ⟨by omega, by omega⟩, by omega, ?_⟩⟩, fun z => ⟨⟨by omega, by omega⟩, ⟨by omega, by omega⟩, by omega, ?_⟩⟩
      · rw [zb_0] at z z2
        rw [z] at z2
        refine ihm _ (by omega) (t + 1) best rfl (by omega) (by omega) ?_
        rw [hnx 0 (by
          unfold wvx
          rw [if_neg (by rw [z]; decide), if_neg (by
            intro y
            rw [y] at z2
            cases z2)]), if_neg (by omega)]
      · rw [zb_0] at z
        rw [zb_1, Bool.and_eq_true] at z2
        refine ihm _ (by omega) (t + 1) _ rfl (by omega) (by omega) ?_
        rw [hnx (fw s w (s 41 0 t) / 2) (by
          unfold wvx
          rw [if_neg (by rw [z]; decide), if_pos z2.2])]
      · rw [zb_1] at z
        refine ihm _ (by omega) (t + 1) _ rfl (by omega) (by omega) ?_
        rw [hnx (fw s w (s 41 0 t)) (by
          unfold wvx
          rw [if_pos z])]
    exact inner _ 0 0 rfl (Int.le_refl 0) (by omega) rfl
  exact z36 hL (outer _ 0 0 rfl (Int.le_refl 0) (by omega) rfl)
theorem c31 {L : Nat} {xs : Nat → Int32} (hL : L ≤ 3072) {D : Nat} {J : zJ} {K : zK} {Q : zR → Nat → zJ → zK → Prop} {F : Int} (hF : K 105 16 = F) (hD : 1 ≤ D) (h1 : zcmp (zandL (F + 595056260442243600) 595056260442243600) 595056260442243600 = 0 → Q (.inl (some (zi (1)))) 0 J K) (h0 : ¬ zcmp (zandL (F + 595056260442243600) 595056260442243600) 595056260442243600 = 0 → Q (.inl (some (zi (0)))) 0 J K) : zCall L xs D 31 [zr 105] J K Q := by
  obtain ⟨D, rfl⟩ : ∃ d, D = d + 1 := ⟨D - 1, by omega⟩
  refine z31 hL ?_
  rw [hF]
  exact ⟨zin_xs _, fun q => ⟨Or.inl rfl, h0 q⟩, fun q => ⟨Or.inr rfl, h1 q⟩⟩
