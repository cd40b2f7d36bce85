/-! SETTLING ALL WAITS -/
def sgo : Nat → zJ → Int → zJ × Int
  | 0, s, c => (s, c)
  | m + 1, s, c => if isF s m then sgo m (zup s 49 0 m (bwv s m)) (if bwv s m = s 49 0 m then c else c + 1) else sgo m s c
theorem zup_self (J : zJ) (a : Nat) (i k v : Int) (h : v = J a i k) : zup J a i k v = J := by
  funext b j l
  rw [zup_at]
  split
  · rename_i q
    rw [q.1, q.2.1, q.2.2]
    exact h
  · rfl
theorem pw_49 {s : zJ} (h : PW s) {p v : Int} (v0 : 0 ≤ v) (v1 : v ≤ 60) : PW (zup s 49 0 p v) := by
  have n1 : ∀ c, c ≠ 49 → zup s 49 0 p v c = s c := fun c hc => zup_ne _ _ _ _ hc
  unfold PW
  simp only [n1 18 (by decide), n1 40 (by decide), n1 41 (by decide), n1 42 (by decide), n1 43 (by decide), n1 44 (by decide), n1 45 (by decide), n1 46 (by decide), n1 47 (by decide), n1 48 (by decide), n1 50 (by decide), n1 51 (by decide), way_eq (n1 19 (by decide)) (n1 20 (by decide))]
  refine ⟨h.1, h.2.1, h.2.2.1, h.2.2.2.1, h.2.2.2.2.1, h.2.2.2.2.2.1, h.2.2.2.2.2.2.1, fun q q0 q1 => ?_, h.2.2.2.2.2.2.2.2⟩
  have hq := pw_w h q0 q1
  rw [zup_at]
  split <;> omega
theorem eqs_49 {s J : zJ} (hE : EqS s J) {p v : Int} : EqS (zup s 49 0 p v) (zup J 49 0 p v) := fun b a c => by
  by_cases e : b = 49
  · subst e
    funext j l
    rw [zup_at, zup_at, hE 49 (by decide) (by decide)]
  · rw [zup_ne _ _ _ _ e, zup_ne _ _ _ _ e]
    exact hE b a c
theorem sgo_ne : ∀ (m : Nat) (s : zJ) (c : Int) (b : Nat), b ≠ 49 → (sgo m s c).1 b = s b
  | 0, _, _, _, _ => rfl
  | m + 1, s, c, b, hb => by
    rw [sgo]
    split
    · rw [sgo_ne m _ _ b hb, zup_ne _ _ _ _ hb]
    · exact sgo_ne m s c b hb
theorem sgo_pw : ∀ (m : Nat) (s : zJ) (c : Int), PW s → PW (sgo m s c).1
  | 0, _, _, h => h
  | m + 1, s, c, h => by
    have hr := bwv_rng s m
    rw [sgo]
    split
    · exact sgo_pw m _ _ (pw_49 h hr.1 hr.2)
    · exact sgo_pw m s c h
theorem sgo_c : ∀ (m : Nat) (s : zJ) (c : Int), c ≤ (sgo m s c).2 ∧ (sgo m s c).2 ≤ c + m
  | 0, _, _ => by simp [sgo]
  | m + 1, s, c => by
    rw [sgo]
    split
    · have := sgo_c m (zup s 49 0 m (bwv s m)) (if bwv s m = s 49 0 m then c else c + 1)
      split at this <;> split <;> omega
    · have := sgo_c m s c
      omega
theorem lw_49 {s : zJ} (h : LW s) {p v : Int} : LW (zup s 49 0 p v) := lw_eq h fun b a c => zup_ne _ _ _ _ (by omega)
theorem tw_49 {s : zJ} (h : TW s) {p v : Int} : TW (zup s 49 0 p v) := tw_s h fun b a c => zup_ne _ _ _ _ (by omega)
theorem ml_49 {s J : zJ} (h : ML s J) {p v : Int} : ML (zup s 49 0 p v) J := ml_s h fun b a c => zup_ne _ _ _ _ (by omega)
theorem c179 {L : Nat} {xs : Nat → Int32} (hL : L ≤ 3072) {D : Nat} {Q : zR → Nat → zJ → zK → Prop} (hD : 11 ≤ D) : ∀ (m : Nat) (s : zJ) (c : Int) (J : zJ) (K : zK) (x2 : Int), x2 = (m : Int) - 1 → EqS s J → LW s → TW s → PW s → (m : Int) ≤ s 18 0 0 → (∀ (J' : zJ) (K' : zK), (∀ b : Nat, b ≠ 49 → b < 89 ∨ (105 ≤ b ∧ b ≤ 113) ∨ 141 < b → J' b = J b) → J' 49 = (sgo m s c).1 49 → (∀ b : Nat, b ≠ 134 → K' b = K b) → Q (.inl (some (zi ((sgo m s c).2)))) 0 J' K') → zGo L xs (D + 1) 179 12 [some (zr 0), some (zi c), some (zi x2), none] [] J K Q := by
  intro m
  induction m with
  | zero =>
    intro s c J K x2 hx2 hE h hT hP hm hQ
    subst hx2
    refine z179_12 hL ⟨⟨by omega, by omega⟩, fun _ => ?_, fun q => by omega⟩
    exact hQ J K (fun _ _ _ => rfl) (hE 49 (by decide) (by decide)) (fun _ _ => rfl)
  | succ m ih =>
    intro s c J K x2 hx2 hE h hT hP hm hQ
    subst hx2
    have hn := lw_n h
    have e : ((m + 1 : Nat) : Int) - 1 = m := by omega
    have e2 : (m : Int) + (-1) = m - 1 := by omega
    have hr := bwv_rng s m
    have hw := pw_w hP (p := m) (by omega) (by omega)
    rw [e]
    rw [sgo] at hQ
    refine z179_12 hL ⟨⟨by omega, by omega⟩, fun q => by omega, fun _ => ?_⟩
    rw [e2]
    refine c62 hL hE h (by omega) (by omega) (by omega) (zaI_of ⟨zin_zb _, fun q => ?_, fun q => ?_⟩)
    · rw [if_neg (by rw [zb_0.mp q]; decide)] at hQ
      exact ih s c J K _ rfl hE h hT hP (by omega) hQ
    · rw [if_pos (zb_1.mp q)] at hQ
      refine c7 hL hE h hT hP (by omega) (by omega) (by omega) fun J1 K1 hF1 hK1 => zaI_of ?_
      have hE1 := eqs_fr hE hF1 (by omega)
      rw [hE1 49 (by decide) (by decide)]
      refine ⟨by omega, by omega, ⟨by omega, by omega⟩, ⟨by omega, by omega⟩, fun q2 => ?_, fun q2 => ⟨by omega, by omega, ?_⟩⟩
      · rw [if_pos q2, zup_self _ _ _ _ _ q2] at hQ
        refine ih s c J1 K1 _ rfl hE1 h hT hP (by omega) fun J' K' a1 a2 a3 => hQ J' K' (fun b x y => ?_) a2 fun b x => ?_
        · rw [a1 b x y, hF1 b (by omega)]
        · rw [a3 b x, hK1 b x]
      · rw [if_neg q2] at hQ
        refine ih _ (c + 1) _ K1 _ rfl (eqs_49 hE1) (lw_49 h) (tw_49 hT) (pw_49 hP hr.1 hr.2) (by rw [zup_ne _ _ _ _ (by decide)]; omega) fun J' K' a1 a2 a3 => hQ J' K' (fun b x y => ?_) a2 fun b x => ?_
        · rw [a1 b x y, zup_ne _ _ _ _ x, hF1 b (by omega)]
        · rw [a3 b x, hK1 b x]
/-- the model's frame while it settles -/
def FrW (J J' : zJ) : Prop := (∀ b : Nat, b ≠ 142 → b ≠ 237 → b < 255 ∨ 556 < b → J' b = J b) ∧ J' 142 0 1 = J 142 0 1 ∧ J' 142 0 3 = J 142 0 3 ∧ J' 142 0 14 = J 142 0 14 ∧ J' 142 0 15 = J 142 0 15 ∧ J' 142 0 16 = J 142 0 16 ∧ J' 142 0 17 = J 142 0 17
theorem fw_fm {J J1 : zJ} (h : FrM J J1) : FrW J J1 := ⟨fun b x _ z => h.1 b x z, h.2⟩
theorem fw_tr {J J1 J2 : zJ} (h1 : FrW J J1) (h2 : FrW J1 J2) : FrW J J2 := ⟨fun b a d c => (h2.1 b a d c).trans (h1.1 b a d c), h2.2.1.trans h1.2.1, h2.2.2.1.trans h1.2.2.1, h2.2.2.2.1.trans h1.2.2.2.1, h2.2.2.2.2.1.trans h1.2.2.2.2.1, h2.2.2.2.2.2.1.trans h1.2.2.2.2.2.1, h2.2.2.2.2.2.2.trans h1.2.2.2.2.2.2⟩
theorem fw_up (J : zJ) (p v : Int) : FrW J (zup J 237 0 p v) := by
  have e := zup_ne J 0 p v (show 142 ≠ 237 by decide)
  exact ⟨fun b x y z => zup_ne _ _ _ _ y, by rw [e], by rw [e], by rw [e], by rw [e], by rw [e], by rw [e]⟩
theorem mc_49 {s J : zJ} (h : MC s J) {p v : Int} : MC (zup s 49 0 p v) (zup J 237 0 p v) := by
  unfold MC MP
  simp only [zup_at, Nat.reduceEqDiff, Int.reduceEq, eq_self, true_and, and_true, false_and, and_false, if_true, if_false]
  refine ⟨h.1, h.2.1, h.2.2.1, fun q q0 q1 => ⟨(mc_p h q0 q1).1, ?_⟩, h.2.2.2.2⟩
  rw [(mc_p h q0 q1).2]
theorem c290 {L : Nat} {xs : Nat → Int32} (hL : L ≤ 3072) {D : Nat} {K : zK} {Q : zR → Nat → zJ → zK → Prop} (hD : 14 ≤ D) : ∀ (m : Nat) (s : zJ) (c : Int) (J : zJ) (x2 : Int), x2 = (m : Int) - 1 → ML s J → LW s → PW s → MC s J → (m : Int) ≤ s 18 0 0 → (∀ J' : zJ, FrW J J' → MC (sgo m s c).1 J' → Q (.inl (some (zi ((sgo m s c).2)))) 0 J' K) → zGo L xs (D + 1) 290 16 [some (zr 142), some (zi c), some (zi x2), none] [] J K Q := by
  intro m
  induction m with
  | zero =>
    intro s c J x2 hx2 hM h hP hC hm hQ
    subst hx2
    refine z290_16 hL ⟨⟨by omega, by omega⟩, fun _ => ?_, fun q => by omega⟩
    exact hQ J (fw_fm (fm_rfl J)) hC
  | succ m ih =>
    intro s c J x2 hx2 hM h hP hC hm hQ
    subst hx2
    have hn := lw_n h
    have e : ((m + 1 : Nat) : Int) - 1 = m := by omega
    have e2 : (m : Int) + (-1) = m - 1 := by omega
    have hr := bwv_rng s m
    have hw := pw_w hP (p := m) (by omega) (by omega)
    rw [e]
    rw [sgo] at hQ
    refine z290_16 hL ⟨⟨by omega, by omega⟩, fun q => by omega, fun _ => ?_⟩
    rw [e2]
    refine c245 hL hM h (by omega) (by omega) (by omega) (zaI_of ⟨zin_zb _, fun q => ?_, fun q => ?_⟩)
    · rw [if_pos (zb_1.mp q)] at hQ
      refine c200 hL hM h hP hC (by omega) (by omega) (by omega) fun J1 hF1 _ => zaI_of ?_
      have hM1 := ml_fm hM hF1
      have hC1 := mc_fm hC hF1
      rw [(mc_p hC1 (p := m) (by omega) (by omega)).2]
      have hM2 : ML (zup s 49 0 m (bwv s m)) (zup J1 237 0 m (bwv s m)) := ml_49 (ml_eq hM1 (zup_ne _ _ _ _ (by decide)) (zup_ne _ _ _ _ (by decide)) (zup_ne _ _ _ _ (by decide)) (zup_ne _ _ _ _ (by decide)) (zup_ne _ _ _ _ (by decide)))
      have hF2 : FrW J (zup J1 237 0 m (bwv s m)) := fw_tr (fw_fm hF1) (fw_up _ _ _)
      refine ⟨by omega, by omega, ⟨by omega, by omega⟩, ⟨by omega, by omega⟩, fun q2 => ⟨by omega, by omega, ?_⟩, fun q2 => ⟨by omega, by omega, ?_⟩⟩
      · rw [if_pos q2] at hQ
        rw [Int.add_zero]
        exact ih _ c _ _ rfl hM2 (lw_49 h) (pw_49 hP hr.1 hr.2) (mc_49 hC1) (by rw [zup_ne _ _ _ _ (by decide)]; omega) fun J' a1 a2 => hQ J' (fw_tr hF2 a1) a2
      · rw [if_neg q2] at hQ
        exact ih _ (c + 1) _ _ rfl hM2 (lw_49 h) (pw_49 hP hr.1 hr.2) (mc_49 hC1) (by rw [zup_ne _ _ _ _ (by decide)]; omega) fun J' a1 a2 => hQ J' (fw_tr hF2 a1) a2
    · rw [if_neg (by rw [zb_0.mp q]; decide)] at hQ
      exact ih s c J _ rfl hM h hP hC (by omega) hQ
theorem op27 {G : zJ → zK → Prop} (hG : GOk G) : OpD (Inv G) 179 290 [] := by
  intro L xs D J K hL hD hI; obtain ⟨⟨hW, hT, hP, hM, hC, hTp, hF, hIm⟩, hg⟩ := id hI; have hE := eqs_rfl J; have hn := lw_n hW; have hpn := pw_n hP
  obtain ⟨D, rfl⟩ : ∃ d, D = d + 1 := ⟨D - 1, by omega⟩
  have em : (((J 18 0 0).toNat : Nat) : Int) = J 18 0 0 := by omega
  have hsc := sgo_c (J 18 0 0).toNat J 0
  have hsp := sgo_pw (J 18 0 0).toNat J 0 hP
  have hsn := sgo_ne (J 18 0 0).toNat J 0
  refine z179 hL (c179 hL (by omega) (J 18 0 0).toNat J 0 J K _ (by omega) hE hW hT hP (by omega) fun J1 K1 a1 a2 a3 => ⟨_, rfl, rfl, ⟨by omega, by omega⟩, ?_⟩)
  have b1 : ∀ b : Nat, 142 ≤ b → zup J1 142 0 0 0 b = zup J 142 0 0 0 b := fun b hb => by
    unfold zup zset
    rw [a1 142 (by decide) (by decide)]
    split
    · rfl
    · exact a1 b (by omega) (by omega)
  have hM1 : ML J (zup J1 142 0 0 0) := ml_eq (ml_fm hM (fm_t J 0)) (b1 _ (by decide)) (b1 _ (by decide)) (b1 _ (by decide)) (b1 _ (by decide)) (b1 _ (by decide))
  have hC1 : MC J (zup J1 142 0 0 0) := mc_eq (mc_fm hC (fm_t J 0)) (by rw [b1 _ (by decide)]) (by rw [b1 _ (by decide)]) (b1 _ (by decide)) (b1 _ (by decide)) (b1 _ (by decide)) (b1 _ (by decide)) (b1 _ (by decide)) (b1 _ (by decide)) (b1 _ (by decide)) (b1 _ (by decide))
  have e144 : J1 144 0 0 = J 18 0 0 := by
    rw [a1 144 (by decide) (by decide)]
    exact hM.1.1
  refine z290 hL ⟨by decide, by decide, ?_⟩
  rw [e144]
  refine c290 hL (by omega) (J 18 0 0).toNat J 0 (zup J1 142 0 0 0) _ (by omega) hM1 hW hP hC1 (by omega) fun J2 hF2 hC2 => ⟨rfl, rfl, ?_⟩
  -- J2 with the old waits
  have zs : ∀ (M : zJ) (a b : Nat) (f : Int → Int → Int), zset M a f b = if b = a then f else M b := fun M a b f => rfl
  have f1 : FrC J (zset J1 49 (J 49)) := fun b hb => by
    rw [zs]
    split
    · rename_i e
      rw [e]
    · rename_i e
      exact a1 b e hb
  have c237 : J1 237 = J 237 := a1 237 (by decide) (by decide)
  have e142 := zup_ne
  have f2 : FrM (zset J1 49 (J 49)) (zset (zset J2 49 (J 49)) 237 (J 237)) := by
    refine ⟨fun b x y => ?_, ?_⟩
    · rw [zs, zs, zs]
      by_cases e : b = 237
      · rw [if_pos e, if_neg (by omega), e, c237]
      · rw [if_neg e]
        split
        · rfl
        · rename_i e2
          rw [hF2.1 b x e y, zup_ne _ _ _ _ x]
    · have := hF2.2
      simp only [zup_at, zs] at this ⊢
      simpa using this
  have hI1 := inv_q hG hI f1 f2 (K2 := K1) (a3 112 (by decide))
  have bb : ∀ b : Nat, b < 142 → b ≠ 49 → zset (zset J2 49 (J 49)) 237 (J 237) b = J2 b := fun b x y => by rw [zs, if_neg (by omega), zs, if_neg y]
  have bj : ∀ b : Nat, 18 ≤ b → b ≤ 51 → zset (zset (zset J2 49 (J 49)) 237 (J 237)) 49 (J2 49) b = (sgo (J 18 0 0).toNat J 0).1 b := fun b x y => by
    rw [zs]
    split
    · rename_i e
      rw [hF2.1 49 (by decide) (by decide) (by decide), zup_ne _ _ _ _ (by decide), a2, e]
    · rename_i e
      rw [bb b (by omega) e, hF2.1 b (by omega) (by omega) (by omega), zup_ne _ _ _ _ (by omega), a1 b e (by omega), hsn b e]
  refine inv_pg hG hI1 (J1 := zset (zset (zset J2 49 (J 49)) 237 (J 237)) 49 (J2 49)) (fun b x y => by rw [zs, if_neg (by omega)]) (by rw [zs, if_neg (by decide)]) (by rw [zs, if_neg (by decide)]) (fun b x => ?_) (fun b x y => ?_) ?_ ?_ ?_ ?_ ?_ ?_ rfl
  · rw [zs]
    split
    · rename_i e
      rw [e]
    · rename_i e
      rw [bb b x e]
  · rw [zs, if_neg (by omega), zs, if_neg (by omega)]
  · rw [zs, if_neg (by decide), zs, if_neg (by decide)]
  · rw [zs, if_neg (by decide), zs, if_neg (by decide)]
  · rw [zs, if_neg (by decide), zs, if_neg (by decide)]
  · rw [zs, if_neg (by decide), zs, if_neg (by decide)]
  · exact pw_s hsp (bj _ (by decide) (by decide)) (bj _ (by decide) (by decide)) (bj _ (by decide) (by decide)) fun b x y => bj b (by omega) y
  · exact mp_s hC2 (bj _ (by decide) (by decide)) fun b x y => bj b (by omega) y
