/-! READING by the model -/
theorem fll_u (u : Bool) (d : zJ) (k : Int) : fll u d k = (u || fll false d k) := by
  cases u <;> simp [fll]
theorem c206 {L : Nat} {xs : Nat → Int32} (hL : L ≤ 3072) {D : Nat} {J : zJ} {K : zK} {Q : zR → Nat → zJ → zK → Prop} {f : Int → Int} {N c : Int} {d : zJ} {t : Int × Int × Int} (h : RM f N t J) (q0 : t.2.1 = 0) (hd : DM d J) (hw : WD d) (h7 : J 142 0 7 = c) (c1 : 1 ≤ c ∧ c ≤ 40) (hD : 12 ≤ D) (hQ : ∀ J' : zJ, MF J J' → RM f N (cst f N (decide (c = 40)) d t) J' → ((cst f N (decide (c = 40)) d t).2.1 = 0 → DM (csd f N (decide (c = 40)) d t) J' ∧ J' 142 0 7 = c + 1) → Q (.inl none) 0 J' K) : zCall L xs D 206 [zr 142] J K Q := by
  obtain ⟨hT, ⟨h5, h6⟩, h3, hr, hf, hp⟩ := id h
  have e3 := h3 q0
  have r1 := skp_in (P := isB) (f := f) (N := N) (i := t.1) (by omega) (by omega)
  have r2 := skp_in (P := isL) (f := f) (N := N) (i := skp isB f N t.1) (by omega) (by omega)
  obtain ⟨D, rfl⟩ : ∃ d, D = d + 1 := ⟨D - 1, by omega⟩
  refine z206 hL ?_
  refine c257 hL hT e3 (by omega) (by omega) (h5.trans q0) (by omega) fun J1 g1 k1 a1 => zaI_of ?_
  unfold cst csd at hQ
  generalize skp isB f N t.1 = s at *
  have hl := lw_n hw.1
  have hd1 : DM d J1 := dm_fr hd g1
  have h71 : J1 142 0 7 = c := (k1 7 (by first | decide | simp)).trans h7
  have h51 : J1 142 0 5 = 0 := (k1 5 (by first | decide | simp)).trans (h5.trans q0)
  have hM1 : MF J J1 := mf_142 (mf_rfl J) g1 fun k a _ _ _ => k1 k a
  have hT1 : Tpm f N J1 := tpm_eq hT (g1 143 (by first | decide | simp)) (k1 2 (by first | decide | simp))
  have hr1 : RM f N (s, 0, t.2.2) J1 := ⟨hT1, ⟨h51, (k1 6 (by first | decide | simp)).trans h6⟩, fun _ => a1, by omega, ⟨by first | decide | simp, by first | decide | simp⟩, hp⟩
  have hk := kdw_rng f s (skp isL f N s)
  have bad : ∀ v : Int, 1 ≤ v → v ≤ 3 → RM f N (skp isL f N s, v, s) (zup (zup J1 142 0 5 v) 142 0 6 s) := by
    intro v v1 v2
    refine ⟨tpm_eq hT1 (by rw [zup_ne _ _ _ _ (by first | decide | simp), zup_ne _ _ _ _ (by first | decide | simp)]) (by rw [zup_nk _ _ (by first | decide | simp), zup_nk _ _ (by first | decide | simp)]), ⟨?_, ?_⟩, fun z => ?_, ?_, ⟨by simp only; omega, v2⟩, ⟨by simp only; omega, by simp only; omega⟩⟩
    · rw [zup_nk _ _ (by first | decide | simp), zup_eq]
    · rw [zup_eq]
    · have z : v = 0 := z
      omega
    · rw [zup_nk _ _ (by first | decide | simp), zup_nk _ _ (by first | decide | simp), a1]
      omega
  have badM : ∀ v : Int, MF J (zup (zup J1 142 0 5 v) 142 0 6 s) := fun v => mf_142 hM1 (fun b hb => by rw [zup_ne _ _ _ _ hb, zup_ne _ _ _ _ hb]) fun k _ a b _ => by rw [zup_nk _ _ b, zup_nk _ _ a]
  have bad5 : ∀ v : Int, zup (zup J1 142 0 5 v) 142 0 6 s 142 0 5 = v := fun v => by rw [zup_nk _ _ (by first | decide | simp), zup_eq]
  generalize hu : decide (c = 40) = u at *
  generalize hkk : kdw f s (skp isL f N s) = k at *
  have G96 : k ≠ -1 → fll u d k = true → zGo L xs (D + 1) 206 96 [some (zr 142), some (zi k), none, none, none] [] J1 K Q := by
    intro y1 y2
    rw [wd1_t hkk y1 y2, clT_f (by first | decide | simp)] at hQ
    refine z206_96 hL ?_
    refine c314 hL (by rw [h51]; exact zin_0) (by omega) (fun z => absurd h51 z) fun _ => zaV_of ?_
    rw [a1]
    refine z206_105 hL ⟨by rw [bad5]; exact ⟨by first | decide | simp, by first | decide | simp⟩, fun z => absurd z (by rw [bad5]; decide), fun _ => ?_⟩
    exact hQ _ (badM 3) (bad 3 (by first | decide | simp) (by first | decide | simp)) (fun z => absurd z (by first | decide | simp))
  have G105 : k ≠ -1 → fll u d k = false → zGo L xs (D + 1) 206 105 [some (zr 142), some (zi k), none, none, none] [] J1 K Q := by
    intro y1 y2
    rw [wd1_f hkk y1 y2] at hQ
    rw [fll_u, Bool.or_eq_false_iff] at y2
    have y3 := y2.2
    have hq : ∀ J' : zJ, MF J1 J' → RM f N (clT f N d k (skp isL f N s, 0, t.2.2)) J' → ((clT f N d k (skp isL f N s, 0, t.2.2)).2.1 = 0 → DM (clD f N d k (skp isL f N s, 0, t.2.2)) J' ∧ J' 142 0 7 = c + 1) → Q (.inl none) 0 J' K := fun J' m1 m2 m3 => hQ J' (mf_tr hM1 m1) m2 m3
    clear hQ G96 bad badM bad5 y2 hkk
    rcases hk with z | z | z | z | z | z | z <;> subst z
    · exact absurd rfl y1
    · exact m105_0 hL hr1 hd1 hw y3 h71 (by omega) hq
    · exact m105_1 hL hr1 hd1 hw y3 h71 (by omega) hq
    · exact m105_2 hL hr1 hd1 hw y3 h71 (by omega) hq
    · exact m105_3 hL hr1 hd1 hw y3 h71 (by omega) hq
    · exact m105_4 hL hr1 hd1 hw y3 h71 (by omega) hq
    · exact m105_5 hL hr1 hd1 hw y3 h71 (by omega) hq
  have zk : zin k := by unfold zin; omega
  obtain ⟨d0, d1, d2, d3⟩ := id hd1.1
  have F : u = false → ¬ (k = 0 ∧ 12 ≤ d 18 0 0) → ¬ (k = 2 ∧ 7 ≤ d 18 0 6) → ¬ (k = 4 ∧ 8 ≤ d 18 0 11) → ¬ (k = 5 ∧ 12 ≤ d 18 0 14) → fll u d k = false := by
    intro a b c' e g
    unfold fll
    rw [a, decide_eq_false b, decide_eq_false c', decide_eq_false e, decide_eq_false g]
    rfl
  have T0 : k = 0 → 12 ≤ d 18 0 0 → fll u d k = true := by
    intro a b
    unfold fll
    simp [a, b]
  have T2 : k = 2 → 7 ≤ d 18 0 6 → fll u d k = true := by
    intro a b
    unfold fll
    simp [a, b]
  have T4 : k = 4 → 8 ≤ d 18 0 11 → fll u d k = true := by
    intro a b
    unfold fll
    simp [a, b]
  have T5 : k = 5 → 12 ≤ d 18 0 14 → fll u d k = true := by
    intro a b
    unfold fll
    simp [a, b]
  have TU : u = true → fll u d k = true := by
    intro a
    rw [a, fll_t]
  have H79 : k ≠ -1 → u = false → ¬ (k = 0 ∧ 12 ≤ d 18 0 0) → ¬ (k = 2 ∧ 7 ≤ d 18 0 6) → ¬ (k = 4 ∧ 8 ≤ d 18 0 11) → zGo L xs (D + 1) 206 79 [some (zr 142), some (zi k), none, none, none] [] J1 K Q := by
    intro a a0 a1 a2 a3
    refine z206_79 hL ⟨zk, ⟨by first | decide | simp, by first | decide | simp⟩, fun y => G105 a (F a0 a1 a2 a3 (by omega)), fun y => ⟨by first | decide | simp, by first | decide | simp, ⟨by omega, by omega⟩, ⟨by first | decide | simp, by first | decide | simp⟩, fun x => G105 a (F a0 a1 a2 a3 (by omega)), fun x => G96 a (T5 y (by omega))⟩⟩
  have H62 : k ≠ -1 → u = false → ¬ (k = 0 ∧ 12 ≤ d 18 0 0) → ¬ (k = 2 ∧ 7 ≤ d 18 0 6) → zGo L xs (D + 1) 206 62 [some (zr 142), some (zi k), none, none, none] [] J1 K Q := by
    intro a a0 a1 a2
    refine z206_62 hL ⟨zk, ⟨by first | decide | simp, by first | decide | simp⟩, fun y => H79 a a0 a1 a2 (by omega), fun y => ⟨by first | decide | simp, by first | decide | simp, ⟨by omega, by omega⟩, ⟨by first | decide | simp, by first | decide | simp⟩, fun x => G96 a (T4 y (by omega)), fun x => H79 a a0 a1 a2 (by omega)⟩⟩
  have H46 : k ≠ -1 → u = false → ¬ (k = 0 ∧ 12 ≤ d 18 0 0) → zGo L xs (D + 1) 206 46 [some (zr 142), some (zi k), none, none, none] [] J1 K Q := by
    intro a a0 a1
    refine z206_46 hL ⟨zk, ⟨by first | decide | simp, by first | decide | simp⟩, fun y => H62 a a0 a1 (by omega), fun y => ⟨by first | decide | simp, by first | decide | simp, ⟨by omega, by omega⟩, ⟨by first | decide | simp, by first | decide | simp⟩, fun x => G96 a (T2 y (by omega)), fun x => H62 a a0 a1 (by omega)⟩⟩
  refine ⟨zk, ⟨by first | decide | simp, by first | decide | simp⟩, fun a => ⟨⟨by omega, by omega⟩, ⟨by first | decide | simp, by first | decide | simp⟩, fun y => ?_, fun y => ?_⟩, fun a => ?_⟩
  · refine G96 a (TU ?_)
    rw [← hu, decide_eq_true_iff]
    omega
  · have hu2 : u = false := by
      rw [← hu, decide_eq_false_iff_not]
      omega
    refine ⟨zk, fun x => H46 a hu2 (by omega), fun x => ⟨by first | decide | simp, by first | decide | simp, ⟨by omega, by omega⟩, ⟨by first | decide | simp, by first | decide | simp⟩, fun w => G96 a (T0 x (by omega)), fun w => H46 a hu2 (by omega)⟩⟩
  · rw [wd1_n (hkk.trans a), clT_f (by first | decide | simp)] at hQ
    refine c314 hL (by rw [h51]; exact zin_0) (by omega) (fun z => absurd h51 z) fun _ => zaV_of ?_
    rw [a1]
    refine z206_105 hL ⟨by rw [bad5]; exact ⟨by first | decide | simp, by first | decide | simp⟩, fun z => absurd z (by rw [bad5]; decide), fun _ => ?_⟩
    exact hQ _ (badM 1) (bad 1 (by first | decide | simp) (by first | decide | simp)) (fun z => absurd z (by first | decide | simp))
theorem c283 {L : Nat} {xs : Nat → Int32} (hL : L ≤ 3072) {D : Nat} {J : zJ} {K : zK} {Q : zR → Nat → zJ → zK → Prop} {f : Int → Int} {N : Int} {d : zJ} (h : RM f N (0, 0, -1) J) (h0 : D0 d) (hD : 8 ≤ D) (hQ : ∀ J' : zJ, MF J J' → RM f N (rtT f N) J' → ((rtT f N).2.1 = 0 → DM (rtD f N d) J' ∧ J' 142 0 7 = 1) → Q (.inl none) 0 J' K) : zCall L xs D 283 [zr 142] J K Q := by
  obtain ⟨hT, ⟨h5, h6⟩, h3, hr, hf, hp⟩ := id h
  have e3 : J 142 0 4 = 0 := h3 rfl
  have h5 : J 142 0 5 = 0 := h5
  have h6 : J 142 0 6 = -1 := h6
  have r1 := skp_in (P := isB) (f := f) (N := N) (i := 0) (by omega) (by omega)
  have r2 := skp_in (P := isL) (f := f) (N := N) (i := skp isB f N 0) (by omega) (by omega)
  obtain ⟨D, rfl⟩ : ∃ d, D = d + 1 := ⟨D - 1, by omega⟩
  refine z283 hL ?_
  refine c253r hL hT e3 (by omega) (by omega) h5 (by omega) fun J1 g1 k1 a1 => ?_
  unfold rtT rtD at hQ
  generalize skp isB f N 0 = s at *
  have h51 : J1 142 0 5 = 0 := (k1 5 (by first | decide | simp)).trans h5
  have hM1 : MF J J1 := mf_142 (mf_rfl J) g1 fun k a _ _ _ => k1 k a
  have hT1 : Tpm f N J1 := tpm_eq hT (g1 143 (by first | decide | simp)) (k1 2 (by first | decide | simp))
  cases k0 : wdb [114, 111, 111, 116] f s (skp isL f N s) with
  | true =>
    have er : rt1 f s (skp isL f N s) = (skp isL f N s, 0, -1) := by
      unfold rt1
      rw [if_pos k0]
    rw [er] at hQ
    refine zaI_of ⟨zin_1, fun _ => ⟨by rw [h51]; exact zin_0, fun _ => ?_, fun z => absurd h51 z⟩, fun z => absurd z (by first | decide | simp)⟩
    refine c293 hL hT1 a1 (by omega) (by omega) (by omega) fun J2 g2 k2 a2 => zaV_of ?_
    generalize skp isL f N s = e at *
    have hM2 : MF J J2 := mf_142 hM1 g2 fun k a _ _ _ => k2 k a
    have hr2 : RM f N (e, 0, -1) J2 := ⟨tpm_eq hT1 (g2 143 (by first | decide | simp)) (k2 2 (by first | decide | simp)), ⟨(k2 5 (by first | decide | simp)).trans h51, (k2 6 (by first | decide | simp)).trans ((k1 6 (by first | decide | simp)).trans h6)⟩, fun _ => a2, by omega, ⟨by first | decide | simp, by first | decide | simp⟩, hp⟩
    refine ⟨by first | decide | simp, by first | decide | simp, by first | decide | simp, by first | decide | simp, by first | decide | simp, by first | decide | simp, by first | decide | simp, by first | decide | simp, by first | decide | simp, by first | decide | simp, ?_⟩
    refine u273 hL (rm_up (rm_up hr2 (a := 145) (by first | decide | simp) (by first | decide | simp) _ _ _) (a := 145) (by first | decide | simp) (by first | decide | simp) _ _ _) (by first | decide | simp) (by first | decide | simp) (by first | decide | simp) (by first | decide | simp) (by omega) fun J3 g3 k3 hr3 x _ w => zaI_of ?_
    have hM3 := mf_142 (mf_u145 (mf_u145 hM2 (j := 12) (by first | decide | simp) 0 (-1)) (j := 12) (by first | decide | simp) 1 0) g3 fun k a1 a2 a3 _ => k3 k a1 a2 a3
    refine ⟨by first | decide | simp, by first | decide | simp, by first | decide | simp, by first | decide | simp, by first | decide | simp, by first | decide | simp, by first | decide | simp, by first | decide | simp, by first | decide | simp, by first | decide | simp, by first | decide | simp, by first | decide | simp, ?_⟩
    refine u292 hL (rm_up (rm_up (rm_up hr3 (a := 145) (by first | decide | simp) (by first | decide | simp) _ _ _) (a := 145) (by first | decide | simp) (by first | decide | simp) _ _ _) (a := 145) (by first | decide | simp) (by first | decide | simp) _ _ _) (by omega) fun J4 g4 k4 hr4 => zaV_of ?_
    have hM4 := mf_142 (mf_u145 (mf_u145 (mf_u145 hM3 (j := 12) (by first | decide | simp) 2 x) (j := 12) (by first | decide | simp) 3 0) (j := 12) (by first | decide | simp) 4 0) g4 fun k a1 a2 a3 _ => k4 k a1 a2 a3
    refine ⟨by first | decide | simp, by first | decide | simp, by first | decide | simp, by first | decide | simp, by first | decide | simp, by first | decide | simp, by first | decide | simp, by first | decide | simp, ?_⟩
    refine hQ _ (mf_u7 (mf_u144 (mf_u144 (mf_u144 (mf_u144 hM4 (by first | decide | simp) _) (by first | decide | simp) _) (by first | decide | simp) _) (by first | decide | simp) _) _) (rm_u7 (rm_up (rm_up (rm_up (rm_up hr4 (a := 144) (by first | decide | simp) (by first | decide | simp) _ _ _) (a := 144) (by first | decide | simp) (by first | decide | simp) _ _ _) (a := 144) (by first | decide | simp) (by first | decide | simp) _ _ _) (a := 144) (by first | decide | simp) (by first | decide | simp) _ _ _) _) fun z => ⟨?_, zup_eq _ _ _ _ _⟩
    obtain rfl := w (smR_ok z).1
    refine dm_R h0 ?_ ?_ ?_ ?_ ?_
    · rw [g4 145 (by first | decide | simp), zup_nk _ _ (by first | decide | simp), zup_nk _ _ (by first | decide | simp), zup_nk _ _ (by first | decide | simp), g3 145 (by first | decide | simp), zup_nk _ _ (by first | decide | simp), zup_eq]
    · rw [g4 145 (by first | decide | simp), zup_nk _ _ (by first | decide | simp), zup_nk _ _ (by first | decide | simp), zup_nk _ _ (by first | decide | simp), g3 145 (by first | decide | simp), zup_eq]
    · rw [g4 145 (by first | decide | simp), zup_nk _ _ (by first | decide | simp), zup_nk _ _ (by first | decide | simp), zup_eq]
    · rw [g4 145 (by first | decide | simp), zup_nk _ _ (by first | decide | simp), zup_eq]
    · rw [g4 145 (by first | decide | simp), zup_eq]
  | false =>
    have er : rt1 f s (skp isL f N s) = (skp isL f N s, 1, s) := by
      unfold rt1
      rw [if_neg (by rw [k0]; decide)]
    rw [er, nmR_f (by first | decide | simp), smR_f (by first | decide | simp)] at hQ
    refine zaI_of ⟨zin_0, fun z => absurd rfl z, fun _ => ?_⟩
    refine c314 hL (by rw [h51]; exact zin_0) (by omega) (fun z => absurd h51 z) fun _ => zaV_of ?_
    rw [a1]
    have b5 : zup (zup J1 142 0 5 1) 142 0 6 s 142 0 5 = 1 := by rw [zup_nk _ _ (by first | decide | simp), zup_eq]
    refine ⟨by rw [b5]; exact zin_1, fun z => absurd z (by rw [b5]; decide), fun _ => ?_⟩
    refine hQ _ (mf_142 hM1 (fun b hb => by rw [zup_ne _ _ _ _ hb, zup_ne _ _ _ _ hb]) fun k _ a b _ => by rw [zup_nk _ _ b, zup_nk _ _ a]) ⟨tpm_eq hT1 (by rw [zup_ne _ _ _ _ (by first | decide | simp), zup_ne _ _ _ _ (by first | decide | simp)]) (by rw [zup_nk _ _ (by first | decide | simp), zup_nk _ _ (by first | decide | simp)]), ⟨b5, zup_eq _ _ _ _ _⟩, fun z => absurd z (by first | decide | simp), ?_, ⟨by first | decide | simp, by first | decide | simp⟩, ⟨by simp only; omega, by simp only; omega⟩⟩ (fun z => absurd z (by first | decide | simp))
    rw [zup_nk _ _ (by first | decide | simp), zup_nk _ _ (by first | decide | simp), a1]
    omega
theorem m65 {L : Nat} {xs : Nat → Int32} (hL : L ≤ 3072) {D : Nat} {J : zJ} {K : zK} {Q : zR → Nat → zJ → zK → Prop} {f : Int → Int} {N : Int} (hD : 13 ≤ D) : ∀ (m : Nat) (c : Int) (t : Int × Int × Int) (d J1 : zJ), c + m = 41 → 1 ≤ c → (m = 0 → t.2.1 ≠ 0) → RM f N t J1 → (t.2.1 = 0 → DM d J1 ∧ WD d ∧ J1 142 0 7 = c) → MF J J1 → (∀ J' : zJ, MF J J' → RM f N (lpR f N m c t d).1 J' → ((lpR f N m c t d).1.2.1 = 0 → DM (lpR f N m c t d).2 J' ∧ WD (lpR f N m c t d).2) → ((lpR f N m c t d).1.2.1 = 0 → zGo L xs (D + 1) 258 119 [some (zr 142), none, some (zi 0), none] [] (zup J' 142 0 3 (J' 142 0 6)) K Q) ∧ ((lpR f N m c t d).1.2.1 ≠ 0 → Q (.inl (some (zi ((lpR f N m c t d).1.2.1 - 10)))) 0 (zup J' 142 0 3 (J' 142 0 6)) K)) → zGo L xs (D + 1) 258 65 [some (zr 142), none, none, none] [] J1 K Q := by
  intro m
  induction m with
  | zero =>
    intro c t d J2 hc c1 hm hr hdw fr hq
    have h5 := hr.2.1.1
    have hm := hm rfl
    have hf := hr.2.2.2.2.1
    refine z258_65 hL ⟨⟨by omega, by omega⟩, fun _ => ⟨⟨by omega, by omega⟩, fun z => absurd (h5.symm.trans z) hm, fun _ => ?_⟩, fun z => absurd (h5.symm.trans z) hm⟩
    have := (hq J2 fr hr (fun z => absurd z hm)).2 hm
    rw [h5]
    exact this
  | succ m ih =>
    intro c t d J2 hc c1 hm hr hdw fr hq
    obtain ⟨hT2, ⟨h5, h6⟩, h3, hrr, hf, hp⟩ := id hr
    have hN2 := hT2.1
    have hN3 := hT2.2.1
    by_cases q : t.2.1 = 0
    · obtain ⟨hd2, hw2, h72⟩ := hdw q
      have e3 := h3 q
      by_cases q2 : t.1 < N
      · have el : lpR f N (m + 1) c t d = lpR f N m (c + 1) (skt f N (cst f N (decide (c = 40)) d t)) (csd f N (decide (c = 40)) d t) := by
          rw [lpR, if_pos ⟨q, q2⟩]
        rw [el] at hq
        refine z258_65 hL ⟨⟨by omega, by omega⟩, fun z => absurd (h5.trans q) z, fun _ => ⟨⟨by omega, by omega⟩, ⟨by omega, by omega⟩, fun z => by omega, fun _ => ?_⟩⟩
        refine c206 hL hr q hd2 hw2 h72 ⟨c1, by omega⟩ (by omega) fun J3 m3 hr3 hd3 => zaV_of ?_
        refine u202 hL hr3 (by omega) fun J4 g4 k4 hr4 => zaV_of ?_
        refine ih (c + 1) _ _ J4 (by omega) (by omega) (fun z => ?_) hr4 (fun z => ?_) (mf_142 (mf_tr fr m3) g4 fun k a _ _ _ => k4 k a) hq
        · intro y
          have := (cl_wd hw2 (show (clT f N d (kdw f (skp isB f N t.1) (skp isL f N (skp isB f N t.1))) (wd1 f (decide (c = 40)) d (skp isB f N t.1) (skp isL f N (skp isB f N t.1)) t.2.2)).2.1 = 0 from y)).2.1
          rw [decide_eq_true (show c = 40 by omega), fll_t] at this
          exact absurd this (by first | decide | simp)
        · exact ⟨dm_fr (hd3 z).1 g4, (cl_wd hw2 z).2.2.2, (k4 7 (by first | decide | simp)).trans (hd3 z).2⟩
      · have el : lpR f N (m + 1) c t d = (t, d) := by
          rw [lpR, if_neg (fun z => q2 z.2)]
        rw [el] at hq
        have fin := (hq J2 fr hr (fun z => ⟨(hdw z).1, (hdw z).2.1⟩)).1 q
        refine z258_65 hL ⟨⟨by omega, by omega⟩, fun z => absurd (h5.trans q) z, fun _ => ⟨⟨by omega, by omega⟩, ⟨by omega, by omega⟩, fun z => ⟨⟨by omega, by omega⟩, fun _ => fin, fun y => absurd (h5.trans q) y⟩, fun _ => by omega⟩⟩
    · have el : lpR f N (m + 1) c t d = (t, d) := by
        rw [lpR, if_neg (fun z => q z.1)]
      rw [el] at hq
      have fin := (hq J2 fr hr (fun z => absurd z q)).2 q
      refine z258_65 hL ⟨⟨by omega, by omega⟩, fun z => ⟨⟨by omega, by omega⟩, fun y => absurd (h5.symm.trans y) q, fun _ => ?_⟩, fun z => absurd (h5.symm.trans z) q⟩
      rw [h5]
      exact fin
