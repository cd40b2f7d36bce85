/-! CLAUSES read by the model (printed by tools/gen_clm.py) -/
theorem m105_0 {L : Nat} {xs : Nat → Int32} (hL : L ≤ 3072) {D : Nat} {J : zJ} {K : zK} {Q : zR → Nat → zJ → zK → Prop} {f : Int → Int} {N s p c : Int} {d : zJ} (h : RM f N (s, 0, p) J) (hd : DM d J) (hw : WD d) (hu : fll false d 0 = false) (h7 : J 142 0 7 = c) (hD : 8 ≤ D) (hQ : ∀ J' : zJ, MF J J' → RM f N (clT f N d 0 (skp isL f N s, 0, p)) J' → ((clT f N d 0 (skp isL f N s, 0, p)).2.1 = 0 → DM (clD f N d 0 (skp isL f N s, 0, p)) J' ∧ J' 142 0 7 = c + 1) → Q (.inl none) 0 J' K) : zGo L xs (D + 1) 206 105 [some (zr 142), some (zi 0), none, none, none] [] J K Q := by
  obtain ⟨hT, ⟨h5, h6⟩, h3, hr, hf, hp⟩ := id h
  have h5 : J 142 0 5 = 0 := h5
  have h6 : J 142 0 6 = p := h6
  have h3 : J 142 0 4 = s := h3 rfl
  have hl := lw_n hw.1
  have hP1 := hw.2.2
  rw [fll_0] at hu
  rw [clT_0, clD_0] at hQ
  have r1 := skp_in (P := isL) (f := f) (N := N) (i := s) (by omega) (by omega)
  generalize he : skp isL f N s = e at *
  have fin : ∀ (J' : zJ) (t : Int × Int × Int), MF J J' → RM f N t J' → nm3 f N 0 (d 18 0 0 - 1) 1 240 1 60 (e, 0, p) = smR f N t → (t.2.1 = 0 → DM (updP d (nmV f N (e, 0, p)) (nmV f N (nmR f N 0 (d 18 0 0 - 1) (e, 0, p))) (nmV f N (nmR f N 1 240 (nmR f N 0 (d 18 0 0 - 1) (e, 0, p))))) J' ∧ J' 142 0 7 = c + 1) → zGo L xs (D + 1) 206 232 [some (zr 142), none, none, none, none] [] J' K Q := by
    intro J' t m1 m2 m3 m4
    refine z206_232 hL ?_
    refine u292 hL m2 (by omega) fun J2 g1 g2 hr2 => zaV_of (hQ J2 (mf_142 m1 g1 fun k a1 a2 a3 _ => g2 k a1 a2 a3) (by rw [m3]; exact hr2) fun z => ?_)
    rw [m3] at z
    have m5 := m4 (smR_ok z).1
    exact ⟨dm_fr m5.1 g1, (g2 7 (by first | decide | simp) (by first | decide | simp) (by first | decide | simp)).trans m5.2⟩
  refine z206_105 hL ⟨by rw [h5]; exact zin_0, fun _ => ?_, fun z => absurd h5 z⟩
  refine c293 hL hT h3 (by omega) (by omega) (by omega) fun J1 g1 k1 a1 => zaV_of ?_
  rw [he] at a1
  have e7 : J1 142 0 7 = c := (k1 7 (by first | decide | simp)).trans h7
  have e144 : J1 144 = J 144 := g1 144 (by first | decide | simp)
  rw [e7, e144, hd.1.2.1]
  have hr0 : RM f N (e, 0, p) J1 := ⟨tpm_eq hT (g1 143 (by first | decide | simp)) (k1 2 (by first | decide | simp)), ⟨(k1 5 (by first | decide | simp)).trans h5, (k1 6 (by first | decide | simp)).trans h6⟩, fun _ => a1, by omega, ⟨by first | decide | simp, by first | decide | simp⟩, hp⟩
  have hr1 : RM f N (e, 0, p) (zup J1 142 0 7 (c + 1)) := rm_u7 hr0 _
  have hM1 : MF J (zup J1 142 0 7 (c + 1)) := mf_u7 (mf_142 (mf_rfl J) g1 fun k a _ _ _ => k1 k a) _
  have hd1 : DM d (zup J1 142 0 7 (c + 1)) := dm_fr hd fun b hb => by rw [zup_ne _ _ _ _ hb]; exact g1 b hb
  have h71 : zup J1 142 0 7 (c + 1) 142 0 7 = c + 1 := zup_eq _ _ _ _ _
  generalize zup J1 142 0 7 (c + 1) = Ja at *
  have d144 := hd1.1
  refine ⟨⟨by first | decide | simp, by first | decide | simp⟩, ⟨by first | decide | simp, by first | decide | simp⟩, fun _ => ⟨⟨by first | decide | simp, by first | decide | simp⟩, ⟨by first | decide | simp, by first | decide | simp⟩, fun z => absurd z (by first | decide | simp), fun _ => ⟨⟨by first | decide | simp, by first | decide | simp⟩, ⟨by first | decide | simp, by first | decide | simp⟩, fun _ => ?_, fun z => absurd z (by first | decide | simp)⟩⟩, fun z => absurd z (by first | decide | simp)⟩
  refine z206_214 hL ⟨by first | decide | simp, by first | decide | simp, ?_⟩
  rw [d144.1]
  refine u273 hL hr1 (by first | decide | simp) (by first | decide | simp) (by omega) (by omega) (by omega) fun Jb gb kb hrb x1 _ w1 => zaI_of ?_
  have hMb := mf_142 hM1 gb fun k a1 a2 a3 _ => kb k a1 a2 a3
  have hdb := dm_fr hd1 gb
  have h7b := (kb 7 (by first | decide | simp) (by first | decide | simp) (by first | decide | simp)).trans h71
  obtain ⟨D, rfl⟩ : ∃ d, D = d + 1 := ⟨D - 1, by omega⟩
  rw [Bool.false_or, decide_eq_false_iff_not] at hu
  refine z297 hL ⟨⟨by first | decide | simp, by first | decide | simp⟩, fun z => absurd rfl z, fun _ => ?_⟩
  rw [hdb.1.1]
  refine ⟨by first | decide | simp, by first | decide | simp, by omega, by omega, by omega, by omega, by first | decide | simp, by first | decide | simp, ?_⟩
  refine u273 hL (rm_up hrb (a := 145) (by first | decide | simp) (by first | decide | simp) _ _ _) (by first | decide | simp) (by first | decide | simp) (by first | decide | simp) (by first | decide | simp) (by omega) fun Jc gc kc hrc x2 _ w2 => zaI_of ?_
  refine ⟨by omega, by omega, by first | decide | simp, by first | decide | simp, ?_⟩
  refine u273 hL (rm_up hrc (a := 145) (by first | decide | simp) (by first | decide | simp) _ _ _) (by first | decide | simp) (by first | decide | simp) (by first | decide | simp) (by first | decide | simp) (by omega) fun Je ge ke hre x3 _ w3 => zaI_of ?_
  have c144 : Jc 144 = Jb 144 := by rw [gc 144 (by first | decide | simp), zup_ne _ _ _ _ (by first | decide | simp)]
  have f144 : Je 144 = Jb 144 := by rw [ge 144 (by first | decide | simp), zup_ne _ _ _ _ (by first | decide | simp), c144]
  rw [f144, hdb.1.1]
  refine ⟨by omega, by omega, by first | decide | simp, by first | decide | simp, by omega, by omega, by first | decide | simp, by first | decide | simp, by omega, by omega, by first | decide | simp, by first | decide | simp, by first | decide | simp, by first | decide | simp, by first | decide | simp, by first | decide | simp, ?_⟩
  refine z297_62 hL ⟨⟨by first | decide | simp, by first | decide | simp⟩, ⟨by first | decide | simp, by first | decide | simp⟩, fun _ => ?_, fun z => absurd z (by first | decide | simp)⟩
  refine z297_116 hL ⟨⟨by first | decide | simp, by first | decide | simp⟩, ⟨by first | decide | simp, by first | decide | simp⟩, fun _ => ?_, fun z => absurd z (by first | decide | simp)⟩
  refine z297_168 hL ⟨⟨by first | decide | simp, by first | decide | simp⟩, ⟨by first | decide | simp, by first | decide | simp⟩, fun _ => ?_, fun z => absurd z (by first | decide | simp)⟩
  refine z297_226 hL ⟨⟨by first | decide | simp, by first | decide | simp⟩, ⟨by first | decide | simp, by first | decide | simp⟩, fun _ => ?_, fun z => absurd z (by first | decide | simp)⟩
  refine z297_284 hL (zaV_of ?_)
  refine fin _ _ ?_ (rm_up (rm_up (rm_up (rm_up hre (a := 145) (by first | decide | simp) (by first | decide | simp) _ _ _) (a := 145) (by first | decide | simp) (by first | decide | simp) _ _ _) (a := 145) (by first | decide | simp) (by first | decide | simp) _ _ _) (a := 144) (by first | decide | simp) (by first | decide | simp) _ _ _) rfl fun z => ⟨?_, ?_⟩
  · have hMc := mf_142 (mf_u145 hMb (j := 12 + d 18 0 0) (by omega) 0 x1) gc fun k a1 a2 a3 _ => kc k a1 a2 a3
    have hMe := mf_142 (mf_u145 hMc (j := 12 + d 18 0 0) (by omega) 1 x2) ge fun k a1 a2 a3 _ => ke k a1 a2 a3
    exact mf_u144 (mf_u145 (mf_u145 (mf_u145 hMe (by omega) _ _) (by omega) _ _) (by omega) _ _) (by first | decide | simp) _
  · have q2 := nmR_ok z
    have q1 := nmR_ok q2.1
    obtain rfl := w1 q1.1; obtain rfl := w2 q2.1; obtain rfl := w3 z
    refine dm_P hdb hw rfl (by omega) f144 ?_ ?_ ?_ ?_
    · rw [ge 145 (by first | decide | simp)]
      exact zup_c (gc 145 (by first | decide | simp)) _ _ _
    · rw [ge 170 (by first | decide | simp), zup_ne _ _ _ _ (by first | decide | simp), gc 170 (by first | decide | simp), zup_ne _ _ _ _ (by first | decide | simp)]
    · rw [ge 187 (by first | decide | simp), zup_ne _ _ _ _ (by first | decide | simp), gc 187 (by first | decide | simp), zup_ne _ _ _ _ (by first | decide | simp)]
    · rw [ge 204 (by first | decide | simp), zup_ne _ _ _ _ (by first | decide | simp), gc 204 (by first | decide | simp), zup_ne _ _ _ _ (by first | decide | simp)]
  · rw [zup_ne _ _ _ _ (by first | decide | simp), zup_ne _ _ _ _ (by first | decide | simp), zup_ne _ _ _ _ (by first | decide | simp), zup_ne _ _ _ _ (by first | decide | simp), ke 7 (by first | decide | simp) (by first | decide | simp) (by first | decide | simp), zup_ne _ _ _ _ (by first | decide | simp), kc 7 (by first | decide | simp) (by first | decide | simp) (by first | decide | simp), zup_ne _ _ _ _ (by first | decide | simp)]
    exact h7b
theorem m105_1 {L : Nat} {xs : Nat → Int32} (hL : L ≤ 3072) {D : Nat} {J : zJ} {K : zK} {Q : zR → Nat → zJ → zK → Prop} {f : Int → Int} {N s p c : Int} {d : zJ} (h : RM f N (s, 0, p) J) (hd : DM d J) (hw : WD d) (hu : fll false d 1 = false) (h7 : J 142 0 7 = c) (hD : 8 ≤ D) (hQ : ∀ J' : zJ, MF J J' → RM f N (clT f N d 1 (skp isL f N s, 0, p)) J' → ((clT f N d 1 (skp isL f N s, 0, p)).2.1 = 0 → DM (clD f N d 1 (skp isL f N s, 0, p)) J' ∧ J' 142 0 7 = c + 1) → Q (.inl none) 0 J' K) : zGo L xs (D + 1) 206 105 [some (zr 142), some (zi 1), none, none, none] [] J K Q := by
  obtain ⟨hT, ⟨h5, h6⟩, h3, hr, hf, hp⟩ := id h
  have h5 : J 142 0 5 = 0 := h5
  have h6 : J 142 0 6 = p := h6
  have h3 : J 142 0 4 = s := h3 rfl
  have hl := lw_n hw.1
  have hP1 := hw.2.2
  rw [fll_1] at hu
  rw [clT_1, clD_1] at hQ
  have r1 := skp_in (P := isL) (f := f) (N := N) (i := s) (by omega) (by omega)
  generalize he : skp isL f N s = e at *
  have fin : ∀ (J' : zJ) (t : Int × Int × Int), MF J J' → RM f N t J' → nm3 f N 0 (d 18 0 0 - 1) 1 60 1 60 (e, 0, p) = smR f N t → (t.2.1 = 0 → DM (updF d (nmV f N (e, 0, p)) (nmV f N (nmR f N 0 (d 18 0 0 - 1) (e, 0, p))) (nmV f N (nmR f N 1 60 (nmR f N 0 (d 18 0 0 - 1) (e, 0, p))))) J' ∧ J' 142 0 7 = c + 1) → zGo L xs (D + 1) 206 232 [some (zr 142), none, none, none, none] [] J' K Q := by
    intro J' t m1 m2 m3 m4
    refine z206_232 hL ?_
    refine u292 hL m2 (by omega) fun J2 g1 g2 hr2 => zaV_of (hQ J2 (mf_142 m1 g1 fun k a1 a2 a3 _ => g2 k a1 a2 a3) (by rw [m3]; exact hr2) fun z => ?_)
    rw [m3] at z
    have m5 := m4 (smR_ok z).1
    exact ⟨dm_fr m5.1 g1, (g2 7 (by first | decide | simp) (by first | decide | simp) (by first | decide | simp)).trans m5.2⟩
  refine z206_105 hL ⟨by rw [h5]; exact zin_0, fun _ => ?_, fun z => absurd h5 z⟩
  refine c293 hL hT h3 (by omega) (by omega) (by omega) fun J1 g1 k1 a1 => zaV_of ?_
  rw [he] at a1
  have e7 : J1 142 0 7 = c := (k1 7 (by first | decide | simp)).trans h7
  have e144 : J1 144 = J 144 := g1 144 (by first | decide | simp)
  rw [e7, e144, hd.1.2.1]
  have hr0 : RM f N (e, 0, p) J1 := ⟨tpm_eq hT (g1 143 (by first | decide | simp)) (k1 2 (by first | decide | simp)), ⟨(k1 5 (by first | decide | simp)).trans h5, (k1 6 (by first | decide | simp)).trans h6⟩, fun _ => a1, by omega, ⟨by first | decide | simp, by first | decide | simp⟩, hp⟩
  have hr1 : RM f N (e, 0, p) (zup J1 142 0 7 (c + 1)) := rm_u7 hr0 _
  have hM1 : MF J (zup J1 142 0 7 (c + 1)) := mf_u7 (mf_142 (mf_rfl J) g1 fun k a _ _ _ => k1 k a) _
  have hd1 : DM d (zup J1 142 0 7 (c + 1)) := dm_fr hd fun b hb => by rw [zup_ne _ _ _ _ hb]; exact g1 b hb
  have h71 : zup J1 142 0 7 (c + 1) 142 0 7 = c + 1 := zup_eq _ _ _ _ _
  generalize zup J1 142 0 7 (c + 1) = Ja at *
  have d144 := hd1.1
  refine ⟨⟨by first | decide | simp, by first | decide | simp⟩, ⟨by first | decide | simp, by first | decide | simp⟩, fun _ => ⟨⟨by first | decide | simp, by first | decide | simp⟩, ⟨by first | decide | simp, by first | decide | simp⟩, fun z => absurd z (by first | decide | simp), fun _ => ⟨⟨by first | decide | simp, by first | decide | simp⟩, ⟨by first | decide | simp, by first | decide | simp⟩, fun _ => ?_, fun z => absurd z (by first | decide | simp)⟩⟩, fun z => absurd z (by first | decide | simp)⟩
  refine z206_214 hL ⟨by first | decide | simp, by first | decide | simp, ?_⟩
  rw [d144.1]
  refine u273 hL hr1 (by first | decide | simp) (by first | decide | simp) (by omega) (by omega) (by omega) fun Jb gb kb hrb x1 _ w1 => zaI_of ?_
  have hMb := mf_142 hM1 gb fun k a1 a2 a3 _ => kb k a1 a2 a3
  have hdb := dm_fr hd1 gb
  have h7b := (kb 7 (by first | decide | simp) (by first | decide | simp) (by first | decide | simp)).trans h71
  obtain ⟨D, rfl⟩ : ∃ d, D = d + 1 := ⟨D - 1, by omega⟩
  refine z297 hL ⟨⟨by first | decide | simp, by first | decide | simp⟩, fun _ => ?_, fun z => absurd z (by first | decide | simp)⟩
  refine z297_62 hL ⟨⟨by first | decide | simp, by first | decide | simp⟩, ⟨by first | decide | simp, by first | decide | simp⟩, fun z => absurd rfl z, fun _ => ?_⟩
  refine u273 hL hrb (by first | decide | simp) (by first | decide | simp) (by first | decide | simp) (by first | decide | simp) (by omega) fun Jc gc kc hrc x2 _ w2 => zaI_of ?_
  refine u273 hL hrc (by first | decide | simp) (by first | decide | simp) (by first | decide | simp) (by first | decide | simp) (by omega) fun Je ge ke hre x3 _ w3 => zaI_of ?_
  have hMc := mf_142 hMb gc fun k a1 a2 a3 _ => kc k a1 a2 a3
  have hMe := mf_142 hMc ge fun k a1 a2 a3 _ => ke k a1 a2 a3
  have hde := dm_fr (dm_fr hdb gc) ge
  have h7e := (ke 7 (by first | decide | simp) (by first | decide | simp) (by first | decide | simp)).trans ((kc 7 (by first | decide | simp) (by first | decide | simp) (by first | decide | simp)).trans h7b)
  have h5e := hre.2.1.1
  have hfe := hre.2.2.2.2.1
  refine ⟨⟨by omega, by omega⟩, fun z => ?_, fun z => ?_⟩
  · refine z297_116 hL ⟨⟨by first | decide | simp, by first | decide | simp⟩, ⟨by first | decide | simp, by first | decide | simp⟩, fun _ => ?_, fun z => absurd z (by first | decide | simp)⟩
    refine z297_168 hL ⟨⟨by first | decide | simp, by first | decide | simp⟩, ⟨by first | decide | simp, by first | decide | simp⟩, fun _ => ?_, fun z => absurd z (by first | decide | simp)⟩
    refine z297_226 hL ⟨⟨by first | decide | simp, by first | decide | simp⟩, ⟨by first | decide | simp, by first | decide | simp⟩, fun _ => ?_, fun z => absurd z (by first | decide | simp)⟩
    refine z297_284 hL (zaV_of ?_)
    exact fin _ _ hMe hre rfl fun y => absurd (h5e.trans y) z
  · have z := h5e.symm.trans z
    have q2 := nmR_ok z
    have q1 := nmR_ok q2.1
    have q0 := nmR_ok q1.1
    obtain rfl := w1 q1.1; obtain rfl := w2 q2.1; obtain rfl := w3 z
    refine ⟨by omega, by omega, by omega, by omega, by first | decide | simp, by first | decide | simp, by omega, by omega, by omega, by omega, by first | decide | simp, by first | decide | simp, ?_⟩
    refine z297_116 hL ⟨⟨by first | decide | simp, by first | decide | simp⟩, ⟨by first | decide | simp, by first | decide | simp⟩, fun _ => ?_, fun z => absurd z (by first | decide | simp)⟩
    refine z297_168 hL ⟨⟨by first | decide | simp, by first | decide | simp⟩, ⟨by first | decide | simp, by first | decide | simp⟩, fun _ => ?_, fun z => absurd z (by first | decide | simp)⟩
    refine z297_226 hL ⟨⟨by first | decide | simp, by first | decide | simp⟩, ⟨by first | decide | simp, by first | decide | simp⟩, fun _ => ?_, fun z => absurd z (by first | decide | simp)⟩
    refine z297_284 hL (zaV_of ?_)
    refine fin _ _ (mf_u145 (mf_u145 hMe (by omega) _ _) (by omega) _ _) (rm_up (rm_up hre (a := 145) (by first | decide | simp) (by first | decide | simp) _ _ _) (a := 145) (by first | decide | simp) (by first | decide | simp) _ _ _) rfl fun _ => ⟨dm_F hde, ?_⟩
    rw [zup_ne _ _ _ _ (by first | decide | simp), zup_ne _ _ _ _ (by first | decide | simp)]
    exact h7e
theorem m105_2 {L : Nat} {xs : Nat → Int32} (hL : L ≤ 3072) {D : Nat} {J : zJ} {K : zK} {Q : zR → Nat → zJ → zK → Prop} {f : Int → Int} {N s p c : Int} {d : zJ} (h : RM f N (s, 0, p) J) (hd : DM d J) (hw : WD d) (hu : fll false d 2 = false) (h7 : J 142 0 7 = c) (hD : 8 ≤ D) (hQ : ∀ J' : zJ, MF J J' → RM f N (clT f N d 2 (skp isL f N s, 0, p)) J' → ((clT f N d 2 (skp isL f N s, 0, p)).2.1 = 0 → DM (clD f N d 2 (skp isL f N s, 0, p)) J' ∧ J' 142 0 7 = c + 1) → Q (.inl none) 0 J' K) : zGo L xs (D + 1) 206 105 [some (zr 142), some (zi 2), none, none, none] [] J K Q := by
  obtain ⟨hT, ⟨h5, h6⟩, h3, hr, hf, hp⟩ := id h
  have h5 : J 142 0 5 = 0 := h5
  have h6 : J 142 0 6 = p := h6
  have h3 : J 142 0 4 = s := h3 rfl
  have hl := lw_n hw.1
  have hP1 := hw.2.2
  rw [fll_2] at hu
  rw [clT_2, clD_2] at hQ
  have r1 := skp_in (P := isL) (f := f) (N := N) (i := s) (by omega) (by omega)
  generalize he : skp isL f N s = e at *
  have fin : ∀ (J' : zJ) (t : Int × Int × Int), MF J J' → RM f N t J' → nm2 f N 1 (d 18 0 0 - 1) 1 15 (e, 0, p) = smR f N t → (t.2.1 = 0 → DM (updN d (nmV f N (e, 0, p)) (nmV f N (nmR f N 1 (d 18 0 0 - 1) (e, 0, p)))) J' ∧ J' 142 0 7 = c + 1) → zGo L xs (D + 1) 206 232 [some (zr 142), none, none, none, none] [] J' K Q := by
    intro J' t m1 m2 m3 m4
    refine z206_232 hL ?_
    refine u292 hL m2 (by omega) fun J2 g1 g2 hr2 => zaV_of (hQ J2 (mf_142 m1 g1 fun k a1 a2 a3 _ => g2 k a1 a2 a3) (by rw [m3]; exact hr2) fun z => ?_)
    rw [m3] at z
    have m5 := m4 (smR_ok z).1
    exact ⟨dm_fr m5.1 g1, (g2 7 (by first | decide | simp) (by first | decide | simp) (by first | decide | simp)).trans m5.2⟩
  refine z206_105 hL ⟨by rw [h5]; exact zin_0, fun _ => ?_, fun z => absurd h5 z⟩
  refine c293 hL hT h3 (by omega) (by omega) (by omega) fun J1 g1 k1 a1 => zaV_of ?_
  rw [he] at a1
  have e7 : J1 142 0 7 = c := (k1 7 (by first | decide | simp)).trans h7
  have e144 : J1 144 = J 144 := g1 144 (by first | decide | simp)
  rw [e7, e144, hd.1.2.1]
  have hr0 : RM f N (e, 0, p) J1 := ⟨tpm_eq hT (g1 143 (by first | decide | simp)) (k1 2 (by first | decide | simp)), ⟨(k1 5 (by first | decide | simp)).trans h5, (k1 6 (by first | decide | simp)).trans h6⟩, fun _ => a1, by omega, ⟨by first | decide | simp, by first | decide | simp⟩, hp⟩
  have hr1 : RM f N (e, 0, p) (zup J1 142 0 7 (c + 1)) := rm_u7 hr0 _
  have hM1 : MF J (zup J1 142 0 7 (c + 1)) := mf_u7 (mf_142 (mf_rfl J) g1 fun k a _ _ _ => k1 k a) _
  have hd1 : DM d (zup J1 142 0 7 (c + 1)) := dm_fr hd fun b hb => by rw [zup_ne _ _ _ _ hb]; exact g1 b hb
  have h71 : zup J1 142 0 7 (c + 1) 142 0 7 = c + 1 := zup_eq _ _ _ _ _
  generalize zup J1 142 0 7 (c + 1) = Ja at *
  have d144 := hd1.1
  refine ⟨⟨by first | decide | simp, by first | decide | simp⟩, ⟨by first | decide | simp, by first | decide | simp⟩, fun _ => ⟨⟨by first | decide | simp, by first | decide | simp⟩, ⟨by first | decide | simp, by first | decide | simp⟩, fun _ => ?_, fun z => absurd rfl z⟩, fun z => absurd z (by first | decide | simp)⟩
  refine z206_209 hL ?_
  refine z206_214 hL ⟨by first | decide | simp, by first | decide | simp, ?_⟩
  rw [d144.1]
  refine u273 hL hr1 (by first | decide | simp) (by first | decide | simp) (by omega) (by omega) (by omega) fun Jb gb kb hrb x1 _ w1 => zaI_of ?_
  have hMb := mf_142 hM1 gb fun k a1 a2 a3 _ => kb k a1 a2 a3
  have hdb := dm_fr hd1 gb
  have h7b := (kb 7 (by first | decide | simp) (by first | decide | simp) (by first | decide | simp)).trans h71
  obtain ⟨D, rfl⟩ : ∃ d, D = d + 1 := ⟨D - 1, by omega⟩
  rw [Bool.false_or, decide_eq_false_iff_not] at hu
  refine z297 hL ⟨⟨by first | decide | simp, by first | decide | simp⟩, fun _ => ?_, fun z => absurd z (by first | decide | simp)⟩
  refine z297_62 hL ⟨⟨by first | decide | simp, by first | decide | simp⟩, ⟨by first | decide | simp, by first | decide | simp⟩, fun _ => ?_, fun z => absurd z (by first | decide | simp)⟩
  refine z297_116 hL ⟨⟨by first | decide | simp, by first | decide | simp⟩, ⟨by first | decide | simp, by first | decide | simp⟩, fun z => absurd rfl z, fun _ => ?_⟩
  rw [hdb.1.2.1]
  refine ⟨by first | decide | simp, by first | decide | simp, by omega, by omega, by omega, by omega, by first | decide | simp, by first | decide | simp, ?_⟩
  refine u273 hL (rm_up hrb (a := 170) (by first | decide | simp) (by first | decide | simp) _ _ _) (by first | decide | simp) (by first | decide | simp) (by first | decide | simp) (by first | decide | simp) (by omega) fun Jc gc kc hrc x2 _ w2 => zaI_of ?_
  have c144 : Jc 144 = Jb 144 := by rw [gc 144 (by first | decide | simp), zup_ne _ _ _ _ (by first | decide | simp)]
  rw [c144, hdb.1.2.1]
  refine ⟨by omega, by omega, by first | decide | simp, by first | decide | simp, by omega, by omega, by first | decide | simp, by first | decide | simp, by omega, by omega, by first | decide | simp, by first | decide | simp, by first | decide | simp, by first | decide | simp, by first | decide | simp, by first | decide | simp, ?_⟩
  refine z297_168 hL ⟨⟨by first | decide | simp, by first | decide | simp⟩, ⟨by first | decide | simp, by first | decide | simp⟩, fun _ => ?_, fun z => absurd z (by first | decide | simp)⟩
  refine z297_226 hL ⟨⟨by first | decide | simp, by first | decide | simp⟩, ⟨by first | decide | simp, by first | decide | simp⟩, fun _ => ?_, fun z => absurd z (by first | decide | simp)⟩
  refine z297_284 hL (zaV_of ?_)
  refine fin _ _ ?_ (rm_up (rm_up (rm_up (rm_up hrc (a := 170) (by first | decide | simp) (by first | decide | simp) _ _ _) (a := 170) (by first | decide | simp) (by first | decide | simp) _ _ _) (a := 170) (by first | decide | simp) (by first | decide | simp) _ _ _) (a := 144) (by first | decide | simp) (by first | decide | simp) _ _ _) rfl fun z => ⟨?_, ?_⟩
  · have hMc := mf_142 (mf_u170 hMb (j := 8 + d 18 0 6) (by omega) 0 x1) gc fun k a1 a2 a3 _ => kc k a1 a2 a3
    exact mf_u144 (mf_u170 (mf_u170 (mf_u170 hMc (by omega) _ _) (by omega) _ _) (by omega) _ _) (by first | decide | simp) _
  · have q1 := nmR_ok z
    obtain rfl := w1 q1.1; obtain rfl := w2 z
    refine dm_N hdb hw rfl (by omega) c144 ?_ (gc 170 (by first | decide | simp)) ?_ ?_
    · rw [gc 145 (by first | decide | simp), zup_ne _ _ _ _ (by first | decide | simp)]
    · rw [gc 187 (by first | decide | simp), zup_ne _ _ _ _ (by first | decide | simp)]
    · rw [gc 204 (by first | decide | simp), zup_ne _ _ _ _ (by first | decide | simp)]
  · rw [zup_ne _ _ _ _ (by first | decide | simp), zup_ne _ _ _ _ (by first | decide | simp), zup_ne _ _ _ _ (by first | decide | simp), zup_ne _ _ _ _ (by first | decide | simp), kc 7 (by first | decide | simp) (by first | decide | simp) (by first | decide | simp), zup_ne _ _ _ _ (by first | decide | simp)]
    exact h7b
theorem m105_3 {L : Nat} {xs : Nat → Int32} (hL : L ≤ 3072) {D : Nat} {J : zJ} {K : zK} {Q : zR → Nat → zJ → zK → Prop} {f : Int → Int} {N s p c : Int} {d : zJ} (h : RM f N (s, 0, p) J) (hd : DM d J) (hw : WD d) (hu : fll false d 3 = false) (h7 : J 142 0 7 = c) (hD : 8 ≤ D) (hQ : ∀ J' : zJ, MF J J' → RM f N (clT f N d 3 (skp isL f N s, 0, p)) J' → ((clT f N d 3 (skp isL f N s, 0, p)).2.1 = 0 → DM (clD f N d 3 (skp isL f N s, 0, p)) J' ∧ J' 142 0 7 = c + 1) → Q (.inl none) 0 J' K) : zGo L xs (D + 1) 206 105 [some (zr 142), some (zi 3), none, none, none] [] J K Q := by
  obtain ⟨hT, ⟨h5, h6⟩, h3, hr, hf, hp⟩ := id h
  have h5 : J 142 0 5 = 0 := h5
  have h6 : J 142 0 6 = p := h6
  have h3 : J 142 0 4 = s := h3 rfl
  have hl := lw_n hw.1
  have hP1 := hw.2.2
  rw [fll_3] at hu
  rw [clT_3, clD_3] at hQ
  have r1 := skp_in (P := isL) (f := f) (N := N) (i := s) (by omega) (by omega)
  generalize he : skp isL f N s = e at *
  have fin : ∀ (J' : zJ) (t : Int × Int × Int), MF J J' → RM f N t J' → nm3 f N 0 (d 18 0 6 - 1) 0 19 1 120 (e, 0, p) = smR f N t → (t.2.1 = 0 → DM (updL d (nmV f N (e, 0, p)) (nmV f N (nmR f N 0 (d 18 0 6 - 1) (e, 0, p))) (nmV f N (nmR f N 0 19 (nmR f N 0 (d 18 0 6 - 1) (e, 0, p))))) J' ∧ J' 142 0 7 = c + 1) → zGo L xs (D + 1) 206 232 [some (zr 142), none, none, none, none] [] J' K Q := by
    intro J' t m1 m2 m3 m4
    refine z206_232 hL ?_
    refine u292 hL m2 (by omega) fun J2 g1 g2 hr2 => zaV_of (hQ J2 (mf_142 m1 g1 fun k a1 a2 a3 _ => g2 k a1 a2 a3) (by rw [m3]; exact hr2) fun z => ?_)
    rw [m3] at z
    have m5 := m4 (smR_ok z).1
    exact ⟨dm_fr m5.1 g1, (g2 7 (by first | decide | simp) (by first | decide | simp) (by first | decide | simp)).trans m5.2⟩
  refine z206_105 hL ⟨by rw [h5]; exact zin_0, fun _ => ?_, fun z => absurd h5 z⟩
  refine c293 hL hT h3 (by omega) (by omega) (by omega) fun J1 g1 k1 a1 => zaV_of ?_
  rw [he] at a1
  have e7 : J1 142 0 7 = c := (k1 7 (by first | decide | simp)).trans h7
  have e144 : J1 144 = J 144 := g1 144 (by first | decide | simp)
  rw [e7, e144, hd.1.2.1]
  have hr0 : RM f N (e, 0, p) J1 := ⟨tpm_eq hT (g1 143 (by first | decide | simp)) (k1 2 (by first | decide | simp)), ⟨(k1 5 (by first | decide | simp)).trans h5, (k1 6 (by first | decide | simp)).trans h6⟩, fun _ => a1, by omega, ⟨by first | decide | simp, by first | decide | simp⟩, hp⟩
  have hr1 : RM f N (e, 0, p) (zup J1 142 0 7 (c + 1)) := rm_u7 hr0 _
  have hM1 : MF J (zup J1 142 0 7 (c + 1)) := mf_u7 (mf_142 (mf_rfl J) g1 fun k a _ _ _ => k1 k a) _
  have hd1 : DM d (zup J1 142 0 7 (c + 1)) := dm_fr hd fun b hb => by rw [zup_ne _ _ _ _ hb]; exact g1 b hb
  have h71 : zup J1 142 0 7 (c + 1) 142 0 7 = c + 1 := zup_eq _ _ _ _ _
  generalize zup J1 142 0 7 (c + 1) = Ja at *
  have d144 := hd1.1
  refine ⟨⟨by first | decide | simp, by first | decide | simp⟩, ⟨by first | decide | simp, by first | decide | simp⟩, fun z => absurd rfl z, fun _ => ⟨by first | decide | simp, by first | decide | simp, ?_⟩⟩
  refine u273 hL hr1 (by first | decide | simp) (by first | decide | simp) (by omega) (by omega) (by omega) fun Jb gb kb hrb x1 _ w1 => zaI_of ?_
  refine u273 hL hrb (by first | decide | simp) (by first | decide | simp) (by first | decide | simp) (by first | decide | simp) (by omega) fun Jc gc kc hrc x2 _ w2 => zaI_of ?_
  refine u273 hL hrc (by first | decide | simp) (by first | decide | simp) (by first | decide | simp) (by first | decide | simp) (by omega) fun Je ge ke hre x3 _ w3 => zaI_of ?_
  have hMb := mf_142 hM1 gb fun k a1 a2 a3 _ => kb k a1 a2 a3
  have hMc := mf_142 hMb gc fun k a1 a2 a3 _ => kc k a1 a2 a3
  have hMe := mf_142 hMc ge fun k a1 a2 a3 _ => ke k a1 a2 a3
  have hde := dm_fr (dm_fr (dm_fr hd1 gb) gc) ge
  have h7e := (ke 7 (by first | decide | simp) (by first | decide | simp) (by first | decide | simp)).trans ((kc 7 (by first | decide | simp) (by first | decide | simp) (by first | decide | simp)).trans ((kb 7 (by first | decide | simp) (by first | decide | simp) (by first | decide | simp)).trans h71))
  have h5e := hre.2.1.1
  have hfe := hre.2.2.2.2.1
  refine ⟨⟨by omega, by omega⟩, fun z => ?_, fun z => ?_⟩
  · refine z206_195 hL ?_
    exact fin _ _ hMe hre rfl fun y => absurd (h5e.trans y) z
  · have z := h5e.symm.trans z
    have q2 := nmR_ok z
    have q1 := nmR_ok q2.1
    have q0 := nmR_ok q1.1
    obtain rfl := w1 q1.1; obtain rfl := w2 q2.1; obtain rfl := w3 z
    refine ⟨by omega, by omega, by omega, by omega, by first | decide | simp, by first | decide | simp, by omega, by omega, by omega, by omega, by first | decide | simp, by first | decide | simp, ?_⟩
    refine z206_195 hL ?_
    refine fin _ _ (mf_u170 (mf_u170 hMe (by omega) _ _) (by omega) _ _) (rm_up (rm_up hre (a := 170) (by first | decide | simp) (by first | decide | simp) _ _ _) (a := 170) (by first | decide | simp) (by first | decide | simp) _ _ _) rfl fun _ => ⟨dm_L hde, ?_⟩
    rw [zup_ne _ _ _ _ (by first | decide | simp), zup_ne _ _ _ _ (by first | decide | simp)]
    exact h7e
theorem m105_4 {L : Nat} {xs : Nat → Int32} (hL : L ≤ 3072) {D : Nat} {J : zJ} {K : zK} {Q : zR → Nat → zJ → zK → Prop} {f : Int → Int} {N s p c : Int} {d : zJ} (h : RM f N (s, 0, p) J) (hd : DM d J) (hw : WD d) (hu : fll false d 4 = false) (h7 : J 142 0 7 = c) (hD : 8 ≤ D) (hQ : ∀ J' : zJ, MF J J' → RM f N (clT f N d 4 (skp isL f N s, 0, p)) J' → ((clT f N d 4 (skp isL f N s, 0, p)).2.1 = 0 → DM (clD f N d 4 (skp isL f N s, 0, p)) J' ∧ J' 142 0 7 = c + 1) → Q (.inl none) 0 J' K) : zGo L xs (D + 1) 206 105 [some (zr 142), some (zi 4), none, none, none] [] J K Q := by
  obtain ⟨hT, ⟨h5, h6⟩, h3, hr, hf, hp⟩ := id h
  have h5 : J 142 0 5 = 0 := h5
  have h6 : J 142 0 6 = p := h6
  have h3 : J 142 0 4 = s := h3 rfl
  have hl := lw_n hw.1
  have hP1 := hw.2.2
  rw [fll_4] at hu
  rw [clT_4, clD_4] at hQ
  have r1 := skp_in (P := isL) (f := f) (N := N) (i := s) (by omega) (by omega)
  generalize he : skp isL f N s = e at *
  have fin : ∀ (J' : zJ) (t : Int × Int × Int), MF J J' → RM f N t J' → nm2 f N 0 (d 18 0 0 - 1) 1 60 (e, 0, p) = smR f N t → (t.2.1 = 0 → DM (updE d (nmV f N (e, 0, p)) (nmV f N (nmR f N 0 (d 18 0 0 - 1) (e, 0, p)))) J' ∧ J' 142 0 7 = c + 1) → zGo L xs (D + 1) 206 232 [some (zr 142), none, none, none, none] [] J' K Q := by
    intro J' t m1 m2 m3 m4
    refine z206_232 hL ?_
    refine u292 hL m2 (by omega) fun J2 g1 g2 hr2 => zaV_of (hQ J2 (mf_142 m1 g1 fun k a1 a2 a3 _ => g2 k a1 a2 a3) (by rw [m3]; exact hr2) fun z => ?_)
    rw [m3] at z
    have m5 := m4 (smR_ok z).1
    exact ⟨dm_fr m5.1 g1, (g2 7 (by first | decide | simp) (by first | decide | simp) (by first | decide | simp)).trans m5.2⟩
  refine z206_105 hL ⟨by rw [h5]; exact zin_0, fun _ => ?_, fun z => absurd h5 z⟩
  refine c293 hL hT h3 (by omega) (by omega) (by omega) fun J1 g1 k1 a1 => zaV_of ?_
  rw [he] at a1
  have e7 : J1 142 0 7 = c := (k1 7 (by first | decide | simp)).trans h7
  have e144 : J1 144 = J 144 := g1 144 (by first | decide | simp)
  rw [e7, e144, hd.1.2.1]
  have hr0 : RM f N (e, 0, p) J1 := ⟨tpm_eq hT (g1 143 (by first | decide | simp)) (k1 2 (by first | decide | simp)), ⟨(k1 5 (by first | decide | simp)).trans h5, (k1 6 (by first | decide | simp)).trans h6⟩, fun _ => a1, by omega, ⟨by first | decide | simp, by first | decide | simp⟩, hp⟩
  have hr1 : RM f N (e, 0, p) (zup J1 142 0 7 (c + 1)) := rm_u7 hr0 _
  have hM1 : MF J (zup J1 142 0 7 (c + 1)) := mf_u7 (mf_142 (mf_rfl J) g1 fun k a _ _ _ => k1 k a) _
  have hd1 : DM d (zup J1 142 0 7 (c + 1)) := dm_fr hd fun b hb => by rw [zup_ne _ _ _ _ hb]; exact g1 b hb
  have h71 : zup J1 142 0 7 (c + 1) 142 0 7 = c + 1 := zup_eq _ _ _ _ _
  generalize zup J1 142 0 7 (c + 1) = Ja at *
  have d144 := hd1.1
  refine ⟨⟨by first | decide | simp, by first | decide | simp⟩, ⟨by first | decide | simp, by first | decide | simp⟩, fun _ => ⟨⟨by first | decide | simp, by first | decide | simp⟩, ⟨by first | decide | simp, by first | decide | simp⟩, fun z => absurd z (by first | decide | simp), fun _ => ⟨⟨by first | decide | simp, by first | decide | simp⟩, ⟨by first | decide | simp, by first | decide | simp⟩, fun _ => ?_, fun z => absurd z (by first | decide | simp)⟩⟩, fun z => absurd z (by first | decide | simp)⟩
  refine z206_214 hL ⟨by first | decide | simp, by first | decide | simp, ?_⟩
  rw [d144.1]
  refine u273 hL hr1 (by first | decide | simp) (by first | decide | simp) (by omega) (by omega) (by omega) fun Jb gb kb hrb x1 _ w1 => zaI_of ?_
  have hMb := mf_142 hM1 gb fun k a1 a2 a3 _ => kb k a1 a2 a3
  have hdb := dm_fr hd1 gb
  have h7b := (kb 7 (by first | decide | simp) (by first | decide | simp) (by first | decide | simp)).trans h71
  obtain ⟨D, rfl⟩ : ∃ d, D = d + 1 := ⟨D - 1, by omega⟩
  rw [Bool.false_or, decide_eq_false_iff_not] at hu
  refine z297 hL ⟨⟨by first | decide | simp, by first | decide | simp⟩, fun _ => ?_, fun z => absurd z (by first | decide | simp)⟩
  refine z297_62 hL ⟨⟨by first | decide | simp, by first | decide | simp⟩, ⟨by first | decide | simp, by first | decide | simp⟩, fun _ => ?_, fun z => absurd z (by first | decide | simp)⟩
  refine z297_116 hL ⟨⟨by first | decide | simp, by first | decide | simp⟩, ⟨by first | decide | simp, by first | decide | simp⟩, fun _ => ?_, fun z => absurd z (by first | decide | simp)⟩
  refine z297_168 hL ⟨⟨by first | decide | simp, by first | decide | simp⟩, ⟨by first | decide | simp, by first | decide | simp⟩, fun z => absurd rfl z, fun _ => ?_⟩
  rw [hdb.1.2.2.1]
  refine ⟨by first | decide | simp, by first | decide | simp, by omega, by omega, by omega, by omega, by first | decide | simp, by first | decide | simp, by first | decide | simp, by first | decide | simp, by omega, by omega, ?_⟩
  refine u273 hL (rm_up hrb (a := 187) (by first | decide | simp) (by first | decide | simp) _ _ _) (by first | decide | simp) (by first | decide | simp) (by first | decide | simp) (by first | decide | simp) (by omega) fun Jc gc kc hrc x2 _ w2 => zaI_of ?_
  have c144 : Jc 144 = Jb 144 := by rw [gc 144 (by first | decide | simp), zup_ne _ _ _ _ (by first | decide | simp)]
  rw [c144, hdb.1.2.2.1]
  refine ⟨by omega, by omega, by first | decide | simp, by first | decide | simp, by first | decide | simp, by first | decide | simp, by first | decide | simp, by first | decide | simp, ?_⟩
  refine z297_226 hL ⟨⟨by first | decide | simp, by first | decide | simp⟩, ⟨by first | decide | simp, by first | decide | simp⟩, fun _ => ?_, fun z => absurd z (by first | decide | simp)⟩
  refine z297_284 hL (zaV_of ?_)
  refine fin _ _ ?_ (rm_up (rm_up hrc (a := 187) (by first | decide | simp) (by first | decide | simp) _ _ _) (a := 144) (by first | decide | simp) (by first | decide | simp) _ _ _) rfl fun z => ⟨?_, ?_⟩
  · have hMc := mf_142 (mf_u187 hMb (j := 8 + d 18 0 11) (by omega) 0 x1) gc fun k a1 a2 a3 _ => kc k a1 a2 a3
    exact mf_u144 (mf_u187 hMc (by omega) _ _) (by first | decide | simp) _
  · have q1 := nmR_ok z
    obtain rfl := w1 q1.1; obtain rfl := w2 z
    refine dm_E hdb rfl c144 ?_ ?_ (gc 187 (by first | decide | simp)) ?_
    · rw [gc 145 (by first | decide | simp), zup_ne _ _ _ _ (by first | decide | simp)]
    · rw [gc 170 (by first | decide | simp), zup_ne _ _ _ _ (by first | decide | simp)]
    · rw [gc 204 (by first | decide | simp), zup_ne _ _ _ _ (by first | decide | simp)]
  · rw [zup_ne _ _ _ _ (by first | decide | simp), zup_ne _ _ _ _ (by first | decide | simp), kc 7 (by first | decide | simp) (by first | decide | simp) (by first | decide | simp), zup_ne _ _ _ _ (by first | decide | simp)]
    exact h7b
theorem m105_5 {L : Nat} {xs : Nat → Int32} (hL : L ≤ 3072) {D : Nat} {J : zJ} {K : zK} {Q : zR → Nat → zJ → zK → Prop} {f : Int → Int} {N s p c : Int} {d : zJ} (h : RM f N (s, 0, p) J) (hd : DM d J) (hw : WD d) (hu : fll false d 5 = false) (h7 : J 142 0 7 = c) (hD : 8 ≤ D) (hQ : ∀ J' : zJ, MF J J' → RM f N (clT f N d 5 (skp isL f N s, 0, p)) J' → ((clT f N d 5 (skp isL f N s, 0, p)).2.1 = 0 → DM (clD f N d 5 (skp isL f N s, 0, p)) J' ∧ J' 142 0 7 = c + 1) → Q (.inl none) 0 J' K) : zGo L xs (D + 1) 206 105 [some (zr 142), some (zi 5), none, none, none] [] J K Q := by
  obtain ⟨hT, ⟨h5, h6⟩, h3, hr, hf, hp⟩ := id h
  have h5 : J 142 0 5 = 0 := h5
  have h6 : J 142 0 6 = p := h6
  have h3 : J 142 0 4 = s := h3 rfl
  have hl := lw_n hw.1
  have hP1 := hw.2.2
  rw [fll_5] at hu
  rw [clT_5, clD_5] at hQ
  have r1 := skp_in (P := isL) (f := f) (N := N) (i := s) (by omega) (by omega)
  generalize he : skp isL f N s = e at *
  have fin : ∀ (J' : zJ) (t : Int × Int × Int), MF J J' → RM f N t J' → nm3 f N 1 (d 18 0 0 - 1) 1 999 0 1439 (e, 0, p) = smR f N t → (t.2.1 = 0 → DM (updW d (nmV f N (e, 0, p)) (nmV f N (nmR f N 1 (d 18 0 0 - 1) (e, 0, p))) (nmV f N (nmR f N 1 999 (nmR f N 1 (d 18 0 0 - 1) (e, 0, p))))) J' ∧ J' 142 0 7 = c + 1) → zGo L xs (D + 1) 206 232 [some (zr 142), none, none, none, none] [] J' K Q := by
    intro J' t m1 m2 m3 m4
    refine z206_232 hL ?_
    refine u292 hL m2 (by omega) fun J2 g1 g2 hr2 => zaV_of (hQ J2 (mf_142 m1 g1 fun k a1 a2 a3 _ => g2 k a1 a2 a3) (by rw [m3]; exact hr2) fun z => ?_)
    rw [m3] at z
    have m5 := m4 (smR_ok z).1
    exact ⟨dm_fr m5.1 g1, (g2 7 (by first | decide | simp) (by first | decide | simp) (by first | decide | simp)).trans m5.2⟩
  refine z206_105 hL ⟨by rw [h5]; exact zin_0, fun _ => ?_, fun z => absurd h5 z⟩
  refine c293 hL hT h3 (by omega) (by omega) (by omega) fun J1 g1 k1 a1 => zaV_of ?_
  rw [he] at a1
  have e7 : J1 142 0 7 = c := (k1 7 (by first | decide | simp)).trans h7
  have e144 : J1 144 = J 144 := g1 144 (by first | decide | simp)
  rw [e7, e144, hd.1.2.1]
  have hr0 : RM f N (e, 0, p) J1 := ⟨tpm_eq hT (g1 143 (by first | decide | simp)) (k1 2 (by first | decide | simp)), ⟨(k1 5 (by first | decide | simp)).trans h5, (k1 6 (by first | decide | simp)).trans h6⟩, fun _ => a1, by omega, ⟨by first | decide | simp, by first | decide | simp⟩, hp⟩
  have hr1 : RM f N (e, 0, p) (zup J1 142 0 7 (c + 1)) := rm_u7 hr0 _
  have hM1 : MF J (zup J1 142 0 7 (c + 1)) := mf_u7 (mf_142 (mf_rfl J) g1 fun k a _ _ _ => k1 k a) _
  have hd1 : DM d (zup J1 142 0 7 (c + 1)) := dm_fr hd fun b hb => by rw [zup_ne _ _ _ _ hb]; exact g1 b hb
  have h71 : zup J1 142 0 7 (c + 1) 142 0 7 = c + 1 := zup_eq _ _ _ _ _
  generalize zup J1 142 0 7 (c + 1) = Ja at *
  have d144 := hd1.1
  refine ⟨⟨by first | decide | simp, by first | decide | simp⟩, ⟨by first | decide | simp, by first | decide | simp⟩, fun _ => ⟨⟨by first | decide | simp, by first | decide | simp⟩, ⟨by first | decide | simp, by first | decide | simp⟩, fun z => absurd z (by first | decide | simp), fun _ => ⟨⟨by first | decide | simp, by first | decide | simp⟩, ⟨by first | decide | simp, by first | decide | simp⟩, fun z => absurd rfl z, fun _ => ?_⟩⟩, fun z => absurd z (by first | decide | simp)⟩
  refine z206_209 hL ?_
  refine z206_214 hL ⟨by first | decide | simp, by first | decide | simp, ?_⟩
  rw [d144.1]
  refine u273 hL hr1 (by first | decide | simp) (by first | decide | simp) (by omega) (by omega) (by omega) fun Jb gb kb hrb x1 _ w1 => zaI_of ?_
  have hMb := mf_142 hM1 gb fun k a1 a2 a3 _ => kb k a1 a2 a3
  have hdb := dm_fr hd1 gb
  have h7b := (kb 7 (by first | decide | simp) (by first | decide | simp) (by first | decide | simp)).trans h71
  obtain ⟨D, rfl⟩ : ∃ d, D = d + 1 := ⟨D - 1, by omega⟩
  rw [Bool.false_or, decide_eq_false_iff_not] at hu
  refine z297 hL ⟨⟨by first | decide | simp, by first | decide | simp⟩, fun _ => ?_, fun z => absurd z (by first | decide | simp)⟩
  refine z297_62 hL ⟨⟨by first | decide | simp, by first | decide | simp⟩, ⟨by first | decide | simp, by first | decide | simp⟩, fun _ => ?_, fun z => absurd z (by first | decide | simp)⟩
  refine z297_116 hL ⟨⟨by first | decide | simp, by first | decide | simp⟩, ⟨by first | decide | simp, by first | decide | simp⟩, fun _ => ?_, fun z => absurd z (by first | decide | simp)⟩
  refine z297_168 hL ⟨⟨by first | decide | simp, by first | decide | simp⟩, ⟨by first | decide | simp, by first | decide | simp⟩, fun _ => ?_, fun z => absurd z (by first | decide | simp)⟩
  refine z297_226 hL ⟨⟨by first | decide | simp, by first | decide | simp⟩, ⟨by first | decide | simp, by first | decide | simp⟩, fun z => absurd rfl z, fun _ => ?_⟩
  rw [hdb.1.2.2.2]
  refine ⟨by first | decide | simp, by first | decide | simp, by omega, by omega, by omega, by omega, by first | decide | simp, by first | decide | simp, ?_⟩
  refine u273 hL (rm_up hrb (a := 204) (by first | decide | simp) (by first | decide | simp) _ _ _) (by first | decide | simp) (by first | decide | simp) (by first | decide | simp) (by first | decide | simp) (by omega) fun Jc gc kc hrc x2 _ w2 => zaI_of ?_
  refine ⟨by omega, by omega, by first | decide | simp, by first | decide | simp, ?_⟩
  refine u273 hL (rm_up hrc (a := 204) (by first | decide | simp) (by first | decide | simp) _ _ _) (by first | decide | simp) (by first | decide | simp) (by first | decide | simp) (by first | decide | simp) (by omega) fun Je ge ke hre x3 _ w3 => zaI_of ?_
  have c144 : Jc 144 = Jb 144 := by rw [gc 144 (by first | decide | simp), zup_ne _ _ _ _ (by first | decide | simp)]
  have f144 : Je 144 = Jb 144 := by rw [ge 144 (by first | decide | simp), zup_ne _ _ _ _ (by first | decide | simp), c144]
  rw [f144, hdb.1.2.2.2]
  refine ⟨by omega, by omega, by first | decide | simp, by first | decide | simp, by first | decide | simp, by first | decide | simp, by first | decide | simp, by first | decide | simp, ?_⟩
  refine z297_284 hL (zaV_of ?_)
  refine fin _ _ ?_ (rm_up (rm_up hre (a := 204) (by first | decide | simp) (by first | decide | simp) _ _ _) (a := 144) (by first | decide | simp) (by first | decide | simp) _ _ _) rfl fun z => ⟨?_, ?_⟩
  · have hMc := mf_142 (mf_u204 hMb (j := 12 + d 18 0 14) (by omega) 0 x1) gc fun k a1 a2 a3 _ => kc k a1 a2 a3
    have hMe := mf_142 (mf_u204 hMc (j := 12 + d 18 0 14) (by omega) 1 x2) ge fun k a1 a2 a3 _ => ke k a1 a2 a3
    exact mf_u144 (mf_u204 hMe (by omega) _ _) (by first | decide | simp) _
  · have q2 := nmR_ok z
    have q1 := nmR_ok q2.1
    obtain rfl := w1 q1.1; obtain rfl := w2 q2.1; obtain rfl := w3 z
    refine dm_W hdb rfl f144 ?_ ?_ ?_ ?_
    · rw [ge 145 (by first | decide | simp), zup_ne _ _ _ _ (by first | decide | simp), gc 145 (by first | decide | simp), zup_ne _ _ _ _ (by first | decide | simp)]
    · rw [ge 170 (by first | decide | simp), zup_ne _ _ _ _ (by first | decide | simp), gc 170 (by first | decide | simp), zup_ne _ _ _ _ (by first | decide | simp)]
    · rw [ge 187 (by first | decide | simp), zup_ne _ _ _ _ (by first | decide | simp), gc 187 (by first | decide | simp), zup_ne _ _ _ _ (by first | decide | simp)]
    · rw [ge 204 (by first | decide | simp)]
      exact zup_c (gc 204 (by first | decide | simp)) _ _ _
  · rw [zup_ne _ _ _ _ (by first | decide | simp), zup_ne _ _ _ _ (by first | decide | simp), ke 7 (by first | decide | simp) (by first | decide | simp) (by first | decide | simp), zup_ne _ _ _ _ (by first | decide | simp), kc 7 (by first | decide | simp) (by first | decide | simp) (by first | decide | simp), zup_ne _ _ _ _ (by first | decide | simp)]
    exact h7b
