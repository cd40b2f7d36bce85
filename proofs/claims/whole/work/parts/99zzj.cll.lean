/-! READING by the class (printed by tools/gen_cll.py) -/
theorem u101 {L : Nat} {xs : Nat → Int32} (hL : L ≤ 3072) {D : Nat} {J : zJ} {K : zK} {Q : zR → Nat → zJ → zK → Prop} {f : Int → Int} {N : Int} {t : Int × Int × Int} (h : RC f N t J) (hD : 1 ≤ D) (hQ : ∀ J' : zJ, (∀ b : Nat, b ≠ 2 → J' b = J b) → RC f N (skt f N t) J' → Q (.inl none) 0 J' K) : zCall L xs D 101 [zr 2] J K Q := by
  obtain ⟨hT, ⟨h5, h6⟩, h3, hr, hf, hp⟩ := h
  have r1 := skp_in (P := isB) (f := f) (N := N) (i := J 2 0 3) (by omega) (by omega)
  refine c101 hL hT rfl (by omega) (by omega) hD fun J' g1 g2 g3 => hQ J' g1 ⟨tpc_eq hT (g1 1 (by first | decide | simp)) (g2 2 (by first | decide | simp)), ⟨(g2 5 (by first | decide | simp)).trans h5, (g2 6 (by first | decide | simp)).trans h6⟩, fun z => ?_, by omega, hf, hp⟩
  rw [g3, h3 z]
  rfl
theorem fll_0 (u : Bool) (d : zJ) : fll u d 0 = (u || decide (12 ≤ d 18 0 0)) := by simp [fll]
theorem fll_1 (u : Bool) (d : zJ) : fll u d 1 = u := by simp [fll]
theorem fll_2 (u : Bool) (d : zJ) : fll u d 2 = (u || decide (7 ≤ d 18 0 6)) := by simp [fll]
theorem fll_3 (u : Bool) (d : zJ) : fll u d 3 = u := by simp [fll]
theorem fll_4 (u : Bool) (d : zJ) : fll u d 4 = (u || decide (8 ≤ d 18 0 11)) := by simp [fll]
theorem fll_5 (u : Bool) (d : zJ) : fll u d 5 = (u || decide (12 ≤ d 18 0 14)) := by simp [fll]
theorem fll_t (d : zJ) (k : Int) : fll true d k = true := by simp [fll]
theorem clT_0 (f : Int → Int) (N : Int) (d : zJ) (t : Int × Int × Int) : clT f N d 0 t = nm3 f N 0 (d 18 0 0 - 1) 1 240 1 60 t := rfl
theorem clT_1 (f : Int → Int) (N : Int) (d : zJ) (t : Int × Int × Int) : clT f N d 1 t = nm3 f N 0 (d 18 0 0 - 1) 1 60 1 60 t := rfl
theorem clT_2 (f : Int → Int) (N : Int) (d : zJ) (t : Int × Int × Int) : clT f N d 2 t = nm2 f N 1 (d 18 0 0 - 1) 1 15 t := rfl
theorem clT_3 (f : Int → Int) (N : Int) (d : zJ) (t : Int × Int × Int) : clT f N d 3 t = nm3 f N 0 (d 18 0 6 - 1) 0 19 1 120 t := rfl
theorem clT_4 (f : Int → Int) (N : Int) (d : zJ) (t : Int × Int × Int) : clT f N d 4 t = nm2 f N 0 (d 18 0 0 - 1) 1 60 t := rfl
theorem clT_5 (f : Int → Int) (N : Int) (d : zJ) (t : Int × Int × Int) : clT f N d 5 t = nm3 f N 1 (d 18 0 0 - 1) 1 999 0 1439 t := rfl
theorem clD_0 (f : Int → Int) (N : Int) (d : zJ) (t : Int × Int × Int) : clD f N d 0 t = updP d (nmV f N t) (nmV f N (nmR f N 0 (d 18 0 0 - 1) t)) (nmV f N (nmR f N 1 240 (nmR f N 0 (d 18 0 0 - 1) t))) := rfl
theorem clD_1 (f : Int → Int) (N : Int) (d : zJ) (t : Int × Int × Int) : clD f N d 1 t = updF d (nmV f N t) (nmV f N (nmR f N 0 (d 18 0 0 - 1) t)) (nmV f N (nmR f N 1 60 (nmR f N 0 (d 18 0 0 - 1) t))) := rfl
theorem clD_2 (f : Int → Int) (N : Int) (d : zJ) (t : Int × Int × Int) : clD f N d 2 t = updN d (nmV f N t) (nmV f N (nmR f N 1 (d 18 0 0 - 1) t)) := rfl
theorem clD_3 (f : Int → Int) (N : Int) (d : zJ) (t : Int × Int × Int) : clD f N d 3 t = updL d (nmV f N t) (nmV f N (nmR f N 0 (d 18 0 6 - 1) t)) (nmV f N (nmR f N 0 19 (nmR f N 0 (d 18 0 6 - 1) t))) := rfl
theorem clD_4 (f : Int → Int) (N : Int) (d : zJ) (t : Int × Int × Int) : clD f N d 4 t = updE d (nmV f N t) (nmV f N (nmR f N 0 (d 18 0 0 - 1) t)) := rfl
theorem clD_5 (f : Int → Int) (N : Int) (d : zJ) (t : Int × Int × Int) : clD f N d 5 t = updW d (nmV f N t) (nmV f N (nmR f N 1 (d 18 0 0 - 1) t)) (nmV f N (nmR f N 1 999 (nmR f N 1 (d 18 0 0 - 1) t))) := rfl
theorem wd1_t {f : Int → Int} {u : Bool} {d : zJ} {s e p k : Int} (ek : kdw f s e = k) (hk : k ≠ -1) (hu : fll u d k = true) : wd1 f u d s e p = (e, 3, s) := by
  unfold wd1
  rw [ek, if_neg hk, if_pos hu]
theorem wd1_f {f : Int → Int} {u : Bool} {d : zJ} {s e p k : Int} (ek : kdw f s e = k) (hk : k ≠ -1) (hu : fll u d k = false) : wd1 f u d s e p = (e, 0, p) := by
  unfold wd1
  rw [ek, if_neg hk, if_neg (by rw [hu]; decide)]
theorem wd1_n {f : Int → Int} {u : Bool} {d : zJ} {s e p : Int} (ek : kdw f s e = -1) : wd1 f u d s e p = (e, 1, s) := by
  unfold wd1
  rw [if_pos ek]
theorem c90 {L : Nat} {xs : Nat → Int32} (hL : L ≤ 3072) {D : Nat} {J : zJ} {K : zK} {Q : zR → Nat → zJ → zK → Prop} {f : Int → Int} {N : Int} {d : zJ} {t : Int × Int × Int} {u : Bool} (h : RC f N t J) (q0 : t.2.1 = 0) (hd : DC d J) (hw : WD d) (hD : 15 ≤ D) (hQ : ∀ J' : zJ, (∀ b : Nat, b < 2 ∨ 17 < b → J' b = J b) → RC f N (cst f N u d t) J' → ((cst f N u d t).2.1 = 0 → DC (csd f N u d t) J') → Q (.inl none) 0 J' K) : zCall L xs D 90 [zr 2, zi (zb u)] J K Q := by
  obtain ⟨hT, ⟨h5, h6⟩, h3, hr, hf, hp⟩ := h
  have e3 := h3 q0
  have r1 := skp_in (P := isB) (f := f) (N := N) (i := t.1) (by omega) (by omega)
  have r2 := skp_in (P := isL) (f := f) (N := N) (i := skp isB f N t.1) (by omega) (by omega)
  obtain ⟨D, rfl⟩ : ∃ d, D = d + 1 := ⟨D - 1, by omega⟩
  refine z90 hL ?_
  refine c99 hL hT e3 (by omega) (by omega) (by omega) fun J1 g1 g2 g4 g3 => zaV_of ?_
  unfold cst csd at hQ
  generalize skp isB f N t.1 = s at *
  generalize skp isL f N s = e at *
  have hr1 : RC f N (e, 0, t.2.2) J1 := ⟨tpc_eq hT (g1 1 (by first | decide | simp)) (g2 2 (by first | decide | simp) (by first | decide | simp)), ⟨(g2 5 (by first | decide | simp) (by first | decide | simp)).trans (h5.trans q0), (g2 6 (by first | decide | simp) (by first | decide | simp)).trans h6⟩, fun _ => g3, by omega, ⟨by first | decide | simp, by first | decide | simp⟩, hp⟩
  have hT1 := hr1.1
  have hd1 : DC d J1 := dc_fr hd fun b b1 b2 => g1 b (by omega)
  have fr1 : ∀ b : Nat, b < 2 ∨ 17 < b → J1 b = J b := fun b hb => g1 b (by omega)
  have e31 : J1 3 = d 18 := hd1 18 (by first | decide | simp) (by first | decide | simp)
  have hl := lw_n hw.1
  have hn : (0 ≤ d 18 0 0 ∧ d 18 0 0 ≤ 12) ∧ (0 ≤ d 18 0 6 ∧ d 18 0 6 ≤ 7) ∧ 0 ≤ d 18 0 11 ∧ 0 ≤ d 18 0 14 := by omega
  refine c88a hL hT1 g4 g3 (by omega) (by omega) (by omega) (by omega) ?_
  cases k0 : wdb [112, 108, 97, 99, 101] f s e with
  | true =>
    refine zaI_of ⟨zin_1, fun z => absurd z (by first | decide | simp), fun _ => ?_⟩
    have ek : kdw f s e = 0 := by
      unfold kdw
      rw [if_pos k0]
    rw [ek] at hQ
    have T1 : fll u d 0 = true → zCall L xs D 95 [zr 2, zi 1] J1 K fun r e J K => zaV r e (Q (.inl none) 0 J K) (fun E => Q (.inr E) e J K) := by
      intro hu
      rw [wd1_t ek (by first | decide | simp) hu, clT_0, clD_0] at hQ
      exact c95 hL hr1 g4 (by omega) (by omega) zin_1 hd1 hn (fun z => absurd z (by first | decide | simp)) (by omega) fun J2 a b c => zaV_of (hQ J2 (fun x hx => (a x hx).trans (fr1 x hx)) b c)
    have T0 : fll u d 0 = false → zCall L xs D 95 [zr 2, zi 0] J1 K fun r e J K => zaV r e (Q (.inl none) 0 J K) (fun E => Q (.inr E) e J K) := by
      intro hu
      rw [wd1_f ek (by first | decide | simp) hu, clT_0, clD_0] at hQ
      rw [fll_0, Bool.or_eq_false_iff, decide_eq_false_iff_not] at hu
      exact c95 hL hr1 g4 (by omega) (by omega) zin_0 hd1 hn (fun _ => by omega) (by omega) fun J2 a b c => zaV_of (hQ J2 (fun x hx => (a x hx).trans (fr1 x hx)) b c)
    rw [fll_0] at T1 T0
    refine ⟨zin_zb u, fun z => T1 (by rw [zb_1.1 z]; rfl), fun z => ⟨by rw [e31]; unfold zin; omega, ⟨by first | decide | simp, by first | decide | simp⟩, fun y => T0 ?_, fun y => T1 ?_⟩⟩
    · rw [e31] at y
      rw [zb_0.1 z, Bool.false_or, decide_eq_false_iff_not]
      omega
    · rw [e31] at y
      rw [Bool.or_eq_true, decide_eq_true_iff]
      exact Or.inr y
  | false =>
  refine zaI_of ⟨zin_0, fun _ => ?_, fun z => absurd rfl z⟩
  refine c88b hL hT1 g4 g3 (by omega) (by omega) (by omega) (by omega) ?_
  cases k1 : wdb [102, 111, 114, 107] f s e with
  | true =>
    refine zaI_of ⟨zin_1, fun z => absurd z (by first | decide | simp), fun _ => ?_⟩
    have ek : kdw f s e = 1 := by
      unfold kdw
      rw [if_neg (by rw [k0]; decide), if_pos k1]
    rw [ek] at hQ
    have T1 : fll u d 1 = true → zCall L xs D 92 [zr 2, zi 1] J1 K fun r e J K => zaV r e (Q (.inl none) 0 J K) (fun E => Q (.inr E) e J K) := by
      intro hu
      rw [wd1_t ek (by first | decide | simp) hu, clT_1, clD_1] at hQ
      exact c92 hL hr1 g4 (by omega) (by omega) zin_1 hd1 hn (by omega) fun J2 a b c => zaV_of (hQ J2 (fun x hx => (a x hx).trans (fr1 x hx)) b c)
    have T0 : fll u d 1 = false → zCall L xs D 92 [zr 2, zi 0] J1 K fun r e J K => zaV r e (Q (.inl none) 0 J K) (fun E => Q (.inr E) e J K) := by
      intro hu
      rw [wd1_f ek (by first | decide | simp) hu, clT_1, clD_1] at hQ
      exact c92 hL hr1 g4 (by omega) (by omega) zin_0 hd1 hn (by omega) fun J2 a b c => zaV_of (hQ J2 (fun x hx => (a x hx).trans (fr1 x hx)) b c)
    cases u with
    | true => exact T1 (fll_1 true d)
    | false => exact T0 (fll_1 false d)
  | false =>
  refine zaI_of ⟨zin_0, fun _ => ?_, fun z => absurd rfl z⟩
  refine c88c hL hT1 g4 g3 (by omega) (by omega) (by omega) (by omega) ?_
  cases k2 : wdb [112, 111, 114, 116, 105, 111, 110] f s e with
  | true =>
    refine zaI_of ⟨zin_1, fun z => absurd z (by first | decide | simp), fun _ => ?_⟩
    have ek : kdw f s e = 2 := by
      unfold kdw
      rw [if_neg (by rw [k0]; decide), if_neg (by rw [k1]; decide), if_pos k2]
    rw [ek] at hQ
    have T1 : fll u d 2 = true → zCall L xs D 96 [zr 2, zi 1] J1 K fun r e J K => zaV r e (Q (.inl none) 0 J K) (fun E => Q (.inr E) e J K) := by
      intro hu
      rw [wd1_t ek (by first | decide | simp) hu, clT_2, clD_2] at hQ
      exact c96 hL hr1 g4 (by omega) (by omega) zin_1 hd1 hn (fun z => absurd z (by first | decide | simp)) (by omega) fun J2 a b c => zaV_of (hQ J2 (fun x hx => (a x hx).trans (fr1 x hx)) b c)
    have T0 : fll u d 2 = false → zCall L xs D 96 [zr 2, zi 0] J1 K fun r e J K => zaV r e (Q (.inl none) 0 J K) (fun E => Q (.inr E) e J K) := by
      intro hu
      rw [wd1_f ek (by first | decide | simp) hu, clT_2, clD_2] at hQ
      rw [fll_2, Bool.or_eq_false_iff, decide_eq_false_iff_not] at hu
      exact c96 hL hr1 g4 (by omega) (by omega) zin_0 hd1 hn (fun _ => by omega) (by omega) fun J2 a b c => zaV_of (hQ J2 (fun x hx => (a x hx).trans (fr1 x hx)) b c)
    rw [fll_2] at T1 T0
    refine ⟨zin_zb u, fun z => T1 (by rw [zb_1.1 z]; rfl), fun z => ⟨by rw [e31]; unfold zin; omega, ⟨by first | decide | simp, by first | decide | simp⟩, fun y => T0 ?_, fun y => T1 ?_⟩⟩
    · rw [e31] at y
      rw [zb_0.1 z, Bool.false_or, decide_eq_false_iff_not]
      omega
    · rw [e31] at y
      rw [Bool.or_eq_true, decide_eq_true_iff]
      exact Or.inr y
  | false =>
  refine zaI_of ⟨zin_0, fun _ => ?_, fun z => absurd rfl z⟩
  refine c88d hL hT1 g4 g3 (by omega) (by omega) (by omega) (by omega) ?_
  cases k3 : wdb [108, 97, 116, 101] f s e with
  | true =>
    refine zaI_of ⟨zin_1, fun z => absurd z (by first | decide | simp), fun _ => ?_⟩
    have ek : kdw f s e = 3 := by
      unfold kdw
      rw [if_neg (by rw [k0]; decide), if_neg (by rw [k1]; decide), if_neg (by rw [k2]; decide), if_pos k3]
    rw [ek] at hQ
    have T1 : fll u d 3 = true → zCall L xs D 93 [zr 2, zi 1] J1 K fun r e J K => zaV r e (Q (.inl none) 0 J K) (fun E => Q (.inr E) e J K) := by
      intro hu
      rw [wd1_t ek (by first | decide | simp) hu, clT_3, clD_3] at hQ
      exact c93 hL hr1 g4 (by omega) (by omega) zin_1 hd1 hn (by omega) fun J2 a b c => zaV_of (hQ J2 (fun x hx => (a x hx).trans (fr1 x hx)) b c)
    have T0 : fll u d 3 = false → zCall L xs D 93 [zr 2, zi 0] J1 K fun r e J K => zaV r e (Q (.inl none) 0 J K) (fun E => Q (.inr E) e J K) := by
      intro hu
      rw [wd1_f ek (by first | decide | simp) hu, clT_3, clD_3] at hQ
      exact c93 hL hr1 g4 (by omega) (by omega) zin_0 hd1 hn (by omega) fun J2 a b c => zaV_of (hQ J2 (fun x hx => (a x hx).trans (fr1 x hx)) b c)
    cases u with
    | true => exact T1 (fll_3 true d)
    | false => exact T0 (fll_3 false d)
  | false =>
  refine zaI_of ⟨zin_0, fun _ => ?_, fun z => absurd rfl z⟩
  refine c88e hL hT1 g4 g3 (by omega) (by omega) (by omega) (by omega) ?_
  cases k4 : wdb [101, 110, 103, 105, 110, 101] f s e with
  | true =>
    refine zaI_of ⟨zin_1, fun z => absurd z (by first | decide | simp), fun _ => ?_⟩
    have ek : kdw f s e = 4 := by
      unfold kdw
      rw [if_neg (by rw [k0]; decide), if_neg (by rw [k1]; decide), if_neg (by rw [k2]; decide), if_neg (by rw [k3]; decide), if_pos k4]
    rw [ek] at hQ
    have T1 : fll u d 4 = true → zCall L xs D 91 [zr 2, zi 1] J1 K fun r e J K => zaV r e (Q (.inl none) 0 J K) (fun E => Q (.inr E) e J K) := by
      intro hu
      rw [wd1_t ek (by first | decide | simp) hu, clT_4, clD_4] at hQ
      exact c91 hL hr1 g4 (by omega) (by omega) zin_1 hd1 hn (fun z => absurd z (by first | decide | simp)) (by omega) fun J2 a b c => zaV_of (hQ J2 (fun x hx => (a x hx).trans (fr1 x hx)) b c)
    have T0 : fll u d 4 = false → zCall L xs D 91 [zr 2, zi 0] J1 K fun r e J K => zaV r e (Q (.inl none) 0 J K) (fun E => Q (.inr E) e J K) := by
      intro hu
      rw [wd1_f ek (by first | decide | simp) hu, clT_4, clD_4] at hQ
      rw [fll_4, Bool.or_eq_false_iff, decide_eq_false_iff_not] at hu
      exact c91 hL hr1 g4 (by omega) (by omega) zin_0 hd1 hn (fun _ => by omega) (by omega) fun J2 a b c => zaV_of (hQ J2 (fun x hx => (a x hx).trans (fr1 x hx)) b c)
    rw [fll_4] at T1 T0
    refine ⟨zin_zb u, fun z => T1 (by rw [zb_1.1 z]; rfl), fun z => ⟨by rw [e31]; unfold zin; omega, ⟨by first | decide | simp, by first | decide | simp⟩, fun y => T0 ?_, fun y => T1 ?_⟩⟩
    · rw [e31] at y
      rw [zb_0.1 z, Bool.false_or, decide_eq_false_iff_not]
      omega
    · rw [e31] at y
      rw [Bool.or_eq_true, decide_eq_true_iff]
      exact Or.inr y
  | false =>
  refine zaI_of ⟨zin_0, fun _ => ?_, fun z => absurd rfl z⟩
  refine c88f hL hT1 g4 g3 (by omega) (by omega) (by omega) (by omega) ?_
  cases k5 : wdb [119, 97, 110, 116] f s e with
  | true =>
    refine zaI_of ⟨zin_1, fun z => absurd z (by first | decide | simp), fun _ => ?_⟩
    have ek : kdw f s e = 5 := by
      unfold kdw
      rw [if_neg (by rw [k0]; decide), if_neg (by rw [k1]; decide), if_neg (by rw [k2]; decide), if_neg (by rw [k3]; decide), if_neg (by rw [k4]; decide), if_pos k5]
    rw [ek] at hQ
    have T1 : fll u d 5 = true → zCall L xs D 98 [zr 2, zi 1] J1 K fun r e J K => zaV r e (Q (.inl none) 0 J K) (fun E => Q (.inr E) e J K) := by
      intro hu
      rw [wd1_t ek (by first | decide | simp) hu, clT_5, clD_5] at hQ
      exact c98 hL hr1 g4 (by omega) (by omega) zin_1 hd1 hn (fun z => absurd z (by first | decide | simp)) (by omega) fun J2 a b c => zaV_of (hQ J2 (fun x hx => (a x hx).trans (fr1 x hx)) b c)
    have T0 : fll u d 5 = false → zCall L xs D 98 [zr 2, zi 0] J1 K fun r e J K => zaV r e (Q (.inl none) 0 J K) (fun E => Q (.inr E) e J K) := by
      intro hu
      rw [wd1_f ek (by first | decide | simp) hu, clT_5, clD_5] at hQ
      rw [fll_5, Bool.or_eq_false_iff, decide_eq_false_iff_not] at hu
      exact c98 hL hr1 g4 (by omega) (by omega) zin_0 hd1 hn (fun _ => by omega) (by omega) fun J2 a b c => zaV_of (hQ J2 (fun x hx => (a x hx).trans (fr1 x hx)) b c)
    rw [fll_5] at T1 T0
    refine ⟨zin_zb u, fun z => T1 (by rw [zb_1.1 z]; rfl), fun z => ⟨by rw [e31]; unfold zin; omega, ⟨by first | decide | simp, by first | decide | simp⟩, fun y => T0 ?_, fun y => T1 ?_⟩⟩
    · rw [e31] at y
      rw [zb_0.1 z, Bool.false_or, decide_eq_false_iff_not]
      omega
    · rw [e31] at y
      rw [Bool.or_eq_true, decide_eq_true_iff]
      exact Or.inr y
  | false =>
  refine zaI_of ⟨zin_0, fun _ => ?_, fun z => absurd rfl z⟩
  have ek : kdw f s e = -1 := by
    unfold kdw
    rw [if_neg (by rw [k0]; decide), if_neg (by rw [k1]; decide), if_neg (by rw [k2]; decide), if_neg (by rw [k3]; decide), if_neg (by rw [k4]; decide), if_neg (by rw [k5]; decide)]
  have h51 : J1 2 0 5 = 0 := hr1.2.1.1
  refine c86 hL (by rw [h51]; exact zin_0) (by omega) (fun z => absurd h51 z) fun _ => zaV_of ?_
  rw [g4]
  rw [wd1_n ek, clT_f (by first | decide | simp)] at hQ
  refine hQ _ (fun b hb => by rw [zup_ne _ _ _ _ (by omega), zup_ne _ _ _ _ (by omega)]; exact fr1 b hb) ⟨tpc_eq hT1 (by rw [zup_ne _ _ _ _ (by first | decide | simp), zup_ne _ _ _ _ (by first | decide | simp)]) (by rw [zup_nk _ _ (by first | decide | simp), zup_nk _ _ (by first | decide | simp)]), ⟨?_, ?_⟩, fun z => absurd z (by first | decide | simp), ?_, ⟨by first | decide | simp, by first | decide | simp⟩, ⟨by simp only; omega, by simp only; omega⟩⟩ (fun z => absurd z (by first | decide | simp))
  · rw [zup_nk _ _ (by first | decide | simp), zup_eq]
  · rw [zup_eq]
  · rw [zup_nk _ _ (by first | decide | simp), zup_nk _ _ (by first | decide | simp), g3]
    omega
theorem c97 {L : Nat} {xs : Nat → Int32} (hL : L ≤ 3072) {D : Nat} {J : zJ} {K : zK} {Q : zR → Nat → zJ → zK → Prop} {f : Int → Int} {N : Int} {d : zJ} (h : RC f N (0, 0, -1) J) (hd : DC d J) (hD : 15 ≤ D) (hQ : ∀ J' : zJ, (∀ b : Nat, b < 2 ∨ 17 < b → J' b = J b) → RC f N (rtT f N) J' → ((rtT f N).2.1 = 0 → DC (rtD f N d) J') → Q (.inl none) 0 J' K) : zCall L xs D 97 [zr 2] J K Q := by
  obtain ⟨hT, ⟨h5, h6⟩, h3, hr, hf, hp⟩ := h
  have e3 : J 2 0 3 = 0 := h3 rfl
  have h5 : J 2 0 5 = 0 := h5
  have h6 : J 2 0 6 = -1 := h6
  have r1 := skp_in (P := isB) (f := f) (N := N) (i := 0) (by omega) (by omega)
  have r2 := skp_in (P := isL) (f := f) (N := N) (i := skp isB f N 0) (by omega) (by omega)
  obtain ⟨D, rfl⟩ : ∃ d, D = d + 1 := ⟨D - 1, by omega⟩
  refine z97 hL ?_
  refine c99 hL hT e3 (by omega) (by omega) (by omega) fun J1 g1 g2 g4 g3 => zaV_of ?_
  unfold rtT rtD at hQ
  generalize skp isB f N 0 = s at *
  generalize skp isL f N s = e at *
  have hT1 : Tpc f N J1 := tpc_eq hT (g1 1 (by first | decide | simp)) (g2 2 (by first | decide | simp) (by first | decide | simp))
  have hd1 : DC d J1 := dc_fr hd fun b b1 b2 => g1 b (by omega)
  have fr1 : ∀ b : Nat, b < 2 ∨ 17 < b → J1 b = J b := fun b hb => g1 b (by omega)
  have h51 : J1 2 0 5 = 0 := (g2 5 (by first | decide | simp) (by first | decide | simp)).trans h5
  refine c88 hL hT1 g4 g3 (by omega) (by omega) (by omega) (by omega) ?_
  cases k0 : wdb [114, 111, 111, 116] f s e with
  | true =>
    have er : rt1 f s e = (e, 0, -1) := by
      unfold rt1
      rw [if_pos k0]
    rw [er] at hQ
    refine zaI_of ⟨zin_1, fun _ => ?_, fun z => absurd z (by first | decide | simp)⟩
    have hr1 : RC f N (e, 0, -1) J1 := ⟨hT1, ⟨h51, (g2 6 (by first | decide | simp) (by first | decide | simp)).trans h6⟩, fun _ => g3, by omega, ⟨by first | decide | simp, by first | decide | simp⟩, hp⟩
    refine u94 hL hr1 (by first | decide | simp) (by first | decide | simp) (by first | decide | simp) (by first | decide | simp) (by omega) fun J2 g5 _ hr2 x w1 => zaI_of ?_
    refine u87 hL hr2 (by omega) fun J3 g6 hr3 => ?_
    have fr3 : ∀ b : Nat, b < 2 ∨ 17 < b → J3 b = J b := fun b hb => (g6 b (by omega)).trans ((g5 b (by omega)).trans (fr1 b hb))
    have hd3 : DC d J3 := dc_fr hd1 fun b b1 b2 => (g6 b (by omega)).trans (g5 b (by omega))
    refine ⟨fun q => zaI_of ⟨zin_1, fun z => absurd z (by first | decide | simp), fun _ => ⟨by first | decide | simp, by first | decide | simp, by first | decide | simp, by first | decide | simp, by first | decide | simp, by first | decide | simp, ?_⟩⟩, fun q => zaI_of ⟨zin_0, fun _ => hQ J3 fr3 hr3 (fun z => absurd z q), fun z => absurd rfl z⟩⟩
    rw [w1 (smR_ok q).1]
    refine hQ _ (fun b hb => ?_) (rc_eq hr3 ?_ ?_) (fun _ => ?_)
    · rw [zup_ne _ _ _ _ (by omega), zup_ne _ _ _ _ (by omega), zup_ne _ _ _ _ (by omega), zup_ne _ _ _ _ (by omega)]
      exact fr3 b hb
    · rw [zup_ne _ _ _ _ (by first | decide | simp), zup_ne _ _ _ _ (by first | decide | simp), zup_ne _ _ _ _ (by first | decide | simp), zup_ne _ _ _ _ (by first | decide | simp)]
    · rw [zup_ne _ _ _ _ (by first | decide | simp), zup_ne _ _ _ _ (by first | decide | simp), zup_ne _ _ _ _ (by first | decide | simp), zup_ne _ _ _ _ (by first | decide | simp)]
    · exact dc_up (a := 3) rfl (by first | decide | simp) (by first | decide | simp) _ _ _ (dc_up (a := 5) rfl (by first | decide | simp) (by first | decide | simp) _ _ _ (dc_up (a := 4) rfl (by first | decide | simp) (by first | decide | simp) _ _ _ (dc_up (a := 6) rfl (by first | decide | simp) (by first | decide | simp) _ _ _ hd3)))
  | false =>
    have er : rt1 f s e = (e, 1, s) := by
      unfold rt1
      rw [if_neg (by rw [k0]; decide)]
    rw [er, nmR_f (by first | decide | simp), smR_f (by first | decide | simp)] at hQ
    refine zaI_of ⟨zin_0, fun z => absurd rfl z, fun _ => ?_⟩
    refine c86 hL (by rw [h51]; exact zin_0) (by omega) (fun z => absurd h51 z) fun _ => zaV_of ?_
    rw [g4]
    refine hQ _ (fun b hb => by rw [zup_ne _ _ _ _ (by omega), zup_ne _ _ _ _ (by omega)]; exact fr1 b hb) ⟨tpc_eq hT1 (by rw [zup_ne _ _ _ _ (by first | decide | simp), zup_ne _ _ _ _ (by first | decide | simp)]) (by rw [zup_nk _ _ (by first | decide | simp), zup_nk _ _ (by first | decide | simp)]), ⟨?_, ?_⟩, fun z => absurd z (by first | decide | simp), ?_, ⟨by first | decide | simp, by first | decide | simp⟩, ⟨by simp only; omega, by simp only; omega⟩⟩ (fun z => absurd z (by first | decide | simp))
    · rw [zup_nk _ _ (by first | decide | simp), zup_eq]
    · rw [zup_eq]
    · rw [zup_nk _ _ (by first | decide | simp), zup_nk _ _ (by first | decide | simp), g3]
      omega
