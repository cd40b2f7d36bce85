/-! CLAUSES read by the class (printed by tools/gen_clc.py) -/
/-- the class's draft -/
def DC (d J : zJ) : Prop := ∀ b : Nat, 18 ≤ b → b ≤ 32 → J (b - 15) = d b
theorem dc_up {d J : zJ} {a b : Nat} (e : a + 15 = b) (h1 : 3 ≤ a) (h2 : b ≤ 32) (i k v : Int) (h : DC d J) : DC (zup d b i k v) (zup J a i k v) := by
  intro c c1 c2
  by_cases z : c = b
  · subst z
    have z2 : c - 15 = a := by omega
    rw [z2]
    have := h c c1 c2
    rw [z2] at this
    unfold zup
    rw [zset_eq, zset_eq, this]
  · rw [zup_ne _ _ _ _ z, zup_ne _ _ _ _ (by omega)]
    exact h c c1 c2
theorem dc_fr {d J J' : zJ} (h : DC d J) (e : ∀ b : Nat, 3 ≤ b → b ≤ 17 → J' b = J b) : DC d J' := fun b b1 b2 => (e (b - 15) (by omega) (by omega)).trans (h b b1 b2)
theorem n3c {L : Nat} {xs : Nat → Int32} (hL : L ≤ 3072) {D : Nat} {J : zJ} {K : zK} {Q : zR → Nat → zJ → zK → Prop} {f : Int → Int} {N a1 b1 a2 b2 a3 b3 : Int} {t : Int × Int × Int} {P : Int → Int → Int → Int → zJ → zK → Prop} (h : RC f N t J) (A1 : (0 ≤ a1 ∧ a1 ≤ 1) ∧ -1 ≤ b1 ∧ b1 ≤ 2000) (A2 : (0 ≤ a2 ∧ a2 ≤ 1) ∧ -1 ≤ b2 ∧ b2 ≤ 2000) (A3 : (0 ≤ a3 ∧ a3 ≤ 1) ∧ -1 ≤ b3 ∧ b3 ≤ 2000) (hD : 2 ≤ D) (hP : ∀ J' : zJ, (∀ b : Nat, b ≠ 2 → J' b = J b) → RC f N (nm3 f N a1 b1 a2 b2 a3 b3 t) J' → ((nm3 f N a1 b1 a2 b2 a3 b3 t).2.1 ≠ 0 → ∀ r1 r2 r3 : Int, P r1 r2 r3 0 J' K) ∧ ((nm3 f N a1 b1 a2 b2 a3 b3 t).2.1 = 0 → P (nmV f N t) (nmV f N (nmR f N a1 b1 t)) (nmV f N (nmR f N a2 b2 (nmR f N a1 b1 t))) 1 J' K)) : zCall L xs D 94 [zr 2, zi a1, zi b1] J K fun r1 e1 J1 K1 => zaI r1 e1 (fun x1 => zCall L xs D 94 [zr 2, zi a2, zi b2] J1 K1 fun r2 e2 J2 K2 => zaI r2 e2 (fun x2 => zCall L xs D 94 [zr 2, zi a3, zi b3] J2 K2 fun r3 e3 J3 K3 => zaI r3 e3 (fun x3 => zCall L xs D 87 [zr 2] J3 K3 fun r4 e4 J4 K4 => zaI r4 e4 (fun x4 => P x1 x2 x3 x4 J4 K4) (fun E => Q (.inr E) e4 J4 K4)) (fun E => Q (.inr E) e3 J3 K3)) (fun E => Q (.inr E) e2 J2 K2)) (fun E => Q (.inr E) e1 J1 K1) := by
  refine u94 hL h A1.1.1 A1.1.2 A1.2.1 A1.2.2 hD fun J1 g1 _ hr1 x1 w1 => zaI_of ?_
  refine u94 hL hr1 A2.1.1 A2.1.2 A2.2.1 A2.2.2 hD fun J2 g2 _ hr2 x2 w2 => zaI_of ?_
  refine u94 hL hr2 A3.1.1 A3.1.2 A3.2.1 A3.2.2 hD fun J3 g3 _ hr3 x3 w3 => zaI_of ?_
  refine u87 hL hr3 hD fun J4 g4 hr4 => ?_
  have hp := hP J4 (fun b hb => (g4 b hb).trans ((g3 b hb).trans ((g2 b hb).trans (g1 b hb)))) hr4
  refine ⟨fun q => zaI_of ?_, fun q => zaI_of (hp.1 q x1 x2 x3)⟩
  obtain ⟨q0, q1, q2, q3, -⟩ := nm3_ok (show (nm3 f N a1 b1 a2 b2 a3 b3 t).2.1 = 0 from q)
  rw [w1 q1, w2 q2, w3 q3]
  exact hp.2 q
theorem n2c {L : Nat} {xs : Nat → Int32} (hL : L ≤ 3072) {D : Nat} {J : zJ} {K : zK} {Q : zR → Nat → zJ → zK → Prop} {f : Int → Int} {N a1 b1 a2 b2 : Int} {t : Int × Int × Int} {P : Int → Int → Int → zJ → zK → Prop} (h : RC f N t J) (A1 : (0 ≤ a1 ∧ a1 ≤ 1) ∧ -1 ≤ b1 ∧ b1 ≤ 2000) (A2 : (0 ≤ a2 ∧ a2 ≤ 1) ∧ -1 ≤ b2 ∧ b2 ≤ 2000) (hD : 2 ≤ D) (hP : ∀ J' : zJ, (∀ b : Nat, b ≠ 2 → J' b = J b) → RC f N (nm2 f N a1 b1 a2 b2 t) J' → ((nm2 f N a1 b1 a2 b2 t).2.1 ≠ 0 → ∀ r1 r2 : Int, P r1 r2 0 J' K) ∧ ((nm2 f N a1 b1 a2 b2 t).2.1 = 0 → P (nmV f N t) (nmV f N (nmR f N a1 b1 t)) 1 J' K)) : zCall L xs D 94 [zr 2, zi a1, zi b1] J K fun r1 e1 J1 K1 => zaI r1 e1 (fun x1 => zCall L xs D 94 [zr 2, zi a2, zi b2] J1 K1 fun r2 e2 J2 K2 => zaI r2 e2 (fun x2 => zCall L xs D 87 [zr 2] J2 K2 fun r4 e4 J4 K4 => zaI r4 e4 (fun x4 => P x1 x2 x4 J4 K4) (fun E => Q (.inr E) e4 J4 K4)) (fun E => Q (.inr E) e2 J2 K2)) (fun E => Q (.inr E) e1 J1 K1) := by
  refine u94 hL h A1.1.1 A1.1.2 A1.2.1 A1.2.2 hD fun J1 g1 _ hr1 x1 w1 => zaI_of ?_
  refine u94 hL hr1 A2.1.1 A2.1.2 A2.2.1 A2.2.2 hD fun J2 g2 _ hr2 x2 w2 => zaI_of ?_
  refine u87 hL hr2 hD fun J4 g4 hr4 => ?_
  have hp := hP J4 (fun b hb => (g4 b hb).trans ((g2 b hb).trans (g1 b hb))) hr4
  refine ⟨fun q => zaI_of ?_, fun q => zaI_of (hp.1 q x1 x2)⟩
  obtain ⟨q0, q1, q2, -⟩ := nm2_ok (show (nm2 f N a1 b1 a2 b2 t).2.1 = 0 from q)
  rw [w1 q1, w2 q2]
  exact hp.2 q
theorem c95 {L : Nat} {xs : Nat → Int32} (hL : L ≤ 3072) {D : Nat} {J : zJ} {K : zK} {Q : zR → Nat → zJ → zK → Prop} {f : Int → Int} {N x s e p : Int} {d : zJ} (h : RC f N (e, 0, p) J) (h4 : J 2 0 4 = s) (s0 : 0 ≤ s) (s1 : s ≤ N) (hx : zin x) (hd : DC d J) (hn : (0 ≤ d 18 0 0 ∧ d 18 0 0 ≤ 12) ∧ (0 ≤ d 18 0 6 ∧ d 18 0 6 ≤ 7) ∧ 0 ≤ d 18 0 11 ∧ 0 ≤ d 18 0 14) (hl : x = 0 → d 18 0 0 < 12) (hD : 4 ≤ D) (hQ : ∀ J' : zJ, (∀ b : Nat, b < 2 ∨ 17 < b → J' b = J b) → RC f N (nm3 f N 0 (d 18 0 0 - 1) 1 240 1 60 (if x = 0 then (e, 0, p) else (e, 3, s))) J' → ((nm3 f N 0 (d 18 0 0 - 1) 1 240 1 60 (if x = 0 then (e, 0, p) else (e, 3, s))).2.1 = 0 → DC (updP d (nmV f N (if x = 0 then (e, 0, p) else (e, 3, s))) (nmV f N (nmR f N 0 (d 18 0 0 - 1) (if x = 0 then (e, 0, p) else (e, 3, s)))) (nmV f N (nmR f N 1 240 (nmR f N 0 (d 18 0 0 - 1) (if x = 0 then (e, 0, p) else (e, 3, s)))))) J') → Q (.inl none) 0 J' K) : zCall L xs D 95 [zr 2, zi x] J K Q := by
  obtain ⟨D, rfl⟩ : ∃ d, D = d + 1 := ⟨D - 1, by omega⟩
  refine z95 hL ?_
  refine u100 hL h h4 s0 s1 hx (by omega) fun J1 g1 hr => zaV_of ?_
  have e3 : J1 3 = d 18 := (g1 3 (by decide)).trans (hd 18 (by decide) (by decide))
  have hx0 : ((if x = 0 then (e, 0, p) else (e, 3, s)) : Int × Int × Int).2.1 = 0 → x = 0 := by
    intro z
    by_cases y : x = 0
    · exact y
    · rw [if_neg y] at z
      exact absurd z (by simp)
  generalize ((if x = 0 then (e, 0, p) else (e, 3, s)) : Int × Int × Int) = t at *
  rw [e3]
  refine n3c hL hr ⟨⟨by decide, by decide⟩, by omega, by omega⟩ ⟨⟨by decide, by decide⟩, by decide, by decide⟩ ⟨⟨by decide, by decide⟩, by decide, by decide⟩ (by omega) fun J2 g2 hr2 => ?_
  have fr : ∀ b : Nat, b < 2 ∨ 17 < b → J2 b = J b := fun b hb => (g2 b (by omega)).trans (g1 b (by omega))
  have hd2 : DC d J2 := dc_fr hd fun b b1 b2 => (g2 b (by omega)).trans (g1 b (by omega))
  have e3b : J2 3 = d 18 := hd2 18 (by decide) (by decide)
  refine ⟨fun q _ _ _ => ⟨zin_0, fun _ => hQ J2 fr hr2 (fun z => absurd z q), fun z => absurd rfl z⟩, fun q => ⟨zin_1, fun z => absurd z (by decide), fun _ => ?_⟩⟩
  obtain ⟨q0, -, -, -, c1, c2, c3, c4, c5, c6⟩ := nm3_ok q
  have x0 := hx0 q0
  have hl2 := hl x0
  rw [e3b]
  refine ⟨by omega, by omega, by omega, by omega, by omega, by omega, hQ _ (fun b hb => ?_) (rc_eq hr2 ?_ ?_) (fun _ => ?_)⟩
  · rw [zup_ne _ _ _ _ (by omega), zup_ne _ _ _ _ (by omega), zup_ne _ _ _ _ (by omega), zup_ne _ _ _ _ (by omega)]
    exact fr b hb
  · rw [zup_ne _ _ _ _ (by decide), zup_ne _ _ _ _ (by decide), zup_ne _ _ _ _ (by decide), zup_ne _ _ _ _ (by decide)]
  · rw [zup_ne _ _ _ _ (by decide), zup_ne _ _ _ _ (by decide), zup_ne _ _ _ _ (by decide), zup_ne _ _ _ _ (by decide)]
  · exact (dc_up (a := 3) rfl (by decide) (by decide) _ _ _ (dc_up (a := 6) rfl (by decide) (by decide) _ _ _ (dc_up (a := 5) rfl (by decide) (by decide) _ _ _ (dc_up (a := 4) rfl (by decide) (by decide) _ _ _ hd2))))
theorem c92 {L : Nat} {xs : Nat → Int32} (hL : L ≤ 3072) {D : Nat} {J : zJ} {K : zK} {Q : zR → Nat → zJ → zK → Prop} {f : Int → Int} {N x s e p : Int} {d : zJ} (h : RC f N (e, 0, p) J) (h4 : J 2 0 4 = s) (s0 : 0 ≤ s) (s1 : s ≤ N) (hx : zin x) (hd : DC d J) (hn : (0 ≤ d 18 0 0 ∧ d 18 0 0 ≤ 12) ∧ (0 ≤ d 18 0 6 ∧ d 18 0 6 ≤ 7) ∧ 0 ≤ d 18 0 11 ∧ 0 ≤ d 18 0 14) (hD : 4 ≤ D) (hQ : ∀ J' : zJ, (∀ b : Nat, b < 2 ∨ 17 < b → J' b = J b) → RC f N (nm3 f N 0 (d 18 0 0 - 1) 1 60 1 60 (if x = 0 then (e, 0, p) else (e, 3, s))) J' → ((nm3 f N 0 (d 18 0 0 - 1) 1 60 1 60 (if x = 0 then (e, 0, p) else (e, 3, s))).2.1 = 0 → DC (updF d (nmV f N (if x = 0 then (e, 0, p) else (e, 3, s))) (nmV f N (nmR f N 0 (d 18 0 0 - 1) (if x = 0 then (e, 0, p) else (e, 3, s)))) (nmV f N (nmR f N 1 60 (nmR f N 0 (d 18 0 0 - 1) (if x = 0 then (e, 0, p) else (e, 3, s)))))) J') → Q (.inl none) 0 J' K) : zCall L xs D 92 [zr 2, zi x] J K Q := by
  obtain ⟨D, rfl⟩ : ∃ d, D = d + 1 := ⟨D - 1, by omega⟩
  refine z92 hL ?_
  refine u100 hL h h4 s0 s1 hx (by omega) fun J1 g1 hr => zaV_of ?_
  have e3 : J1 3 = d 18 := (g1 3 (by decide)).trans (hd 18 (by decide) (by decide))
  have hx0 : ((if x = 0 then (e, 0, p) else (e, 3, s)) : Int × Int × Int).2.1 = 0 → x = 0 := by
    intro z
    by_cases y : x = 0
    · exact y
    · rw [if_neg y] at z
      exact absurd z (by simp)
  generalize ((if x = 0 then (e, 0, p) else (e, 3, s)) : Int × Int × Int) = t at *
  rw [e3]
  refine n3c hL hr ⟨⟨by decide, by decide⟩, by omega, by omega⟩ ⟨⟨by decide, by decide⟩, by decide, by decide⟩ ⟨⟨by decide, by decide⟩, by decide, by decide⟩ (by omega) fun J2 g2 hr2 => ?_
  have fr : ∀ b : Nat, b < 2 ∨ 17 < b → J2 b = J b := fun b hb => (g2 b (by omega)).trans (g1 b (by omega))
  have hd2 : DC d J2 := dc_fr hd fun b b1 b2 => (g2 b (by omega)).trans (g1 b (by omega))
  have e3b : J2 3 = d 18 := hd2 18 (by decide) (by decide)
  refine ⟨fun q _ _ _ => ⟨zin_0, fun _ => hQ J2 fr hr2 (fun z => absurd z q), fun z => absurd rfl z⟩, fun q => ⟨zin_1, fun z => absurd z (by decide), fun _ => ?_⟩⟩
  obtain ⟨q0, -, -, -, c1, c2, c3, c4, c5, c6⟩ := nm3_ok q
  have x0 := hx0 q0
  refine ⟨by omega, by omega, by omega, by omega, hQ _ (fun b hb => ?_) (rc_eq hr2 ?_ ?_) (fun _ => ?_)⟩
  · rw [zup_ne _ _ _ _ (by omega), zup_ne _ _ _ _ (by omega)]
    exact fr b hb
  · rw [zup_ne _ _ _ _ (by decide), zup_ne _ _ _ _ (by decide)]
  · rw [zup_ne _ _ _ _ (by decide), zup_ne _ _ _ _ (by decide)]
  · exact (dc_up (a := 8) rfl (by decide) (by decide) _ _ _ (dc_up (a := 7) rfl (by decide) (by decide) _ _ _ hd2))
theorem c96 {L : Nat} {xs : Nat → Int32} (hL : L ≤ 3072) {D : Nat} {J : zJ} {K : zK} {Q : zR → Nat → zJ → zK → Prop} {f : Int → Int} {N x s e p : Int} {d : zJ} (h : RC f N (e, 0, p) J) (h4 : J 2 0 4 = s) (s0 : 0 ≤ s) (s1 : s ≤ N) (hx : zin x) (hd : DC d J) (hn : (0 ≤ d 18 0 0 ∧ d 18 0 0 ≤ 12) ∧ (0 ≤ d 18 0 6 ∧ d 18 0 6 ≤ 7) ∧ 0 ≤ d 18 0 11 ∧ 0 ≤ d 18 0 14) (hl : x = 0 → d 18 0 6 < 7) (hD : 4 ≤ D) (hQ : ∀ J' : zJ, (∀ b : Nat, b < 2 ∨ 17 < b → J' b = J b) → RC f N (nm2 f N 1 (d 18 0 0 - 1) 1 15 (if x = 0 then (e, 0, p) else (e, 3, s))) J' → ((nm2 f N 1 (d 18 0 0 - 1) 1 15 (if x = 0 then (e, 0, p) else (e, 3, s))).2.1 = 0 → DC (updN d (nmV f N (if x = 0 then (e, 0, p) else (e, 3, s))) (nmV f N (nmR f N 1 (d 18 0 0 - 1) (if x = 0 then (e, 0, p) else (e, 3, s))))) J') → Q (.inl none) 0 J' K) : zCall L xs D 96 [zr 2, zi x] J K Q := by
  obtain ⟨D, rfl⟩ : ∃ d, D = d + 1 := ⟨D - 1, by omega⟩
  refine z96 hL ?_
  refine u100 hL h h4 s0 s1 hx (by omega) fun J1 g1 hr => zaV_of ?_
  have e3 : J1 3 = d 18 := (g1 3 (by decide)).trans (hd 18 (by decide) (by decide))
  have hx0 : ((if x = 0 then (e, 0, p) else (e, 3, s)) : Int × Int × Int).2.1 = 0 → x = 0 := by
    intro z
    by_cases y : x = 0
    · exact y
    · rw [if_neg y] at z
      exact absurd z (by simp)
  generalize ((if x = 0 then (e, 0, p) else (e, 3, s)) : Int × Int × Int) = t at *
  rw [e3]
  refine n2c hL hr ⟨⟨by decide, by decide⟩, by omega, by omega⟩ ⟨⟨by decide, by decide⟩, by decide, by decide⟩ (by omega) fun J2 g2 hr2 => ?_
  have fr : ∀ b : Nat, b < 2 ∨ 17 < b → J2 b = J b := fun b hb => (g2 b (by omega)).trans (g1 b (by omega))
  have hd2 : DC d J2 := dc_fr hd fun b b1 b2 => (g2 b (by omega)).trans (g1 b (by omega))
  have e3b : J2 3 = d 18 := hd2 18 (by decide) (by decide)
  refine ⟨fun q _ _ => ⟨zin_0, fun _ => hQ J2 fr hr2 (fun z => absurd z q), fun z => absurd rfl z⟩, fun q => ⟨zin_1, fun z => absurd z (by decide), fun _ => ?_⟩⟩
  obtain ⟨q0, -, -, c1, c2, c3, c4⟩ := nm2_ok q
  have x0 := hx0 q0
  have hl2 := hl x0
  rw [e3b]
  refine ⟨by omega, by omega, by omega, by omega, hQ _ (fun b hb => ?_) (rc_eq hr2 ?_ ?_) (fun _ => ?_)⟩
  · rw [zup_ne _ _ _ _ (by omega), zup_ne _ _ _ _ (by omega), zup_ne _ _ _ _ (by omega)]
    exact fr b hb
  · rw [zup_ne _ _ _ _ (by decide), zup_ne _ _ _ _ (by decide), zup_ne _ _ _ _ (by decide)]
  · rw [zup_ne _ _ _ _ (by decide), zup_ne _ _ _ _ (by decide), zup_ne _ _ _ _ (by decide)]
  · exact (dc_up (a := 3) rfl (by decide) (by decide) _ _ _ (dc_up (a := 10) rfl (by decide) (by decide) _ _ _ (dc_up (a := 9) rfl (by decide) (by decide) _ _ _ hd2)))
theorem c93 {L : Nat} {xs : Nat → Int32} (hL : L ≤ 3072) {D : Nat} {J : zJ} {K : zK} {Q : zR → Nat → zJ → zK → Prop} {f : Int → Int} {N x s e p : Int} {d : zJ} (h : RC f N (e, 0, p) J) (h4 : J 2 0 4 = s) (s0 : 0 ≤ s) (s1 : s ≤ N) (hx : zin x) (hd : DC d J) (hn : (0 ≤ d 18 0 0 ∧ d 18 0 0 ≤ 12) ∧ (0 ≤ d 18 0 6 ∧ d 18 0 6 ≤ 7) ∧ 0 ≤ d 18 0 11 ∧ 0 ≤ d 18 0 14) (hD : 4 ≤ D) (hQ : ∀ J' : zJ, (∀ b : Nat, b < 2 ∨ 17 < b → J' b = J b) → RC f N (nm3 f N 0 (d 18 0 6 - 1) 0 19 1 120 (if x = 0 then (e, 0, p) else (e, 3, s))) J' → ((nm3 f N 0 (d 18 0 6 - 1) 0 19 1 120 (if x = 0 then (e, 0, p) else (e, 3, s))).2.1 = 0 → DC (updL d (nmV f N (if x = 0 then (e, 0, p) else (e, 3, s))) (nmV f N (nmR f N 0 (d 18 0 6 - 1) (if x = 0 then (e, 0, p) else (e, 3, s)))) (nmV f N (nmR f N 0 19 (nmR f N 0 (d 18 0 6 - 1) (if x = 0 then (e, 0, p) else (e, 3, s)))))) J') → Q (.inl none) 0 J' K) : zCall L xs D 93 [zr 2, zi x] J K Q := by
  obtain ⟨D, rfl⟩ : ∃ d, D = d + 1 := ⟨D - 1, by omega⟩
  refine z93 hL ?_
  refine u100 hL h h4 s0 s1 hx (by omega) fun J1 g1 hr => zaV_of ?_
  have e3 : J1 3 = d 18 := (g1 3 (by decide)).trans (hd 18 (by decide) (by decide))
  have hx0 : ((if x = 0 then (e, 0, p) else (e, 3, s)) : Int × Int × Int).2.1 = 0 → x = 0 := by
    intro z
    by_cases y : x = 0
    · exact y
    · rw [if_neg y] at z
      exact absurd z (by simp)
  generalize ((if x = 0 then (e, 0, p) else (e, 3, s)) : Int × Int × Int) = t at *
  rw [e3]
  refine n3c hL hr ⟨⟨by decide, by decide⟩, by omega, by omega⟩ ⟨⟨by decide, by decide⟩, by decide, by decide⟩ ⟨⟨by decide, by decide⟩, by decide, by decide⟩ (by omega) fun J2 g2 hr2 => ?_
  have fr : ∀ b : Nat, b < 2 ∨ 17 < b → J2 b = J b := fun b hb => (g2 b (by omega)).trans (g1 b (by omega))
  have hd2 : DC d J2 := dc_fr hd fun b b1 b2 => (g2 b (by omega)).trans (g1 b (by omega))
  have e3b : J2 3 = d 18 := hd2 18 (by decide) (by decide)
  refine ⟨fun q _ _ _ => ⟨zin_0, fun _ => hQ J2 fr hr2 (fun z => absurd z q), fun z => absurd rfl z⟩, fun q => ⟨zin_1, fun z => absurd z (by decide), fun _ => ?_⟩⟩
  obtain ⟨q0, -, -, -, c1, c2, c3, c4, c5, c6⟩ := nm3_ok q
  have x0 := hx0 q0
  refine ⟨by omega, by omega, by omega, by omega, hQ _ (fun b hb => ?_) (rc_eq hr2 ?_ ?_) (fun _ => ?_)⟩
  · rw [zup_ne _ _ _ _ (by omega), zup_ne _ _ _ _ (by omega)]
    exact fr b hb
  · rw [zup_ne _ _ _ _ (by decide), zup_ne _ _ _ _ (by decide)]
  · rw [zup_ne _ _ _ _ (by decide), zup_ne _ _ _ _ (by decide)]
  · exact (dc_up (a := 12) rfl (by decide) (by decide) _ _ _ (dc_up (a := 11) rfl (by decide) (by decide) _ _ _ hd2))
theorem c91 {L : Nat} {xs : Nat → Int32} (hL : L ≤ 3072) {D : Nat} {J : zJ} {K : zK} {Q : zR → Nat → zJ → zK → Prop} {f : Int → Int} {N x s e p : Int} {d : zJ} (h : RC f N (e, 0, p) J) (h4 : J 2 0 4 = s) (s0 : 0 ≤ s) (s1 : s ≤ N) (hx : zin x) (hd : DC d J) (hn : (0 ≤ d 18 0 0 ∧ d 18 0 0 ≤ 12) ∧ (0 ≤ d 18 0 6 ∧ d 18 0 6 ≤ 7) ∧ 0 ≤ d 18 0 11 ∧ 0 ≤ d 18 0 14) (hl : x = 0 → d 18 0 11 < 8) (hD : 4 ≤ D) (hQ : ∀ J' : zJ, (∀ b : Nat, b < 2 ∨ 17 < b → J' b = J b) → RC f N (nm2 f N 0 (d 18 0 0 - 1) 1 60 (if x = 0 then (e, 0, p) else (e, 3, s))) J' → ((nm2 f N 0 (d 18 0 0 - 1) 1 60 (if x = 0 then (e, 0, p) else (e, 3, s))).2.1 = 0 → DC (updE d (nmV f N (if x = 0 then (e, 0, p) else (e, 3, s))) (nmV f N (nmR f N 0 (d 18 0 0 - 1) (if x = 0 then (e, 0, p) else (e, 3, s))))) J') → Q (.inl none) 0 J' K) : zCall L xs D 91 [zr 2, zi x] J K Q := by
  obtain ⟨D, rfl⟩ : ∃ d, D = d + 1 := ⟨D - 1, by omega⟩
  refine z91 hL ?_
  refine u100 hL h h4 s0 s1 hx (by omega) fun J1 g1 hr => zaV_of ?_
  have e3 : J1 3 = d 18 := (g1 3 (by decide)).trans (hd 18 (by decide) (by decide))
  have hx0 : ((if x = 0 then (e, 0, p) else (e, 3, s)) : Int × Int × Int).2.1 = 0 → x = 0 := by
    intro z
    by_cases y : x = 0
    · exact y
    · rw [if_neg y] at z
      exact absurd z (by simp)
  generalize ((if x = 0 then (e, 0, p) else (e, 3, s)) : Int × Int × Int) = t at *
  rw [e3]
  refine n2c hL hr ⟨⟨by decide, by decide⟩, by omega, by omega⟩ ⟨⟨by decide, by decide⟩, by decide, by decide⟩ (by omega) fun J2 g2 hr2 => ?_
  have fr : ∀ b : Nat, b < 2 ∨ 17 < b → J2 b = J b := fun b hb => (g2 b (by omega)).trans (g1 b (by omega))
  have hd2 : DC d J2 := dc_fr hd fun b b1 b2 => (g2 b (by omega)).trans (g1 b (by omega))
  have e3b : J2 3 = d 18 := hd2 18 (by decide) (by decide)
  refine ⟨fun q _ _ => ⟨zin_0, fun _ => hQ J2 fr hr2 (fun z => absurd z q), fun z => absurd rfl z⟩, fun q => ⟨zin_1, fun z => absurd z (by decide), fun _ => ?_⟩⟩
  obtain ⟨q0, -, -, c1, c2, c3, c4⟩ := nm2_ok q
  have x0 := hx0 q0
  have hl2 := hl x0
  rw [e3b]
  refine ⟨by omega, by omega, by omega, by omega, hQ _ (fun b hb => ?_) (rc_eq hr2 ?_ ?_) (fun _ => ?_)⟩
  · rw [zup_ne _ _ _ _ (by omega), zup_ne _ _ _ _ (by omega), zup_ne _ _ _ _ (by omega)]
    exact fr b hb
  · rw [zup_ne _ _ _ _ (by decide), zup_ne _ _ _ _ (by decide), zup_ne _ _ _ _ (by decide)]
  · rw [zup_ne _ _ _ _ (by decide), zup_ne _ _ _ _ (by decide), zup_ne _ _ _ _ (by decide)]
  · exact (dc_up (a := 3) rfl (by decide) (by decide) _ _ _ (dc_up (a := 14) rfl (by decide) (by decide) _ _ _ (dc_up (a := 13) rfl (by decide) (by decide) _ _ _ hd2)))
theorem c98 {L : Nat} {xs : Nat → Int32} (hL : L ≤ 3072) {D : Nat} {J : zJ} {K : zK} {Q : zR → Nat → zJ → zK → Prop} {f : Int → Int} {N x s e p : Int} {d : zJ} (h : RC f N (e, 0, p) J) (h4 : J 2 0 4 = s) (s0 : 0 ≤ s) (s1 : s ≤ N) (hx : zin x) (hd : DC d J) (hn : (0 ≤ d 18 0 0 ∧ d 18 0 0 ≤ 12) ∧ (0 ≤ d 18 0 6 ∧ d 18 0 6 ≤ 7) ∧ 0 ≤ d 18 0 11 ∧ 0 ≤ d 18 0 14) (hl : x = 0 → d 18 0 14 < 12) (hD : 4 ≤ D) (hQ : ∀ J' : zJ, (∀ b : Nat, b < 2 ∨ 17 < b → J' b = J b) → RC f N (nm3 f N 1 (d 18 0 0 - 1) 1 999 0 1439 (if x = 0 then (e, 0, p) else (e, 3, s))) J' → ((nm3 f N 1 (d 18 0 0 - 1) 1 999 0 1439 (if x = 0 then (e, 0, p) else (e, 3, s))).2.1 = 0 → DC (updW d (nmV f N (if x = 0 then (e, 0, p) else (e, 3, s))) (nmV f N (nmR f N 1 (d 18 0 0 - 1) (if x = 0 then (e, 0, p) else (e, 3, s)))) (nmV f N (nmR f N 1 999 (nmR f N 1 (d 18 0 0 - 1) (if x = 0 then (e, 0, p) else (e, 3, s)))))) J') → Q (.inl none) 0 J' K) : zCall L xs D 98 [zr 2, zi x] J K Q := by
  obtain ⟨D, rfl⟩ : ∃ d, D = d + 1 := ⟨D - 1, by omega⟩
  refine z98 hL ?_
  refine u100 hL h h4 s0 s1 hx (by omega) fun J1 g1 hr => zaV_of ?_
  have e3 : J1 3 = d 18 := (g1 3 (by decide)).trans (hd 18 (by decide) (by decide))
  have hx0 : ((if x = 0 then (e, 0, p) else (e, 3, s)) : Int × Int × Int).2.1 = 0 → x = 0 := by
    intro z
    by_cases y : x = 0
    · exact y
    · rw [if_neg y] at z
      exact absurd z (by simp)
  generalize ((if x = 0 then (e, 0, p) else (e, 3, s)) : Int × Int × Int) = t at *
  rw [e3]
  refine n3c hL hr ⟨⟨by decide, by decide⟩, by omega, by omega⟩ ⟨⟨by decide, by decide⟩, by decide, by decide⟩ ⟨⟨by decide, by decide⟩, by decide, by decide⟩ (by omega) fun J2 g2 hr2 => ?_
  have fr : ∀ b : Nat, b < 2 ∨ 17 < b → J2 b = J b := fun b hb => (g2 b (by omega)).trans (g1 b (by omega))
  have hd2 : DC d J2 := dc_fr hd fun b b1 b2 => (g2 b (by omega)).trans (g1 b (by omega))
  have e3b : J2 3 = d 18 := hd2 18 (by decide) (by decide)
  refine ⟨fun q _ _ _ => ⟨zin_0, fun _ => hQ J2 fr hr2 (fun z => absurd z q), fun z => absurd rfl z⟩, fun q => ⟨zin_1, fun z => absurd z (by decide), fun _ => ?_⟩⟩
  obtain ⟨q0, -, -, -, c1, c2, c3, c4, c5, c6⟩ := nm3_ok q
  have x0 := hx0 q0
  have hl2 := hl x0
  rw [e3b]
  refine ⟨by omega, by omega, by omega, by omega, by omega, by omega, hQ _ (fun b hb => ?_) (rc_eq hr2 ?_ ?_) (fun _ => ?_)⟩
  · rw [zup_ne _ _ _ _ (by omega), zup_ne _ _ _ _ (by omega), zup_ne _ _ _ _ (by omega), zup_ne _ _ _ _ (by omega)]
    exact fr b hb
  · rw [zup_ne _ _ _ _ (by decide), zup_ne _ _ _ _ (by decide), zup_ne _ _ _ _ (by decide), zup_ne _ _ _ _ (by decide)]
  · rw [zup_ne _ _ _ _ (by decide), zup_ne _ _ _ _ (by decide), zup_ne _ _ _ _ (by decide), zup_ne _ _ _ _ (by decide)]
  · exact (dc_up (a := 3) rfl (by decide) (by decide) _ _ _ (dc_up (a := 17) rfl (by decide) (by decide) _ _ _ (dc_up (a := 16) rfl (by decide) (by decide) _ _ _ (dc_up (a := 15) rfl (by decide) (by decide) _ _ _ hd2))))
