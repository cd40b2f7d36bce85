/-! DAYS BY CHANCE -/
set_option maxRecDepth 30000 in
theorem z213n {L : Nat} {xs : Nat → Int32} (hL : L ≤ 3072) {D : Nat} {J : zJ} {K : zK} {Q : zR → Nat → zJ → zK → Prop}
  (h : zGo L xs (D + 1) 213 4 [some (zr 142), some (zi 0), some (zi 0)] [] J K Q) :
  zCall L xs (D + 1) 213 [zr 142] J K Q :=
  zrun_ok (T := mct213) (o := 12) (ret := (some FieldType.int)) (hs := [(4, []), (44, [])]) hL rfl 4 _ _ _ _ _ _ _ h
set_option maxRecDepth 30000 in
theorem z213n_4 {L : Nat} {xs : Nat → Int32} (hL : L ≤ 3072) {D : Nat} {x1 x2 : Int} {J : zJ} {K : zK} {Q : zR → Nat → zJ → zK → Prop}
  (h : 0 ≤ (1 : Int) ∧ (1 : Int) < 8 ∧ zin x2 ∧ zin (J 144 0 1) ∧ ((J 144 0 1) ≤ x2 → zCall L xs D 236 [zr 142, zi x1] J K fun r1 e1 J1 K1 => zaI r1 e1 (fun x1_ => Q (.inl (some (zi x1_))) 0 J1 K1) (fun E => Q (.inr E) e1 J1 K1)) ∧ (x2 < (J 144 0 1) → 0 ≤ x2 ∧ x2 < 16 ∧ 0 ≤ x2 ∧ x2 < 16 ∧ 0 ≤ (2 : Int) ∧ (2 : Int) < 4 ∧ zin (J 170 x2 2) ∧ ((J 170 x2 2) ≠ (0 : Int) → zGo L xs (D + 1) 213 44 [some (zr 142), some (zi x1), some (zi x2)] [] (zup J 142 0 53 (((J 142 0 53) * 1103515245) + 12345)) K Q) ∧ ((J 170 x2 2) = (0 : Int) → zGo L xs (D + 1) 213 4 [some (zr 142), some (zi x1), some (zi (x2 + 1))] [] J K Q))) :
  zGo L xs (D + 1) 213 4 [some (zr 142), some (zi x1), some (zi x2)] [] J K Q :=
  zrun_ok (T := mct213) (o := 12) (ret := (some FieldType.int)) (hs := [(4, []), (44, [])]) hL rfl 21 _ _ _ _ _ _ _ h
set_option maxRecDepth 30000 in
theorem z213n_44 {L : Nat} {xs : Nat → Int32} (hL : L ≤ 3072) {D : Nat} {x1 x2 : Int} {J : zJ} {K : zK} {Q : zR → Nat → zJ → zK → Prop}
  (h : zin (J 142 0 53) ∧ 0 ≤ (16 : Int) ∧ (16 : Int) < 32 ∧ 0 ≤ (zand ((J 142 0 53) / 2 ^ (16 : Int).toNat) 32767) ∧ (zand ((J 142 0 53) / 2 ^ (16 : Int).toNat) 32767) < 2147483648 ∧ 0 < (20 : Int) ∧ (20 : Int) < 2147483648 ∧ 0 ≤ x2 ∧ x2 < 16 ∧ 0 ≤ x2 ∧ x2 < 16 ∧ 0 ≤ (2 : Int) ∧ (2 : Int) < 4 ∧ zin ((zand ((J 142 0 53) / 2 ^ (16 : Int).toNat) 32767) % 20) ∧ zin (J 170 x2 2) ∧ ((J 170 x2 2) ≤ ((zand ((J 142 0 53) / 2 ^ (16 : Int).toNat) 32767) % 20) → zGo L xs (D + 1) 213 4 [some (zr 142), some (zi (zor x1 0)), some (zi (x2 + 1))] [] J K Q) ∧ (((zand ((J 142 0 53) / 2 ^ (16 : Int).toNat) 32767) % 20) < (J 170 x2 2) → 0 ≤ x2 ∧ x2 < 32 ∧ zGo L xs (D + 1) 213 4 [some (zr 142), some (zi (zor x1 (1 * 2 ^ (x2.toNat)))), some (zi (x2 + 1))] [] J K Q)) :
  zGo L xs (D + 1) 213 44 [some (zr 142), some (zi x1), some (zi x2)] [] J K Q :=
  zrun_ok (T := mct213) (o := 12) (ret := (some FieldType.int)) (hs := [(4, []), (44, [])]) hL rfl 24 _ _ _ _ _ _ _ h
/-- a run doesn't tell numbers apart that are the same as ints -/
theorem zGo_nrm {L : Nat} {xs : Nat → Int32} {D k pc : Nat} {ls : zLs} {st : List zV} {J J' : zJ} {K : zK} {Q : zR → Nat → zJ → zK → Prop} (hJ : ∀ (a : Nat) (i k : Int), Int32.ofInt (J a i k) = Int32.ofInt (J' a i k)) (h : zGo L xs D k pc ls st J' K Q) : zGo L xs D k pc ls st J K Q := by
  have e : zIf J = zIf J' := by
    funext b k
    exact hJ _ _ _
  intro lsv hl g
  have e2 : zmem g J K = zmem g J' K := by
    unfold zmem
    rw [e]
  rw [e2]
  exact h lsv hl g
theorem zand_15 {z : Int} (h0 : 0 ≤ z) : zand z 32767 = z % 32768 := by
  unfold zand
  rw [zo_n h0, zo_n (by decide), zo_and]
  have e : (32767 : Int).toNat = 2 ^ 15 - 1 := by decide
  rw [e, Nat.and_two_pow_sub_one_eq_mod, zo_t (by omega)]
  omega
theorem ofInt_mod {x y : Int} (h : x % 4294967296 = y % 4294967296) : Int32.ofInt x = Int32.ofInt y := by
  apply Int32.toBitVec_inj.1
  show BitVec.ofInt 32 x = BitVec.ofInt 32 y
  apply BitVec.eq_of_toNat_eq
  rw [BitVec.toNat_ofInt, BitVec.toNat_ofInt]
  have e : ((2 ^ 32 : Nat) : Int) = 4294967296 := rfl
  rw [e, h]
theorem zand_m {z : Int} : zand z 32767 = z % 32768 := by
  have h : zand z 32767 = zand (z % 4294967296) 32767 := by
    unfold zand
    rw [ofInt_mod (x := z) (y := z % 4294967296) (by omega)]
  rw [h, zand_15 (by omega)]
  omega
/-- the int of a number -/
def nrm (x : Int) : Int := if x % 4294967296 < 2147483648 then x % 4294967296 else x % 4294967296 - 4294967296
theorem nrm_ok (x : Int) : zin (nrm x) ∧ nrm x % 4294967296 = x % 4294967296 := by
  unfold nrm zin
  split <;> omega
def lcg (x : Int) : Int := x * 1103515245 + 12345
def rl (y : Int) : Int := y / 65536 % 32768 % 20
theorem lcg_m {x y : Int} (h : x % 4294967296 = y % 4294967296) : lcg x % 4294967296 = lcg y % 4294967296 := by
  unfold lcg
  omega
theorem rl_m {x y : Int} (h : x % 4294967296 = y % 4294967296) : rl x = rl y := by
  unfold rl
  omega
theorem rl_32 (y : Int) : y % 4294967296 / 65536 % 32768 % 20 = rl y := by
  have e : y % 4294967296 / 65536 % 32768 = y / 65536 % 32768 := by omega
  unfold rl
  rw [e]
/-- who comes late by chance, and the next seed -/
def dr (s : zJ) (x : Int) : Nat → Int × Int
  | 0 => (0, x)
  | m + 1 => if 0 < s 26 0 m then ((if rl (lcg (dr s x m).2) < s 26 0 m then zor (dr s x m).1 (2 ^ m) else (dr s x m).1), lcg (dr s x m).2) else dr s x m
theorem dr_rng (s : zJ) (x : Int) : ∀ m : Nat, m ≤ 7 → 0 ≤ (dr s x m).1 ∧ (dr s x m).1 < 2 ^ m
  | 0, _ => by simp [dr]
  | m + 1, hm => by
    have h := dr_rng s x m (by omega)
    have hp := pw_pos m
    have e : (2 : Int) ^ (m + 1) = 2 ^ m * 2 := Int.pow_succ 2 m
    rw [dr]
    split
    · simp only
      split
      · exact zor_lt (by omega) h.1 (by omega) (by omega) (by omega)
      · omega
    · omega
theorem c10 {L : Nat} {xs : Nat → Int32} (hL : L ≤ 3072) {D : Nat} {J : zJ} {K : zK} {Q : zR → Nat → zJ → zK → Prop} {s : zJ} (hE : EqS s J) (h : LW s) {x : Int} (hD : 1 ≤ D) (hx : J 117 0 14 = x) (hQ : ∀ J' : zJ, (∀ b : Nat, b ≠ 117 → J' b = J b) → (∀ k : Int, k ≠ 14 → J' 117 0 k = J 117 0 k) → J' 117 0 14 = (dr s x (s 18 0 6).toNat).2 → Q (.inl (some (zi ((dr s x (s 18 0 6).toNat).1)))) 0 J' K) : zCall L xs D 10 [zr 117] J K Q := by
  obtain ⟨D, rfl⟩ : ∃ d, D = d + 1 := ⟨D - 1, by omega⟩
  have hn := lw_n h
  refine z10 hL ?_
  have key : ∀ (n m : Nat) (J1 : zJ), n = (s 18 0 6).toNat - m → m ≤ (s 18 0 6).toNat → (∀ b : Nat, b ≠ 117 → J1 b = J b) → (∀ k : Int, k ≠ 14 → J1 117 0 k = J 117 0 k) → J1 117 0 14 = (dr s x m).2 → zGo L xs (D + 1) 10 4 [some (zr 117), some (zi (dr s x m).1), some (zi (m : Int))] [] J1 K Q := by
    intro n; induction n using Nat.strongRecOn with
    | _ n ih =>
    intro m J1 hm h1 hb hk hs
    have hE1 : EqS s J1 := fun b a c => (hb b (by omega)).trans (hE b a c)
    have e18 := hE1 18 (by decide) (by decide)
    have e26 := hE1 26 (by decide) (by decide)
    refine z10_4 hL ?_
    rw [e18, e26]
    by_cases hc : m < (s 18 0 6).toNat
    · have hkk := lw_k h (k := m) (by omega) (by omega)
      have ej : (m : Int) + 1 = ((m + 1 : Nat) : Int) := by omega
      refine ⟨⟨by omega, by omega⟩, ⟨by omega, by omega⟩, fun _ => by omega, fun _ => ⟨by omega, by omega, ⟨by omega, by omega⟩, fun q => ?_, fun q => ?_⟩⟩
      · rw [ej]
        have hi := ih _ (by omega) (m + 1) J1 rfl (by omega) hb hk
        rw [dr, if_neg (by omega)] at hi
        exact hi hs
      · rw [hs, zand_m]
        have e16 : (2 : Int) ^ (16 : Int).toNat = 65536 := by decide
        rw [e16]
        have er : (((dr s x m).2 * 1103515245 + 12345) % 4294967296 / 65536) % 32768 % 20 = rl (lcg (dr s x m).2) := by
          exact rl_32 _
        rw [er]
        have hr : 0 ≤ rl (lcg (dr s x m).2) ∧ rl (lcg (dr s x m).2) < 20 := by
          unfold rl
          omega
        have hi := fun v => ih _ (by omega) (m + 1) (zup J1 117 0 14 v) rfl (by omega) (fun b hb2 => by rw [zup_ne _ _ _ _ hb2]; exact hb b hb2) (fun k hk2 => by rw [zup_nk _ _ hk2]; exact hk k hk2)
        rw [dr, if_pos q] at hi
        simp only at hi
        refine ⟨by decide, by decide, by omega, by omega, by decide, by decide, by omega, by omega, ⟨by omega, by omega⟩, ⟨by omega, by omega⟩, fun q2 => ?_, fun q2 => ⟨by omega, by omega, ?_⟩⟩
        · rw [if_neg (by omega)] at hi
          rw [ej]
          exact hi _ (zup_eq _ _ _ _ _)
        · rw [if_pos q2] at hi
          rw [ej, Int.one_mul]
          exact hi _ (zup_eq _ _ _ _ _)
    · have e : m = (s 18 0 6).toNat := by omega
      subst e
      exact ⟨⟨by omega, by omega⟩, ⟨by omega, by omega⟩, fun _ => hQ J1 hb hk hs, fun q => by omega⟩
  exact key _ 0 J rfl (by omega) (fun _ _ => rfl) (fun _ _ => rfl) hx
/-- some days' harms, and the next seed -/
def rn (s : zJ) (x : Int) : Nat → Int × Int
  | 0 => (0, x)
  | m + 1 => ((rn s x m).1 + hrm s (evF s (fun p => s 49 0 p) (stl s (dr s (rn s x m).2 (s 18 0 6).toNat).1)), (dr s (rn s x m).2 (s 18 0 6).toNat).2)
theorem rn_rng {s : zJ} (hW : LW s) (hP : PW s) (x : Int) : ∀ m : Nat, -(1000000 * (m : Int)) ≤ (rn s x m).1 ∧ (rn s x m).1 ≤ 2000000 * m
  | 0 => by simp [rn]
  | m + 1 => by
    have h := rn_rng hW hP x m
    have hr := hrm_rng hW hP (ev_ok hW hP (dr s (rn s x m).2 (s 18 0 6).toNat).1) (by decide)
    rw [rn]
    simp only
    omega
theorem c13 {L : Nat} {xs : Nat → Int32} (hL : L ≤ 3072) {D : Nat} {J : zJ} {K : zK} {Q : zR → Nat → zJ → zK → Prop} {s : zJ} (hE : EqS s J) (h : LW s) (hT : TW s) (hP : PW s) {x : Int} {m : Nat} (hD : 10 ≤ D) (hm : m ≤ 200) (hQ : ∀ J', Fr 117 133 J J' → Q (.inl (some (zi ((rn s x m).1)))) 0 J' K) : zCall L xs D 13 [zr 117, zi x, zi (m : Int)] J K Q := by
  obtain ⟨D, rfl⟩ : ∃ d, D = d + 1 := ⟨D - 1, by omega⟩
  have hn := lw_n h
  have h7 := pw7 hn.2.2.2.1
  refine z13 hL ?_
  refine c20 hL hE h hT hP (by omega) fun J1 hF1 hPR1 hal1 => zaV_of ?_
  have key : ∀ (n j : Nat) (J2 : zJ), n = m - j → j ≤ m → Fr 117 133 J J2 → PR s J2 (fun p => s 49 0 p) → J2 117 0 11 = aln s → J2 117 0 14 = (rn s x j).2 → zGo L xs (D + 1) 13 14 [some (zr 117), none, some (zi (m : Int)), some (zi (rn s x j).1), some (zi (j : Int))] [] J2 K Q := by
    intro n; induction n using Nat.strongRecOn with
    | _ n ih =>
    intro j J2 hj hjm hF2 hPR2 hal2 hs2
    have hE2 := eqs_fr hE hF2 (by omega)
    refine z13_14 hL ?_
    by_cases hc : j < m
    · have ej : (j : Int) + 1 = ((j + 1 : Nat) : Int) := by omega
      refine ⟨⟨by omega, by omega⟩, ⟨by omega, by omega⟩, fun _ => by omega, fun _ => ?_⟩
      refine c10 hL hE2 h (by omega) hs2 fun J3 hb3 hk3 hs3 => zaI_of ?_
      have hdr := dr_rng s (rn s x j).2 (s 18 0 6).toNat (by omega)
      have hF3 : Fr 117 133 J J3 := fun b hb => (hb3 b (by omega)).trans (hF2 b hb)
      have hE3 := eqs_fr hE hF3 (by omega)
      have hPR3 : PR s J3 (fun p => s 49 0 p) := by
        unfold PR at hPR2 ⊢
        rw [hk3 4 (by decide), hb3 118 (by decide), hb3 119 (by decide)]
        exact hPR2
      refine c_late hL hE3 h hT hP hPR3 (by rw [hk3 11 (by decide)]; exact hal2) (x := (dr s (rn s x j).2 (s 18 0 6).toNat).1) ⟨by omega, by omega⟩ (by omega) fun J4 hF4 hf4 _ hPR4 hal4 hC4 => ?_
      have hF4' := fr_tr hF3 hF4
      refine c12 hL (eqs_fr hE hF4' (by omega)) h hT (ev_okw h hP (fun p => s 49 0 p) _) hC4 hal4 (by omega) (zaI_of ?_)
      rw [ej]
      exact ih _ (by omega) (j + 1) J4 rfl (by omega) hF4' hPR4 hal4 (by rw [hf4 14 (by decide), hs3]; rfl)
    · have e : j = m := by omega
      subst e
      exact ⟨⟨by omega, by omega⟩, ⟨by omega, by omega⟩, fun _ => hQ J2 hF2, fun q => by omega⟩
  refine key _ 0 _ rfl (by omega) (fr_up (fr_wk hF1 (by decide) (by decide)) (by decide) (by decide) _ _ _) ?_ ?_ (zup_eq _ _ _ _ _)
  · unfold PR at hPR1 ⊢
    rw [zup_nk _ _ (by decide), zup_ne _ _ _ _ (by decide), zup_ne _ _ _ _ (by decide)]
    exact hPR1
  · rw [zup_nk _ _ (by decide)]
    exact hal1
/-- the model's day -/
theorem c213 {L : Nat} {xs : Nat → Int32} (hL : L ≤ 3072) {D : Nat} {J : zJ} {K : zK} {Q : zR → Nat → zJ → zK → Prop} {s : zJ} (hM : ML s J) (h : LW s) (hP : PW s) (hC : MC s J) {x : Int} (hD : 12 ≤ D) (hx : J 142 0 53 % 4294967296 = x % 4294967296) (hQ : ∀ J' : zJ, FrM J J' → J' 142 0 0 = J 142 0 0 → J' 142 0 53 % 4294967296 = (dr s x (s 18 0 6).toNat).2 % 4294967296 → Q (.inl (some (zi (hrm s (evF s (fun p => s 49 0 p) (stl s (dr s x (s 18 0 6).toNat).1)))))) 0 J' K) : zCall L xs D 213 [zr 142] J K Q := by
  obtain ⟨D, rfl⟩ : ∃ d, D = d + 1 := ⟨D - 1, by omega⟩
  have hn := lw_n h
  have h7 := pw7 hn.2.2.2.1
  refine z213n hL ?_
  have key : ∀ (n m : Nat) (J1 : zJ), n = (s 18 0 6).toNat - m → m ≤ (s 18 0 6).toNat → FrM J J1 → J1 142 0 0 = J 142 0 0 → J1 142 0 53 % 4294967296 = (dr s x m).2 % 4294967296 → zGo L xs (D + 1) 213 4 [some (zr 142), some (zi (dr s x m).1), some (zi (m : Int))] [] J1 K Q := by
    intro n; induction n using Nat.strongRecOn with
    | _ n ih =>
    intro m J1 hm h1 hF1 ht1 hs1
    have hM1 := ml_fm hM hF1
    refine z213n_4 hL ?_
    rw [hM1.1.2.1]
    by_cases hc : m < (s 18 0 6).toNat
    · have hkk := lw_k h (k := m) (by omega) (by omega)
      have hmk := (ml_k hM1 (k := m) (by omega) (by omega)).2.2.1
      have ej : (m : Int) + 1 = ((m + 1 : Nat) : Int) := by omega
      rw [hmk]
      refine ⟨by decide, by decide, ⟨by omega, by omega⟩, ⟨by omega, by omega⟩, fun _ => by omega, fun _ => ⟨by omega, by omega, by omega, by omega, by decide, by decide, ⟨by omega, by omega⟩, fun q => ?_, fun q => ?_⟩⟩
      · have hy : (J1 142 0 53 * 1103515245 + 12345) % 4294967296 = lcg (dr s x m).2 % 4294967296 := lcg_m (x := J1 142 0 53) hs1
        have hnn := nrm_ok (J1 142 0 53 * 1103515245 + 12345)
        refine zGo_nrm (J' := zup J1 142 0 53 (nrm (J1 142 0 53 * 1103515245 + 12345))) (fun a i k => ?_) ?_
        · rw [zup_at, zup_at]
          split
          · exact ofInt_mod hnn.2.symm
          · rfl
        generalize nrm (J1 142 0 53 * 1103515245 + 12345) = y at hnn
        have hy2 : y % 4294967296 = lcg (dr s x m).2 % 4294967296 := hnn.2.trans hy
        have hF2 : FrM J (zup J1 142 0 53 y) := fm_fd hF1 (by decide) y
        have ht2 : zup J1 142 0 53 y 142 0 0 = J 142 0 0 := by
          rw [zup_nk _ _ (by decide)]
          exact ht1
        have hmk2 := (ml_k (ml_fm hM hF2) (k := m) (by omega) (by omega)).2.2.1
        refine z213n_44 hL ?_
        rw [zup_eq, zand_m, hmk2]
        have e16 : (2 : Int) ^ (16 : Int).toNat = 65536 := by decide
        rw [e16]
        have er : y / 65536 % 32768 % 20 = rl (lcg (dr s x m).2) := rl_m hy2
        rw [er]
        have hr : 0 ≤ rl (lcg (dr s x m).2) ∧ rl (lcg (dr s x m).2) < 20 := by
          unfold rl
          omega
        have hd := dr_rng s x m (by omega)
        have hp2 : (2 : Int) ^ m ≤ 2 ^ 7 := pw_le (by omega)
        have hi := ih _ (by omega) (m + 1) _ rfl (by omega) hF2 ht2
        rw [dr, if_pos (by omega)] at hi
        simp only at hi
        refine ⟨hnn.1, by decide, by decide, by omega, by omega, by decide, by decide, by omega, by omega, by omega, by omega, by decide, by decide, ⟨by omega, by omega⟩, ⟨by omega, by omega⟩, fun q2 => ?_, fun q2 => ⟨by omega, by omega, ?_⟩⟩
        · rw [if_neg (by omega)] at hi
          have e0 : zor (dr s x m).1 0 = (dr s x m).1 := by
            rw [zor_n hd.1 (by omega) (by decide) (by decide)]
            simp
            omega
          rw [ej, e0]
          exact hi (by rw [zup_eq]; exact hy2)
        · rw [if_pos q2] at hi
          rw [ej, Int.one_mul]
          exact hi (by rw [zup_eq]; exact hy2)
      · rw [ej]
        have hi := ih _ (by omega) (m + 1) J1 rfl (by omega) hF1 ht1
        rw [dr, if_neg (by omega)] at hi
        exact hi hs1
    · have e : m = (s 18 0 6).toNat := by omega
      subst e
      have hd := dr_rng s x (s 18 0 6).toNat (by omega)
      have hC1 := mc_fm hC hF1
      refine ⟨by decide, by decide, ⟨by omega, by omega⟩, ⟨by omega, by omega⟩, fun _ => ?_, fun q => by omega⟩
      refine c236 hL hM1 h hP (me_of hC1) (w := fun p => s 49 0 p) (by omega) ⟨by omega, by omega⟩ (mw_ok h hP hC1) fun J2 hF2 => zaI_of ?_
      exact hQ J2 (fm_tr hF1 (fg_fm hF2)) (by rw [hF2.2 0 (by decide) (by decide)]; exact ht1) (by rw [hF2.2 53 (by decide) (by decide)]; exact hs1)
  exact key _ 0 J rfl (by omega) (fm_rfl J) rfl hx
theorem op39 {G : zJ → zK → Prop} (hG : GOk G) : ∀ a : Int, zin a → OpD (Inv G) 147 212 [zi a] := by
  intro a ha
  intro L xs D J K hL hD hI; obtain ⟨⟨hW, hT, hP, hM, hC, hTp, hF, hIm⟩, hg⟩ := id hI; have hE := eqs_rfl J; have hn := lw_n hW; have hpn := pw_n hP
  obtain ⟨D, rfl⟩ : ∃ d, D = d + 1 := ⟨D - 1, by omega⟩
  refine z147 hL ?_
  refine c13 hL hE hW hT hP (m := 1) (by omega) (by decide) fun J1 hF1 => zaI_of ⟨_, rfl, rfl, ?_, ?_⟩
  · have := rn_rng hW hP a 1
    exact ⟨by omega, by omega⟩
  · have f1 : FrC J J1 := fc_fr (fc_rfl J) hF1 (by decide)
    have f2 : FrM J1 (zup (zup J1 142 0 0 0) 142 0 53 a) := fm_fd (fm_t J1 0) (by decide) a
    have hM1 := ml_fm (ml_fc hM f1) f2
    have hC2 := mc_fm (mc_fc hC f1) f2
    refine z212 hL ?_
    refine c213 hL hM1 hW hP hC2 (x := a) (by omega) (by rw [zup_eq]) fun J2 hF2 _ _ => zaI_of ⟨?_, rfl, ?_⟩
    · have e : (rn J a 1).1 = hrm J (evF J (fun p => J 49 0 p) (stl J (dr J a (J 18 0 6).toNat).1)) := Int.zero_add _
      rw [e]
    · exact inv_q hG hI f1 (fm_tr f2 hF2) rfl
theorem op40 {G : zJ → zK → Prop} (hG : GOk G) : ∀ a b : Int, zin a → zin b → OpW (Inv G) 343 5 178 287 zin [zi a, zi b] := by
  intro a b ha hb
  intro L xs D D2 J K hL hD hD2 hI; obtain ⟨⟨hW, hT, hP, hM, hC, hTp, hF, hIm⟩, hg⟩ := id hI; have hE := eqs_rfl J; have hn := lw_n hW; have hpn := pw_n hP
  obtain ⟨D, rfl⟩ : ∃ d, D = d + 1 := ⟨D - 1, by omega⟩
  obtain ⟨D2, rfl⟩ : ∃ d, D2 = d + 1 := ⟨D2 - 1, by omega⟩
  have bad : ¬ (1 ≤ b ∧ b ≤ 200) → zCall L xs (D2 + 1) 287 [zr 142, zi a, zi b] J K fun r2 e2 J2 K2 => (∃ v2, r2 = .inl (some (zi v2)) ∧ zin v2) ∧ e2 = 0 ∧ J2 142 0 0 = 1 ∧ Inv G J2 K2 := by
    intro hc
    have t0 : zup J 142 0 0 0 142 0 0 = 0 := zup_eq _ _ _ _ _
    have fin := fin_x hG hI (fc_rfl J) (fm_t2 J 0 1) rfl (zup_eq _ _ _ _ _) 0 zin_0
    refine z287 hL ?_
    refine c240 hL (by omega) hb zin_1 ⟨by omega, by omega⟩ (zaI_of ⟨zin_zb _, fun q => by rw [zb_1, decide_eq_true_iff] at q; omega, fun _ => ?_⟩)
    exact c195T hL (by omega) t0 (by decide) (zaI_of ⟨zin_1, fun q => absurd q (by decide), fun _ => fin⟩)
  refine z178 hL ⟨hb, zin_1, fun _ => ⟨by omega, Or.inr ⟨0, 1, rfl, rfl, zonb_ok (by decide +kernel), by decide, by decide, ?_⟩⟩, fun g0 => ⟨hb, ⟨by omega, by omega⟩, fun g1 => ?_, fun _ => ⟨by omega, Or.inr ⟨0, 1, rfl, rfl, zonb_ok (by decide +kernel), by decide, by decide, ?_⟩⟩⟩⟩
  · exact bad (by omega)
  · obtain ⟨m, rfl⟩ : ∃ m : Nat, b = m := ⟨b.toNat, by omega⟩
    refine c13 hL hE hW hT hP (m := m) (by omega) (by omega) fun J1 hF1 => zaI_of (Or.inl ⟨_, rfl, rfl, ?_, fun x => ?_⟩)
    · have := rn_rng hW hP a m
      exact ⟨by omega, by omega⟩
    have f1 : FrC J J1 := fc_fr (fc_rfl J) hF1 (by decide)
    have t0 : zup J1 142 0 0 0 142 0 0 = 0 := zup_eq _ _ _ _ _
    refine z287 hL ?_
    refine c240 hL (by omega) hb zin_1 ⟨by omega, by omega⟩ (zaI_of ⟨zin_zb _, fun _ => ?_, fun q => by rw [zb_0, decide_eq_false_iff_not] at q; omega⟩)
    refine c195F hL (by omega) t0 (zaI_of ⟨zin_0, fun _ => ?_, fun q => absurd rfl q⟩)
    have key : ∀ (n j : Nat) (J2 : zJ), n = m - j → j ≤ m → FrM J1 J2 → J2 142 0 0 = 0 → J2 142 0 53 % 4294967296 = (rn J a j).2 % 4294967296 → zGo L xs (D2 + 1) 287 41 [some (zr 142), none, some (zi (m : Int)), some (zi (rn J a j).1), some (zi (j : Int))] [] J2 (zku K 561 0 x) fun r2 e2 J2 K2 => r2 = .inl (some (zi (rn J a m).1)) ∧ e2 = 0 ∧ J2 142 0 0 = 0 ∧ K2 561 0 = x ∧ Inv G J2 K2 := by
      intro n; induction n using Nat.strongRecOn with
      | _ n ih =>
      intro j J2 hj hjm hF2 ht2 hs2
      refine z287_41 hL ?_
      by_cases hc : j < m
      · have ej : (j : Int) + 1 = ((j + 1 : Nat) : Int) := by omega
        refine ⟨⟨by omega, by omega⟩, ⟨by omega, by omega⟩, fun _ => by omega, fun _ => ?_⟩
        refine c213 hL (ml_fm (ml_fc hM f1) hF2) hW hP (mc_fm (mc_fc hC f1) hF2) (x := (rn J a j).2) (by omega) hs2 fun J3 hF3 ht3 hs3 => zaI_of ?_
        rw [ej]
        exact ih _ (by omega) (j + 1) J3 rfl (by omega) (fm_tr hF2 hF3) (ht3.trans ht2) hs3
      · have e : j = m := by omega
        subst e
        exact ⟨⟨by omega, by omega⟩, ⟨by omega, by omega⟩, fun _ => ⟨rfl, rfl, ht2, zku_o K x, inv_q hG hI f1 hF2 (zku_n _ _ (by decide))⟩, fun q => by omega⟩
    refine key _ 0 _ rfl (by omega) (fm_fd (fm_t J1 0) (by decide) a) ?_ ?_
    · rw [zup_nk _ _ (by decide)]
      exact t0
    · rw [zup_eq]
      rfl
  · exact bad (by omega)
