/-! LIGHT ENGINES: which row of places is ahead -/
def lowc (d : Nat) : Bool := Nat.beq d 0 || (List.range 12).any fun l => decide (zand (d : Int) (-(d : Int)) = 2 ^ l) && bt (d : Int) (l : Int) && (List.range l).all fun q => !bt (d : Int) (q : Int)
theorem lowc_ok : ((List.range 4096).all lowc) = true := by decide +kernel
theorem low_ok {d : Int} (d0 : 0 < d) (d1 : d < 4096) : ∃ l : Nat, l < 12 ∧ zand d (-d) = 2 ^ l ∧ bt d l = true ∧ ∀ q : Int, 0 ≤ q → q < l → bt d q = false := by
  have h := List.all_eq_true.mp lowc_ok d.toNat (List.mem_range.mpr (by omega))
  have e : ((d.toNat : Nat) : Int) = d := by omega
  unfold lowc at h
  rw [e, Bool.or_eq_true] at h
  rcases h with z | z
  · have := Nat.eq_of_beq_eq_true z
    omega
  · obtain ⟨l, hl, h2⟩ := List.any_eq_true.mp z
    rw [Bool.and_eq_true, Bool.and_eq_true, decide_eq_true_iff] at h2
    refine ⟨l, List.mem_range.mp hl, h2.1.1, h2.1.2, fun q q0 q1 => ?_⟩
    have h3 := List.all_eq_true.mp h2.2 q.toNat (List.mem_range.mpr (by omega))
    have e2 : ((q.toNat : Nat) : Int) = q := by omega
    rw [e2] at h3
    simpa using h3
theorem bt_same {x y : Int} (x0 : 0 ≤ x) (x1 : x < 4096) (y0 : 0 ≤ y) (y1 : y < 4096) (h : ∀ k : Int, 0 ≤ k → k < 12 → bt x k = bt y k) : x = y := by
  have ex : ∀ z : Int, 0 ≤ z → z < 4096 → z = bs (fun k => bt z k) 12 := fun z z0 z1 => by
    have h1 := bs_lt (fun k => bt z k) 12
    refine bs_of z0 fun k k0 => ?_
    by_cases hk : k < 12
    · rw [decide_eq_true (by omega), Bool.true_and]
    · rw [decide_eq_false (by omega), Bool.false_and]
      unfold bt
      refine Nat.testBit_lt_two_pow ?_
      have hp : 2 ^ 12 ≤ 2 ^ k.toNat := Nat.pow_le_pow_right (by decide) (by omega)
      omega
  rw [ex x x0 x1, ex y y0 y1]
  exact bs_cong fun k k0 k1 => h k k0 (by omega)
theorem c250 {L : Nat} {xs : Nat → Int32} (hL : L ≤ 3072) {D : Nat} {J : zJ} {K : zK} {Q : zR → Nat → zJ → zK → Prop} {x y : Int} (x0 : 0 ≤ x) (x1 : x < 4096) (y0 : 0 ≤ y) (y1 : y < 4096) (hne : x ≠ y) (hD : 1 ≤ D) (h1 : ahb x y → Q (.inl (some (zi (1)))) 0 J K) (h0 : ahb y x → Q (.inl (some (zi (0)))) 0 J K) : zCall L xs D 250 [zi x, zi y] J K Q := by
  obtain ⟨D, rfl⟩ : ∃ d, D = d + 1 := ⟨D - 1, by omega⟩
  have hd : 0 ≤ zxor x y ∧ zxor x y < 4096 := by
    rw [zxor_n x0 (by omega) y0 (by omega)]
    have : x.toNat ^^^ y.toNat < 2 ^ 12 := Nat.xor_lt_two_pow (by omega) (by omega)
    omega
  have hb : ∀ k : Int, 0 ≤ k → bt (zxor x y) k = xor (bt x k) (bt y k) := fun k k0 => by rw [bt_xor x0 (by omega) y0 (by omega)]
  have hdp : 0 < zxor x y := by
    rcases Int.lt_or_le 0 (zxor x y) with z | z
    · exact z
    · exfalso
      have e : zxor x y = 0 := by omega
      refine hne (bt_same x0 x1 y0 y1 fun k k0 k1 => ?_)
      have := hb k k0
      rw [e, bt_z] at this
      cases h2 : bt x k <;> cases h3 : bt y k <;> rw [h2, h3] at this <;> simp at this ⊢
  obtain ⟨l, l12, e1, e2, e3⟩ := low_ok hdp hd.2
  have hp0 := pw_pos l
  have hpl : (2 : Int) ^ l ≤ 2 ^ 11 := pw_le (by omega)
  have same : ∀ q : Int, 0 ≤ q → q < l → bt x q = bt y q := fun q q0 q1 => by
    have h2 := hb q q0
    rw [e3 q q0 q1] at h2
    cases h3 : bt x q <;> cases h4 : bt y q <;> rw [h3, h4] at h2 <;> simp at h2 ⊢
  have hdl := hb l (by omega)
  rw [e2] at hdl
  have hz := zand_le x0 (by omega) (y := 2 ^ l) (by omega)
  have hbz : ∀ k : Int, 0 ≤ k → bt (zand x (2 ^ l)) k = (bt x k && decide ((l : Int) = k)) := fun k k0 => by
    have e : ((l : Int).toNat) = l := by omega
    have hq := bt_pow (j := (l : Int)) (k := k) (by omega) k0
    rw [e] at hq
    rw [bt_and x0 (by omega) (by omega), hq]
  refine z250 hL ?_
  rw [e1]
  refine ⟨⟨by omega, by omega⟩, fun q => ⟨Or.inl rfl, h0 ?_⟩, fun q => ⟨Or.inr rfl, h1 ?_⟩⟩
  · have hx : bt x l = false := by
      have := hbz l (by omega)
      rw [q, bt_z] at this
      cases h2 : bt x l with
      | false => rfl
      | true =>
        rw [h2] at this
        simp at this
    have hy : bt y l = true := by
      rw [hx] at hdl
      simpa using hdl.symm
    exact ⟨l, by omega, hy, hx, fun r r0 r1 => (same r r0 r1).symm⟩
  · have hx : bt x l = true := by
      cases h2 : bt x l with
      | true => rfl
      | false =>
        exfalso
        apply q
        refine bt_same hz.1 (by omega) (by decide) (by decide) fun k k0 k1 => ?_
        rw [hbz k k0, bt_z]
        by_cases e : (l : Int) = k
        · rw [← e, h2, Bool.false_and]
        · rw [decide_eq_false e, Bool.and_false]
    have hy : bt y l = false := by
      rw [hx] at hdl
      simpa using hdl.symm
    exact ⟨l, by omega, hx, hy, same⟩
