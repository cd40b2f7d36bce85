/-! LIGHT ENGINES: which row of places is ahead -/
def lowc (d : Nat) : Bool := Nat.beq d 0 || (List.range 12).any fun l => decide (zand (d : Int) (-(d : Int)) = 2 ^ l) && bt (d : Int) (l : Int) && (List.range l).all fun q => !bt (d : Int) (q : Int)
theorem lowc_ok : ((List.range 4096).all lowc) = true := by decide +kernel
theorem low_ok {d : Int} (d0 : 0 < d) (d1 : d < 4096) : ∃ l : Nat, l < 12 ∧ zand d (-d) = 2 ^ l ∧ bt d l = true ∧ ∀ q : Int, 0 ≤ q → q < l → bt d q = false := by
  have h := List.all_eq_true.mp lowc_ok d.toNat (List.mem_range.mpr (by omega))
  have e : ((d.toNat : Nat) : Int) = d := by omega
  unfold lowc at h
  rw [e, Bool.or_eq_true] at h
  rcases h with z | z
  · have := Nat.eq_of_beq_eq_true z
    omega
  · obtain ⟨l, hl, h2⟩ := List.any_eq_true.mp z
    rw [Bool.and_eq_true, Bool.and_eq_true, decide_eq_true_iff] at h2
    refine ⟨l, List.mem_range.mp hl, h2.1.1, h2.1.2, fun q q0 q1 => ?_⟩
    have h3 := List.all_eq_true.mp h2.2 q.toNat (List.mem_range.mpr (by omega))
    have e2 : ((q.toNat : Nat) : Int) = q := by omega
    rw [e2] at h3
    simpa using h3
