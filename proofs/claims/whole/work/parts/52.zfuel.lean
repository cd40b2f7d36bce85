/-! more fuel does no harm -/
set_option maxRecDepth 100000 in
theorem mx_fuel1 {L : Nat} {xs : Nat → Int32} : ∀ (n m : Nat), n ≤ m → ∀ (d k pc : Nat) (ls : mLS) (st : List Value) (M : mMM) (r : mRes × mMM), mx L xs n d k pc ls st M = some r → mx L xs m d k pc ls st M = some r := by
  intro n
  induction n with
  | zero =>
    intro m _ d k pc ls st M r h
    simp only [mx] at h
    cases h
  | succ n ih0 =>
    intro m hm d k pc ls st M r h
    cases m with
    | zero => omega
    | succ m =>
    have ih := ih0 m (by omega)
    simp only [mx] at h ⊢
    cases hq : mins (mprog k).2.2.2.2.2 pc with
    | none => rw [hq] at h; cases h
    | some q =>
    rw [hq] at h
    simp only at h ⊢
    cases hr : m_ret (mprog k).2.2.2.1 q.1 st with
    | some v => rw [hr] at h; exact h
    | none =>
    rw [hr] at h
    simp only at h ⊢
    cases he : m_inv (mprog k).2.2.2.2.1 q.1 with
    | none =>
      rw [he] at h
      simp only at h ⊢
      cases ht : m_thr (mprog k).2.2.2.2.1 (mprog k).2.2.2.2.2 pc with
      | some w => rw [ht] at h; exact h
      | none =>
        rw [ht] at h
        simp only at h ⊢
        cases hs : mstep d (mprog k).2.2.2.2.1 (m_ini k) L xs q.1 pc ls st M with
        | none => rw [hs] at h; cases h
        | some y =>
          rw [hs] at h
          simp only at h ⊢
          exact ih _ _ _ _ _ _ _ h
    | some e =>
      rw [he] at h
      simp only at h ⊢
      obtain ⟨t, a, b⟩ := e
      split at h
      · next h0 =>
        simp only [Prod.mk.injEq] at h0
        obtain ⟨rfl, rfl, rfl⟩ := h0
        split at h
        · split at h
          · next hc =>
            rw [if_pos hc]
            exact ih _ _ _ _ _ _ _ h
          · cases h
        · cases h
      · next h0 =>
        simp only [Prod.mk.injEq] at h0
        obtain ⟨rfl, rfl, rfl⟩ := h0
        split at h
        · next y hy =>
          exact ih _ _ _ _ _ _ _ h
        · cases h
      · next h0 =>
        simp only [Prod.mk.injEq] at h0
        obtain ⟨rfl, rfl, rfl⟩ := h0
        split at h
        · split at h
          · next z hz =>
            split at h
            · next hc =>
              rw [if_pos hc]
              exact ih _ _ _ _ _ _ _ h
            · cases h
          · cases h
        · cases h
      · next h0 =>
        simp only [Prod.mk.injEq] at h0
        obtain ⟨rfl, rfl, rfl⟩ := h0
        split at h
        · split at h
          · next z hz =>
            split at h
            · next hc =>
              rw [if_pos hc]
              exact ih _ _ _ _ _ _ _ h
            · cases h
          · cases h
        · cases h
      · next t' a' b' n5 n12 n13 n14 h0 =>
        simp only [Prod.mk.injEq] at h0
        obtain ⟨rfl, rfl, rfl⟩ := h0
        cases hb : (Nat.beq t 2 && Nat.ble 318 a) with
        | true =>
          rw [hb] at h
          simp only [cond_true] at h ⊢
          split at h
          · next st' hm =>
            split at h
            · next hc =>
              rw [if_pos hc]
              exact ih _ _ _ _ _ _ _ h
            · cases h
          · cases h
        | false =>
          rw [hb] at h
          simp only [cond_false] at h ⊢
          cases hb2 : (Nat.blt a 318 || Nat.beq t 17) with
          | false => rw [hb2] at h; cases h
          | true =>
            rw [hb2] at h
            simp only [cond_true] at h ⊢
            cases hm : m_args t a b st M with
            | none => rw [hm] at h; cases h
            | some y =>
              rw [hm] at h
              simp only at h ⊢
              cases d with
              | zero => cases h
              | succ d' =>
                simp only at h ⊢
                cases hx : mx L xs n d' a 0 (m_enter y.1 (mprog a).2.2.1) [] M with
                | none => rw [hx] at h; cases h
                | some z =>
                  rw [hx] at h
                  rw [ih _ _ _ _ _ _ _ hx]
                  simp only at h ⊢
                  obtain ⟨z1, z2⟩ := z
                  cases z1 with
                  | inl o =>
                    cases o with
                    | none => exact ih _ _ _ _ _ _ _ h
                    | some v => exact ih _ _ _ _ _ _ _ h
                  | inr E => exact h
theorem mx_fuel {L : Nat} {xs : Nat → Int32} {n m d k pc : Nat} {ls : mLS} {st : List Value} {M : mMM} {r : mRes × mMM} (h : mx L xs n d k pc ls st M = some r) (hm : n ≤ m) : mx L xs m d k pc ls st M = some r :=
  mx_fuel1 n m hm _ _ _ _ _ _ _ h
