/-! A ROW'S GROUPS -/
def hdo : List Int → Int → Int
  | [], e => e
  | b :: _, _ => b
/-- groups one behind the other, up to e -/
def Chp (f : Int → Int) (p : Int) : List Int → Int → Prop
  | [], _ => True
  | b :: r, e => b < hdo r e ∧ (∀ j, b ≤ j → j < hdo r e → f j = f b) ∧ f b ≠ p ∧ (r ≠ [] → f (hdo r e) ≠ f b) ∧ Chp f p r e
/-- the whole row: groups, then those that stay -/
def Chn (f : Int → Int) (p hi : Int) : List Int → Int → Prop
  | [], st => st ≤ hi ∧ ∀ j, st ≤ j → j < hi → f j = p
  | b :: r, st => b < hdo r st ∧ hdo r st ≤ hi ∧ (∀ j, b ≤ j → j < hdo r st → f j = f b) ∧ f b ≠ p ∧ (hdo r st < hi → f (hdo r st) ≠ f b) ∧ Chn f p hi r st
/-- shut in: some go on behind those that stay, or a group comes twice -/
def SI (f : Int → Int) (p lo hi : Int) : Prop := ∃ a b, lo ≤ a ∧ a < b ∧ b < hi ∧ ((f a = p ∧ f b ≠ p) ∨ (f a ≠ p ∧ f b = f a ∧ ∃ c, a < c ∧ c < b ∧ f c ≠ f a))
theorem hdo_snoc (x e e' : Int) : ∀ gs : List Int, hdo (gs ++ [x]) e' = hdo gs x
  | [] => rfl
  | _ :: _ => rfl
theorem hdo_ne {gs : List Int} (h : gs ≠ []) (e e' : Int) : hdo gs e = hdo gs e' := by
  cases gs with
  | nil => exact absurd rfl h
  | cons b r => rfl
/-- the last group's key is that of the last portion -/
theorem chp_last {f : Int → Int} {p : Int} : ∀ {gs : List Int} {e : Int}, Chp f p gs e → gs ≠ [] → ∃ b, b ∈ gs ∧ b < e ∧ (∀ j, b ≤ j → j < e → f j = f b) ∧ f b ≠ p ∧ hdo gs e ≤ b
  | [], _, _, h => absurd rfl h
  | [b], e, h, _ => ⟨b, List.mem_cons_self, h.1, h.2.1, h.2.2.1, Int.le_refl b⟩
  | b :: c :: r, e, h, _ => by
    obtain ⟨d, h1, h2, h3, h4, h5⟩ := chp_last h.2.2.2.2 (by simp)
    refine ⟨d, List.mem_cons_of_mem _ h1, h2, h3, h4, ?_⟩
    have h6 : b < c := h.1
    have h7 : c ≤ d := h5
    show b ≤ d
    omega
theorem chp_snoc {f : Int → Int} {p i : Int} : ∀ {gs : List Int}, Chp f p gs i → (gs ≠ [] → f i ≠ f (i - 1)) → f i ≠ p → Chp f p (gs ++ [i]) (i + 1)
  | [], _, _, h => ⟨by show i < i + 1; omega, fun j h0 h1 => by
      have : j = i := by
        have : j < i + 1 := h1
        omega
      rw [this], h, fun z => absurd rfl z, trivial⟩
  | [b], hc, hl, h => by
    have h1 : b < i := hc.1
    refine ⟨h1, hc.2.1, hc.2.2.1, fun _ => ?_, chp_snoc (gs := []) trivial (fun z => absurd rfl z) h⟩
    show f i ≠ f b
    rw [← hc.2.1 (i - 1) (by omega) (by show i - 1 < i; omega)]
    exact hl (by simp)
  | b :: c :: r, hc, hl, h => ⟨hc.1, hc.2.1, hc.2.2.1, fun _ => hc.2.2.2.1 (by simp), chp_snoc (gs := c :: r) hc.2.2.2.2 (fun _ => hl (by simp)) h⟩
theorem chp_ext {f : Int → Int} {p i : Int} : ∀ {gs : List Int}, Chp f p gs i → (gs ≠ [] → f i = f (i - 1)) → Chp f p gs (i + 1)
  | [], _, _ => trivial
  | [b], hc, hl => by
    have h1 : b < i := hc.1
    refine ⟨by show b < i + 1; omega, fun j h0 h2 => ?_, hc.2.2.1, fun z => absurd rfl z, trivial⟩
    have h3 : j < i + 1 := h2
    by_cases e : j = i
    · rw [e, hl (by simp)]
      exact hc.2.1 (i - 1) (by omega) (by show i - 1 < i; omega)
    · exact hc.2.1 j h0 (by show j < i; omega)
  | b :: c :: r, hc, hl => ⟨hc.1, hc.2.1, hc.2.2.1, fun _ => hc.2.2.2.1 (by simp), chp_ext (gs := c :: r) hc.2.2.2.2 (fun _ => hl (by simp))⟩
theorem chn_of {f : Int → Int} {p hi : Int} : ∀ {gs : List Int} {st : Int}, Chp f p gs st → st ≤ hi → (∀ j, st ≤ j → j < hi → f j = p) → Chn f p hi gs st
  | [], _, _, h, h2 => ⟨h, h2⟩
  | [b], st, hc, h, h2 => ⟨hc.1, h, hc.2.1, hc.2.2.1, fun z => by
      show f st ≠ f b
      rw [h2 st (Int.le_refl _) z]
      exact fun y => hc.2.2.1 y.symm, h, h2⟩
  | b :: c :: r, st, hc, h, h2 => by
    have h3 : Chn f p hi (c :: r) st := chn_of (gs := c :: r) hc.2.2.2.2 h h2
    have h4 : c < hdo r st := h3.1
    have h5 : hdo r st ≤ hi := h3.2.1
    exact ⟨hc.1, by show c ≤ hi; omega, hc.2.1, hc.2.2.1, fun _ => hc.2.2.2.1 (by simp), h3⟩
theorem spg_ok {f : Int → Int} {p lo hi : Int} (p0 : 0 ≤ p) (hf : ∀ i, lo ≤ i → i < hi → 0 ≤ f i) : ∀ (n : Nat) (i la st : Int) (se gs : List Int), (n : Int) = hi - i → lo ≤ i → (∀ k, k ∈ se ↔ ∃ j, lo ≤ j ∧ j < i ∧ f j = k) → ((i = lo ∧ la = -1 ∧ gs = [] ∧ st = hi) ∨ (lo < i ∧ la = f (i - 1))) → ((la = p ∧ lo ≤ st ∧ st < i ∧ (∀ j, st ≤ j → j < i → f j = p) ∧ Chp f p gs st ∧ hdo gs st = lo) ∨ (la ≠ p ∧ st = hi ∧ Chp f p gs i ∧ hdo gs i = lo)) → ¬ SI f p lo i → (spg f p n i la se gs st = none → SI f p lo hi) ∧ (∀ gs' st', spg f p n i la se gs st = some (gs', st') → Chn f p hi gs' st' ∧ hdo gs' st' = lo ∧ st' ≤ hi ∧ ¬ SI f p lo hi) := by
  intro n
  induction n with
  | zero =>
    intro i la st se gs hn hi0 hse hla hst hsi
    have e : i = hi := by omega
    subst e
    rw [spg]
    refine ⟨fun z => (by cases z), fun gs' st' z => ?_⟩
    have z2 := Option.some.inj z
    rw [Prod.mk.injEq] at z2
    obtain ⟨z3, z4⟩ := z2
    subst z3
    subst z4
    rcases hst with ⟨h1, h2, h3, h4, h5, h6⟩ | ⟨h1, h2, h3, h4⟩
    · exact ⟨chn_of h5 (by omega) h4, h6, by omega, hsi⟩
    · subst h2
      exact ⟨chn_of h3 (Int.le_refl _) (fun j a b => by omega), h4, Int.le_refl _, hsi⟩
  | succ n ih =>
    intro i la st se gs hn hi0 hse hla hst hsi
    have hi1 : i < hi := by omega
    have hfi := hf i hi0 hi1
    have mono : ∀ {m : Int}, m ≤ hi → SI f p lo m → SI f p lo hi := by
      rintro m hm ⟨a, b, h1, h2, h3, h4⟩
      exact ⟨a, b, h1, h2, by omega, h4⟩
    rw [spg]
    by_cases q : f i = la
    · rw [if_pos q]
      have hlt : lo < i := by
        rcases hla with z | z
        · omega
        · exact z.1
      have hl2 : la = f (i - 1) := by
        rcases hla with z | z
        · omega
        · exact z.2
      have hse2 : ∀ k, k ∈ se ↔ ∃ j, lo ≤ j ∧ j < i + 1 ∧ f j = k := fun k => by
        rw [hse k]
        constructor
        · rintro ⟨j, a, b, c⟩
          exact ⟨j, a, by omega, c⟩
        · rintro ⟨j, a, b, c⟩
          by_cases e : j = i
          · exact ⟨i - 1, by omega, by omega, by rw [← hl2, ← q, ← e]; exact c⟩
          · exact ⟨j, a, by omega, c⟩
      have hns : ¬ SI f p lo (i + 1) := by
        rintro ⟨a, b, h1, h2, h3, h4⟩
        by_cases e : b = i
        · subst e
          rcases h4 with ⟨h5, h6⟩ | ⟨h5, h6, c, h7, h8, h9⟩
          · by_cases e2 : a = b - 1
            · rw [e2, ← hl2, ← q] at h5
              exact h6 h5
            · exact hsi ⟨a, b - 1, h1, by omega, by omega, Or.inl ⟨h5, by rw [← hl2, ← q]; exact h6⟩⟩
          · have e3 : c ≠ b - 1 := by
              intro e4
              rw [e4, ← hl2, ← q] at h9
              exact h9 h6
            exact hsi ⟨a, b - 1, h1, by omega, by omega, Or.inr ⟨h5, by rw [← hl2, ← q]; exact h6, c, h7, by omega, h9⟩⟩
        · exact hsi ⟨a, b, h1, h2, by omega, h4⟩
      refine ih (i + 1) la st se gs (by omega) (by omega) hse2 (Or.inr ⟨by omega, ?_⟩) ?_ hns
      · have : i + 1 - 1 = i := by omega
        rw [this, q]
      · rcases hst with ⟨h1, h2, h3, h4, h5, h6⟩ | ⟨h1, h2, h3, h4⟩
        · refine Or.inl ⟨h1, h2, by omega, fun j a b => ?_, h5, h6⟩
          by_cases e : j = i
          · rw [e, q, h1]
          · exact h4 j a (by omega)
        · refine Or.inr ⟨h1, h2, chp_ext h3 fun _ => by rw [q, hl2], ?_⟩
          have hg : gs ≠ [] := by
            intro z
            rw [z] at h4
            have : i = lo := h4
            omega
          rw [hdo_ne hg (i + 1) i]
          exact h4
    · rw [if_neg q]
      by_cases q2 : la = p ∨ f i ∈ se
      · rw [if_pos q2]
        refine ⟨fun _ => ?_, fun gs' st' z => by cases z⟩
        have hlt : lo < i := by
          rcases hla with z | z
          · rcases q2 with y | y
            · omega
            · obtain ⟨j, a, b, c⟩ := (hse _).mp y
              omega
          · exact z.1
        have hl2 : la = f (i - 1) := by
          rcases hla with z | z
          · omega
          · exact z.2
        rcases q2 with y | y
        · exact ⟨i - 1, i, by omega, by omega, hi1, Or.inl ⟨by rw [← hl2]; exact y, fun z => q (by rw [z, y])⟩⟩
        · obtain ⟨j, a, b, c⟩ := (hse _).mp y
          have hne : j ≠ i - 1 := fun e => q (by rw [hl2, ← e, c])
          by_cases e : f j = p
          · exact ⟨j, i - 1, a, by omega, by omega, Or.inl ⟨e, fun z => q (by rw [hl2, z, ← c, e])⟩⟩
          · exact ⟨j, i, a, by omega, hi1, Or.inr ⟨e, c.symm, i - 1, by omega, by omega, fun z => q (by rw [hl2, z, c])⟩⟩
      · rw [if_neg q2]
        have hlp : la ≠ p := fun z => q2 (Or.inl z)
        have hnm : f i ∉ se := fun z => q2 (Or.inr z)
        rcases hst with ⟨h1, _⟩ | ⟨_, h2, h3, h4⟩
        · exact absurd h1 hlp
        have hse2 : ∀ k, k ∈ f i :: se ↔ ∃ j, lo ≤ j ∧ j < i + 1 ∧ f j = k := fun k => by
          rw [List.mem_cons, hse k]
          constructor
          · rintro (e | ⟨j, a, b, c⟩)
            · exact ⟨i, hi0, by omega, e.symm⟩
            · exact ⟨j, a, by omega, c⟩
          · rintro ⟨j, a, b, c⟩
            by_cases e : j = i
            · left
              rw [← e, c]
            · exact Or.inr ⟨j, a, by omega, c⟩
        have hns : ¬ SI f p lo (i + 1) := by
          rintro ⟨a, b, h5, h6, h7, h8⟩
          by_cases e : b = i
          · subst e
            rcases h8 with ⟨h9, h10⟩ | ⟨h9, h10, _⟩
            · have hlt : lo < b := by omega
              have hl2 : la = f (b - 1) := by
                rcases hla with z | z
                · omega
                · exact z.2
              by_cases e2 : a = b - 1
              · exact hlp (by rw [hl2, ← e2, h9])
              · exact hsi ⟨a, b - 1, h5, by omega, by omega, Or.inl ⟨h9, by rw [← hl2]; exact hlp⟩⟩
            · exact hnm ((hse _).mpr ⟨a, h5, h6, h10.symm⟩)
          · exact hsi ⟨a, b, h5, h6, by omega, h8⟩
        have ei : i + 1 - 1 = i := by omega
        by_cases q3 : f i = p
        · rw [if_pos q3]
          refine ih (i + 1) (f i) i _ gs (by omega) (by omega) hse2 (Or.inr ⟨by omega, by rw [ei]⟩) (Or.inl ⟨q3, hi0, by omega, fun j a b => ?_, h3, h4⟩) hns
          have : j = i := by omega
          rw [this, q3]
        · rw [if_neg q3]
          refine ih (i + 1) (f i) st _ (gs ++ [i]) (by omega) (by omega) hse2 (Or.inr ⟨by omega, by rw [ei]⟩) (Or.inr ⟨q3, h2, chp_snoc h3 (fun hg => ?_) q3, by rw [hdo_snoc i 0]; exact h4⟩) hns
          rcases hla with z | z
          · exact absurd z.2.2.1 hg
          · rw [← z.2]
            exact q
theorem spl_ok {f : Int → Int} {p lo hi : Int} (p0 : 0 ≤ p) (hl : lo < hi) (hf : ∀ i, lo ≤ i → i < hi → 0 ≤ f i) : (spl f p lo hi = none → SI f p lo hi) ∧ (∀ gs st, spl f p lo hi = some (gs, st) → Chn f p hi gs st ∧ hdo gs st = lo ∧ st ≤ hi ∧ ¬ SI f p lo hi) := by
  refine spg_ok p0 hf (hi - lo).toNat lo (-1) hi [] [] (by omega) (Int.le_refl lo) (fun k => ?_) (Or.inl ⟨rfl, rfl, rfl, rfl⟩) (Or.inr ⟨by omega, rfl, trivial, rfl⟩) ?_
  · constructor
    · intro z
      cases z
    · rintro ⟨j, a, b, _⟩
      omega
  · rintro ⟨a, b, h1, h2, h3, _⟩
    omega
/-- whether a row is shut in -/
def shi (f : Int → Int) (p lo hi : Int) : Bool := (spl f p lo hi).isNone
theorem shi_iff {f : Int → Int} {p lo hi : Int} (p0 : 0 ≤ p) (hl : lo < hi) (hf : ∀ i, lo ≤ i → i < hi → 0 ≤ f i) : shi f p lo hi = true ↔ SI f p lo hi := by
  have h := spl_ok p0 hl hf
  unfold shi
  cases e : spl f p lo hi with
  | none => exact ⟨fun _ => h.1 e, fun _ => rfl⟩
  | some x =>
    obtain ⟨gs, st⟩ := x
    exact ⟨fun z => (by cases z), fun z => absurd z (h.2 gs st e).2.2.2⟩
