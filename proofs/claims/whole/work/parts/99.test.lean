/-! try out -/
/-- bits of a stretch of a row -/
def rb (f : Int → Int) : Nat → Int → Int → Int
  | 0, _, b => b
  | n + 1, i, b => rb f n (i + 1) (zor b (1 * 2 ^ (f i).toNat))
theorem c82_loop {L : Nat} {xs : Nat → Int32} (hL : L ≤ 3072) {D : Nat} {t : Int} {J : zJ} {K : zK} {Q : zR → Nat → zJ → zK → Prop} (h0 : 0 ≤ t) (h1 : t < 4) (hs : 0 ≤ J 42 0 t ∧ J 42 0 t ≤ 7) (hr : ∀ k, 0 ≤ J 43 0 k ∧ J 43 0 k ≤ 6) : ∀ (n : Nat) (i b : Int), 0 ≤ i → i + n = J 42 0 t → Q (.inl (some (zi (rb (fun k => J 43 0 (t * 7 + k)) n i b)))) 0 J K → zGo L xs (D + 1) 82 4 [some (zr 40), some (zi t), some (zi b), some (zi i)] [] J K Q
  | 0, i, b, hi, hn, hq => by
    refine z82_4 hL ?_
    refine ⟨h0, h1, ?_, ?_, fun _ => hq, fun h => ?_⟩
    · unfold zin; omega
    · unfold zin; omega
    · omega
  | n + 1, i, b, hi, hn, hq => by
    have := hr (t * 7 + i)
    refine z82_4 hL ?_
    refine ⟨h0, h1, ?_, ?_, fun h => ?_, fun h => ⟨?_, ?_, ?_, ?_, ?_⟩⟩
    · unfold zin; omega
    · unfold zin; omega
    · omega
    · omega
    · omega
    · omega
    · omega
    · exact c82_loop hL h0 h1 hs hr n (i + 1) _ (by omega) (by omega) hq
theorem c82_loop' {L : Nat} {xs : Nat → Int32} (hL : L ≤ 3072) {D : Nat} {t : Int} {J : zJ} {K : zK} {Q : zR → Nat → zJ → zK → Prop} (h0 : 0 ≤ t) (h1 : t < 4) (hs : 0 ≤ J 42 0 t ∧ J 42 0 t ≤ 7) (hr : ∀ k, 0 ≤ J 43 0 k ∧ J 43 0 k ≤ 6) : ∀ (n : Nat) (i b : Int), 0 ≤ i → i + n = J 42 0 t → Q (.inl (some (zi (rb (fun k => J 43 0 (t * 7 + k)) n i b)))) 0 J K → zGo L xs (D + 1) 82 4 [some (zr 40), some (zi t), some (zi b), some (zi i)] [] J K Q
  | 0, i, b, hi, hn, hq => by
    apply z82_4 hL
    grind [zin]
  | n + 1, i, b, hi, hn, hq => by
    have ih := c82_loop' (D := D) hL h0 h1 hs hr n (i + 1) (zor b (1 * 2 ^ (J 43 0 (t * 7 + i)).toNat)) (by omega) (by omega) hq
    apply z82_4 hL
    grind [zin]
