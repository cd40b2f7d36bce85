/-! WHAT THE DATA ARE WORTH: the words of the tables behind every link, the instructions behind every table; decided by program -/
def mGood (w : Cond) : Bool := match w with
  | .methodLinkNest _ _ _ _ => true
  | w => goodWord w
def mTbl : List Cond := lw_tbl.filter mGood
def mHas (w : Cond) : Bool := decide (w ∈ lw_tbl) && mGood w
theorem mHas_ok {w : Cond} (h : mHas w = true) : w ∈ mTbl := by
  unfold mHas at h
  simp only [Bool.and_eq_true, decide_eq_true_eq] at h
  exact List.mem_filter.mpr h
theorem mGood_warm {w : Cond} (hg : mGood w = true) {s U : State} {args a' : Array Value} (hW : s.WarmedH U.vm) (h : w.before args s = true) : w.before a' U = true := by
  by_cases hn : ∃ a i y k, w = .methodLinkNest a i y k
  · obtain ⟨a, i, y, k, rfl⟩ := hn
    exact va_Nw.use rfl (va_Nw.warmM hW (va_Nw.of rfl h))
  · have hg' : goodWord w = true := by
      unfold mGood at hg
      split at hg
      · next a i y k => exact absurd ⟨a, i, y, k, rfl⟩ hn
      · exact hg
    exact word_at hW (good_of_word hg') h
theorem mTbl_pay {s : State} {args : Array Value} (hts : ∀ w ∈ mTbl, w.before args s = true) : ∀ w ∈ mTbl, ∀ (a' : Array Value) (U : State), s.WarmedH U.vm → w.before a' U = true :=
  fun w hw _ _ hW => mGood_warm (List.mem_filter.mp hw).2 hW (hts w hw)
/-- the type of the field k of a class -/
def m_ty (r : vw_C) (k : Nat) : FieldType := match parseFieldDescriptor (r.2.1 k).2.2.1 with
  | some t => t
  | none => .int
def m_tk (t : FieldType) : Nat := match t with
  | .int => 0
  | .long => 1
  | .boolean => 3
  | .object _ => 2
  | .array _ => 2
  | _ => 9
def m_clsOk (ci : Nat) (r : vw_C) : Bool := (List.range r.2.2).all (fun k => decide (parseFieldDescriptor (r.2.1 k).2.2.1 = some (m_ty r k)) && decide (m_kind ci k = m_tk (m_ty r k)) && decide ((r.2.1 k).1 = r.1)
  && (bif Nat.beq (m_kind ci k) 2 then (r.2.1 k).2.2.2 else !(r.2.1 k).2.2.2) && (List.range r.2.2).all (fun j => Nat.beq j k || decide ((r.2.1 j).2.1 ≠ (r.2.1 k).2.1)) && mHas (u_lay r.1 r.2.1 k))
  && mHas (.instantiable r.1 r.2.2) && mHas (.initialized r.1)
theorem m_cls0 : m_clsOk 0 (mR0, mT0, 5) = true := by decide +kernel
theorem m_cls1 : m_clsOk 1 (mR1, mT1, 15) = true := by decide +kernel
theorem m_cls2 : m_clsOk 2 (mR2, mT2, 20) = true := by decide +kernel
theorem m_cls3 : m_clsOk 3 (mR3, mT3, 8) = true := by decide +kernel
theorem m_cls4 : m_clsOk 4 (mR4, mT4, 18) = true := by decide +kernel
theorem m_cls5 : m_clsOk 5 (mR5, mT5, 4) = true := by decide +kernel
theorem m_cls6 : m_clsOk 6 (mR6, mT6, 14) = true := by decide +kernel
theorem m_cls7 : m_clsOk 7 (mR7, mT7, 7) = true := by decide +kernel
theorem m_cls8 : m_clsOk 8 (mR8, mT8, 10) = true := by decide +kernel
theorem m_cls9 : m_clsOk 9 (mR9, mT9, 7) = true := by decide +kernel
theorem m_cls10 : m_clsOk 10 (mR10, mT10, 17) = true := by decide +kernel
theorem m_cls11 : m_clsOk 11 (mR11, mT11, 16) = true := by decide +kernel
theorem m_cls12 : m_clsOk 12 (mR12, mT12, 54) = true := by decide +kernel
theorem m_cls {ci : Nat} {r : vw_C} (h : mcl[ci]? = some r) : m_clsOk ci r = true := by
  match ci, h with
  | 0, h => cases h; exact m_cls0
  | 1, h => cases h; exact m_cls1
  | 2, h => cases h; exact m_cls2
  | 3, h => cases h; exact m_cls3
  | 4, h => cases h; exact m_cls4
  | 5, h => cases h; exact m_cls5
  | 6, h => cases h; exact m_cls6
  | 7, h => cases h; exact m_cls7
  | 8, h => cases h; exact m_cls8
  | 9, h => cases h; exact m_cls9
  | 10, h => cases h; exact m_cls10
  | 11, h => cases h; exact m_cls11
  | 12, h => cases h; exact m_cls12
  | n + 13, h => simp at h
