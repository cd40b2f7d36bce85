/-! WHAT THE DATA ARE WORTH: the words of the tables behind every link, the instructions behind every table; decided by program -/
def mTbl : List Cond := lw_tbl.filter goodWord
def mHas (w : Cond) : Bool := decide (w ∈ lw_tbl) && goodWord w
theorem mHas_ok {w : Cond} (h : mHas w = true) : w ∈ mTbl := by
  unfold mHas at h
  simp only [Bool.and_eq_true, decide_eq_true_eq] at h
  exact List.mem_filter.mpr h
theorem mTbl_pay {s : State} {args : Array Value} (hts : ∀ w ∈ mTbl, w.before args s = true) : ∀ w ∈ mTbl, ∀ (a' : Array Value) (U : State), s.WarmedH U.vm → w.before a' U = true :=
  fun w hw _ _ hW => word_at hW (good_of_word (List.mem_filter.mp hw).2) (hts w hw)
/-- the type of the field k of a class -/
def m_ty (r : vw_C) (k : Nat) : FieldType := match parseFieldDescriptor (r.2.1 k).2.2.1 with
  | some t => t
  | none => .int
def m_tk (t : FieldType) : Nat := match t with
  | .int => 0
  | .long => 1
  | .boolean => 3
  | .object _ => 2
  | .array _ => 2
  | _ => 9
def m_clsOk (ci : Nat) (r : vw_C) : Bool := (List.range r.2.2).all (fun k => decide (parseFieldDescriptor (r.2.1 k).2.2.1 = some (m_ty r k)) && decide (m_kind ci k = m_tk (m_ty r k)) && decide ((r.2.1 k).1 = r.1)
  && (bif Nat.beq (m_kind ci k) 2 then (r.2.1 k).2.2.2 else !(r.2.1 k).2.2.2) && (List.range r.2.2).all (fun j => Nat.beq j k || decide ((r.2.1 j).2.1 ≠ (r.2.1 k).2.1)) && mHas (u_lay r.1 r.2.1 k))
  && mHas (.instantiable r.1 r.2.2) && mHas (.initialized r.1)
theorem m_cls0 : m_clsOk 0 (mR0, mT0, 5) = true := by decide +kernel
theorem m_cls1 : m_clsOk 1 (mR1, mT1, 15) = true := by decide +kernel
theorem m_cls2 : m_clsOk 2 (mR2, mT2, 20) = true := by decide +kernel
theorem m_cls3 : m_clsOk 3 (mR3, mT3, 8) = true := by decide +kernel
theorem m_cls4 : m_clsOk 4 (mR4, mT4, 18) = true := by decide +kernel
theorem m_cls5 : m_clsOk 5 (mR5, mT5, 4) = true := by decide +kernel
theorem m_cls6 : m_clsOk 6 (mR6, mT6, 14) = true := by decide +kernel
theorem m_cls7 : m_clsOk 7 (mR7, mT7, 7) = true := by decide +kernel
theorem m_cls8 : m_clsOk 8 (mR8, mT8, 10) = true := by decide +kernel
theorem m_cls9 : m_clsOk 9 (mR9, mT9, 7) = true := by decide +kernel
theorem m_cls10 : m_clsOk 10 (mR10, mT10, 17) = true := by decide +kernel
theorem m_cls11 : m_clsOk 11 (mR11, mT11, 16) = true := by decide +kernel
