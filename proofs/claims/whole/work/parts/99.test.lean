def tt_e : mMM := ([], 0, 0, 0, fun _ _ => 0, fun _ _ => 0)
theorem tt_1 : (match mx 0 (fun _ => 0) 3000 60 353 0 (m_enter [.ref 1000000] 7) [] tt_e with
  | some (.inl (some (.int v)), _) => decide (v = 1)
  | _ => false) = true := by decide +kernel
