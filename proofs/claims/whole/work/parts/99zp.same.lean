/-! WHAT SPEAKS OF LAND AND TREE ALONE -/
theorem kid_e {s s' : zJ} (e : EqL s s') : kid s' = kid s := by
  funext p c
  unfold kid
  rw [e 19 (by decide) (by decide)]
theorem cl_e {s s' : zJ} (e : EqL s s') : cl s' = cl s := by
  funext p n q
  induction n generalizing q with
  | zero => rfl
  | succ n ih => rw [cl, cl, e 19 (by decide) (by decide), ih]
theorem onb_e {s s' : zJ} (e : EqL s s') : onb s' = onb s := by
  funext p q
  unfold onb
  rw [cl_e e]
theorem tw_e {s s' : zJ} (e : EqL s s') : tw s' = tw s := by
  funext p n q
  induction n generalizing q with
  | zero => rfl
  | succ n ih => rw [tw, tw, e 19 (by decide) (by decide), ih]
theorem ky_e {s s' : zJ} (e : EqL s s') : ky s' = ky s := by
  funext a p i
  unfold ky nx
  rw [tw_e e, e 24 (by decide) (by decide)]
theorem stb_e {s s' : zJ} (e : EqL s s') : stb s' = stb s := by
  funext x p k
  unfold stb
  rw [e 24 (by decide) (by decide)]
theorem lsy_e {s s' : zJ} (e : EqL s s') : lsy s' = lsy s := by
  funext x p
  unfold lsy
  rw [stb_e e, e 18 (by decide) (by decide)]
theorem hdF_e {s s' : zJ} (e : EqL s s') : hdF s' = hdF s := by
  funext x n p
  induction n generalizing p with
  | zero => rfl
  | succ n ih =>
    have ih' : hdF s' x n = hdF s x n := funext ih
    rw [hdF, hdF, kid_e e, lsy_e e, e 18 (by decide) (by decide), ih']
theorem hd_e {s s' : zJ} (e : EqL s s') : hd s' = hd s := by
  funext x p
  unfold hd
  rw [hdF_e e]
theorem cbh_e {s s' : zJ} (e : EqL s s') : cbh s' = cbh s := by
  funext x p
  unfold cbh
  rw [onb_e e, e 18 (by decide) (by decide), e 24 (by decide) (by decide)]
theorem gT_e {s s' : zJ} (e : EqL s s') : gT s' = gT s := by
  funext x p h
  unfold gT
  rw [kid_e e, hd_e e, cbh_e e, e 18 (by decide) (by decide)]
theorem sqF_e {s s' : zJ} (e : EqL s s') : sqF s' = sqF s := by
  have k1 : sqK s' = sqK s := by
    funext x p i
    unfold sqK
    rw [kid_e e, hd_e e, gT_e e, cbh_e e, e 18 (by decide) (by decide)]
  have k2 : sqS s' = sqS s := by
    funext x p j
    unfold sqS
    rw [stb_e e, e 18 (by decide) (by decide)]
  funext x n p i
  induction n generalizing p i with
  | zero => rfl
  | succ n ih => rw [sqF, sqF, k1, k2, gT_e e, hd_e e, ih]
theorem sq_e {s s' : zJ} (e : EqL s s') : sq s' = sq s := by
  funext x p i
  unfold sq
  rw [sqF_e e]
theorem lns_e {s s' : zJ} (e : EqL s s') : lns s' = lns s := by
  funext a fr to
  unfold lns
  rw [e 25 (by decide) (by decide)]
theorem viW_e {s s' : zJ} (e : EqL s s') : viW s' = viW s := by
  funext a n l
  induction n generalizing l with
  | zero => rfl
  | succ n ih =>
    cases l with
    | nil => rfl
    | cons v r =>
      rw [viW, viW, ky_e e]
      cases spl (ky s a v.1) v.1 v.2.1 v.2.2 with
      | none => rfl
      | some y =>
        simp only
        rw [ih]
theorem viX_e {s s' : zJ} (e : EqL s s') : viX s' = viX s := by
  funext x
  unfold viX rit
  rw [viW_e e, sq_e e, cbh_e e]
theorem tkL_e {s s' : zJ} (e : EqL s s') : tkL s' = tkL s := by
  funext a l
  induction l with
  | nil => rfl
  | cons u r ih =>
    rw [tkL, tkL, ih]
    unfold tkU
    rw [lns_e e]
theorem tkX_e {s s' : zJ} (e : EqL s s') : tkX s' = tkX s := by
  funext x
  unfold tkX
  rw [tkL_e e, sq_e e, viX_e e]
theorem fkL_e {s s' : zJ} (e : EqL s s') : fkL s' = fkL s := by
  funext a l p
  induction l with
  | nil => rfl
  | cons u r ih =>
    rw [fkL, fkL, ih]
    unfold fkU
    rw [lns_e e, e 21 (by decide) (by decide)]
theorem svx_e {s s' : zJ} (e : EqL s s') : svx s' = svx s := by
  funext x p
  unfold svx
  rw [hd_e e, e 18 (by decide) (by decide)]
theorem nrb_e {s s' : zJ} (e : EqL s s') : nrb s' = nrb s := by
  funext P p
  unfold nrb
  rw [onb_e e]
theorem gtb_e {s s' : zJ} (e : EqL s s') {J : zJ} {K : zK} {m : Int} (hg : Gtb s J K m) : Gtb s' J K m := by
  unfold Gtb
  rw [fkL_e e, sq_e e, viX_e e, tkX_e e, svx_e e, nrb_e e, e 18 (by decide) (by decide), e 30 (by decide) (by decide)]
  exact hg
theorem lw_l {s s' : zJ} (h : LW s) (e : EqL s s') : LW s' := lw_eq h fun b x y => e b x (by omega)
/-- what the grouping keeps -/
def Gi (J : zJ) (K : zK) : Prop := (0 ≤ J 105 0 5 ∧ J 105 0 5 ≤ 2) ∧ (1 ≤ J 105 0 5 → ∃ s : zJ, EqL s J ∧ Gtb s J K (2 ^ (J 18 0 6).toNat)) ∧ (J 105 0 5 = 2 → ∃ s : zJ, (LW s ∧ PW s ∧ EqL s J) ∧ J 40 0 0 = s 40 0 0 ∧ J 40 0 10 = s 40 0 10 ∧ (∀ t : Int, 0 ≤ t → t < s 40 0 0 → J 41 0 t = s 41 0 t) ∧ Bsg s (s 40 0 0).toNat (s 18 0 6).toNat ((s 40 0 0).toNat ^ (s 18 0 6).toNat) (J 105 0 13) (J 113 0))
theorem gi_ok : GOk Gi := by
  refine ⟨fun J J' K K' hg e18 e0 e10 e41 e106 e5 e13 ek => ?_, fun J J' K K' hg e18 e106 e5 ek => ?_, fun J K h5 => ?_, fun J K hg => hg.1⟩
  · obtain ⟨g1, g2, g3⟩ := hg
    refine ⟨by rw [e5]; exact g1, fun z => ?_, fun z => ?_⟩
    · obtain ⟨s, a1, a2⟩ := g2 (by omega)
      refine ⟨s, fun b x y => (e18 b x y).trans (a1 b x y), ?_⟩
      rw [e18 18 (by decide) (by decide)]
      exact gtb_eq a2 (fun b x y => e106 b x (by omega)) ek
    · obtain ⟨s, ⟨a1, a2, a3⟩, a4, a5, a6, a7⟩ := g3 (by omega)
      refine ⟨s, ⟨a1, a2, fun b x y => (e18 b x y).trans (a3 b x y)⟩, e0.trans a4, e10.trans a5, fun t t0 t1 => (e41 t t0 (by omega)).trans (a6 t t0 t1), ?_⟩
      rw [e13, e106 113 (by decide) (by decide)]
      exact a7
  · obtain ⟨g1, g2, g3⟩ := hg
    refine ⟨by rw [e5]; split <;> omega, fun z => ?_, fun z => ?_⟩
    · obtain ⟨s, a1, a2⟩ := g2 (by rw [e5] at z; split at z <;> omega)
      refine ⟨s, fun b x y => (e18 b x y).trans (a1 b x y), ?_⟩
      rw [e18 18 (by decide) (by decide)]
      exact gtb_eq a2 (fun b x y => e106 b x (by omega)) ek
    · rw [e5] at z
      split at z <;> omega
  · exact ⟨by omega, fun z => by omega, fun z => by omega⟩
