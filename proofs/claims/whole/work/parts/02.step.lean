/-! one operation, carried out by both sides -/
section
variable {sz nx jp : Int32} {rg ce ki fd fa fb : Nat → Int32}
theorem ba_s0 (hin : vp_in nx 24) (hA : vp_in (fa nx.toNatClampNeg) 8) (hD : vp_in (fd nx.toNatClampNeg) 8) (hB : vp_in (fb nx.toNatClampNeg) 8) (h7 : fb nx.toNatClampNeg &&& 7 = fb nx.toNatClampNeg) (hK : ki nx.toNatClampNeg = 0) : (∀ post : SX → Prop, post (sz, (nx + 1), jp, upd rg (fd nx.toNatClampNeg).toNatClampNeg (rg (fa nx.toNatClampNeg).toNatClampNeg + rg (fb nx.toNatClampNeg).toNatClampNeg), ce, ki, fd, fa, fb) → wpX_carryOut post (sz, nx, jp, rg, ce, ki, fd, fa, fb) nx) ∧ (∀ post : Int32 → SY → Prop, post (nx + 1) (sz, nx, jp, upd rg (fd nx.toNatClampNeg).toNatClampNeg (rg (fa nx.toNatClampNeg).toNatClampNeg + rg (fb nx.toNatClampNeg).toNatClampNeg), ce, ki, fd, fa, fb) → wpY_step post (sz, nx, jp, rg, ce, ki, fd, fa, fb) nx) := by
  constructor
  · intro post q
    simp +decide only [wpX_carryOut, wpX_isBranch, wpX_compute, wpX_combine, hK, hin, hA, hD, hB, h7, true_and, and_true, forall_eq, not_true_eq_false, not_false_eq_true, false_implies, true_implies, implies_true]
    exact q
  · intro post q
    simp +decide only [wpY_step, wpY_result, hK, hin, hA, hD, hB, h7, true_and, and_true, forall_eq, not_true_eq_false, not_false_eq_true, false_implies, true_implies, implies_true]
    exact q
theorem ba_s1 (hin : vp_in nx 24) (hA : vp_in (fa nx.toNatClampNeg) 8) (hD : vp_in (fd nx.toNatClampNeg) 8) (hB : vp_in (fb nx.toNatClampNeg) 8) (h7 : fb nx.toNatClampNeg &&& 7 = fb nx.toNatClampNeg) (hK : ki nx.toNatClampNeg = 1) : (∀ post : SX → Prop, post (sz, (nx + 1), jp, upd rg (fd nx.toNatClampNeg).toNatClampNeg (rg (fa nx.toNatClampNeg).toNatClampNeg - rg (fb nx.toNatClampNeg).toNatClampNeg), ce, ki, fd, fa, fb) → wpX_carryOut post (sz, nx, jp, rg, ce, ki, fd, fa, fb) nx) ∧ (∀ post : Int32 → SY → Prop, post (nx + 1) (sz, nx, jp, upd rg (fd nx.toNatClampNeg).toNatClampNeg (rg (fa nx.toNatClampNeg).toNatClampNeg - rg (fb nx.toNatClampNeg).toNatClampNeg), ce, ki, fd, fa, fb) → wpY_step post (sz, nx, jp, rg, ce, ki, fd, fa, fb) nx) := by
  constructor
  · intro post q
    simp +decide only [wpX_carryOut, wpX_isBranch, wpX_compute, wpX_combine, hK, hin, hA, hD, hB, h7, true_and, and_true, forall_eq, not_true_eq_false, not_false_eq_true, false_implies, true_implies, implies_true]
    exact q
  · intro post q
    simp +decide only [wpY_step, wpY_result, hK, hin, hA, hD, hB, h7, true_and, and_true, forall_eq, not_true_eq_false, not_false_eq_true, false_implies, true_implies, implies_true]
    exact q
theorem ba_s2 (hin : vp_in nx 24) (hA : vp_in (fa nx.toNatClampNeg) 8) (hD : vp_in (fd nx.toNatClampNeg) 8) (hB : vp_in (fb nx.toNatClampNeg) 8) (h7 : fb nx.toNatClampNeg &&& 7 = fb nx.toNatClampNeg) (hK : ki nx.toNatClampNeg = 2) : (∀ post : SX → Prop, post (sz, (nx + 1), jp, upd rg (fd nx.toNatClampNeg).toNatClampNeg (rg (fa nx.toNatClampNeg).toNatClampNeg &&& rg (fb nx.toNatClampNeg).toNatClampNeg), ce, ki, fd, fa, fb) → wpX_carryOut post (sz, nx, jp, rg, ce, ki, fd, fa, fb) nx) ∧ (∀ post : Int32 → SY → Prop, post (nx + 1) (sz, nx, jp, upd rg (fd nx.toNatClampNeg).toNatClampNeg (rg (fa nx.toNatClampNeg).toNatClampNeg &&& rg (fb nx.toNatClampNeg).toNatClampNeg), ce, ki, fd, fa, fb) → wpY_step post (sz, nx, jp, rg, ce, ki, fd, fa, fb) nx) := by
  constructor
  · intro post q
    simp +decide only [wpX_carryOut, wpX_isBranch, wpX_compute, wpX_combine, hK, hin, hA, hD, hB, h7, true_and, and_true, forall_eq, not_true_eq_false, not_false_eq_true, false_implies, true_implies, implies_true]
    exact q
  · intro post q
    simp +decide only [wpY_step, wpY_result, hK, hin, hA, hD, hB, h7, true_and, and_true, forall_eq, not_true_eq_false, not_false_eq_true, false_implies, true_implies, implies_true]
    exact q
theorem ba_s3 (hin : vp_in nx 24) (hA : vp_in (fa nx.toNatClampNeg) 8) (hD : vp_in (fd nx.toNatClampNeg) 8) (hB : vp_in (fb nx.toNatClampNeg) 8) (h7 : fb nx.toNatClampNeg &&& 7 = fb nx.toNatClampNeg) (hK : ki nx.toNatClampNeg = 3) : (∀ post : SX → Prop, post (sz, (nx + 1), jp, upd rg (fd nx.toNatClampNeg).toNatClampNeg (rg (fa nx.toNatClampNeg).toNatClampNeg ^^^ rg (fb nx.toNatClampNeg).toNatClampNeg), ce, ki, fd, fa, fb) → wpX_carryOut post (sz, nx, jp, rg, ce, ki, fd, fa, fb) nx) ∧ (∀ post : Int32 → SY → Prop, post (nx + 1) (sz, nx, jp, upd rg (fd nx.toNatClampNeg).toNatClampNeg (rg (fa nx.toNatClampNeg).toNatClampNeg ^^^ rg (fb nx.toNatClampNeg).toNatClampNeg), ce, ki, fd, fa, fb) → wpY_step post (sz, nx, jp, rg, ce, ki, fd, fa, fb) nx) := by
  constructor
  · intro post q
    simp +decide only [wpX_carryOut, wpX_isBranch, wpX_compute, wpX_combine, hK, hin, hA, hD, hB, h7, true_and, and_true, forall_eq, not_true_eq_false, not_false_eq_true, false_implies, true_implies, implies_true]
    exact q
  · intro post q
    simp +decide only [wpY_step, wpY_result, hK, hin, hA, hD, hB, h7, true_and, and_true, forall_eq, not_true_eq_false, not_false_eq_true, false_implies, true_implies, implies_true]
    exact q
theorem ba_s4 (hin : vp_in nx 24) (hA : vp_in (fa nx.toNatClampNeg) 8) (hD : vp_in (fd nx.toNatClampNeg) 8) (hB : vp_in (fb nx.toNatClampNeg) 8) (h7 : fb nx.toNatClampNeg &&& 7 = fb nx.toNatClampNeg) (hK : ki nx.toNatClampNeg = 4) : (∀ post : SX → Prop, post (sz, (nx + 1), jp, upd rg (fd nx.toNatClampNeg).toNatClampNeg (rg (fa nx.toNatClampNeg).toNatClampNeg * rg (fb nx.toNatClampNeg).toNatClampNeg), ce, ki, fd, fa, fb) → wpX_carryOut post (sz, nx, jp, rg, ce, ki, fd, fa, fb) nx) ∧ (∀ post : Int32 → SY → Prop, post (nx + 1) (sz, nx, jp, upd rg (fd nx.toNatClampNeg).toNatClampNeg (rg (fa nx.toNatClampNeg).toNatClampNeg * rg (fb nx.toNatClampNeg).toNatClampNeg), ce, ki, fd, fa, fb) → wpY_step post (sz, nx, jp, rg, ce, ki, fd, fa, fb) nx) := by
  constructor
  · intro post q
    simp +decide only [wpX_carryOut, wpX_isBranch, wpX_compute, wpX_combine, hK, hin, hA, hD, hB, h7, true_and, and_true, forall_eq, not_true_eq_false, not_false_eq_true, false_implies, true_implies, implies_true]
    exact q
  · intro post q
    simp +decide only [wpY_step, wpY_result, hK, hin, hA, hD, hB, h7, true_and, and_true, forall_eq, not_true_eq_false, not_false_eq_true, false_implies, true_implies, implies_true]
    exact q
theorem ba_s5 (hin : vp_in nx 24) (hA : vp_in (fa nx.toNatClampNeg) 8) (hD : vp_in (fd nx.toNatClampNeg) 8) (hB : vp_in (fb nx.toNatClampNeg) 8) (h7 : fb nx.toNatClampNeg &&& 7 = fb nx.toNatClampNeg) (hK : ki nx.toNatClampNeg = 5) : (∀ post : SX → Prop, post (sz, (nx + 1), jp, upd rg (fd nx.toNatClampNeg).toNatClampNeg (rg (fa nx.toNatClampNeg).toNatClampNeg <<< ((rg (fb nx.toNatClampNeg).toNatClampNeg &&& 31) &&& 31)), ce, ki, fd, fa, fb) → wpX_carryOut post (sz, nx, jp, rg, ce, ki, fd, fa, fb) nx) ∧ (∀ post : Int32 → SY → Prop, post (nx + 1) (sz, nx, jp, upd rg (fd nx.toNatClampNeg).toNatClampNeg (rg (fa nx.toNatClampNeg).toNatClampNeg <<< ((rg (fb nx.toNatClampNeg).toNatClampNeg &&& 31) &&& 31)), ce, ki, fd, fa, fb) → wpY_step post (sz, nx, jp, rg, ce, ki, fd, fa, fb) nx) := by
  constructor
  · intro post q
    simp +decide only [wpX_carryOut, wpX_isBranch, wpX_compute, wpX_combine, hK, hin, hA, hD, hB, h7, true_and, and_true, forall_eq, not_true_eq_false, not_false_eq_true, false_implies, true_implies, implies_true]
    exact q
  · intro post q
    simp +decide only [wpY_step, wpY_result, hK, hin, hA, hD, hB, h7, true_and, and_true, forall_eq, not_true_eq_false, not_false_eq_true, false_implies, true_implies, implies_true]
    exact q
theorem ba_s6 (hin : vp_in nx 24) (hA : vp_in (fa nx.toNatClampNeg) 8) (hD : vp_in (fd nx.toNatClampNeg) 8) (hK : ki nx.toNatClampNeg = 6) : (∀ post : SX → Prop, post (sz, (nx + 1), jp, upd rg (fd nx.toNatClampNeg).toNatClampNeg (rg (fa nx.toNatClampNeg).toNatClampNeg + fb nx.toNatClampNeg), ce, ki, fd, fa, fb) → wpX_carryOut post (sz, nx, jp, rg, ce, ki, fd, fa, fb) nx) ∧ (∀ post : Int32 → SY → Prop, post (nx + 1) (sz, nx, jp, upd rg (fd nx.toNatClampNeg).toNatClampNeg (rg (fa nx.toNatClampNeg).toNatClampNeg + fb nx.toNatClampNeg), ce, ki, fd, fa, fb) → wpY_step post (sz, nx, jp, rg, ce, ki, fd, fa, fb) nx) := by
  constructor
  · intro post q
    simp +decide only [wpX_carryOut, wpX_isBranch, wpX_compute, wpX_combine, hK, hin, hA, hD, true_and, and_true, forall_eq, not_true_eq_false, not_false_eq_true, false_implies, true_implies, implies_true]
    exact q
  · intro post q
    simp +decide only [wpY_step, wpY_result, hK, hin, hA, hD, true_and, and_true, forall_eq, not_true_eq_false, not_false_eq_true, false_implies, true_implies, implies_true]
    exact q
theorem ba_s7 (hin : vp_in nx 24) (hA : vp_in (fa nx.toNatClampNeg) 8) (hD : vp_in (fd nx.toNatClampNeg) 8) (hK : ki nx.toNatClampNeg = 7) : (∀ post : SX → Prop, post (sz, (nx + 1), jp, upd rg (fd nx.toNatClampNeg).toNatClampNeg (ce ((rg (fa nx.toNatClampNeg).toNatClampNeg + fb nx.toNatClampNeg) &&& 15).toNatClampNeg), ce, ki, fd, fa, fb) → wpX_carryOut post (sz, nx, jp, rg, ce, ki, fd, fa, fb) nx) ∧ (∀ post : Int32 → SY → Prop, post (nx + 1) (sz, nx, jp, upd rg (fd nx.toNatClampNeg).toNatClampNeg (ce ((rg (fa nx.toNatClampNeg).toNatClampNeg + fb nx.toNatClampNeg) &&& 15).toNatClampNeg), ce, ki, fd, fa, fb) → wpY_step post (sz, nx, jp, rg, ce, ki, fd, fa, fb) nx) := by
  constructor
  · intro post q
    simp +decide only [wpX_carryOut, wpX_isBranch, wpX_compute, wpX_combine, hK, hin, hA, hD, ba_and15, true_and, and_true, forall_eq, not_true_eq_false, not_false_eq_true, false_implies, true_implies, implies_true]
    exact q
  · intro post q
    simp +decide only [wpY_step, wpY_result, hK, hin, hA, hD, ba_and15, true_and, and_true, forall_eq, not_true_eq_false, not_false_eq_true, false_implies, true_implies, implies_true]
    exact q
theorem ba_s8 (hin : vp_in nx 24) (hA : vp_in (fa nx.toNatClampNeg) 8) (hD : vp_in (fd nx.toNatClampNeg) 8) (hK : ki nx.toNatClampNeg = 8) : (∀ post : SX → Prop, post (sz, (nx + 1), jp, rg, upd ce ((rg (fa nx.toNatClampNeg).toNatClampNeg + fb nx.toNatClampNeg) &&& 15).toNatClampNeg (rg (fd nx.toNatClampNeg).toNatClampNeg), ki, fd, fa, fb) → wpX_carryOut post (sz, nx, jp, rg, ce, ki, fd, fa, fb) nx) ∧ (∀ post : Int32 → SY → Prop, post (nx + 1) (sz, nx, jp, rg, upd ce ((rg (fa nx.toNatClampNeg).toNatClampNeg + fb nx.toNatClampNeg) &&& 15).toNatClampNeg (rg (fd nx.toNatClampNeg).toNatClampNeg), ki, fd, fa, fb) → wpY_step post (sz, nx, jp, rg, ce, ki, fd, fa, fb) nx) := by
  constructor
  · intro post q
    simp +decide only [wpX_carryOut, wpX_isBranch, wpX_compute, wpX_combine, hK, hin, hA, hD, ba_and15, true_and, and_true, forall_eq, not_true_eq_false, not_false_eq_true, false_implies, true_implies, implies_true]
    exact q
  · intro post q
    simp +decide only [wpY_step, wpY_result, hK, hin, hA, hD, ba_and15, true_and, and_true, forall_eq, not_true_eq_false, not_false_eq_true, false_implies, true_implies, implies_true]
    exact q
theorem ba_s9n (hin : vp_in nx 24) (hA : vp_in (fa nx.toNatClampNeg) 8) (hD : vp_in (fd nx.toNatClampNeg) 8) (hz : rg (fa nx.toNatClampNeg).toNatClampNeg = 0) (hK : ki nx.toNatClampNeg = 9) : (∀ post : SX → Prop, post (sz, (nx + 1), jp, rg, ce, ki, fd, fa, fb) → wpX_carryOut post (sz, nx, jp, rg, ce, ki, fd, fa, fb) nx) ∧ (∀ post : Int32 → SY → Prop, post (nx + 1) (sz, nx, jp, rg, ce, ki, fd, fa, fb) → wpY_step post (sz, nx, jp, rg, ce, ki, fd, fa, fb) nx) := by
  constructor
  · intro post q
    simp +decide only [wpX_carryOut, wpX_isBranch, wpX_branch, wX_branch_29, wX_branch_34, wX_branch_49, hK, hin, hA, hD, hz, true_and, and_true, forall_eq, not_true_eq_false, not_false_eq_true, false_implies, true_implies, implies_true]
    exact q
  · intro post q
    simp +decide only [wpY_step, hK, hin, hA, hD, hz, true_and, and_true, forall_eq, not_true_eq_false, not_false_eq_true, false_implies, true_implies, implies_true]
    exact q
theorem ba_x49 {post : SX → Prop} {t x2 : Int32} (q : post (sz, t, (if t = x2 then jp else jp + 1), rg, ce, ki, fd, fa, fb)) : wX_branch_49 post x2 t sz nx jp rg ce ki fd fa fb := by
  by_cases c : t = x2
  · rw [if_pos c] at q
    exact br_t c q
  · rw [if_neg c] at q
    exact br_f c (nm_e q)
theorem ba_y106 {post : Int32 → SY → Prop} (hin : vp_in nx 24) (q : post (ba_T sz (fb nx.toNatClampNeg)) (sz, nx, (if (ba_T sz (fb nx.toNatClampNeg)) = nx + 1 then jp else jp + 1), rg, ce, ki, fd, fa, fb)) : wY_step_106 post nx sz nx jp rg ce ki fd fa fb := by
  refine ba_yT hin ?_
  by_cases c : (ba_T sz (fb nx.toNatClampNeg)) = nx + 1
  · rw [if_pos c] at q
    exact br_t c (ba_yT hin q)
  · rw [if_neg c] at q
    exact br_f c (nm_e (ba_yT hin q))
theorem ba_x29 {post : SX → Prop} (hin : vp_in nx 24) (q : post (sz, (ba_T sz (fb nx.toNatClampNeg)), (if (ba_T sz (fb nx.toNatClampNeg)) = nx + 1 then jp else jp + 1), rg, ce, ki, fd, fa, fb)) : wX_branch_29 post nx (nx + 1) sz nx jp rg ce ki fd fa fb := br_f (by decide) (ba_xT hin (ba_x49 q))
theorem ba_s9t (hin : vp_in nx 24) (hA : vp_in (fa nx.toNatClampNeg) 8) (hD : vp_in (fd nx.toNatClampNeg) 8) (hz : ¬ rg (fa nx.toNatClampNeg).toNatClampNeg = 0) (hK : ki nx.toNatClampNeg = 9) : (∀ post : SX → Prop, post (sz, (ba_T sz (fb nx.toNatClampNeg)), (if (ba_T sz (fb nx.toNatClampNeg)) = nx + 1 then jp else jp + 1), rg, ce, ki, fd, fa, fb) → wpX_carryOut post (sz, nx, jp, rg, ce, ki, fd, fa, fb) nx) ∧ (∀ post : Int32 → SY → Prop, post (ba_T sz (fb nx.toNatClampNeg)) (sz, nx, (if (ba_T sz (fb nx.toNatClampNeg)) = nx + 1 then jp else jp + 1), rg, ce, ki, fd, fa, fb) → wpY_step post (sz, nx, jp, rg, ce, ki, fd, fa, fb) nx) := by
  constructor
  · intro post q
    simp +decide only [wpX_carryOut, wpX_isBranch, wpX_branch, hK, hin, hA, hD, hz, true_and, and_true, forall_eq, not_true_eq_false, not_false_eq_true, false_implies, true_implies, implies_true]
    exact ba_x29 hin q
  · intro post q
    simp +decide only [wpY_step, hK, hin, hA, hD, hz, true_and, and_true, forall_eq, not_true_eq_false, not_false_eq_true, false_implies, true_implies, implies_true]
    exact ba_y106 hin q
theorem ba_s10 (hin : vp_in nx 24) (hA : vp_in (fa nx.toNatClampNeg) 8) (hD : vp_in (fd nx.toNatClampNeg) 8) (hK : ki nx.toNatClampNeg = 10) : (∀ post : SX → Prop, post (sz, (ba_T sz (fb nx.toNatClampNeg)), (if (ba_T sz (fb nx.toNatClampNeg)) = nx + 1 then jp else jp + 1), rg, ce, ki, fd, fa, fb) → wpX_carryOut post (sz, nx, jp, rg, ce, ki, fd, fa, fb) nx) ∧ (∀ post : Int32 → SY → Prop, post (ba_T sz (fb nx.toNatClampNeg)) (sz, nx, (if (ba_T sz (fb nx.toNatClampNeg)) = nx + 1 then jp else jp + 1), rg, ce, ki, fd, fa, fb) → wpY_step post (sz, nx, jp, rg, ce, ki, fd, fa, fb) nx) := by
  constructor
  · intro post q
    simp +decide only [wpX_carryOut, wpX_isBranch, wpX_branch, hK, hin, hA, hD, true_and, and_true, forall_eq, not_true_eq_false, not_false_eq_true, false_implies, true_implies, implies_true]
    exact ba_x29 hin q
  · intro post q
    simp +decide only [wpY_step, hK, hin, hA, hD, true_and, and_true, forall_eq, not_true_eq_false, not_false_eq_true, false_implies, true_implies, implies_true]
    exact ba_y106 hin q
theorem ba_step (hJ : ba_J sz nx ki fd fa fb) (h : nx.toInt < sz.toInt) : ∃ (nx' jp' : Int32) (rg' ce' : Nat → Int32), ba_J sz nx' ki fd fa fb ∧ (∀ post : SX → Prop, post (sz, nx', jp', rg', ce', ki, fd, fa, fb) → wpX_carryOut post (sz, nx, jp, rg, ce, ki, fd, fa, fb) nx) ∧ (∀ post : Int32 → SY → Prop, post nx' (sz, nx, jp', rg', ce', ki, fd, fa, fb) → wpY_step post (sz, nx, jp, rg, ce, ki, fd, fa, fb) nx) := by
  obtain ⟨hs0, hs, hn, hO⟩ := hJ
  have hin : vp_in nx 24 := vp_in_iff.mpr ⟨hn, by omega⟩
  have e1 : (nx + 1).toInt = nx.toInt + 1 := ba_add1 hn (by omega)
  have hJ1 : ba_J sz (nx + 1) ki fd fa fb := ⟨hs0, hs, by omega, hO⟩
  obtain ⟨⟨k0, k10⟩, rD, rA, hF⟩ := hO nx.toNatClampNeg (by rw [ba_cl]; omega)
  have hA := ba_Rin rA
  have hD := ba_Rin rD
  have hR : (ki nx.toNatClampNeg).toInt < 6 → ba_R (fb nx.toNatClampNeg) := hF.1
  have hT : 9 ≤ (ki nx.toNatClampNeg).toInt → ba_J sz (ba_T sz (fb nx.toNatClampNeg)) ki fd fa fb := fun z => ⟨hs0, hs, ba_T0 hs0 (hF.2.2 z).1, hO⟩
  rcases ba_kinds k0 k10 with hK | hK | hK | hK | hK | hK | hK | hK | hK | hK | hK
  · have rB := hR (by rw [hK]; decide)
    exact ⟨_, _, _, _, hJ1, ba_s0 hin hA hD (ba_Rin rB) (ba_and7 rB) hK⟩
  · have rB := hR (by rw [hK]; decide)
    exact ⟨_, _, _, _, hJ1, ba_s1 hin hA hD (ba_Rin rB) (ba_and7 rB) hK⟩
  · have rB := hR (by rw [hK]; decide)
    exact ⟨_, _, _, _, hJ1, ba_s2 hin hA hD (ba_Rin rB) (ba_and7 rB) hK⟩
  · have rB := hR (by rw [hK]; decide)
    exact ⟨_, _, _, _, hJ1, ba_s3 hin hA hD (ba_Rin rB) (ba_and7 rB) hK⟩
  · have rB := hR (by rw [hK]; decide)
    exact ⟨_, _, _, _, hJ1, ba_s4 hin hA hD (ba_Rin rB) (ba_and7 rB) hK⟩
  · have rB := hR (by rw [hK]; decide)
    exact ⟨_, _, _, _, hJ1, ba_s5 hin hA hD (ba_Rin rB) (ba_and7 rB) hK⟩
  · exact ⟨_, _, _, _, hJ1, ba_s6 hin hA hD hK⟩
  · exact ⟨_, _, _, _, hJ1, ba_s7 hin hA hD hK⟩
  · exact ⟨_, _, _, _, hJ1, ba_s8 hin hA hD hK⟩
  · by_cases hz : rg (fa nx.toNatClampNeg).toNatClampNeg = 0
    · exact ⟨_, _, _, _, hJ1, ba_s9n hin hA hD hz hK⟩
    · exact ⟨_, _, _, _, hT (by rw [hK]; decide), ba_s9t hin hA hD hz hK⟩
  · exact ⟨_, _, _, _, hT (by rw [hK]; decide), ba_s10 hin hA hD hK⟩
end
/-! the two run loops -/
theorem ba_idle {post : Int32 → SY → Prop} {sz nx jp : Int32} {rg ce ki fd fa fb : Nat → Int32} (s : Nat) (hs : s ≤ 400) (x : Int32) (h : sz ≤ nx) (q : post x (sz, nx, jp, rg, ce, ki, fd, fa, fb)) : ∀ d j : Nat, j + d = s → wY_run_17 post (nI s) (d + 1) x (nI j) sz nx jp rg ce ki fd fa fb := by
  intro d
  induction d with
  | zero => exact fun j hj => br_t (nI_le (by omega) (by omega)) q
  | succ d ih => exact fun j hj => br_f (nI_ge (by omega) (by omega)) (br_t h (nm_r (nI_1 j) (ih (j + 1) (by omega))))
theorem ba_loop (s : Nat) (hs : s ≤ 400) (sz : Int32) (ki fd fa fb : Nat → Int32) : ∀ (d j : Nat) (nx jp : Int32) (rg ce : Nat → Int32), j + d = s → ba_J sz nx ki fd fa fb → ∃ (r nx' jp' : Int32) (rg' ce' : Nat → Int32), ba_J sz nx' ki fd fa fb ∧ (∀ post : Int32 → SX → Prop, post r (sz, nx', jp', rg', ce', ki, fd, fa, fb) → wX_run_15 post (nI s) (d + 1) (nI j) sz nx jp rg ce ki fd fa fb) ∧ (∀ post : Int32 → SY → Prop, post r (sz, nx', jp', rg', ce', ki, fd, fa, fb) → wY_run_17 post (nI s) (d + 1) (nI j) (nI j) sz nx jp rg ce ki fd fa fb) := by
  intro d
  induction d with
  | zero =>
    intro j nx jp rg ce hj hJ
    have c : nI s ≤ nI j := nI_le (by omega) (by omega)
    exact ⟨nI j, nx, jp, rg, ce, hJ, fun post q => br_t c q, fun post q => br_t c q⟩
  | succ d ih =>
    intro j nx jp rg ce hj hJ
    have c : ¬ nI s ≤ nI j := nI_ge (by omega) (by omega)
    by_cases e : sz ≤ nx
    · exact ⟨nI j, nx, jp, rg, ce, hJ, fun post q => br_f c (br_t e q), fun post q => ba_idle s hs (nI j) e q (d + 1) j hj⟩
    · have hlt : nx.toInt < sz.toInt := by
        rw [Int32.le_iff_toInt_le] at e
        omega
      have h24 : ¬ 24 ≤ nx := by
        rw [Int32.le_iff_toInt_le, ba_n24]
        have := hJ.2.1
        omega
      obtain ⟨nx1, jp1, rg1, ce1, hJ1, hX, hY⟩ := ba_step (jp := jp) (rg := rg) (ce := ce) hJ hlt
      obtain ⟨r, nx', jp', rg', ce', hJ', gX, gY⟩ := ih (j + 1) nx1 jp1 rg1 ce1 (by omega) hJ1
      refine ⟨r, nx', jp', rg', ce', hJ', fun post q => br_f c (br_f e (hX _ ?_)), fun post q => br_f c (br_f e (br_f h24 (hY _ ?_)))⟩
      · exact nm_r (nI_1 j) (gX post q)
      · exact nm_r (nI_1 j) (nm_r (nI_1 j) (gY post q))
