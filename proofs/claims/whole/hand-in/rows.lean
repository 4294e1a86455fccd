section
/-! numbers -/
theorem ba_n0 : (0 : Int32).toInt = 0 := by decide
theorem ba_n1 : (1 : Int32).toInt = 1 := by decide
theorem ba_n2 : (2 : Int32).toInt = 2 := by decide
theorem ba_n3 : (3 : Int32).toInt = 3 := by decide
theorem ba_n4 : (4 : Int32).toInt = 4 := by decide
theorem ba_n5 : (5 : Int32).toInt = 5 := by decide
theorem ba_n6 : (6 : Int32).toInt = 6 := by decide
theorem ba_n7 : (7 : Int32).toInt = 7 := by decide
theorem ba_n8 : (8 : Int32).toInt = 8 := by decide
theorem ba_n9 : (9 : Int32).toInt = 9 := by decide
theorem ba_n10 : (10 : Int32).toInt = 10 := by decide
theorem ba_n15 : (15 : Int32).toInt = 15 := by decide
theorem ba_n16 : (16 : Int32).toInt = 16 := by decide
theorem ba_n24 : (24 : Int32).toInt = 24 := by decide
theorem ba_n127 : (127 : Int32).toInt = 127 := by decide
theorem ba_n128 : (-128 : Int32).toInt = -128 := by decide
theorem ba_n400 : (400 : Int32).toInt = 400 := by decide
theorem ba_cl (x : Int32) : x.toNatClampNeg = x.toInt.toNat := rfl
theorem ba_add1 {x : Int32} (h0 : 0 ≤ x.toInt) (h : x.toInt < 1000) : (x + 1).toInt = x.toInt + 1 := by
  rw [Int32.toInt_add, ba_n1]
  exact Int.bmod_eq_of_le (by omega) (by omega)
theorem ba_sub1 {x : Int32} (h0 : 0 < x.toInt) (h : x.toInt < 1000) : (x - 1).toInt = x.toInt - 1 := by
  rw [Int32.toInt_sub, ba_n1]
  exact Int.bmod_eq_of_le (by omega) (by omega)
theorem ba_and15 (y : Int32) : vp_in (y &&& 15) 16 := by
  have h : (y &&& 15).toBitVec.toNat < 16 := by
    rw [Int32.toBitVec_and, BitVec.toNat_and]
    exact Nat.lt_of_le_of_lt Nat.and_le_right (by decide)
  have e : (y &&& 15).toInt = (y &&& 15).toBitVec.toInt := rfl
  rw [vp_in_iff, e, BitVec.toInt_eq_toNat_of_lt (by omega)]
  omega
theorem ba_and7N : ∀ j : Nat, j < 8 → nI j &&& 7 = nI j := by decide
/-! what a program's operation keeps -/
def ba_R (p : Int32) : Prop := 0 ≤ p.toInt ∧ p.toInt < 8
def ba_F (k b : Int32) : Prop := (k.toInt < 6 → 0 ≤ b.toInt ∧ b.toInt < 8) ∧ (6 ≤ k.toInt → k.toInt < 9 → -128 ≤ b.toInt ∧ b.toInt ≤ 127) ∧ (9 ≤ k.toInt → 0 ≤ b.toInt ∧ b.toInt ≤ 24)
def ba_Ok (k d a b : Int32) : Prop := (0 ≤ k.toInt ∧ k.toInt ≤ 10) ∧ ba_R d ∧ ba_R a ∧ ba_F k b
def ba_J (sz nx : Int32) (ki fd fa fb : Nat → Int32) : Prop := 0 ≤ sz.toInt ∧ sz.toInt ≤ 24 ∧ 0 ≤ nx.toInt ∧ ∀ j : Nat, (j : Int) < sz.toInt → ba_Ok (ki j) (fd j) (fa j) (fb j)
theorem ba_Rin {p : Int32} (h : ba_R p) : vp_in p 8 := vp_in_iff.mpr ⟨h.1, h.2⟩
theorem ba_and7 {p : Int32} (h : ba_R p) : p &&& 7 = p := by
  obtain ⟨j, hj, rfl⟩ := vp_in_of (ba_Rin h) (by decide)
  exact ba_and7N j hj
theorem ba_kinds {k : Int32} (h0 : 0 ≤ k.toInt) (h : k.toInt ≤ 10) : k = 0 ∨ k = 1 ∨ k = 2 ∨ k = 3 ∨ k = 4 ∨ k = 5 ∨ k = 6 ∨ k = 7 ∨ k = 8 ∨ k = 9 ∨ k = 10 := by
  simp only [← Int32.toInt_inj, ba_n0, ba_n1, ba_n2, ba_n3, ba_n4, ba_n5, ba_n6, ba_n7, ba_n8, ba_n9, ba_n10]
  omega
/-- both states are the same tuple, and each operation is one that emit takes -/
def i_Rel (_ : Nat) (u : SX) (v : SY) : Prop := u = v ∧ ba_J u.1 u.2.1 u.2.2.2.2.2.1 u.2.2.2.2.2.2.1 u.2.2.2.2.2.2.2.1 u.2.2.2.2.2.2.2.2
theorem i_up {k : Nat} {u : SX} {v : SY} (h : i_Rel k u v) : i_Rel (k + 5) u v := h
theorem i_vc0 : wpX_init (fun u => wpY_init (fun v => i_Rel 0 u v)) := by
  refine ⟨rfl, ?_⟩
  show ba_J 0 0 _ _ _ _
  unfold ba_J
  rw [ba_n0]
  exact ⟨by omega, by omega, by omega, fun j hj => absurd hj (by omega)⟩
/-! the small private methods, each with a general post -/
theorem ba_xRt {post : Int32 → Prop} {p : Int32} (h : ba_R p) (q : post 1) : wpX_isRegister post p := by
  refine br_f ?_ (br_f ?_ q)
  all_goals simp only [Int32.lt_iff_toInt_lt, Int32.le_iff_toInt_le, ba_n0, ba_n8, ba_R] at * <;> omega
theorem ba_xRf {post : Int32 → Prop} {p : Int32} (h : ¬ ba_R p) (q : post 0) : wpX_isRegister post p := by
  refine br_c (fun _ => q) (fun h1 => br_c (fun _ => q) (fun h2 => (h ?_).elim))
  simp only [Int32.lt_iff_toInt_lt, Int32.le_iff_toInt_le, ba_n0, ba_n8, ba_R] at * <;> omega
theorem ba_yRt {post : Int32 → Prop} {v : SY} {p : Int32} (h : ba_R p) (q : post 0) : wpY_noRegister post v p := by
  refine br_f ?_ (br_t ?_ q)
  all_goals simp only [Int32.lt_iff_toInt_lt, Int32.le_iff_toInt_le, ba_n0, ba_n7, ba_R] at * <;> omega
theorem ba_yRf {post : Int32 → Prop} {v : SY} {p : Int32} (h : ¬ ba_R p) (q : post 1) : wpY_noRegister post v p := by
  refine br_c (fun _ => q) (fun h1 => br_c (fun h2 => (h ?_).elim) (fun _ => q))
  simp only [Int32.lt_iff_toInt_lt, Int32.le_iff_toInt_le, ba_n0, ba_n7, ba_R] at * <;> omega
theorem ba_xBt {post : Int32 → Prop} {k : Int32} (h : 9 ≤ k.toInt) (h' : k.toInt ≤ 10) (q : post 1) : wpX_isBranch post k := by
  refine br_c (fun _ => q) (fun h1 => br_c (fun _ => q) (fun h2 => ?_))
  exfalso
  simp only [← Int32.toInt_inj, ba_n9, ba_n10] at * <;> omega
theorem ba_xBf {post : Int32 → Prop} {k : Int32} (h : k.toInt < 9) (q : post 0) : wpX_isBranch post k := by
  refine br_f ?_ (br_f ?_ q)
  all_goals simp only [← Int32.toInt_inj, ba_n9, ba_n10] at * <;> omega
theorem ba_xF {post : Int32 → Prop} {k b : Int32} (h0 : 0 ≤ k.toInt) (h10 : k.toInt ≤ 10) (qt : ba_F k b → post 1) (qf : ¬ ba_F k b → post 0) : wpX_fitsFieldB post k b := by
  unfold wpX_fitsFieldB
  by_cases h9 : 9 ≤ k.toInt
  · refine ba_xBt h9 h10 (br_f (by decide) (br_c (fun h1 => qf ?_) (fun h1 => br_c (fun h2 => qf ?_) (fun h2 => qt ?_))))
    all_goals simp only [Int32.lt_iff_toInt_lt, ba_n0, ba_n24, ba_F] at * <;> omega
  · have hlow : ∀ h6 : 6 ≤ k.toInt, wX_fitsFieldB_41 post b := by
      intro h6
      refine br_c (fun h1 => qf ?_) (fun h1 => br_c (fun h2 => qf ?_) (fun h2 => qt ?_))
      all_goals simp only [Int32.lt_iff_toInt_lt, ba_n127, ba_n128, ba_F] at * <;> omega
    refine ba_xBf (by omega) (br_t rfl (br_c (fun h1 => hlow ?_) (fun h1 => br_c (fun h2 => hlow ?_) (fun h2 => br_c (fun h3 => hlow ?_) (fun h3 => ?_)))))
    · simp only [← Int32.toInt_inj, ba_n6] at * <;> omega
    · simp only [← Int32.toInt_inj, ba_n7] at * <;> omega
    · simp only [← Int32.toInt_inj, ba_n8] at * <;> omega
    · have h6 : k.toInt < 6 := by
        simp only [← Int32.toInt_inj, ba_n6, ba_n7, ba_n8] at * <;> omega
      by_cases hb : ba_R b
      · refine ba_xRt hb ⟨rfl, qt ?_⟩
        simp only [ba_F, ba_R] at * <;> omega
      · refine ba_xRf hb ⟨rfl, qf ?_⟩
        simp only [ba_F, ba_R] at * <;> omega
theorem ba_yFt {post : Int32 → Prop} {v : SY} {k b : Int32} (h : ba_F k b) (q : post 0) : wpY_badNumber post v k b := by
  refine br_c (fun h1 => br_c (fun h2 => br_f ?_ (br_t ?_ q)) (fun h2 => br_f ?_ (br_t ?_ q))) (fun h1 => br_f ?_ (br_t ?_ q))
  all_goals simp only [Int32.lt_iff_toInt_lt, Int32.le_iff_toInt_le, ba_n0, ba_n6, ba_n7, ba_n9, ba_n24, ba_n127, ba_n128, ba_F] at * <;> omega
theorem ba_yFf {post : Int32 → Prop} {v : SY} {k b : Int32} (h : ¬ ba_F k b) (q : post 1) : wpY_badNumber post v k b := by
  refine br_c (fun h1 => br_c (fun h2 => br_c (fun _ => q) (fun h3 => br_c (fun h4 => (h ?_).elim) (fun _ => q))) (fun h2 => br_c (fun _ => q) (fun h3 => br_c (fun h4 => (h ?_).elim) (fun _ => q)))) (fun h1 => br_c (fun _ => q) (fun h3 => br_c (fun h4 => (h ?_).elim) (fun _ => q)))
  all_goals simp only [Int32.lt_iff_toInt_lt, Int32.le_iff_toInt_le, ba_n0, ba_n6, ba_n7, ba_n9, ba_n24, ba_n127, ba_n128, ba_F] at * <;> omega
section
variable {sz nx jp : Int32} {rg ce ki fd fa fb : Nat → Int32}
theorem ba_xOt {post : Int32 → Prop} {p : Int32} (h : 0 ≤ p.toInt ∧ p.toInt < sz.toInt) (q : post 1) : wpX_isOperation post (sz, nx, jp, rg, ce, ki, fd, fa, fb) p := by
  refine br_f ?_ (br_f ?_ q)
  all_goals simp only [Int32.lt_iff_toInt_lt, Int32.le_iff_toInt_le, ba_n0] at * <;> omega
theorem ba_xOf {post : Int32 → Prop} {p : Int32} (h : ¬ (0 ≤ p.toInt ∧ p.toInt < sz.toInt)) (q : post 0) : wpX_isOperation post (sz, nx, jp, rg, ce, ki, fd, fa, fb) p := by
  refine br_c (fun _ => q) (fun h1 => br_c (fun _ => q) (fun h2 => (h ?_).elim))
  simp only [Int32.lt_iff_toInt_lt, Int32.le_iff_toInt_le, ba_n0] at * <;> omega
theorem ba_yOt {post : Int32 → Prop} {p : Int32} (hs : sz.toInt ≤ 24) (h : 0 ≤ p.toInt ∧ p.toInt < sz.toInt) (q : post 0) : wpY_missing post (sz, nx, jp, rg, ce, ki, fd, fa, fb) p := by
  refine br_f ?_ (br_f ?_ (br_t ?_ q))
  all_goals simp only [Int32.lt_iff_toInt_lt, Int32.le_iff_toInt_le, ba_n0, ba_n24] at * <;> omega
theorem ba_yOf {post : Int32 → Prop} {p : Int32} (h : ¬ (0 ≤ p.toInt ∧ p.toInt < sz.toInt)) (q : post 1) : wpY_missing post (sz, nx, jp, rg, ce, ki, fd, fa, fb) p := by
  refine br_c (fun _ => q) (fun h1 => br_c (fun _ => q) (fun h2 => (h ?_).elim))
  simp only [Int32.lt_iff_toInt_lt, Int32.le_iff_toInt_le, ba_n0] at * <;> omega
/-- the target in force: the number b, or the end where b lies beyond it -/
def ba_T (sz b : Int32) : Int32 := if sz ≤ b then sz else b
theorem ba_T0 {sz b : Int32} (hs : 0 ≤ sz.toInt) (hb : 0 ≤ b.toInt) : 0 ≤ (ba_T sz b).toInt := by
  unfold ba_T
  split
  · exact hs
  · exact hb
theorem ba_xT {post : Int32 → Prop} {p : Int32} (h : vp_in p 24) (q : post (ba_T sz (fb p.toNatClampNeg))) : wpX_targetOf post (sz, nx, jp, rg, ce, ki, fd, fa, fb) p := by
  unfold ba_T at q
  by_cases c : sz ≤ fb p.toNatClampNeg
  · rw [if_pos c] at q
    exact ⟨h, br_t c q⟩
  · rw [if_neg c] at q
    exact ⟨h, br_f c ⟨h, q⟩⟩
theorem ba_yT {post : Int32 → Prop} {p : Int32} (h : vp_in p 24) (q : post (ba_T sz (fb p.toNatClampNeg))) : wpY_target post (sz, nx, jp, rg, ce, ki, fd, fa, fb) p := by
  unfold ba_T at q
  by_cases c : fb p.toNatClampNeg ≤ sz
  · by_cases c' : sz ≤ fb p.toNatClampNeg
    · rw [if_pos c', Int32.le_antisymm c' c] at q
      exact ⟨h, br_t c ⟨h, q⟩⟩
    · rw [if_neg c'] at q
      exact ⟨h, br_t c ⟨h, q⟩⟩
  · have c' : sz ≤ fb p.toNatClampNeg := by
      simp only [Int32.le_iff_toInt_le] at * <;> omega
    rw [if_pos c'] at q
    exact ⟨h, br_f c q⟩
end
end
section
/-! one operation, carried out by both sides -/
section
variable {sz nx jp : Int32} {rg ce ki fd fa fb : Nat → Int32}
theorem ba_s0 (hin : vp_in nx 24) (hA : vp_in (fa nx.toNatClampNeg) 8) (hD : vp_in (fd nx.toNatClampNeg) 8) (hB : vp_in (fb nx.toNatClampNeg) 8) (h7 : fb nx.toNatClampNeg &&& 7 = fb nx.toNatClampNeg) (hK : ki nx.toNatClampNeg = 0) : (∀ post : SX → Prop, post (sz, (nx + 1), jp, upd rg (fd nx.toNatClampNeg).toNatClampNeg (rg (fa nx.toNatClampNeg).toNatClampNeg + rg (fb nx.toNatClampNeg).toNatClampNeg), ce, ki, fd, fa, fb) → wpX_carryOut post (sz, nx, jp, rg, ce, ki, fd, fa, fb) nx) ∧ (∀ post : Int32 → SY → Prop, post (nx + 1) (sz, nx, jp, upd rg (fd nx.toNatClampNeg).toNatClampNeg (rg (fa nx.toNatClampNeg).toNatClampNeg + rg (fb nx.toNatClampNeg).toNatClampNeg), ce, ki, fd, fa, fb) → wpY_step post (sz, nx, jp, rg, ce, ki, fd, fa, fb) nx) := by
  constructor
  · intro post q
    simp +decide only [wpX_carryOut, wpX_isBranch, wpX_compute, wpX_combine, hK, hin, hA, hD, hB, h7, true_and, and_true, forall_eq, not_true_eq_false, not_false_eq_true, false_implies, true_implies, implies_true]
    exact q
  · intro post q
    simp +decide only [wpY_step, wpY_result, hK, hin, hA, hD, hB, h7, true_and, and_true, forall_eq, not_true_eq_false, not_false_eq_true, false_implies, true_implies, implies_true]
    exact q
theorem ba_s1 (hin : vp_in nx 24) (hA : vp_in (fa nx.toNatClampNeg) 8) (hD : vp_in (fd nx.toNatClampNeg) 8) (hB : vp_in (fb nx.toNatClampNeg) 8) (h7 : fb nx.toNatClampNeg &&& 7 = fb nx.toNatClampNeg) (hK : ki nx.toNatClampNeg = 1) : (∀ post : SX → Prop, post (sz, (nx + 1), jp, upd rg (fd nx.toNatClampNeg).toNatClampNeg (rg (fa nx.toNatClampNeg).toNatClampNeg - rg (fb nx.toNatClampNeg).toNatClampNeg), ce, ki, fd, fa, fb) → wpX_carryOut post (sz, nx, jp, rg, ce, ki, fd, fa, fb) nx) ∧ (∀ post : Int32 → SY → Prop, post (nx + 1) (sz, nx, jp, upd rg (fd nx.toNatClampNeg).toNatClampNeg (rg (fa nx.toNatClampNeg).toNatClampNeg - rg (fb nx.toNatClampNeg).toNatClampNeg), ce, ki, fd, fa, fb) → wpY_step post (sz, nx, jp, rg, ce, ki, fd, fa, fb) nx) := by
  constructor
  · intro post q
    simp +decide only [wpX_carryOut, wpX_isBranch, wpX_compute, wpX_combine, hK, hin, hA, hD, hB, h7, true_and, and_true, forall_eq, not_true_eq_false, not_false_eq_true, false_implies, true_implies, implies_true]
    exact q
  · intro post q
    simp +decide only [wpY_step, wpY_result, hK, hin, hA, hD, hB, h7, true_and, and_true, forall_eq, not_true_eq_false, not_false_eq_true, false_implies, true_implies, implies_true]
    exact q
theorem ba_s2 (hin : vp_in nx 24) (hA : vp_in (fa nx.toNatClampNeg) 8) (hD : vp_in (fd nx.toNatClampNeg) 8) (hB : vp_in (fb nx.toNatClampNeg) 8) (h7 : fb nx.toNatClampNeg &&& 7 = fb nx.toNatClampNeg) (hK : ki nx.toNatClampNeg = 2) : (∀ post : SX → Prop, post (sz, (nx + 1), jp, upd rg (fd nx.toNatClampNeg).toNatClampNeg (rg (fa nx.toNatClampNeg).toNatClampNeg &&& rg (fb nx.toNatClampNeg).toNatClampNeg), ce, ki, fd, fa, fb) → wpX_carryOut post (sz, nx, jp, rg, ce, ki, fd, fa, fb) nx) ∧ (∀ post : Int32 → SY → Prop, post (nx + 1) (sz, nx, jp, upd rg (fd nx.toNatClampNeg).toNatClampNeg (rg (fa nx.toNatClampNeg).toNatClampNeg &&& rg (fb nx.toNatClampNeg).toNatClampNeg), ce, ki, fd, fa, fb) → wpY_step post (sz, nx, jp, rg, ce, ki, fd, fa, fb) nx) := by
  constructor
  · intro post q
    simp +decide only [wpX_carryOut, wpX_isBranch, wpX_compute, wpX_combine, hK, hin, hA, hD, hB, h7, true_and, and_true, forall_eq, not_true_eq_false, not_false_eq_true, false_implies, true_implies, implies_true]
    exact q
  · intro post q
    simp +decide only [wpY_step, wpY_result, hK, hin, hA, hD, hB, h7, true_and, and_true, forall_eq, not_true_eq_false, not_false_eq_true, false_implies, true_implies, implies_true]
    exact q
theorem ba_s3 (hin : vp_in nx 24) (hA : vp_in (fa nx.toNatClampNeg) 8) (hD : vp_in (fd nx.toNatClampNeg) 8) (hB : vp_in (fb nx.toNatClampNeg) 8) (h7 : fb nx.toNatClampNeg &&& 7 = fb nx.toNatClampNeg) (hK : ki nx.toNatClampNeg = 3) : (∀ post : SX → Prop, post (sz, (nx + 1), jp, upd rg (fd nx.toNatClampNeg).toNatClampNeg (rg (fa nx.toNatClampNeg).toNatClampNeg ^^^ rg (fb nx.toNatClampNeg).toNatClampNeg), ce, ki, fd, fa, fb) → wpX_carryOut post (sz, nx, jp, rg, ce, ki, fd, fa, fb) nx) ∧ (∀ post : Int32 → SY → Prop, post (nx + 1) (sz, nx, jp, upd rg (fd nx.toNatClampNeg).toNatClampNeg (rg (fa nx.toNatClampNeg).toNatClampNeg ^^^ rg (fb nx.toNatClampNeg).toNatClampNeg), ce, ki, fd, fa, fb) → wpY_step post (sz, nx, jp, rg, ce, ki, fd, fa, fb) nx) := by
  constructor
  · intro post q
    simp +decide only [wpX_carryOut, wpX_isBranch, wpX_compute, wpX_combine, hK, hin, hA, hD, hB, h7, true_and, and_true, forall_eq, not_true_eq_false, not_false_eq_true, false_implies, true_implies, implies_true]
    exact q
  · intro post q
    simp +decide only [wpY_step, wpY_result, hK, hin, hA, hD, hB, h7, true_and, and_true, forall_eq, not_true_eq_false, not_false_eq_true, false_implies, true_implies, implies_true]
    exact q
theorem ba_s4 (hin : vp_in nx 24) (hA : vp_in (fa nx.toNatClampNeg) 8) (hD : vp_in (fd nx.toNatClampNeg) 8) (hB : vp_in (fb nx.toNatClampNeg) 8) (h7 : fb nx.toNatClampNeg &&& 7 = fb nx.toNatClampNeg) (hK : ki nx.toNatClampNeg = 4) : (∀ post : SX → Prop, post (sz, (nx + 1), jp, upd rg (fd nx.toNatClampNeg).toNatClampNeg (rg (fa nx.toNatClampNeg).toNatClampNeg * rg (fb nx.toNatClampNeg).toNatClampNeg), ce, ki, fd, fa, fb) → wpX_carryOut post (sz, nx, jp, rg, ce, ki, fd, fa, fb) nx) ∧ (∀ post : Int32 → SY → Prop, post (nx + 1) (sz, nx, jp, upd rg (fd nx.toNatClampNeg).toNatClampNeg (rg (fa nx.toNatClampNeg).toNatClampNeg * rg (fb nx.toNatClampNeg).toNatClampNeg), ce, ki, fd, fa, fb) → wpY_step post (sz, nx, jp, rg, ce, ki, fd, fa, fb) nx) := by
  constructor
  · intro post q
    simp +decide only [wpX_carryOut, wpX_isBranch, wpX_compute, wpX_combine, hK, hin, hA, hD, hB, h7, true_and, and_true, forall_eq, not_true_eq_false, not_false_eq_true, false_implies, true_implies, implies_true]
    exact q
  · intro post q
    simp +decide only [wpY_step, wpY_result, hK, hin, hA, hD, hB, h7, true_and, and_true, forall_eq, not_true_eq_false, not_false_eq_true, false_implies, true_implies, implies_true]
    exact q
theorem ba_s5 (hin : vp_in nx 24) (hA : vp_in (fa nx.toNatClampNeg) 8) (hD : vp_in (fd nx.toNatClampNeg) 8) (hB : vp_in (fb nx.toNatClampNeg) 8) (h7 : fb nx.toNatClampNeg &&& 7 = fb nx.toNatClampNeg) (hK : ki nx.toNatClampNeg = 5) : (∀ post : SX → Prop, post (sz, (nx + 1), jp, upd rg (fd nx.toNatClampNeg).toNatClampNeg (rg (fa nx.toNatClampNeg).toNatClampNeg <<< ((rg (fb nx.toNatClampNeg).toNatClampNeg &&& 31) &&& 31)), ce, ki, fd, fa, fb) → wpX_carryOut post (sz, nx, jp, rg, ce, ki, fd, fa, fb) nx) ∧ (∀ post : Int32 → SY → Prop, post (nx + 1) (sz, nx, jp, upd rg (fd nx.toNatClampNeg).toNatClampNeg (rg (fa nx.toNatClampNeg).toNatClampNeg <<< ((rg (fb nx.toNatClampNeg).toNatClampNeg &&& 31) &&& 31)), ce, ki, fd, fa, fb) → wpY_step post (sz, nx, jp, rg, ce, ki, fd, fa, fb) nx) := by
  constructor
  · intro post q
    simp +decide only [wpX_carryOut, wpX_isBranch, wpX_compute, wpX_combine, hK, hin, hA, hD, hB, h7, true_and, and_true, forall_eq, not_true_eq_false, not_false_eq_true, false_implies, true_implies, implies_true]
    exact q
  · intro post q
    simp +decide only [wpY_step, wpY_result, hK, hin, hA, hD, hB, h7, true_and, and_true, forall_eq, not_true_eq_false, not_false_eq_true, false_implies, true_implies, implies_true]
    exact q
theorem ba_s6 (hin : vp_in nx 24) (hA : vp_in (fa nx.toNatClampNeg) 8) (hD : vp_in (fd nx.toNatClampNeg) 8) (hK : ki nx.toNatClampNeg = 6) : (∀ post : SX → Prop, post (sz, (nx + 1), jp, upd rg (fd nx.toNatClampNeg).toNatClampNeg (rg (fa nx.toNatClampNeg).toNatClampNeg + fb nx.toNatClampNeg), ce, ki, fd, fa, fb) → wpX_carryOut post (sz, nx, jp, rg, ce, ki, fd, fa, fb) nx) ∧ (∀ post : Int32 → SY → Prop, post (nx + 1) (sz, nx, jp, upd rg (fd nx.toNatClampNeg).toNatClampNeg (rg (fa nx.toNatClampNeg).toNatClampNeg + fb nx.toNatClampNeg), ce, ki, fd, fa, fb) → wpY_step post (sz, nx, jp, rg, ce, ki, fd, fa, fb) nx) := by
  constructor
  · intro post q
    simp +decide only [wpX_carryOut, wpX_isBranch, wpX_compute, wpX_combine, hK, hin, hA, hD, true_and, and_true, forall_eq, not_true_eq_false, not_false_eq_true, false_implies, true_implies, implies_true]
    exact q
  · intro post q
    simp +decide only [wpY_step, wpY_result, hK, hin, hA, hD, true_and, and_true, forall_eq, not_true_eq_false, not_false_eq_true, false_implies, true_implies, implies_true]
    exact q
theorem ba_s7 (hin : vp_in nx 24) (hA : vp_in (fa nx.toNatClampNeg) 8) (hD : vp_in (fd nx.toNatClampNeg) 8) (hK : ki nx.toNatClampNeg = 7) : (∀ post : SX → Prop, post (sz, (nx + 1), jp, upd rg (fd nx.toNatClampNeg).toNatClampNeg (ce ((rg (fa nx.toNatClampNeg).toNatClampNeg + fb nx.toNatClampNeg) &&& 15).toNatClampNeg), ce, ki, fd, fa, fb) → wpX_carryOut post (sz, nx, jp, rg, ce, ki, fd, fa, fb) nx) ∧ (∀ post : Int32 → SY → Prop, post (nx + 1) (sz, nx, jp, upd rg (fd nx.toNatClampNeg).toNatClampNeg (ce ((rg (fa nx.toNatClampNeg).toNatClampNeg + fb nx.toNatClampNeg) &&& 15).toNatClampNeg), ce, ki, fd, fa, fb) → wpY_step post (sz, nx, jp, rg, ce, ki, fd, fa, fb) nx) := by
  constructor
  · intro post q
    simp +decide only [wpX_carryOut, wpX_isBranch, wpX_compute, wpX_combine, hK, hin, hA, hD, ba_and15, true_and, and_true, forall_eq, not_true_eq_false, not_false_eq_true, false_implies, true_implies, implies_true]
    exact q
  · intro post q
    simp +decide only [wpY_step, wpY_result, hK, hin, hA, hD, ba_and15, true_and, and_true, forall_eq, not_true_eq_false, not_false_eq_true, false_implies, true_implies, implies_true]
    exact q
theorem ba_s8 (hin : vp_in nx 24) (hA : vp_in (fa nx.toNatClampNeg) 8) (hD : vp_in (fd nx.toNatClampNeg) 8) (hK : ki nx.toNatClampNeg = 8) : (∀ post : SX → Prop, post (sz, (nx + 1), jp, rg, upd ce ((rg (fa nx.toNatClampNeg).toNatClampNeg + fb nx.toNatClampNeg) &&& 15).toNatClampNeg (rg (fd nx.toNatClampNeg).toNatClampNeg), ki, fd, fa, fb) → wpX_carryOut post (sz, nx, jp, rg, ce, ki, fd, fa, fb) nx) ∧ (∀ post : Int32 → SY → Prop, post (nx + 1) (sz, nx, jp, rg, upd ce ((rg (fa nx.toNatClampNeg).toNatClampNeg + fb nx.toNatClampNeg) &&& 15).toNatClampNeg (rg (fd nx.toNatClampNeg).toNatClampNeg), ki, fd, fa, fb) → wpY_step post (sz, nx, jp, rg, ce, ki, fd, fa, fb) nx) := by
  constructor
  · intro post q
    simp +decide only [wpX_carryOut, wpX_isBranch, wpX_compute, wpX_combine, hK, hin, hA, hD, ba_and15, true_and, and_true, forall_eq, not_true_eq_false, not_false_eq_true, false_implies, true_implies, implies_true]
    exact q
  · intro post q
    simp +decide only [wpY_step, wpY_result, hK, hin, hA, hD, ba_and15, true_and, and_true, forall_eq, not_true_eq_false, not_false_eq_true, false_implies, true_implies, implies_true]
    exact q
theorem ba_s9n (hin : vp_in nx 24) (hA : vp_in (fa nx.toNatClampNeg) 8) (hD : vp_in (fd nx.toNatClampNeg) 8) (hz : rg (fa nx.toNatClampNeg).toNatClampNeg = 0) (hK : ki nx.toNatClampNeg = 9) : (∀ post : SX → Prop, post (sz, (nx + 1), jp, rg, ce, ki, fd, fa, fb) → wpX_carryOut post (sz, nx, jp, rg, ce, ki, fd, fa, fb) nx) ∧ (∀ post : Int32 → SY → Prop, post (nx + 1) (sz, nx, jp, rg, ce, ki, fd, fa, fb) → wpY_step post (sz, nx, jp, rg, ce, ki, fd, fa, fb) nx) := by
  constructor
  · intro post q
    simp +decide only [wpX_carryOut, wpX_isBranch, wpX_branch, wX_branch_29, wX_branch_34, wX_branch_49, hK, hin, hA, hD, hz, true_and, and_true, forall_eq, not_true_eq_false, not_false_eq_true, false_implies, true_implies, implies_true]
    exact q
  · intro post q
    simp +decide only [wpY_step, hK, hin, hA, hD, hz, true_and, and_true, forall_eq, not_true_eq_false, not_false_eq_true, false_implies, true_implies, implies_true]
    exact q
theorem ba_x49 {post : SX → Prop} {t x2 : Int32} (q : post (sz, t, (if t = x2 then jp else jp + 1), rg, ce, ki, fd, fa, fb)) : wX_branch_49 post x2 t sz nx jp rg ce ki fd fa fb := by
  by_cases c : t = x2
  · rw [if_pos c] at q
    exact br_t c q
  · rw [if_neg c] at q
    exact br_f c (nm_e q)
theorem ba_y106 {post : Int32 → SY → Prop} (hin : vp_in nx 24) (q : post (ba_T sz (fb nx.toNatClampNeg)) (sz, nx, (if (ba_T sz (fb nx.toNatClampNeg)) = nx + 1 then jp else jp + 1), rg, ce, ki, fd, fa, fb)) : wY_step_106 post nx sz nx jp rg ce ki fd fa fb := by
  refine ba_yT hin ?_
  by_cases c : (ba_T sz (fb nx.toNatClampNeg)) = nx + 1
  · rw [if_pos c] at q
    exact br_t c (ba_yT hin q)
  · rw [if_neg c] at q
    exact br_f c (nm_e (ba_yT hin q))
theorem ba_x29 {post : SX → Prop} (hin : vp_in nx 24) (q : post (sz, (ba_T sz (fb nx.toNatClampNeg)), (if (ba_T sz (fb nx.toNatClampNeg)) = nx + 1 then jp else jp + 1), rg, ce, ki, fd, fa, fb)) : wX_branch_29 post nx (nx + 1) sz nx jp rg ce ki fd fa fb := br_f (by decide) (ba_xT hin (ba_x49 q))
theorem ba_s9t (hin : vp_in nx 24) (hA : vp_in (fa nx.toNatClampNeg) 8) (hD : vp_in (fd nx.toNatClampNeg) 8) (hz : ¬ rg (fa nx.toNatClampNeg).toNatClampNeg = 0) (hK : ki nx.toNatClampNeg = 9) : (∀ post : SX → Prop, post (sz, (ba_T sz (fb nx.toNatClampNeg)), (if (ba_T sz (fb nx.toNatClampNeg)) = nx + 1 then jp else jp + 1), rg, ce, ki, fd, fa, fb) → wpX_carryOut post (sz, nx, jp, rg, ce, ki, fd, fa, fb) nx) ∧ (∀ post : Int32 → SY → Prop, post (ba_T sz (fb nx.toNatClampNeg)) (sz, nx, (if (ba_T sz (fb nx.toNatClampNeg)) = nx + 1 then jp else jp + 1), rg, ce, ki, fd, fa, fb) → wpY_step post (sz, nx, jp, rg, ce, ki, fd, fa, fb) nx) := by
  constructor
  · intro post q
    simp +decide only [wpX_carryOut, wpX_isBranch, wpX_branch, hK, hin, hA, hD, hz, true_and, and_true, forall_eq, not_true_eq_false, not_false_eq_true, false_implies, true_implies, implies_true]
    exact ba_x29 hin q
  · intro post q
    simp +decide only [wpY_step, hK, hin, hA, hD, hz, true_and, and_true, forall_eq, not_true_eq_false, not_false_eq_true, false_implies, true_implies, implies_true]
    exact ba_y106 hin q
theorem ba_s10 (hin : vp_in nx 24) (hA : vp_in (fa nx.toNatClampNeg) 8) (hD : vp_in (fd nx.toNatClampNeg) 8) (hK : ki nx.toNatClampNeg = 10) : (∀ post : SX → Prop, post (sz, (ba_T sz (fb nx.toNatClampNeg)), (if (ba_T sz (fb nx.toNatClampNeg)) = nx + 1 then jp else jp + 1), rg, ce, ki, fd, fa, fb) → wpX_carryOut post (sz, nx, jp, rg, ce, ki, fd, fa, fb) nx) ∧ (∀ post : Int32 → SY → Prop, post (ba_T sz (fb nx.toNatClampNeg)) (sz, nx, (if (ba_T sz (fb nx.toNatClampNeg)) = nx + 1 then jp else jp + 1), rg, ce, ki, fd, fa, fb) → wpY_step post (sz, nx, jp, rg, ce, ki, fd, fa, fb) nx) := by
  constructor
  · intro post q
    simp +decide only [wpX_carryOut, wpX_isBranch, wpX_branch, hK, hin, hA, hD, true_and, and_true, forall_eq, not_true_eq_false, not_false_eq_true, false_implies, true_implies, implies_true]
    exact ba_x29 hin q
  · intro post q
    simp +decide only [wpY_step, hK, hin, hA, hD, true_and, and_true, forall_eq, not_true_eq_false, not_false_eq_true, false_implies, true_implies, implies_true]
    exact ba_y106 hin q
theorem ba_step (hJ : ba_J sz nx ki fd fa fb) (h : nx.toInt < sz.toInt) : ∃ (nx' jp' : Int32) (rg' ce' : Nat → Int32), ba_J sz nx' ki fd fa fb ∧ (∀ post : SX → Prop, post (sz, nx', jp', rg', ce', ki, fd, fa, fb) → wpX_carryOut post (sz, nx, jp, rg, ce, ki, fd, fa, fb) nx) ∧ (∀ post : Int32 → SY → Prop, post nx' (sz, nx, jp', rg', ce', ki, fd, fa, fb) → wpY_step post (sz, nx, jp, rg, ce, ki, fd, fa, fb) nx) := by
  obtain ⟨hs0, hs, hn, hO⟩ := hJ
  have hin : vp_in nx 24 := vp_in_iff.mpr ⟨hn, by omega⟩
  have e1 : (nx + 1).toInt = nx.toInt + 1 := ba_add1 hn (by omega)
  have hJ1 : ba_J sz (nx + 1) ki fd fa fb := ⟨hs0, hs, by omega, hO⟩
  obtain ⟨⟨k0, k10⟩, rD, rA, hF⟩ := hO nx.toNatClampNeg (by rw [ba_cl]; omega)
  have hA := ba_Rin rA
  have hD := ba_Rin rD
  have hR : (ki nx.toNatClampNeg).toInt < 6 → ba_R (fb nx.toNatClampNeg) := hF.1
  have hT : 9 ≤ (ki nx.toNatClampNeg).toInt → ba_J sz (ba_T sz (fb nx.toNatClampNeg)) ki fd fa fb := fun z => ⟨hs0, hs, ba_T0 hs0 (hF.2.2 z).1, hO⟩
  rcases ba_kinds k0 k10 with hK | hK | hK | hK | hK | hK | hK | hK | hK | hK | hK
  · have rB := hR (by rw [hK]; decide)
    exact ⟨_, _, _, _, hJ1, ba_s0 hin hA hD (ba_Rin rB) (ba_and7 rB) hK⟩
  · have rB := hR (by rw [hK]; decide)
    exact ⟨_, _, _, _, hJ1, ba_s1 hin hA hD (ba_Rin rB) (ba_and7 rB) hK⟩
  · have rB := hR (by rw [hK]; decide)
    exact ⟨_, _, _, _, hJ1, ba_s2 hin hA hD (ba_Rin rB) (ba_and7 rB) hK⟩
  · have rB := hR (by rw [hK]; decide)
    exact ⟨_, _, _, _, hJ1, ba_s3 hin hA hD (ba_Rin rB) (ba_and7 rB) hK⟩
  · have rB := hR (by rw [hK]; decide)
    exact ⟨_, _, _, _, hJ1, ba_s4 hin hA hD (ba_Rin rB) (ba_and7 rB) hK⟩
  · have rB := hR (by rw [hK]; decide)
    exact ⟨_, _, _, _, hJ1, ba_s5 hin hA hD (ba_Rin rB) (ba_and7 rB) hK⟩
  · exact ⟨_, _, _, _, hJ1, ba_s6 hin hA hD hK⟩
  · exact ⟨_, _, _, _, hJ1, ba_s7 hin hA hD hK⟩
  · exact ⟨_, _, _, _, hJ1, ba_s8 hin hA hD hK⟩
  · by_cases hz : rg (fa nx.toNatClampNeg).toNatClampNeg = 0
    · exact ⟨_, _, _, _, hJ1, ba_s9n hin hA hD hz hK⟩
    · exact ⟨_, _, _, _, hT (by rw [hK]; decide), ba_s9t hin hA hD hz hK⟩
  · exact ⟨_, _, _, _, hT (by rw [hK]; decide), ba_s10 hin hA hD hK⟩
end
/-! the two run loops -/
theorem ba_idle {post : Int32 → SY → Prop} {sz nx jp : Int32} {rg ce ki fd fa fb : Nat → Int32} (s : Nat) (hs : s ≤ 400) (x : Int32) (h : sz ≤ nx) (q : post x (sz, nx, jp, rg, ce, ki, fd, fa, fb)) : ∀ d j : Nat, j + d = s → wY_run_17 post (nI s) (d + 1) x (nI j) sz nx jp rg ce ki fd fa fb := by
  intro d
  induction d with
  | zero => exact fun j hj => br_t (nI_le (by omega) (by omega)) q
  | succ d ih => exact fun j hj => br_f (nI_ge (by omega) (by omega)) (br_t h (nm_r (nI_1 j) (ih (j + 1) (by omega))))
theorem ba_loop (s : Nat) (hs : s ≤ 400) (sz : Int32) (ki fd fa fb : Nat → Int32) : ∀ (d j : Nat) (nx jp : Int32) (rg ce : Nat → Int32), j + d = s → ba_J sz nx ki fd fa fb → ∃ (r nx' jp' : Int32) (rg' ce' : Nat → Int32), ba_J sz nx' ki fd fa fb ∧ (∀ post : Int32 → SX → Prop, post r (sz, nx', jp', rg', ce', ki, fd, fa, fb) → wX_run_15 post (nI s) (d + 1) (nI j) sz nx jp rg ce ki fd fa fb) ∧ (∀ post : Int32 → SY → Prop, post r (sz, nx', jp', rg', ce', ki, fd, fa, fb) → wY_run_17 post (nI s) (d + 1) (nI j) (nI j) sz nx jp rg ce ki fd fa fb) := by
  intro d
  induction d with
  | zero =>
    intro j nx jp rg ce hj hJ
    have c : nI s ≤ nI j := nI_le (by omega) (by omega)
    exact ⟨nI j, nx, jp, rg, ce, hJ, fun post q => br_t c q, fun post q => br_t c q⟩
  | succ d ih =>
    intro j nx jp rg ce hj hJ
    have c : ¬ nI s ≤ nI j := nI_ge (by omega) (by omega)
    by_cases e : sz ≤ nx
    · exact ⟨nI j, nx, jp, rg, ce, hJ, fun post q => br_f c (br_t e q), fun post q => ba_idle s hs (nI j) e q (d + 1) j hj⟩
    · have hlt : nx.toInt < sz.toInt := by
        rw [Int32.le_iff_toInt_le] at e
        omega
      have h24 : ¬ 24 ≤ nx := by
        rw [Int32.le_iff_toInt_le, ba_n24]
        have := hJ.2.1
        omega
      obtain ⟨nx1, jp1, rg1, ce1, hJ1, hX, hY⟩ := ba_step (jp := jp) (rg := rg) (ce := ce) hJ hlt
      obtain ⟨r, nx', jp', rg', ce', hJ', gX, gY⟩ := ih (j + 1) nx1 jp1 rg1 ce1 (by omega) hJ1
      refine ⟨r, nx', jp', rg', ce', hJ', fun post q => br_f c (br_f e (hX _ ?_)), fun post q => br_f c (br_f e (br_f h24 (hY _ ?_)))⟩
      · exact nm_r (nI_1 j) (gX post q)
      · exact nm_r (nI_1 j) (nm_r (nI_1 j) (gY post q))
end
section
/-! how the relation lasts -/
theorem ba_J0 {ki fd fa fb : Nat → Int32} : ba_J 0 0 ki fd fa fb := by
  unfold ba_J
  rw [ba_n0]
  exact ⟨by omega, by omega, by omega, fun j hj => absurd hj (by omega)⟩
theorem ba_home {sz nx : Int32} {ki fd fa fb : Nat → Int32} (h : ba_J sz nx ki fd fa fb) : ba_J sz 0 ki fd fa fb := ⟨h.1, h.2.1, by rw [ba_n0]; omega, h.2.2.2⟩
theorem ba_cut {sz nx : Int32} {ki fd fa fb : Nat → Int32} (h : ba_J sz nx ki fd fa fb) (h0 : ¬ sz = 0) : ba_J (sz - 1) 0 ki fd fa fb := by
  obtain ⟨a, b, -, d⟩ := h
  rw [← Int32.toInt_inj, ba_n0] at h0
  have e := ba_sub1 (x := sz) (by omega) (by omega)
  unfold ba_J
  rw [e, ba_n0]
  exact ⟨by omega, by omega, by omega, fun j hj => d j (by omega)⟩
theorem ba_put {sz nx k d a b : Int32} {ki fd fa fb : Nat → Int32} (h : ba_J sz nx ki fd fa fb) (hs : sz.toInt < 24) (hO : ba_Ok k d a b) : ba_J (sz + 1) 0 (upd ki sz.toNatClampNeg k) (upd fd sz.toNatClampNeg d) (upd fa sz.toNatClampNeg a) (upd fb sz.toNatClampNeg b) := by
  obtain ⟨h1, h2, -, h4⟩ := h
  have e := ba_add1 (x := sz) h1 (by omega)
  unfold ba_J
  rw [e, ba_n0]
  refine ⟨by omega, by omega, by omega, fun j hj => ?_⟩
  unfold upd
  by_cases z : j = sz.toNatClampNeg
  · simp only [if_pos z]
    exact hO
  · simp only [if_neg z]
    refine h4 j ?_
    rw [ba_cl] at z
    omega
/-! the owed statements, one a method -/
theorem i_vc_emit {k : Nat} {u : SX} {v : SY} (I : i_Rel k u v) (hk : k + 5 ≤ 2560) (v1 : Int32) (v2 : Int32) (v3 : Int32) (v4 : Int32) : wpX_emit (fun r u' => wpY_emit (fun r' v' => r' = r ∧ i_Rel (k + 5) u' v') v v1 v2 v3 v4) u v1 v2 v3 v4 := by
  obtain ⟨rfl, hJ⟩ := I
  obtain ⟨sz, nx, jp, rg, ce, ki, fd, fa, fb⟩ := u
  have hJ : ba_J sz nx ki fd fa fb := hJ
  by_cases h0 : v1 < 0
  · exact br_t h0 (br_t h0 ⟨rfl, rfl, hJ⟩)
  by_cases h10 : v1 ≤ 10
  case neg => exact br_f h0 (br_f h10 (br_f h0 (br_f h10 ⟨rfl, rfl, hJ⟩)))
  refine br_f h0 (br_t h10 ?_)
  have k0 : 0 ≤ v1.toInt := by
    rw [Int32.lt_iff_toInt_lt, ba_n0] at h0
    omega
  have k10 : v1.toInt ≤ 10 := by
    rw [Int32.le_iff_toInt_le, ba_n10] at h10
    omega
  by_cases hd : ba_R v2
  case neg => exact ba_xRf hd (br_t rfl (br_f h0 (br_t h10 (ba_yRf hd (br_f (by decide) ⟨rfl, rfl, hJ⟩)))))
  by_cases ha : ba_R v3
  case neg => exact ba_xRt hd (br_f (by decide) (ba_xRf ha (br_t rfl (br_f h0 (br_t h10 (ba_yRt hd (br_t rfl (ba_yRf ha (br_f (by decide) ⟨rfl, rfl, hJ⟩)))))))))
  refine ba_xRt hd (br_f (by decide) (ba_xRt ha (br_f (by decide) (ba_xF k0 k10 (fun hb => br_f (by decide) ?_) (fun hb => br_t rfl ?_)))))
  · by_cases h24 : sz < 24
    · have hs : sz.toInt < 24 := by
        rw [Int32.lt_iff_toInt_lt, ba_n24] at h24
        omega
      have hin : vp_in sz 24 := vp_in_iff.mpr ⟨hJ.1, by omega⟩
      refine br_t h24 ⟨hin, nm_e ⟨hin, nm_e ⟨hin, nm_e ⟨hin, nm_e ?_⟩⟩⟩⟩
      refine br_f h0 (br_t h10 (ba_yRt hd (br_t rfl (ba_yRt ha (br_t rfl (ba_yFt hb (br_t rfl (br_t h24 ⟨hin, nm_e ⟨hin, nm_e ⟨hin, nm_e ⟨hin, nm_e (nm_e ?_)⟩⟩⟩⟩))))))))
      exact ⟨rfl, rfl, ba_put hJ hs ⟨⟨k0, k10⟩, hd, ha, hb⟩⟩
    · exact br_f h24 (br_f h0 (br_t h10 (ba_yRt hd (br_t rfl (ba_yRt ha (br_t rfl (ba_yFt hb (br_t rfl (br_f h24 ⟨rfl, rfl, hJ⟩)))))))))
  · exact br_f h0 (br_t h10 (ba_yRt hd (br_t rfl (ba_yRt ha (br_t rfl (ba_yFf hb (br_f (by decide) ⟨rfl, rfl, hJ⟩)))))))
theorem i_vc_retract {k : Nat} {u : SX} {v : SY} (I : i_Rel k u v) (hk : k + 5 ≤ 2560) : wpX_retract (fun r u' => wpY_retract (fun r' v' => r' = r ∧ i_Rel (k + 5) u' v') v) u := by
  obtain ⟨rfl, hJ⟩ := I
  obtain ⟨sz, nx, jp, rg, ce, ki, fd, fa, fb⟩ := u
  have hJ : ba_J sz nx ki fd fa fb := hJ
  by_cases h0 : sz = 0
  · exact br_t h0 (br_t h0 ⟨rfl, rfl, hJ⟩)
  · exact br_f h0 (br_f h0 (nm_e ⟨rfl, rfl, ba_cut hJ h0⟩))
theorem i_vc_clear {k : Nat} {u : SX} {v : SY} (I : i_Rel k u v) (hk : k + 5 ≤ 2560) : wpX_clear (fun r u' => wpY_clear (fun r' v' => r' = r ∧ i_Rel (k + 5) u' v') v) u := by
  obtain ⟨rfl, hJ⟩ := I
  obtain ⟨sz, nx, jp, rg, ce, ki, fd, fa, fb⟩ := u
  have hJ : ba_J sz nx ki fd fa fb := hJ
  exact ⟨rfl, rfl, ba_J0⟩
theorem i_vc_count {k : Nat} {u : SX} {v : SY} (I : i_Rel k u v) (hk : k + 5 ≤ 2560) : wpX_count (fun r => wpY_count (fun r' => r' = r ∧ i_Rel (k + 5) u v) v) u := by
  obtain ⟨rfl, hJ⟩ := I
  obtain ⟨sz, nx, jp, rg, ce, ki, fd, fa, fb⟩ := u
  have hJ : ba_J sz nx ki fd fa fb := hJ
  exact ⟨rfl, rfl, hJ⟩
theorem i_vc_kindOf {k : Nat} {u : SX} {v : SY} (I : i_Rel k u v) (hk : k + 5 ≤ 2560) (v1 : Int32) : wpX_kindOf (fun r => wpY_kindOf (fun r' => r' = r ∧ i_Rel (k + 5) u v) v v1) u v1 := by
  obtain ⟨rfl, hJ⟩ := I
  obtain ⟨sz, nx, jp, rg, ce, ki, fd, fa, fb⟩ := u
  have hJ : ba_J sz nx ki fd fa fb := hJ
  unfold wpX_kindOf wpY_kindOf
  dsimp only
  by_cases h : 0 ≤ v1.toInt ∧ v1.toInt < sz.toInt
  · have hin : vp_in v1 24 := vp_in_iff.mpr ⟨h.1, by have := hJ.2.1; omega⟩
    exact ba_xOt h (br_f (by decide) ⟨hin, ba_yOt hJ.2.1 h (br_t rfl ⟨hin, rfl, rfl, hJ⟩)⟩)
  · exact ba_xOf h (br_t rfl (ba_yOf h (br_f (by decide) ⟨rfl, rfl, hJ⟩)))
theorem i_vc_fieldOf {k : Nat} {u : SX} {v : SY} (I : i_Rel k u v) (hk : k + 5 ≤ 2560) (v1 : Int32) (v2 : Int32) : wpX_fieldOf (fun r => wpY_fieldOf (fun r' => r' = r ∧ i_Rel (k + 5) u v) v v1 v2) u v1 v2 := by
  obtain ⟨rfl, hJ⟩ := I
  obtain ⟨sz, nx, jp, rg, ce, ki, fd, fa, fb⟩ := u
  have hJ : ba_J sz nx ki fd fa fb := hJ
  unfold wpX_fieldOf wpY_fieldOf
  dsimp only
  by_cases h : 0 ≤ v1.toInt ∧ v1.toInt < sz.toInt
  case neg => exact ba_xOf h (br_t rfl (ba_yOf h (br_f (by decide) ⟨rfl, rfl, hJ⟩)))
  have hin : vp_in v1 24 := vp_in_iff.mpr ⟨h.1, by have := hJ.2.1; omega⟩
  refine ba_xOt h (br_f (by decide) ?_)
  by_cases w0 : v2 < 0
  · exact br_t w0 (ba_yOt hJ.2.1 h (br_t rfl (br_t w0 ⟨rfl, rfl, hJ⟩)))
  refine br_f w0 ?_
  by_cases w2 : 2 < v2
  · exact br_t w2 (ba_yOt hJ.2.1 h (br_t rfl (br_f w0 (br_f (Int32.not_le.mpr w2) ⟨rfl, rfl, hJ⟩))))
  refine br_f w2 ?_
  have w2' : v2 ≤ 2 := Int32.not_lt.mp w2
  by_cases e0 : v2 = 0
  · exact br_t e0 ⟨hin, ba_yOt hJ.2.1 h (br_t rfl (br_f w0 (br_t w2' (br_t e0 ⟨hin, rfl, rfl, hJ⟩))))⟩
  refine br_f e0 ?_
  by_cases e1 : v2 = 1
  · exact br_t e1 ⟨hin, ba_yOt hJ.2.1 h (br_t rfl (br_f w0 (br_t w2' (br_f e0 (br_t e1 ⟨hin, rfl, rfl, hJ⟩)))))⟩
  refine br_f e1 ?_
  have e2 : v2 = 2 := by
    simp only [← Int32.toInt_inj, Int32.lt_iff_toInt_lt, Int32.le_iff_toInt_le, ba_n0, ba_n1, ba_n2] at *
    omega
  obtain ⟨⟨k0, k10⟩, -, -, -⟩ := hJ.2.2.2 v1.toNatClampNeg (by rw [ba_cl]; omega)
  by_cases h9 : (ki v1.toNatClampNeg).toInt < 9
  · have c9 : ki v1.toNatClampNeg < 9 := by
      rw [Int32.lt_iff_toInt_lt, ba_n9]
      exact h9
    exact br_t e2 ⟨hin, ba_xBf h9 (br_t rfl ⟨hin, ba_yOt hJ.2.1 h (br_t rfl (br_f w0 (br_t w2' (br_f e0 (br_f e1 ⟨hin, br_t c9 ⟨hin, rfl, rfl, hJ⟩⟩)))))⟩)⟩
  · have c9 : ¬ ki v1.toNatClampNeg < 9 := by
      rw [Int32.lt_iff_toInt_lt, ba_n9]
      exact h9
    exact br_t e2 ⟨hin, ba_xBt (by omega) k10 (br_f (by decide) (ba_xT hin (ba_yOt hJ.2.1 h (br_t rfl (br_f w0 (br_t w2' (br_f e0 (br_f e1 ⟨hin, br_f c9 (ba_yT hin ⟨rfl, rfl, hJ⟩)⟩))))))))⟩
theorem i_vc_setRegister {k : Nat} {u : SX} {v : SY} (I : i_Rel k u v) (hk : k + 5 ≤ 2560) (v1 : Int32) (v2 : Int32) : wpX_setRegister (fun r u' => wpY_setRegister (fun r' v' => r' = r ∧ i_Rel (k + 5) u' v') v v1 v2) u v1 v2 := by
  obtain ⟨rfl, hJ⟩ := I
  obtain ⟨sz, nx, jp, rg, ce, ki, fd, fa, fb⟩ := u
  have hJ : ba_J sz nx ki fd fa fb := hJ
  unfold wpX_setRegister wpY_setRegister
  dsimp only
  by_cases h : ba_R v1
  · exact ba_xRt h (br_f (by decide) ⟨ba_Rin h, nm_e (ba_yRt h (br_t rfl ⟨ba_Rin h, nm_e ⟨rfl, rfl, hJ⟩⟩))⟩)
  · exact ba_xRf h (br_t rfl (ba_yRf h (br_f (by decide) ⟨rfl, rfl, hJ⟩)))
theorem i_vc_setCell {k : Nat} {u : SX} {v : SY} (I : i_Rel k u v) (hk : k + 5 ≤ 2560) (v1 : Int32) (v2 : Int32) : wpX_setCell (fun r u' => wpY_setCell (fun r' v' => r' = r ∧ i_Rel (k + 5) u' v') v v1 v2) u v1 v2 := by
  obtain ⟨rfl, hJ⟩ := I
  obtain ⟨sz, nx, jp, rg, ce, ki, fd, fa, fb⟩ := u
  have hJ : ba_J sz nx ki fd fa fb := hJ
  by_cases h0 : v1 < 0
  · exact br_t h0 (br_t rfl (br_t h0 ⟨rfl, rfl, hJ⟩))
  by_cases h16 : 16 ≤ v1
  · have h15 : ¬ v1 ≤ 15 := by
      simp only [Int32.le_iff_toInt_le, ba_n15, ba_n16] at *
      omega
    exact br_f h0 (br_t h16 (br_t rfl (br_f h0 (br_f h15 ⟨rfl, rfl, hJ⟩))))
  · have h15 : v1 ≤ 15 := by
      simp only [Int32.le_iff_toInt_le, ba_n15, ba_n16] at *
      omega
    have hin : vp_in v1 16 := by
      simp only [vp_in_iff, Int32.lt_iff_toInt_lt, Int32.le_iff_toInt_le, ba_n0, ba_n15] at *
      omega
    exact br_f h0 (br_f h16 (br_f (by decide) ⟨hin, nm_e (br_f h0 (br_t h15 ⟨hin, nm_e ⟨rfl, rfl, hJ⟩⟩))⟩))
theorem i_vc_register {k : Nat} {u : SX} {v : SY} (I : i_Rel k u v) (hk : k + 5 ≤ 2560) (v1 : Int32) : wpX_register (fun r => wpY_register (fun r' => r' = r ∧ i_Rel (k + 5) u v) v v1) u v1 := by
  obtain ⟨rfl, hJ⟩ := I
  obtain ⟨sz, nx, jp, rg, ce, ki, fd, fa, fb⟩ := u
  have hJ : ba_J sz nx ki fd fa fb := hJ
  unfold wpX_register wpY_register
  dsimp only
  by_cases h : ba_R v1
  · exact ba_xRt h (br_f (by decide) ⟨ba_Rin h, ba_yRt h (br_t rfl ⟨ba_Rin h, rfl, rfl, hJ⟩)⟩)
  · exact ba_xRf h (br_t rfl (ba_yRf h (br_f (by decide) ⟨rfl, rfl, hJ⟩)))
theorem i_vc_cell {k : Nat} {u : SX} {v : SY} (I : i_Rel k u v) (hk : k + 5 ≤ 2560) (v1 : Int32) : wpX_cell (fun r => wpY_cell (fun r' => r' = r ∧ i_Rel (k + 5) u v) v v1) u v1 := by
  obtain ⟨rfl, hJ⟩ := I
  obtain ⟨sz, nx, jp, rg, ce, ki, fd, fa, fb⟩ := u
  have hJ : ba_J sz nx ki fd fa fb := hJ
  by_cases h0 : v1 < 0
  · exact br_t h0 (br_t rfl (br_t h0 ⟨rfl, rfl, hJ⟩))
  by_cases h16 : 16 ≤ v1
  · have h15 : ¬ v1 ≤ 15 := by
      simp only [Int32.le_iff_toInt_le, ba_n15, ba_n16] at *
      omega
    exact br_f h0 (br_t h16 (br_t rfl (br_f h0 (br_f h15 ⟨rfl, rfl, hJ⟩))))
  · have h15 : v1 ≤ 15 := by
      simp only [Int32.le_iff_toInt_le, ba_n15, ba_n16] at *
      omega
    have hin : vp_in v1 16 := by
      simp only [vp_in_iff, Int32.lt_iff_toInt_lt, Int32.le_iff_toInt_le, ba_n0, ba_n15] at *
      omega
    exact br_f h0 (br_f h16 (br_f (by decide) ⟨hin, br_f h0 (br_t h15 ⟨hin, rfl, rfl, hJ⟩)⟩))
theorem i_vc_restart {k : Nat} {u : SX} {v : SY} (I : i_Rel k u v) (hk : k + 5 ≤ 2560) : wpX_restart (fun u' => wpY_restart (fun v' => i_Rel (k + 5) u' v') v) u := by
  obtain ⟨rfl, hJ⟩ := I
  obtain ⟨sz, nx, jp, rg, ce, ki, fd, fa, fb⟩ := u
  have hJ : ba_J sz nx ki fd fa fb := hJ
  exact ⟨rfl, ba_home hJ⟩
theorem i_vc_run {k : Nat} {u : SX} {v : SY} (I : i_Rel k u v) (hk : k + 5 ≤ 2560) (v1 : Int32) : wpX_run (fun r u' => wpY_run (fun r' v' => r' = r ∧ i_Rel (k + 5) u' v') v v1) u v1 := by
  obtain ⟨rfl, hJ⟩ := I
  obtain ⟨sz, nx, jp, rg, ce, ki, fd, fa, fb⟩ := u
  have hJ : ba_J sz nx ki fd fa fb := hJ
  by_cases h0 : v1 < 0
  · exact br_t h0 (br_t h0 ⟨rfl, rfl, hJ⟩)
  by_cases h4 : v1 ≤ 400
  case neg => exact br_f h0 (br_f h4 (br_f h0 (br_f h4 ⟨rfl, rfl, hJ⟩)))
  obtain ⟨s, hs, rfl⟩ := nI_of2 (n := 400) ba_n400 h0 h4
  obtain ⟨r, nx', jp', rg', ce', hJ', hX, hY⟩ := ba_loop s hs sz ki fd fa fb s 0 nx jp rg ce (by omega) hJ
  rw [nI_0] at hX hY
  exact br_f h0 (br_t h4 ⟨_, hX _ (br_f h0 (br_t h4 ⟨_, hY _ ⟨rfl, rfl, hJ'⟩⟩))⟩)
theorem i_vc_place {k : Nat} {u : SX} {v : SY} (I : i_Rel k u v) (hk : k + 5 ≤ 2560) : wpX_place (fun r => wpY_place (fun r' => r' = r ∧ i_Rel (k + 5) u v) v) u := by
  obtain ⟨rfl, hJ⟩ := I
  obtain ⟨sz, nx, jp, rg, ce, ki, fd, fa, fb⟩ := u
  have hJ : ba_J sz nx ki fd fa fb := hJ
  by_cases c : sz ≤ nx
  · exact br_t c (br_t c ⟨rfl, rfl, hJ⟩)
  · exact br_f c (br_f c ⟨rfl, rfl, hJ⟩)
theorem i_vc_over {k : Nat} {u : SX} {v : SY} (I : i_Rel k u v) (hk : k + 5 ≤ 2560) : wpX_over (fun r => wpY_over (fun r' => r' = r ∧ i_Rel (k + 5) u v) v) u := by
  obtain ⟨rfl, hJ⟩ := I
  obtain ⟨sz, nx, jp, rg, ce, ki, fd, fa, fb⟩ := u
  have hJ : ba_J sz nx ki fd fa fb := hJ
  by_cases c : sz ≤ nx
  · exact br_t c (br_t c ⟨rfl, rfl, hJ⟩)
  · exact br_f c (br_f c ⟨rfl, rfl, hJ⟩)
theorem i_vc_jumps {k : Nat} {u : SX} {v : SY} (I : i_Rel k u v) (hk : k + 5 ≤ 2560) : wpX_jumps (fun r => wpY_jumps (fun r' => r' = r ∧ i_Rel (k + 5) u v) v) u := by
  obtain ⟨rfl, hJ⟩ := I
  obtain ⟨sz, nx, jp, rg, ce, ki, fd, fa, fb⟩ := u
  have hJ : ba_J sz nx ki fd fa fb := hJ
  exact ⟨rfl, rfl, hJ⟩
end
