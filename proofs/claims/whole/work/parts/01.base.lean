/-! numbers -/
theorem ba_n0 : (0 : Int32).toInt = 0 := by decide
theorem ba_n1 : (1 : Int32).toInt = 1 := by decide
theorem ba_n2 : (2 : Int32).toInt = 2 := by decide
theorem ba_n3 : (3 : Int32).toInt = 3 := by decide
theorem ba_n4 : (4 : Int32).toInt = 4 := by decide
theorem ba_n5 : (5 : Int32).toInt = 5 := by decide
theorem ba_n6 : (6 : Int32).toInt = 6 := by decide
theorem ba_n7 : (7 : Int32).toInt = 7 := by decide
theorem ba_n8 : (8 : Int32).toInt = 8 := by decide
theorem ba_n9 : (9 : Int32).toInt = 9 := by decide
theorem ba_n10 : (10 : Int32).toInt = 10 := by decide
theorem ba_n15 : (15 : Int32).toInt = 15 := by decide
theorem ba_n16 : (16 : Int32).toInt = 16 := by decide
theorem ba_n24 : (24 : Int32).toInt = 24 := by decide
theorem ba_n127 : (127 : Int32).toInt = 127 := by decide
theorem ba_n128 : (-128 : Int32).toInt = -128 := by decide
theorem ba_n400 : (400 : Int32).toInt = 400 := by decide
theorem ba_cl (x : Int32) : x.toNatClampNeg = x.toInt.toNat := rfl
theorem ba_add1 {x : Int32} (h0 : 0 ≤ x.toInt) (h : x.toInt < 1000) : (x + 1).toInt = x.toInt + 1 := by
  rw [Int32.toInt_add, ba_n1]
  exact Int.bmod_eq_of_le (by omega) (by omega)
theorem ba_sub1 {x : Int32} (h0 : 0 < x.toInt) (h : x.toInt < 1000) : (x - 1).toInt = x.toInt - 1 := by
  rw [Int32.toInt_sub, ba_n1]
  exact Int.bmod_eq_of_le (by omega) (by omega)
theorem ba_and15 (y : Int32) : vp_in (y &&& 15) 16 := by
  have h : (y &&& 15).toBitVec.toNat < 16 := by
    rw [Int32.toBitVec_and, BitVec.toNat_and]
    exact Nat.lt_of_le_of_lt Nat.and_le_right (by decide)
  have e : (y &&& 15).toInt = (y &&& 15).toBitVec.toInt := rfl
  rw [vp_in_iff, e, BitVec.toInt_eq_toNat_of_lt (by omega)]
  omega
theorem ba_and7N : ∀ j : Nat, j < 8 → nI j &&& 7 = nI j := by decide
/-! what a program's operation keeps -/
def ba_R (p : Int32) : Prop := 0 ≤ p.toInt ∧ p.toInt < 8
def ba_F (k b : Int32) : Prop := (k.toInt < 6 → 0 ≤ b.toInt ∧ b.toInt < 8) ∧ (6 ≤ k.toInt → k.toInt < 9 → -128 ≤ b.toInt ∧ b.toInt ≤ 127) ∧ (9 ≤ k.toInt → 0 ≤ b.toInt ∧ b.toInt ≤ 24)
def ba_Ok (k d a b : Int32) : Prop := (0 ≤ k.toInt ∧ k.toInt ≤ 10) ∧ ba_R d ∧ ba_R a ∧ ba_F k b
def ba_J (sz nx : Int32) (ki fd fa fb : Nat → Int32) : Prop := 0 ≤ sz.toInt ∧ sz.toInt ≤ 24 ∧ 0 ≤ nx.toInt ∧ ∀ j : Nat, (j : Int) < sz.toInt → ba_Ok (ki j) (fd j) (fa j) (fb j)
theorem ba_Rin {p : Int32} (h : ba_R p) : vp_in p 8 := vp_in_iff.mpr ⟨h.1, h.2⟩
theorem ba_and7 {p : Int32} (h : ba_R p) : p &&& 7 = p := by
  obtain ⟨j, hj, rfl⟩ := vp_in_of (ba_Rin h) (by decide)
  exact ba_and7N j hj
theorem ba_kinds {k : Int32} (h0 : 0 ≤ k.toInt) (h : k.toInt ≤ 10) : k = 0 ∨ k = 1 ∨ k = 2 ∨ k = 3 ∨ k = 4 ∨ k = 5 ∨ k = 6 ∨ k = 7 ∨ k = 8 ∨ k = 9 ∨ k = 10 := by
  simp only [← Int32.toInt_inj, ba_n0, ba_n1, ba_n2, ba_n3, ba_n4, ba_n5, ba_n6, ba_n7, ba_n8, ba_n9, ba_n10]
  omega
/-- both states are the same tuple, and each operation is one that emit takes -/
def i_Rel (_ : Nat) (u : SX) (v : SY) : Prop := u = v ∧ ba_J u.1 u.2.1 u.2.2.2.2.2.1 u.2.2.2.2.2.2.1 u.2.2.2.2.2.2.2.1 u.2.2.2.2.2.2.2.2
theorem i_up {k : Nat} {u : SX} {v : SY} (h : i_Rel k u v) : i_Rel (k + 5) u v := h
theorem i_vc0 : wpX_init (fun u => wpY_init (fun v => i_Rel 0 u v)) := by
  refine ⟨rfl, ?_⟩
  show ba_J 0 0 _ _ _ _
  unfold ba_J
  rw [ba_n0]
  exact ⟨by omega, by omega, by omega, fun j hj => absurd hj (by omega)⟩
/-! the small private methods, each with a general post -/
theorem ba_xRt {post : Int32 → Prop} {p : Int32} (h : ba_R p) (q : post 1) : wpX_isRegister post p := by
  refine br_f ?_ (br_f ?_ q)
  all_goals simp only [Int32.lt_iff_toInt_lt, Int32.le_iff_toInt_le, ba_n0, ba_n8, ba_R] at * <;> omega
theorem ba_xRf {post : Int32 → Prop} {p : Int32} (h : ¬ ba_R p) (q : post 0) : wpX_isRegister post p := by
  refine br_c (fun _ => q) (fun h1 => br_c (fun _ => q) (fun h2 => (h ?_).elim))
  simp only [Int32.lt_iff_toInt_lt, Int32.le_iff_toInt_le, ba_n0, ba_n8, ba_R] at * <;> omega
theorem ba_yRt {post : Int32 → Prop} {v : SY} {p : Int32} (h : ba_R p) (q : post 0) : wpY_noRegister post v p := by
  refine br_f ?_ (br_t ?_ q)
  all_goals simp only [Int32.lt_iff_toInt_lt, Int32.le_iff_toInt_le, ba_n0, ba_n7, ba_R] at * <;> omega
theorem ba_yRf {post : Int32 → Prop} {v : SY} {p : Int32} (h : ¬ ba_R p) (q : post 1) : wpY_noRegister post v p := by
  refine br_c (fun _ => q) (fun h1 => br_c (fun h2 => (h ?_).elim) (fun _ => q))
  simp only [Int32.lt_iff_toInt_lt, Int32.le_iff_toInt_le, ba_n0, ba_n7, ba_R] at * <;> omega
theorem ba_xBt {post : Int32 → Prop} {k : Int32} (h : 9 ≤ k.toInt) (h' : k.toInt ≤ 10) (q : post 1) : wpX_isBranch post k := by
  refine br_c (fun _ => q) (fun h1 => br_c (fun _ => q) (fun h2 => ?_))
  exfalso
  simp only [← Int32.toInt_inj, ba_n9, ba_n10] at * <;> omega
theorem ba_xBf {post : Int32 → Prop} {k : Int32} (h : k.toInt < 9) (q : post 0) : wpX_isBranch post k := by
  refine br_f ?_ (br_f ?_ q)
  all_goals simp only [← Int32.toInt_inj, ba_n9, ba_n10] at * <;> omega
theorem ba_xF {post : Int32 → Prop} {k b : Int32} (h0 : 0 ≤ k.toInt) (h10 : k.toInt ≤ 10) (qt : ba_F k b → post 1) (qf : ¬ ba_F k b → post 0) : wpX_fitsFieldB post k b := by
  unfold wpX_fitsFieldB
  by_cases h9 : 9 ≤ k.toInt
  · refine ba_xBt h9 h10 (br_f (by decide) (br_c (fun h1 => qf ?_) (fun h1 => br_c (fun h2 => qf ?_) (fun h2 => qt ?_))))
    all_goals simp only [Int32.lt_iff_toInt_lt, ba_n0, ba_n24, ba_F] at * <;> omega
  · have hlow : ∀ h6 : 6 ≤ k.toInt, wX_fitsFieldB_41 post b := by
      intro h6
      refine br_c (fun h1 => qf ?_) (fun h1 => br_c (fun h2 => qf ?_) (fun h2 => qt ?_))
      all_goals simp only [Int32.lt_iff_toInt_lt, ba_n127, ba_n128, ba_F] at * <;> omega
    refine ba_xBf (by omega) (br_t rfl (br_c (fun h1 => hlow ?_) (fun h1 => br_c (fun h2 => hlow ?_) (fun h2 => br_c (fun h3 => hlow ?_) (fun h3 => ?_)))))
    · simp only [← Int32.toInt_inj, ba_n6] at * <;> omega
    · simp only [← Int32.toInt_inj, ba_n7] at * <;> omega
    · simp only [← Int32.toInt_inj, ba_n8] at * <;> omega
    · have h6 : k.toInt < 6 := by
        simp only [← Int32.toInt_inj, ba_n6, ba_n7, ba_n8] at * <;> omega
      by_cases hb : ba_R b
      · refine ba_xRt hb ⟨rfl, qt ?_⟩
        simp only [ba_F, ba_R] at * <;> omega
      · refine ba_xRf hb ⟨rfl, qf ?_⟩
        simp only [ba_F, ba_R] at * <;> omega
theorem ba_yFt {post : Int32 → Prop} {v : SY} {k b : Int32} (h : ba_F k b) (q : post 0) : wpY_badNumber post v k b := by
  refine br_c (fun h1 => br_c (fun h2 => br_f ?_ (br_t ?_ q)) (fun h2 => br_f ?_ (br_t ?_ q))) (fun h1 => br_f ?_ (br_t ?_ q))
  all_goals simp only [Int32.lt_iff_toInt_lt, Int32.le_iff_toInt_le, ba_n0, ba_n6, ba_n7, ba_n9, ba_n24, ba_n127, ba_n128, ba_F] at * <;> omega
theorem ba_yFf {post : Int32 → Prop} {v : SY} {k b : Int32} (h : ¬ ba_F k b) (q : post 1) : wpY_badNumber post v k b := by
  refine br_c (fun h1 => br_c (fun h2 => br_c (fun _ => q) (fun h3 => br_c (fun h4 => (h ?_).elim) (fun _ => q))) (fun h2 => br_c (fun _ => q) (fun h3 => br_c (fun h4 => (h ?_).elim) (fun _ => q)))) (fun h1 => br_c (fun _ => q) (fun h3 => br_c (fun h4 => (h ?_).elim) (fun _ => q)))
  all_goals simp only [Int32.lt_iff_toInt_lt, Int32.le_iff_toInt_le, ba_n0, ba_n6, ba_n7, ba_n9, ba_n24, ba_n127, ba_n128, ba_F] at * <;> omega
section
variable {sz nx jp : Int32} {rg ce ki fd fa fb : Nat → Int32}
theorem ba_xOt {post : Int32 → Prop} {p : Int32} (h : 0 ≤ p.toInt ∧ p.toInt < sz.toInt) (q : post 1) : wpX_isOperation post (sz, nx, jp, rg, ce, ki, fd, fa, fb) p := by
  refine br_f ?_ (br_f ?_ q)
  all_goals simp only [Int32.lt_iff_toInt_lt, Int32.le_iff_toInt_le, ba_n0] at * <;> omega
theorem ba_xOf {post : Int32 → Prop} {p : Int32} (h : ¬ (0 ≤ p.toInt ∧ p.toInt < sz.toInt)) (q : post 0) : wpX_isOperation post (sz, nx, jp, rg, ce, ki, fd, fa, fb) p := by
  refine br_c (fun _ => q) (fun h1 => br_c (fun _ => q) (fun h2 => (h ?_).elim))
  simp only [Int32.lt_iff_toInt_lt, Int32.le_iff_toInt_le, ba_n0] at * <;> omega
theorem ba_yOt {post : Int32 → Prop} {p : Int32} (hs : sz.toInt ≤ 24) (h : 0 ≤ p.toInt ∧ p.toInt < sz.toInt) (q : post 0) : wpY_missing post (sz, nx, jp, rg, ce, ki, fd, fa, fb) p := by
  refine br_f ?_ (br_f ?_ (br_t ?_ q))
  all_goals simp only [Int32.lt_iff_toInt_lt, Int32.le_iff_toInt_le, ba_n0, ba_n24] at * <;> omega
theorem ba_yOf {post : Int32 → Prop} {p : Int32} (h : ¬ (0 ≤ p.toInt ∧ p.toInt < sz.toInt)) (q : post 1) : wpY_missing post (sz, nx, jp, rg, ce, ki, fd, fa, fb) p := by
  refine br_c (fun _ => q) (fun h1 => br_c (fun _ => q) (fun h2 => (h ?_).elim))
  simp only [Int32.lt_iff_toInt_lt, Int32.le_iff_toInt_le, ba_n0] at * <;> omega
/-- the target in force: the number b, or the end where b lies beyond it -/
def ba_T (sz b : Int32) : Int32 := if sz ≤ b then sz else b
theorem ba_T0 {sz b : Int32} (hs : 0 ≤ sz.toInt) (hb : 0 ≤ b.toInt) : 0 ≤ (ba_T sz b).toInt := by
  unfold ba_T
  split
  · exact hs
  · exact hb
theorem ba_xT {post : Int32 → Prop} {p : Int32} (h : vp_in p 24) (q : post (ba_T sz (fb p.toNatClampNeg))) : wpX_targetOf post (sz, nx, jp, rg, ce, ki, fd, fa, fb) p := by
  unfold ba_T at q
  by_cases c : sz ≤ fb p.toNatClampNeg
  · rw [if_pos c] at q
    exact ⟨h, br_t c q⟩
  · rw [if_neg c] at q
    exact ⟨h, br_f c ⟨h, q⟩⟩
theorem ba_yT {post : Int32 → Prop} {p : Int32} (h : vp_in p 24) (q : post (ba_T sz (fb p.toNatClampNeg))) : wpY_target post (sz, nx, jp, rg, ce, ki, fd, fa, fb) p := by
  unfold ba_T at q
  by_cases c : fb p.toNatClampNeg ≤ sz
  · by_cases c' : sz ≤ fb p.toNatClampNeg
    · rw [if_pos c', Int32.le_antisymm c' c] at q
      exact ⟨h, br_t c ⟨h, q⟩⟩
    · rw [if_neg c'] at q
      exact ⟨h, br_t c ⟨h, q⟩⟩
  · have c' : sz ≤ fb p.toNatClampNeg := by
      simp only [Int32.le_iff_toInt_le] at * <;> omega
    rw [if_pos c'] at q
    exact ⟨h, br_f c q⟩
end
