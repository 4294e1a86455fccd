/-! how the relation lasts -/
theorem ba_J0 {ki fd fa fb : Nat → Int32} : ba_J 0 0 ki fd fa fb := by
  unfold ba_J
  rw [ba_n0]
  exact ⟨by omega, by omega, by omega, fun j hj => absurd hj (by omega)⟩
theorem ba_home {sz nx : Int32} {ki fd fa fb : Nat → Int32} (h : ba_J sz nx ki fd fa fb) : ba_J sz 0 ki fd fa fb := ⟨h.1, h.2.1, by rw [ba_n0]; omega, h.2.2.2⟩
theorem ba_cut {sz nx : Int32} {ki fd fa fb : Nat → Int32} (h : ba_J sz nx ki fd fa fb) (h0 : ¬ sz = 0) : ba_J (sz - 1) 0 ki fd fa fb := by
  obtain ⟨a, b, -, d⟩ := h
  rw [← Int32.toInt_inj, ba_n0] at h0
  have e := ba_sub1 (x := sz) (by omega) (by omega)
  unfold ba_J
  rw [e, ba_n0]
  exact ⟨by omega, by omega, by omega, fun j hj => d j (by omega)⟩
theorem ba_put {sz nx k d a b : Int32} {ki fd fa fb : Nat → Int32} (h : ba_J sz nx ki fd fa fb) (hs : sz.toInt < 24) (hO : ba_Ok k d a b) : ba_J (sz + 1) 0 (upd ki sz.toNatClampNeg k) (upd fd sz.toNatClampNeg d) (upd fa sz.toNatClampNeg a) (upd fb sz.toNatClampNeg b) := by
  obtain ⟨h1, h2, -, h4⟩ := h
  have e := ba_add1 (x := sz) h1 (by omega)
  unfold ba_J
  rw [e, ba_n0]
  refine ⟨by omega, by omega, by omega, fun j hj => ?_⟩
  unfold upd
  by_cases z : j = sz.toNatClampNeg
  · simp only [if_pos z]
    exact hO
  · simp only [if_neg z]
    refine h4 j ?_
    rw [ba_cl] at z
    omega
/-! the owed statements, one a method -/
theorem i_vc_emit {k : Nat} {u : SX} {v : SY} (I : i_Rel k u v) (hk : k + 5 ≤ 2560) (v1 : Int32) (v2 : Int32) (v3 : Int32) (v4 : Int32) : wpX_emit (fun r u' => wpY_emit (fun r' v' => r' = r ∧ i_Rel (k + 5) u' v') v v1 v2 v3 v4) u v1 v2 v3 v4 := by
  obtain ⟨rfl, hJ⟩ := I
  obtain ⟨sz, nx, jp, rg, ce, ki, fd, fa, fb⟩ := u
  have hJ : ba_J sz nx ki fd fa fb := hJ
  by_cases h0 : v1 < 0
  · exact br_t h0 (br_t h0 ⟨rfl, rfl, hJ⟩)
  by_cases h10 : v1 ≤ 10
  case neg => exact br_f h0 (br_f h10 (br_f h0 (br_f h10 ⟨rfl, rfl, hJ⟩)))
  refine br_f h0 (br_t h10 ?_)
  have k0 : 0 ≤ v1.toInt := by
    rw [Int32.lt_iff_toInt_lt, ba_n0] at h0
    omega
  have k10 : v1.toInt ≤ 10 := by
    rw [Int32.le_iff_toInt_le, ba_n10] at h10
    omega
  by_cases hd : ba_R v2
  case neg => exact ba_xRf hd (br_t rfl (br_f h0 (br_t h10 (ba_yRf hd (br_f (by decide) ⟨rfl, rfl, hJ⟩)))))
  by_cases ha : ba_R v3
  case neg => exact ba_xRt hd (br_f (by decide) (ba_xRf ha (br_t rfl (br_f h0 (br_t h10 (ba_yRt hd (br_t rfl (ba_yRf ha (br_f (by decide) ⟨rfl, rfl, hJ⟩)))))))))
  refine ba_xRt hd (br_f (by decide) (ba_xRt ha (br_f (by decide) (ba_xF k0 k10 (fun hb => br_f (by decide) ?_) (fun hb => br_t rfl ?_)))))
  · by_cases h24 : sz < 24
    · have hs : sz.toInt < 24 := by
        rw [Int32.lt_iff_toInt_lt, ba_n24] at h24
        omega
      have hin : vp_in sz 24 := vp_in_iff.mpr ⟨hJ.1, by omega⟩
      refine br_t h24 ⟨hin, nm_e ⟨hin, nm_e ⟨hin, nm_e ⟨hin, nm_e ?_⟩⟩⟩⟩
      refine br_f h0 (br_t h10 (ba_yRt hd (br_t rfl (ba_yRt ha (br_t rfl (ba_yFt hb (br_t rfl (br_t h24 ⟨hin, nm_e ⟨hin, nm_e ⟨hin, nm_e ⟨hin, nm_e (nm_e ?_)⟩⟩⟩⟩))))))))
      exact ⟨rfl, rfl, ba_put hJ hs ⟨⟨k0, k10⟩, hd, ha, hb⟩⟩
    · exact br_f h24 (br_f h0 (br_t h10 (ba_yRt hd (br_t rfl (ba_yRt ha (br_t rfl (ba_yFt hb (br_t rfl (br_f h24 ⟨rfl, rfl, hJ⟩)))))))))
  · exact br_f h0 (br_t h10 (ba_yRt hd (br_t rfl (ba_yRt ha (br_t rfl (ba_yFf hb (br_f (by decide) ⟨rfl, rfl, hJ⟩)))))))
theorem i_vc_retract {k : Nat} {u : SX} {v : SY} (I : i_Rel k u v) (hk : k + 5 ≤ 2560) : wpX_retract (fun r u' => wpY_retract (fun r' v' => r' = r ∧ i_Rel (k + 5) u' v') v) u := by
  obtain ⟨rfl, hJ⟩ := I
  obtain ⟨sz, nx, jp, rg, ce, ki, fd, fa, fb⟩ := u
  have hJ : ba_J sz nx ki fd fa fb := hJ
  by_cases h0 : sz = 0
  · exact br_t h0 (br_t h0 ⟨rfl, rfl, hJ⟩)
  · exact br_f h0 (br_f h0 (nm_e ⟨rfl, rfl, ba_cut hJ h0⟩))
theorem i_vc_clear {k : Nat} {u : SX} {v : SY} (I : i_Rel k u v) (hk : k + 5 ≤ 2560) : wpX_clear (fun r u' => wpY_clear (fun r' v' => r' = r ∧ i_Rel (k + 5) u' v') v) u := by
  obtain ⟨rfl, hJ⟩ := I
  obtain ⟨sz, nx, jp, rg, ce, ki, fd, fa, fb⟩ := u
  have hJ : ba_J sz nx ki fd fa fb := hJ
  exact ⟨rfl, rfl, ba_J0⟩
theorem i_vc_count {k : Nat} {u : SX} {v : SY} (I : i_Rel k u v) (hk : k + 5 ≤ 2560) : wpX_count (fun r => wpY_count (fun r' => r' = r ∧ i_Rel (k + 5) u v) v) u := by
  obtain ⟨rfl, hJ⟩ := I
  obtain ⟨sz, nx, jp, rg, ce, ki, fd, fa, fb⟩ := u
  have hJ : ba_J sz nx ki fd fa fb := hJ
  exact ⟨rfl, rfl, hJ⟩
theorem i_vc_kindOf {k : Nat} {u : SX} {v : SY} (I : i_Rel k u v) (hk : k + 5 ≤ 2560) (v1 : Int32) : wpX_kindOf (fun r => wpY_kindOf (fun r' => r' = r ∧ i_Rel (k + 5) u v) v v1) u v1 := by
  obtain ⟨rfl, hJ⟩ := I
  obtain ⟨sz, nx, jp, rg, ce, ki, fd, fa, fb⟩ := u
  have hJ : ba_J sz nx ki fd fa fb := hJ
  unfold wpX_kindOf wpY_kindOf
  dsimp only
  by_cases h : 0 ≤ v1.toInt ∧ v1.toInt < sz.toInt
  · have hin : vp_in v1 24 := vp_in_iff.mpr ⟨h.1, by have := hJ.2.1; omega⟩
    exact ba_xOt h (br_f (by decide) ⟨hin, ba_yOt hJ.2.1 h (br_t rfl ⟨hin, rfl, rfl, hJ⟩)⟩)
  · exact ba_xOf h (br_t rfl (ba_yOf h (br_f (by decide) ⟨rfl, rfl, hJ⟩)))
theorem i_vc_fieldOf {k : Nat} {u : SX} {v : SY} (I : i_Rel k u v) (hk : k + 5 ≤ 2560) (v1 : Int32) (v2 : Int32) : wpX_fieldOf (fun r => wpY_fieldOf (fun r' => r' = r ∧ i_Rel (k + 5) u v) v v1 v2) u v1 v2 := by
  obtain ⟨rfl, hJ⟩ := I
  obtain ⟨sz, nx, jp, rg, ce, ki, fd, fa, fb⟩ := u
  have hJ : ba_J sz nx ki fd fa fb := hJ
  unfold wpX_fieldOf wpY_fieldOf
  dsimp only
  by_cases h : 0 ≤ v1.toInt ∧ v1.toInt < sz.toInt
  case neg => exact ba_xOf h (br_t rfl (ba_yOf h (br_f (by decide) ⟨rfl, rfl, hJ⟩)))
  have hin : vp_in v1 24 := vp_in_iff.mpr ⟨h.1, by have := hJ.2.1; omega⟩
  refine ba_xOt h (br_f (by decide) ?_)
  by_cases w0 : v2 < 0
  · exact br_t w0 (ba_yOt hJ.2.1 h (br_t rfl (br_t w0 ⟨rfl, rfl, hJ⟩)))
  refine br_f w0 ?_
  by_cases w2 : 2 < v2
  · exact br_t w2 (ba_yOt hJ.2.1 h (br_t rfl (br_f w0 (br_f (Int32.not_le.mpr w2) ⟨rfl, rfl, hJ⟩))))
  refine br_f w2 ?_
  have w2' : v2 ≤ 2 := Int32.not_lt.mp w2
  by_cases e0 : v2 = 0
  · exact br_t e0 ⟨hin, ba_yOt hJ.2.1 h (br_t rfl (br_f w0 (br_t w2' (br_t e0 ⟨hin, rfl, rfl, hJ⟩))))⟩
  refine br_f e0 ?_
  by_cases e1 : v2 = 1
  · exact br_t e1 ⟨hin, ba_yOt hJ.2.1 h (br_t rfl (br_f w0 (br_t w2' (br_f e0 (br_t e1 ⟨hin, rfl, rfl, hJ⟩)))))⟩
  refine br_f e1 ?_
  have e2 : v2 = 2 := by
    simp only [← Int32.toInt_inj, Int32.lt_iff_toInt_lt, Int32.le_iff_toInt_le, ba_n0, ba_n1, ba_n2] at *
    omega
  obtain ⟨⟨k0, k10⟩, -, -, -⟩ := hJ.2.2.2 v1.toNatClampNeg (by rw [ba_cl]; omega)
  by_cases h9 : (ki v1.toNatClampNeg).toInt < 9
  · have c9 : ki v1.toNatClampNeg < 9 := by
      rw [Int32.lt_iff_toInt_lt, ba_n9]
      exact h9
    exact br_t e2 ⟨hin, ba_xBf h9 (br_t rfl ⟨hin, ba_yOt hJ.2.1 h (br_t rfl (br_f w0 (br_t w2' (br_f e0 (br_f e1 ⟨hin, br_t c9 ⟨hin, rfl, rfl, hJ⟩⟩)))))⟩)⟩
  · have c9 : ¬ ki v1.toNatClampNeg < 9 := by
      rw [Int32.lt_iff_toInt_lt, ba_n9]
      exact h9
    exact br_t e2 ⟨hin, ba_xBt (by omega) k10 (br_f (by decide) (ba_xT hin (ba_yOt hJ.2.1 h (br_t rfl (br_f w0 (br_t w2' (br_f e0 (br_f e1 ⟨hin, br_f c9 (ba_yT hin ⟨rfl, rfl, hJ⟩)⟩))))))))⟩
theorem i_vc_setRegister {k : Nat} {u : SX} {v : SY} (I : i_Rel k u v) (hk : k + 5 ≤ 2560) (v1 : Int32) (v2 : Int32) : wpX_setRegister (fun r u' => wpY_setRegister (fun r' v' => r' = r ∧ i_Rel (k + 5) u' v') v v1 v2) u v1 v2 := by
  obtain ⟨rfl, hJ⟩ := I
  obtain ⟨sz, nx, jp, rg, ce, ki, fd, fa, fb⟩ := u
  have hJ : ba_J sz nx ki fd fa fb := hJ
  unfold wpX_setRegister wpY_setRegister
  dsimp only
  by_cases h : ba_R v1
  · exact ba_xRt h (br_f (by decide) ⟨ba_Rin h, nm_e (ba_yRt h (br_t rfl ⟨ba_Rin h, nm_e ⟨rfl, rfl, hJ⟩⟩))⟩)
  · exact ba_xRf h (br_t rfl (ba_yRf h (br_f (by decide) ⟨rfl, rfl, hJ⟩)))
theorem i_vc_setCell {k : Nat} {u : SX} {v : SY} (I : i_Rel k u v) (hk : k + 5 ≤ 2560) (v1 : Int32) (v2 : Int32) : wpX_setCell (fun r u' => wpY_setCell (fun r' v' => r' = r ∧ i_Rel (k + 5) u' v') v v1 v2) u v1 v2 := by
  obtain ⟨rfl, hJ⟩ := I
  obtain ⟨sz, nx, jp, rg, ce, ki, fd, fa, fb⟩ := u
  have hJ : ba_J sz nx ki fd fa fb := hJ
  by_cases h0 : v1 < 0
  · exact br_t h0 (br_t rfl (br_t h0 ⟨rfl, rfl, hJ⟩))
  by_cases h16 : 16 ≤ v1
  · have h15 : ¬ v1 ≤ 15 := by
      simp only [Int32.le_iff_toInt_le, ba_n15, ba_n16] at *
      omega
    exact br_f h0 (br_t h16 (br_t rfl (br_f h0 (br_f h15 ⟨rfl, rfl, hJ⟩))))
  · have h15 : v1 ≤ 15 := by
      simp only [Int32.le_iff_toInt_le, ba_n15, ba_n16] at *
      omega
    have hin : vp_in v1 16 := by
      simp only [vp_in_iff, Int32.lt_iff_toInt_lt, Int32.le_iff_toInt_le, ba_n0, ba_n15] at *
      omega
    exact br_f h0 (br_f h16 (br_f (by decide) ⟨hin, nm_e (br_f h0 (br_t h15 ⟨hin, nm_e ⟨rfl, rfl, hJ⟩⟩))⟩))
theorem i_vc_register {k : Nat} {u : SX} {v : SY} (I : i_Rel k u v) (hk : k + 5 ≤ 2560) (v1 : Int32) : wpX_register (fun r => wpY_register (fun r' => r' = r ∧ i_Rel (k + 5) u v) v v1) u v1 := by
  obtain ⟨rfl, hJ⟩ := I
  obtain ⟨sz, nx, jp, rg, ce, ki, fd, fa, fb⟩ := u
  have hJ : ba_J sz nx ki fd fa fb := hJ
  unfold wpX_register wpY_register
  dsimp only
  by_cases h : ba_R v1
  · exact ba_xRt h (br_f (by decide) ⟨ba_Rin h, ba_yRt h (br_t rfl ⟨ba_Rin h, rfl, rfl, hJ⟩)⟩)
  · exact ba_xRf h (br_t rfl (ba_yRf h (br_f (by decide) ⟨rfl, rfl, hJ⟩)))
theorem i_vc_cell {k : Nat} {u : SX} {v : SY} (I : i_Rel k u v) (hk : k + 5 ≤ 2560) (v1 : Int32) : wpX_cell (fun r => wpY_cell (fun r' => r' = r ∧ i_Rel (k + 5) u v) v v1) u v1 := by
  obtain ⟨rfl, hJ⟩ := I
  obtain ⟨sz, nx, jp, rg, ce, ki, fd, fa, fb⟩ := u
  have hJ : ba_J sz nx ki fd fa fb := hJ
  by_cases h0 : v1 < 0
  · exact br_t h0 (br_t rfl (br_t h0 ⟨rfl, rfl, hJ⟩))
  by_cases h16 : 16 ≤ v1
  · have h15 : ¬ v1 ≤ 15 := by
      simp only [Int32.le_iff_toInt_le, ba_n15, ba_n16] at *
      omega
    exact br_f h0 (br_t h16 (br_t rfl (br_f h0 (br_f h15 ⟨rfl, rfl, hJ⟩))))
  · have h15 : v1 ≤ 15 := by
      simp only [Int32.le_iff_toInt_le, ba_n15, ba_n16] at *
      omega
    have hin : vp_in v1 16 := by
      simp only [vp_in_iff, Int32.lt_iff_toInt_lt, Int32.le_iff_toInt_le, ba_n0, ba_n15] at *
      omega
    exact br_f h0 (br_f h16 (br_f (by decide) ⟨hin, br_f h0 (br_t h15 ⟨hin, rfl, rfl, hJ⟩)⟩))
theorem i_vc_restart {k : Nat} {u : SX} {v : SY} (I : i_Rel k u v) (hk : k + 5 ≤ 2560) : wpX_restart (fun u' => wpY_restart (fun v' => i_Rel (k + 5) u' v') v) u := by
  obtain ⟨rfl, hJ⟩ := I
  obtain ⟨sz, nx, jp, rg, ce, ki, fd, fa, fb⟩ := u
  have hJ : ba_J sz nx ki fd fa fb := hJ
  exact ⟨rfl, ba_home hJ⟩
theorem i_vc_run {k : Nat} {u : SX} {v : SY} (I : i_Rel k u v) (hk : k + 5 ≤ 2560) (v1 : Int32) : wpX_run (fun r u' => wpY_run (fun r' v' => r' = r ∧ i_Rel (k + 5) u' v') v v1) u v1 := by
  obtain ⟨rfl, hJ⟩ := I
  obtain ⟨sz, nx, jp, rg, ce, ki, fd, fa, fb⟩ := u
  have hJ : ba_J sz nx ki fd fa fb := hJ
  by_cases h0 : v1 < 0
  · exact br_t h0 (br_t h0 ⟨rfl, rfl, hJ⟩)
  by_cases h4 : v1 ≤ 400
  case neg => exact br_f h0 (br_f h4 (br_f h0 (br_f h4 ⟨rfl, rfl, hJ⟩)))
  obtain ⟨s, hs, rfl⟩ := nI_of2 (n := 400) ba_n400 h0 h4
  obtain ⟨r, nx', jp', rg', ce', hJ', hX, hY⟩ := ba_loop s hs sz ki fd fa fb s 0 nx jp rg ce (by omega) hJ
  rw [nI_0] at hX hY
  exact br_f h0 (br_t h4 ⟨_, hX _ (br_f h0 (br_t h4 ⟨_, hY _ ⟨rfl, rfl, hJ'⟩⟩))⟩)
theorem i_vc_place {k : Nat} {u : SX} {v : SY} (I : i_Rel k u v) (hk : k + 5 ≤ 2560) : wpX_place (fun r => wpY_place (fun r' => r' = r ∧ i_Rel (k + 5) u v) v) u := by
  obtain ⟨rfl, hJ⟩ := I
  obtain ⟨sz, nx, jp, rg, ce, ki, fd, fa, fb⟩ := u
  have hJ : ba_J sz nx ki fd fa fb := hJ
  by_cases c : sz ≤ nx
  · exact br_t c (br_t c ⟨rfl, rfl, hJ⟩)
  · exact br_f c (br_f c ⟨rfl, rfl, hJ⟩)
theorem i_vc_over {k : Nat} {u : SX} {v : SY} (I : i_Rel k u v) (hk : k + 5 ≤ 2560) : wpX_over (fun r => wpY_over (fun r' => r' = r ∧ i_Rel (k + 5) u v) v) u := by
  obtain ⟨rfl, hJ⟩ := I
  obtain ⟨sz, nx, jp, rg, ce, ki, fd, fa, fb⟩ := u
  have hJ : ba_J sz nx ki fd fa fb := hJ
  by_cases c : sz ≤ nx
  · exact br_t c (br_t c ⟨rfl, rfl, hJ⟩)
  · exact br_f c (br_f c ⟨rfl, rfl, hJ⟩)
theorem i_vc_jumps {k : Nat} {u : SX} {v : SY} (I : i_Rel k u v) (hk : k + 5 ≤ 2560) : wpX_jumps (fun r => wpY_jumps (fun r' => r' = r ∧ i_Rel (k + 5) u v) v) u := by
  obtain ⟨rfl, hJ⟩ := I
  obtain ⟨sz, nx, jp, rg, ce, ki, fd, fa, fb⟩ := u
  have hJ : ba_J sz nx ki fd fa fb := hJ
  exact ⟨rfl, rfl, hJ⟩
