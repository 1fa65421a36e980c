/-! 'work' answers alike: the whole call. -/
theorem in4 {k : Int32} : C_M_in k 4 = true ↔ (¬ k < 0 ∧ k ≤ 4) := by
  rw [C_M_in]
  by_cases h1 : k < 0
  · simp [h1]
  · rw [if_neg h1]
    by_cases h2 : 4 < k
    · rw [if_pos h2]
      have : ¬ k ≤ 4 := fun g => by rw [Int32.le_iff_toInt_le] at g; rw [Int32.lt_iff_toInt_lt] at h2; omega
      simp [this]
    · rw [if_neg h2]
      have : k ≤ 4 := by rw [Int32.le_iff_toInt_le]; rw [Int32.lt_iff_toInt_lt] at h2; omega
      simp [h1, this]
theorem in4f {k : Int32} (h : ¬ (¬ k < 0 ∧ k ≤ 4)) : C_M_in k 4 = false := by
  rcases hb : C_M_in k 4 with _ | _
  · rfl
  · exact absurd (in4.1 hb) h
theorem op_cases {k : Int32} (g0 : ¬ k < 0) (g1 : k ≤ 4) : k = 0 ∨ k = 1 ∨ k = 2 ∨ k = 3 ∨ k = 4 := by
  obtain ⟨z, hz, rfl⟩ := iI_of k
  have c0 : iI z < 0 ↔ z < 0 := iI_lt (b := 0) hz ⟨by decide, by decide⟩
  have c1 : iI z ≤ 4 ↔ z ≤ 4 := iI_le (b := 4) hz ⟨by decide, by decide⟩
  rw [c0] at g0
  rw [c1] at g1
  rcases (show z = 0 ∨ z = 1 ∨ z = 2 ∨ z = 3 ∨ z = 4 by omega) with rfl | rfl | rfl | rfl | rfl
  · exact Or.inl rfl
  · exact Or.inr (Or.inl rfl)
  · exact Or.inr (Or.inr (Or.inl rfl))
  · exact Or.inr (Or.inr (Or.inr (Or.inl rfl)))
  · exact Or.inr (Or.inr (Or.inr (Or.inr rfl)))
theorem work_m {md fl kx ky sx sy px py : Int32} {fx fy : Int64} {pr bi : Int32} {row oth : Nat → Int32} {rg : Nat → Int64} {k1 : Int32} {z : Bool} {k3 k4 k5 : Int32} (h3 : vp_in k3 16) (h4 : vp_in k4 16) (h5 : vp_in k5 16) (g : ¬ k1 < 0 ∧ k1 ≤ 4) :
    (C_M_work md fl kx ky sx sy px py fx fy pr bi row oth rg k1 z k3 k4 k5).1 = (mW md fl (fi z) (uL (rg k4.toNatClampNeg)) (uL (rg k5.toNatClampNeg)) row oth k1).1 ∧ (C_M_work md fl kx ky sx sy px py fx fy pr bi row oth rg k1 z k3 k4 k5).2.1 = (mW md fl (fi z) (uL (rg k4.toNatClampNeg)) (uL (rg k5.toNatClampNeg)) row oth k1).2 ∧ (C_M_work md fl kx ky sx sy px py fx fy pr bi row oth rg k1 z k3 k4 k5).2.2.1 = 0 ∧ (C_M_work md fl kx ky sx sy px py fx fy pr bi row oth rg k1 z k3 k4 k5).2.2.2.2.2.2.2.2.2.2.2.2.2.2.2 = vp_updL rg k3.toNatClampNeg (C_M_work md fl kx ky sx sy px py fx fy pr bi row oth rg k1 z k3 k4 k5).1 := by
  have hT : C_M_takeBoth (C_M_format z).1 (C_M_format z).2 rg k4 k5 = (nI (dK (fi z) (uL (rg k4.toNatClampNeg))), nI (dK (fi z) (uL (rg k5.toNatClampNeg))), nI (dS (fi z) (uL (rg k4.toNatClampNeg))), nI (dS (fi z) (uL (rg k5.toNatClampNeg))), iI (dE (fi z) (uL (rg k4.toNatClampNeg))), iI (dE (fi z) (uL (rg k5.toNatClampNeg))), lN (dP (fi z) (uL (rg k4.toNatClampNeg))), lN (dP (fi z) (uL (rg k5.toNatClampNeg)))) := by
    rw [C_M_takeBoth, take_spec, take_spec]
  have f1 : (C_M_format z).1 = nI (zP (fi z)) := by cases z <;> decide
  have f2 : (C_M_format z).2 = nI (zB (fi z)) := by cases z <;> decide
  rw [C_M_work, if_neg (by rw [in15.2 h3]; decide), if_neg (by rw [in15.2 h4]; decide), if_neg (by rw [in15.2 h5]; decide), if_neg (by rw [in4.2 g]; decide), hT, f1, f2, mW]
  dsimp only
  by_cases c1 : nI (dK (fi z) (uL (rg k4.toNatClampNeg))) = 0
  · rw [if_pos c1, if_pos c1]
    exact ⟨rfl, rfl, rfl, rfl⟩
  · rw [if_neg c1, if_neg c1]
    by_cases c2 : nI (dK (fi z) (uL (rg k5.toNatClampNeg))) = 0
    · rw [if_pos c2, if_pos c2]
      exact ⟨rfl, rfl, rfl, rfl⟩
    · rw [if_neg c2, if_neg c2]
      by_cases c3 : 2 ≤ k1
      · rw [if_pos c3, if_pos c3]
        by_cases c4 : k1 = 2
        · rw [if_pos c4, if_pos c4]
          exact ⟨rfl, rfl, rfl, rfl⟩
        · rw [if_neg c4, if_neg c4]
          by_cases c5 : k1 = 3
          · rw [if_pos c5, if_pos c5]
            exact ⟨rfl, rfl, rfl, rfl⟩
          · rw [if_neg c5, if_neg c5]
            exact ⟨rfl, rfl, rfl, rfl⟩
      · rw [if_neg c3, if_neg c3]
        by_cases c4 : k1 = 1
        · rw [if_pos c4, if_pos c4]
          exact ⟨rfl, rfl, rfl, rfl⟩
        · rw [if_neg c4, if_neg c4]
          exact ⟨rfl, rfl, rfl, rfl⟩
theorem mW_own (md fl : Int32) (i n1 n2 : Nat) (row oth : Nat → Int32) (k1 : Int32) : mW md fl i (n1 % (2 * zS i)) (n2 % (2 * zS i)) row oth k1 = mW md fl i n1 n2 row oth k1 := by
  unfold mW
  rw [own_dK, own_dK, own_dS, own_dS, own_dE, own_dE, own_dP, own_dP]
theorem work_all {md fl kx ky sx sy px py : Int32} {fx fy : Int64} {pr bi : Int32} {row oth : Nat → Int32} {rg : Nat → Int64} {k1 : Int32} {z : Bool} {k3 k4 k5 : Int32} (hk : MK md) (h3 : vp_in k3 16) (h4 : vp_in k4 16) (h5 : vp_in k5 16) (g : ¬ k1 < 0 ∧ k1 ≤ 4) :
    (C_M_work md fl kx ky sx sy px py fx fy pr bi row oth rg k1 z k3 k4 k5).1 = (C_U_work md fl rg k1 z k3 k4 k5).1 ∧ (C_M_work md fl kx ky sx sy px py fx fy pr bi row oth rg k1 z k3 k4 k5).2.1 = (C_U_work md fl rg k1 z k3 k4 k5).2 := by
  obtain ⟨m, hm, rfl⟩ := md_of hk
  have M := work_m (md := nI m) (fl := fl) (kx := kx) (ky := ky) (sx := sx) (sy := sy) (px := px) (py := py) (fx := fx) (fy := fy) (pr := pr) (bi := bi) (row := row) (oth := oth) (rg := rg) (z := z) h3 h4 h5 g
  have hi : fi z < 2 := by cases z <;> decide
  have hN : C_M_none (nI (zP (fi z))) (nI (zB (fi z))) = C_F_none (fi z) := by cases z <;> decide +kernel
  have hx1 := lN_uL (rg k4.toNatClampNeg)
  have hx2 := lN_uL (rg k5.toNatClampNeg)
  have u1 := uL_64 (rg k4.toNatClampNeg)
  have u2 := uL_64 (rg k5.toNatClampNeg)
  rw [M.1, M.2.1, C_U_work, show C_U_format z = fi z from by cases z <;> rfl]
  generalize uL (rg k4.toNatClampNeg) = n1 at *
  generalize uL (rg k5.toNatClampNeg) = n2 at *
  rw [hx1, hx2, F_own hi u1, F_own hi u2, ← mW_eq hi hm fl row oth (own_lt n1) (own_lt n2) hN (op_cases g.1 g.2), mW_own]
  exact ⟨rfl, rfl⟩
theorem pr_work (l : Launch) (hlt : l.stackTraces = false) : PR_work l := by
  intro k1 z k3 k4 k5 ad D cA cI cL h0 r0 o0 m0 ra rb rc md fl rg f S hk hc
  obtain ⟨⟨a1, a2, a3, a4, a5, a6, a7, a8, a9⟩, ⟨b1, b2⟩, ⟨c1, c2⟩, d1, d2, d3⟩ := S
  obtain ⟨rfl, rfl, rfl⟩ : a1 = md ∧ a2 = fl ∧ d3 = rg := hc
  by_cases hv : vp_in k3 16 ∧ vp_in k4 16 ∧ vp_in k5 16 ∧ ¬ k1 < 0 ∧ k1 ≤ 4
  · have e := work_all (fl := a2) (kx := a4) (ky := a5) (sx := a6) (sy := a7) (px := a8) (py := a9) (fx := b1) (fy := b2) (pr := c1) (bi := c2) (row := d1) (oth := d2) (rg := d3) (z := z) hk hv.1 hv.2.1 hv.2.2.1 hv.2.2.2
    have w := work_m (md := a1) (fl := a2) (kx := a4) (ky := a5) (sx := a6) (sy := a7) (px := a8) (py := a9) (fx := b1) (fy := b2) (pr := c1) (bi := c2) (row := d1) (oth := d2) (rg := d3) (z := z) hv.1 hv.2.1 hv.2.2.1 hv.2.2.2
    exact ⟨0, a1, _, _, _, _, _, c_L_work l ad D cA h0 r0 o0 a1 a2 d3 f k1 z k3 k4 k5 hv.1 hv.2.1 hv.2.2.1 hv.2.2.2.1 hv.2.2.2.2, c_M_work l D cI cL m0 ra rb rc a1 a2 a3 a4 a5 a6 a7 a8 a9 b1 b2 c1 c2 d1 d2 d3 k1 z k3 k4 k5, w.2.2.1, fun _ => by rw [upd0, e.1], hk, rfl, e.2, by rw [← e.1]; exact w.2.2.2⟩
  · have e : C_M_work a1 a2 a4 a5 a6 a7 a8 a9 b1 b2 c1 c2 d1 d2 d3 k1 z k3 k4 k5 = (0, a2, bI true, a4, a5, a6, a7, a8, a9, b1, b2, c1, c2, d1, d2, d3) := by
      rw [C_M_work]
      by_cases h3 : vp_in k3 16
      · rw [if_neg (by rw [in15.2 h3]; decide)]
        by_cases h4 : vp_in k4 16
        · rw [if_neg (by rw [in15.2 h4]; decide)]
          by_cases h5 : vp_in k5 16
          · rw [if_neg (by rw [in15.2 h5]; decide), if_pos (in4f (fun q => hv ⟨h3, h4, h5, q⟩))]
          · rw [if_pos (in15f h5)]
        · rw [if_pos (in15f h4)]
      · rw [if_pos (in15f h3)]
    refine ⟨1, a1, a2, d3, f, _, _, t_L_work l ad D cA h0 r0 o0 a1 a2 d3 f k1 z k3 k4 k5 hlt hv, c_M_work l D cI cL m0 ra rb rc a1 a2 a3 a4 a5 a6 a7 a8 a9 b1 b2 c1 c2 d1 d2 d3 k1 z k3 k4 k5, ?_, fun h => absurd h (by decide), hk, rfl, ?_, ?_⟩ <;> (rw [e]) <;> rfl
