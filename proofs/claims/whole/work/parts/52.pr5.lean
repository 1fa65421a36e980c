/-! 'of' answers alike. -/
theorem md_of {md : Int32} (h : MK md) : ∃ k : Nat, k ≤ 3 ∧ md = nI k := by
  rcases pk_ix md (n := 4) (by decide) with g | g | ⟨j, hj, e⟩
  · exact absurd g h.1
  · have h2 := h.2
    rw [Int32.le_iff_toInt_le] at g h2
    have a : (nI 4).toInt = 4 := rfl
    have b : (3 : Int32).toInt = 3 := rfl
    omega
  · exact ⟨j, by omega, e⟩
theorem uL_0 {x : Int64} (h : ¬ x = 0) : uL x ≠ 0 := fun g => h (by rw [lN_uL x, g]; rfl)
theorem of_all {md fl pr bi : Int32} {row : Nat → Int32} {rg : Nat → Int64} {z : Bool} {k2 : Int32} {x : Int64} (hk : MK md) (h2 : vp_in k2 16) : (C_M_of md fl pr bi row rg z k2 x).1 = (C_U_of md fl rg z k2 x).1 ∧ (C_M_of md fl pr bi row rg z k2 x).2.1 = (C_U_of md fl rg z k2 x).2 ∧ (C_M_of md fl pr bi row rg z k2 x).2.2.1 = 0 ∧ (C_M_of md fl pr bi row rg z k2 x).2.2.2.2.2.2 = vp_updL rg k2.toNatClampNeg (C_M_of md fl pr bi row rg z k2 x).1 := by
  obtain ⟨m, hm, rfl⟩ := md_of hk
  have hi := fi_lt z
  have hz : ∀ y : Int64, uL y * 2 ^ (0 : Int32).toInt.toNat = uL y := fun y => by
    rw [show (0 : Int32).toInt.toNat = 0 from rfl, Nat.pow_zero, Nat.mul_one]
  rw [C_M_of, if_neg (by rw [in15.2 h2]; decide), C_U_of, show C_U_format z = fi z from rfl, hz, hz, fmt_P, fmt_B]
  by_cases h0 : x = 0
  · rw [if_pos h0, if_pos h0]
    exact ⟨rfl, rfl, rfl, rfl⟩
  · rw [if_neg h0, if_neg h0]
    have hb : ∀ n : Nat, n < 2 ^ 64 → n < 2 ^ 2200 := fun n h => Nat.lt_trans h (Nat.pow_lt_pow_right (by decide) (by decide))
    by_cases h : 0 ≤ x
    · rw [if_pos h, if_pos h]
      have e1 := mrounded_n (s := 0) (e := 0) hi hm (by decide) fl false (uL_0 h0) (hb _ (uL_64 x)) (by decide)
      have e2 := rounded_n (e := 0) hi hm fl false (uL_64 x) (uL_0 h0) (by decide)
      rw [← lN_uL x] at e2
      have e3 := e1.trans e2.symm
      refine ⟨?_, ?_, rfl, rfl⟩
      · exact congrArg Prod.fst e3
      · exact congrArg Prod.snd e3
    · rw [if_neg h, if_neg h]
      have hn : ¬ -x = 0 := neg_ne h0
      have e1 := mrounded_n (s := 1) (e := 0) hi hm (by decide) fl false (uL_0 hn) (hb _ (uL_64 (-x))) (by decide)
      have e2 := rounded_n (e := 0) hi hm fl true (uL_64 (-x)) (uL_0 hn) (by decide)
      rw [← lN_uL (-x)] at e2
      have e3 := e1.trans e2.symm
      refine ⟨?_, ?_, rfl, rfl⟩
      · exact congrArg Prod.fst e3
      · exact congrArg Prod.snd e3
theorem pr_of (l : Launch) (hlt : l.stackTraces = false) : PR_of l := by
  intro z k2 x ad D cA cI cL h0 r0 o0 m0 ra rb rc md fl rg f S hk hc
  obtain ⟨⟨a1, a2, a3, a4, a5, a6, a7, a8, a9⟩, ⟨b1, b2⟩, ⟨c1, c2⟩, d1, d2, d3⟩ := S
  obtain ⟨rfl, rfl, rfl⟩ : a1 = md ∧ a2 = fl ∧ d3 = rg := hc
  by_cases hv : vp_in k2 16
  · have e := of_all (fl := a2) (pr := c1) (bi := c2) (row := d1) (rg := d3) (z := z) (x := x) hk hv
    exact ⟨0, a1, _, _, _, _, _, c_L_of l ad D cA h0 r0 o0 a1 a2 d3 f z k2 x hv, c_M_of l D cI cL m0 ra rb rc a1 a2 a3 a4 a5 a6 a7 a8 a9 b1 b2 c1 c2 d1 d2 d3 z k2 x, e.2.2.1, fun _ => by rw [upd0, e.1], hk, rfl, e.2.1, by rw [← e.1]; exact e.2.2.2⟩
  · have e : C_M_of a1 a2 c1 c2 d1 d3 z k2 x = (0, a2, bI true, c1, c2, d1, d3) := by
      rw [C_M_of, if_pos (in15f hv)]
    refine ⟨1, a1, a2, d3, f, _, _, t_L_of l ad D cA h0 r0 o0 a1 a2 d3 f z k2 x hlt hv, c_M_of l D cI cL m0 ra rb rc a1 a2 a3 a4 a5 a6 a7 a8 a9 b1 b2 c1 c2 d1 d2 d3 z k2 x, ?_, fun h => absurd h (by decide), hk, rfl, ?_, ?_⟩ <;> (rw [e]) <;> rfl
