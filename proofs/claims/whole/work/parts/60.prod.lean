/-! The class's product as a number. -/
theorem bI_e (a b : Bool) : (bI a = bI b) ↔ a = b := by cases a <;> cases b <;> decide
theorem prod_r {i md n1 n2 : Nat} (hi : i < 2) (hm : md ≤ 3) (fl : Int32) (sg : Bool) (h1 : n1 < 2 ^ 64) (h2 : n2 < 2 ^ 64) (p1 : dP i n1 ≠ 0) (p2 : dP i n2 ≠ 0) : C_U_rounded (nI md) fl i sg (C_U_upperProduct (jShl (C_F_significand i (lN n1)) 10) (jShl (C_F_significand i (lN n2)) 10)) ((((C_F_power i (lN n1)) + (C_F_power i (lN n2))) - 20) + 64) = zRes i sg fl (zround i md sg (dP i n1 * dP i n2) (dE i n1 + dE i n2) false) := by
  have s1 := sig_lt hi p1
  have s2 := sig_lt hi p2
  have E1 := dE_s hi n1
  have E2 := dE_s hi n2
  have l1 : lf i n1 ≤ 52 := by unfold lf; omega
  have l2 : lf i n2 ≤ 52 := by unfold lf; omega
  have hz := z_prod i md sg (lx := lf i n1) (ly := lf i n2) (dE i n1) (dE i n2) s1.2 s2.2
  rw [F_sig hi h1 p1, F_sig hi h2 p2, F_pow hi h1 p1, F_pow hi h2 p2, show (10 : Int32) = nI 10 from rfl, jShl_lN _ (by decide), jShl_lN _ (by decide)]
  generalize ha : dP i n1 * 2 ^ lf i n1 = a at *
  generalize hb : dP i n2 * 2 ^ lf i n2 = b at *
  rw [upper_n (by omega) (by omega), iI_add, show (20 : Int32) = iI 20 from rfl, show (64 : Int32) = iI 64 from rfl, iI_sub, iI_add]
  have hge : 2 ^ 62 * 2 ^ 62 ≤ a * 2 ^ 10 * (b * 2 ^ 10) := Nat.mul_le_mul (by omega) (by omega)
  have hlt : a * 2 ^ 10 * (b * 2 ^ 10) < 2 ^ 63 * 2 ^ 63 := Nat.mul_lt_mul'' (by omega) (by omega)
  have hst : zst (a * 2 ^ 10 * (b * 2 ^ 10)) 64 < 2 ^ 64 ∧ zst (a * 2 ^ 10 * (b * 2 ^ 10)) 64 ≠ 0 := by
    generalize a * 2 ^ 10 * (b * 2 ^ 10) = c at *
    unfold zst
    split <;> omega
  rw [rounded_n hi hm fl sg hst.1 hst.2 (by omega), ← hz]
