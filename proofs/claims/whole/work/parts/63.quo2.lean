/-! The class's quotient rounds as the reference's. -/
theorem quo_r {i md n1 n2 : Nat} (hi : i < 2) (hm : md ≤ 3) (fl : Int32) (sg : Bool) (h1 : n1 < 2 ^ 64) (h2 : n2 < 2 ^ 64) (p1 : dP i n1 ≠ 0) (p2 : dP i n2 ≠ 0) : C_U_quotient_146_0 (nI md) fl i sg (C_F_significand i (lN n2)) ((C_F_significand i (lN n1)) - (C_F_significand i (lN n1)) / (C_F_significand i (lN n2)) * (C_F_significand i (lN n2))) ((C_F_significand i (lN n1)) / (C_F_significand i (lN n2))) ((C_F_power i (lN n1)) - (C_F_power i (lN n2))) = zRes i sg fl (zround i md sg (dP i n1 * 2 ^ 120 / dP i n2) (dE i n1 - dE i n2 - 120) (decide (dP i n1 * 2 ^ 120 % dP i n2 ≠ 0))) := by
  have s1 := sig_lt hi p1
  have s2 := sig_lt hi p2
  have E1 := dE_s hi n1
  have E2 := dE_s hi n2
  have l1 : lf i n1 ≤ 52 := by unfold lf; omega
  have l2 : lf i n2 ≤ 52 := by unfold lf; omega
  have hz := z_quot i md sg (lx := lf i n1) (ly := lf i n2) (dE i n1) (dE i n2) l1 (by omega) s1.2 s2.1
  rw [F_sig hi h1 p1, F_sig hi h2 p2, F_pow hi h1 p1, F_pow hi h2 p2]
  generalize ha : dP i n1 * 2 ^ lf i n1 = a at *
  generalize hb : dP i n2 * 2 ^ lf i n2 = b at *
  rw [pk_lRem (by omega) (by omega) (by omega), pk_lDiv (by omega) (by omega) (by omega), iI_sub, quo_6 _ _ _ (by omega) (by omega), hz, C_U_quotient_146_6]
  have hr := Nat.mod_lt (a * 2 ^ 60) (show 0 < b by omega)
  have q1 : 2 ^ 59 ≤ a * 2 ^ 60 / b := (Nat.le_div_iff_mul_le (by omega)).2 (
    calc 2 ^ 59 * b ≤ 2 ^ 59 * 2 ^ 53 := Nat.mul_le_mul_left _ (Nat.le_of_lt s2.1)
      _ = 2 ^ 52 * 2 ^ 60 := by decide
      _ ≤ a * 2 ^ 60 := Nat.mul_le_mul_right _ s1.2)
  have q2 : a * 2 ^ 60 / b < 2 ^ 62 := (Nat.div_lt_iff_lt_mul (by omega)).2 (
    calc a * 2 ^ 60 < 2 ^ 53 * 2 ^ 60 := Nat.mul_lt_mul_of_pos_right s1.1 (by decide)
      _ ≤ 2 ^ 62 * 2 ^ 52 := by decide
      _ ≤ 2 ^ 62 * b := Nat.mul_le_mul_left _ s2.2)
  by_cases g : a * 2 ^ 60 % b = 0
  · rw [if_pos ((lN_e0 (by omega)).2 g), if_neg (fun q => q g), rounded_n hi hm fl sg (by omega) (by omega) (by omega)]
  · rw [if_neg (fun q => g ((lN_e0 (by omega)).1 q)), if_pos g, show (1 : Int64) = lN 1 from rfl, wb_or (by omega) (by decide), z_or1, rounded_n hi hm fl sg (by omega) (by omega) (by omega)]
