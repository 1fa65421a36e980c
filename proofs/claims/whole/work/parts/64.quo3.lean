/-! quotient answers alike. -/
theorem quot_s {i md n1 n2 : Nat} (hi : i < 2) (fl : Int32) (h1 : n1 < 2 ^ 64) (h2 : n2 < 2 ^ 64) : C_U_quotient (nI md) fl i (lN n1) (lN n2) = C_U_quotient_19 (nI md) fl i (lN n1) (lN n2) (decide (dS i n1 ≠ dS i n2)) := by
  rw [C_U_quotient, F_minus hi h1, F_minus hi h2]
  rcases dS_01 i n1 with a | a <;> rcases dS_01 i n2 with b | b <;> rw [a, b]
  · rw [if_pos rfl]; rfl
  · rw [if_neg (by decide)]; rfl
  · rw [if_neg (by decide)]; rfl
  · rw [if_pos rfl]; rfl
theorem sig_0 {i n : Nat} (hi : i < 2) (hn : n < 2 ^ 64) : C_F_significand i (lN n) = 0 ↔ dM i n = 0 := by
  by_cases h : dP i n = 0
  · have e : C_F_significand i (lN n) = 0 := by
      rw [C_F_significand, F_plain hi hn, h]
      decide +kernel
    exact ⟨fun _ => (dP_0 n).1 h, fun _ => e⟩
  · have s := sig_lt hi h
    rw [F_sig hi hn h, lN_e0 (by omega)]
    constructor
    · intro q; omega
    · intro q; exact absurd ((dP_0 n).2 q) h
theorem quot_eq {i md n1 n2 : Nat} (hi : i < 2) (hm : md ≤ 3) (fl : Int32) (row : Nat → Int32) (h1 : n1 < 2 ^ 64) (h2 : n2 < 2 ^ 64) (g1 : dM i n1 ≤ zI i) (g2 : dM i n2 ≤ zI i) (hN : C_M_none (nI (zP i)) (nI (zB i)) = C_F_none i) :
    (C_M_quotient (nI md) fl (nI (dK i n1)) (nI (dK i n2)) (nI (dS i n1)) (nI (dS i n2)) (iI (dE i n1)) (iI (dE i n2)) (lN (dP i n1)) (lN (dP i n2)) (nI (zP i)) (nI (zB i)) row).1 = (C_U_quotient (nI md) fl i (lN n1) (lN n2)).1 ∧ (C_M_quotient (nI md) fl (nI (dK i n1)) (nI (dK i n2)) (nI (dS i n1)) (nI (dS i n2)) (iI (dE i n1)) (iI (dE i n2)) (lN (dP i n1)) (lN (dP i n2)) (nI (zP i)) (nI (zB i)) row).2.1 = (C_U_quotient (nI md) fl i (lN n1) (lN n2)).2 := by
  have hzl := zL_lt hi
  have hzp := zL_pos i
  have p63a : dP i n1 < 2 ^ 63 := Nat.lt_trans (dP_lt hi n1) (by decide)
  have p63b : dP i n2 < 2 ^ 63 := Nat.lt_trans (dP_lt hi n2) (by decide)
  have z1 : (lN (dP i n1) = 0) ↔ dM i n1 = 0 := by rw [lN_e0 p63a]; exact dP_0 n1
  have z2 : (lN (dP i n2) = 0) ↔ dM i n2 = 0 := by rw [lN_e0 p63b]; exact dP_0 n2
  have hx := xs_le (dS i n1) (dS i n2)
  have k21 : (nI 2 = 1) = False := eq_false (by decide)
  have k11 : (nI 1 = 1) = True := eq_true (by decide)
  have s0 := sig_0 hi h2
  rw [quot_s hi fl h1 h2, C_U_quotient_19, F_isEnd hi h1, F_isEnd hi h2, F_isZero hi h1, C_U_quotientByZero, F_isZero hi h1, C_M_quotient, xor_n (dS_le _ _) (dS_le _ _), endl_i hi hx, made_0 hi hx, C_M_invalid, hN, C_U_invalid, C_F_endless, fEn_n hi, F_signed hi (zI_lt hi), xs_b, C_F_zero, show (C_F_signed i (decide (dS i n1 ≠ dS i n2)) 0) = zV i (xs9 (dS i n1) (dS i n2)) 0 from by
    have := F_signed (a := 0) hi zS_pos (decide (dS i n1 ≠ dS i n2))
    rw [xs_b] at this
    exact this]
  rcases dK_cases i n1 with ⟨a, e⟩ | ⟨a, e⟩ | ⟨a, e⟩
  · omega
  · rw [e, decide_eq_true a]
    rcases dK_cases i n2 with ⟨b, e'⟩ | ⟨b, e'⟩ | ⟨b, e'⟩
    · omega
    · rw [e', decide_eq_true b]
      simp only [k11, if_true]
      exact ⟨rfl, rfl⟩
    · rw [e', decide_eq_false (show ¬ dM i n2 = zI i by omega)]
      simp only [k11, k21, if_true, if_false]
      exact ⟨rfl, rfl⟩
  · rw [e, decide_eq_false (show ¬ dM i n1 = zI i by omega)]
    rcases dK_cases i n2 with ⟨b, e'⟩ | ⟨b, e'⟩ | ⟨b, e'⟩
    · omega
    · rw [e', decide_eq_true b]
      simp only [k11, k21, if_true, if_false]
      exact ⟨rfl, rfl⟩
    · rw [e', decide_eq_false (show ¬ dM i n2 = zI i by omega)]
      simp only [k21, if_false, if_true, z1, z2, s0]
      by_cases d : dM i n2 = 0
      · by_cases c : dM i n1 = 0
        · simp only [d, c, if_true]
          exact ⟨rfl, rfl⟩
        · simp only [d, c, if_true, if_false]
          exact ⟨rfl, rfl⟩
      · by_cases c : dM i n1 = 0
        · simp only [d, c, if_true, if_false]
          exact ⟨rfl, rfl⟩
        · have q1 : dP i n1 ≠ 0 := fun q => c ((dP_0 n1).1 q)
          have q2 : dP i n2 ≠ 0 := fun q => d ((dP_0 n2).1 q)
          have E1 := dE_s hi n1
          have E2 := dE_s hi n2
          have b1 := dP_lt hi n1
          have b2 := dP_lt hi n2
          have hq : dP i n1 * 2 ^ 120 / dP i n2 < 2 ^ 2200 := Nat.lt_of_le_of_lt (Nat.div_le_self _ _) (Nat.lt_of_lt_of_le (Nat.mul_lt_mul_of_pos_right b1 (by decide)) (by rw [← Nat.pow_add]; exact Nat.pow_le_pow_right (by decide) (by decide)))
          have hq0 : dP i n1 * 2 ^ 120 / dP i n2 ≠ 0 := by
            have : 1 ≤ dP i n1 * 2 ^ 120 / dP i n2 := (Nat.le_div_iff_mul_le (by omega)).2 (Nat.le_trans (show 1 * dP i n2 ≤ 1 * 2 ^ 120 from Nat.mul_le_mul_left _ (Nat.le_of_lt (Nat.lt_trans b2 (by decide)))) (Nat.mul_le_mul_right _ (by omega)))
            omega
          simp only [d, c, if_false, decide_false, if_true]
          rw [quo_r hi hm fl _ h1 h2 q1 q2, C_M_quotient_112, show uL (lN (dP i n1)) = dP i n1 from wb_tn (by omega), show uL (lN (dP i n2)) = dP i n2 from wb_tn (by omega), iI_sub, show (120 : Int32) = iI 120 from rfl, iI_sub, mrounded_n hi hm hx fl _ hq0 hq (by omega), xs_d]
          exact ⟨rfl, rfl⟩
