/-! product answers alike. -/
def xs9 (a b : Nat) : Nat := if a = b then 0 else 1
theorem xor_n {a b : Nat} (ha : a ≤ 1) (hb : b ≤ 1) : nI a ^^^ nI b = nI (xs9 a b) := by
  rcases (show a = 0 ∨ a = 1 by omega) with rfl | rfl <;> rcases (show b = 0 ∨ b = 1 by omega) with rfl | rfl <;> decide
theorem xs_le (a b : Nat) : xs9 a b ≤ 1 := by unfold xs9; split <;> omega
theorem xs_d (a b : Nat) : decide (xs9 a b = 1) = decide (a ≠ b) := by
  unfold xs9
  by_cases h : a = b <;> simp [h]
theorem xs_b (a b : Nat) : (if decide (a ≠ b) = false then 0 else 1) = xs9 a b := by
  unfold xs9
  by_cases h : a = b <;> simp [h]
theorem prod_s {i md n1 n2 : Nat} (hi : i < 2) (fl : Int32) (h1 : n1 < 2 ^ 64) (h2 : n2 < 2 ^ 64) : C_U_product (nI md) fl i (lN n1) (lN n2) = C_U_product_43 (nI md) fl i (lN n1) (lN n2) (decide (dS i n1 ≠ dS i n2)) (decide (dM i n1 = 0 ∨ dM i n2 = 0)) := by
  have e : ∀ v : Bool, C_U_product_19 (nI md) fl i (lN n1) (lN n2) v = C_U_product_43 (nI md) fl i (lN n1) (lN n2) v (decide (dM i n1 = 0 ∨ dM i n2 = 0)) := by
    intro v
    rw [C_U_product_19, F_isZero hi h1, F_isZero hi h2]
    by_cases a : dM i n1 = 0
    · rw [decide_eq_true a, if_neg (show ¬ true = false by decide), decide_eq_true (Or.inl a)]
    · rw [decide_eq_false a, if_pos rfl]
      by_cases b : dM i n2 = 0
      · rw [decide_eq_true b, if_neg (show ¬ true = false by decide), decide_eq_true (Or.inr b)]
      · rw [decide_eq_false b, if_pos rfl, decide_eq_false (fun q => q.elim a b)]
  rw [C_U_product, F_minus hi h1, F_minus hi h2, e, e]
  rcases dS_01 i n1 with a | a <;> rcases dS_01 i n2 with b | b <;> rw [a, b]
  · rw [if_pos rfl]; rfl
  · rw [if_neg (by decide)]; rfl
  · rw [if_neg (by decide)]; rfl
  · rw [if_pos rfl]; rfl
theorem prod_eq {i md n1 n2 : Nat} (hi : i < 2) (hm : md ≤ 3) (fl : Int32) (row : Nat → Int32) (h1 : n1 < 2 ^ 64) (h2 : n2 < 2 ^ 64) (g1 : dM i n1 ≤ zI i) (g2 : dM i n2 ≤ zI i) (hN : C_M_none (nI (zP i)) (nI (zB i)) = C_F_none i) :
    (C_M_product (nI md) fl (nI (dK i n1)) (nI (dK i n2)) (nI (dS i n1)) (nI (dS i n2)) (iI (dE i n1)) (iI (dE i n2)) (lN (dP i n1)) (lN (dP i n2)) (nI (zP i)) (nI (zB i)) row).1 = (C_U_product (nI md) fl i (lN n1) (lN n2)).1 ∧ (C_M_product (nI md) fl (nI (dK i n1)) (nI (dK i n2)) (nI (dS i n1)) (nI (dS i n2)) (iI (dE i n1)) (iI (dE i n2)) (lN (dP i n1)) (lN (dP i n2)) (nI (zP i)) (nI (zB i)) row).2.1 = (C_U_product (nI md) fl i (lN n1) (lN n2)).2 := by
  have hzl := zL_lt hi
  have hzp := zL_pos i
  have p63a : dP i n1 < 2 ^ 63 := Nat.lt_trans (dP_lt hi n1) (by decide)
  have p63b : dP i n2 < 2 ^ 63 := Nat.lt_trans (dP_lt hi n2) (by decide)
  have z1 : (lN (dP i n1) = 0) ↔ dM i n1 = 0 := by rw [lN_e0 p63a]; exact dP_0 n1
  have z2 : (lN (dP i n2) = 0) ↔ dM i n2 = 0 := by rw [lN_e0 p63b]; exact dP_0 n2
  have hx := xs_le (dS i n1) (dS i n2)
  have k21 : (nI 2 = 1) = False := eq_false (by decide)
  have k12 : (nI 1 = 2) = False := eq_false (by decide)
  have k11 : (nI 1 = 1) = True := eq_true (by decide)
  have k22 : (nI 2 = 2) = True := eq_true (by decide)
  rw [prod_s hi fl h1 h2, C_U_product_43, F_isEnd hi h1, F_isEnd hi h2, C_M_product, xor_n (dS_le _ _) (dS_le _ _), endl_i hi hx, made_0 hi hx, C_M_invalid, hN, C_U_invalid, C_F_endless, fEn_n hi, F_signed hi (zI_lt hi), xs_b, C_F_zero, show (C_F_signed i (decide (dS i n1 ≠ dS i n2)) 0) = zV i (xs9 (dS i n1) (dS i n2)) 0 from by
    have := F_signed (a := 0) hi zS_pos (decide (dS i n1 ≠ dS i n2))
    rw [xs_b] at this
    exact this]
  rcases dK_cases i n1 with ⟨a, e⟩ | ⟨a, e⟩ | ⟨a, e⟩
  · omega
  · have nz : ¬ dM i n1 = 0 := by omega
    rw [e, decide_eq_true a]
    rcases dK_cases i n2 with ⟨b, e'⟩ | ⟨b, e'⟩ | ⟨b, e'⟩
    · omega
    · rw [e', decide_eq_false (show ¬ (dM i n1 = 0 ∨ dM i n2 = 0) by omega)]
      simp only [k11, k12, if_true, if_false]
      exact ⟨rfl, rfl⟩
    · by_cases c : dM i n2 = 0
      · rw [e', decide_eq_true (Or.inr c)]
        simp only [k11, k12, k22, if_true, if_false, z2, c]
        exact ⟨rfl, rfl⟩
      · rw [e', decide_eq_false (show ¬ (dM i n1 = 0 ∨ dM i n2 = 0) by omega)]
        simp only [k11, k12, k22, if_true, if_false, z2, c]
        exact ⟨rfl, rfl⟩
  · rw [e, decide_eq_false (show ¬ dM i n1 = zI i by omega)]
    rcases dK_cases i n2 with ⟨b, e'⟩ | ⟨b, e'⟩ | ⟨b, e'⟩
    · omega
    · by_cases c : dM i n1 = 0
      · rw [e', decide_eq_true b, decide_eq_true (Or.inl c)]
        simp only [k11, k12, k22, k21, if_true, if_false, z1, c]
        exact ⟨rfl, rfl⟩
      · rw [e', decide_eq_true b, decide_eq_false (show ¬ (dM i n1 = 0 ∨ dM i n2 = 0) by omega)]
        simp only [k11, k12, k22, k21, if_true, if_false, z1, c]
        exact ⟨rfl, rfl⟩
    · rw [e', decide_eq_false (show ¬ dM i n2 = zI i by omega)]
      by_cases c : dM i n1 = 0
      · rw [decide_eq_true (Or.inl c)]
        simp only [k21, if_false, z1, c, if_true]
        exact ⟨rfl, rfl⟩
      · by_cases d : dM i n2 = 0
        · rw [decide_eq_true (Or.inr d)]
          simp only [k21, if_false, z1, z2, c, d, if_true]
          exact ⟨rfl, rfl⟩
        · rw [decide_eq_false (show ¬ (dM i n1 = 0 ∨ dM i n2 = 0) by omega)]
          simp only [k21, if_false, z1, z2, c, d, if_true]
          have q1 : dP i n1 ≠ 0 := fun q => c ((dP_0 n1).1 q)
          have q2 : dP i n2 ≠ 0 := fun q => d ((dP_0 n2).1 q)
          have E1 := dE_s hi n1
          have E2 := dE_s hi n2
          have b1 := dP_lt hi n1
          have b2 := dP_lt hi n2
          have hb : dP i n1 * dP i n2 < 2 ^ 53 * 2 ^ 53 := Nat.mul_lt_mul'' b1 b2
          rw [prod_r hi hm fl _ h1 h2 q1 q2, C_M_product_99, show uL (lN (dP i n1)) = dP i n1 from wb_tn (by omega), show uL (lN (dP i n2)) = dP i n2 from wb_tn (by omega), iI_add, mrounded_n hi hm hx fl false (Nat.mul_ne_zero q1 q2) (Nat.lt_of_lt_of_le hb (by rw [← Nat.pow_add]; exact Nat.pow_le_pow_right (by decide) (by decide))) (by omega), xs_d]
          exact ⟨rfl, rfl⟩
