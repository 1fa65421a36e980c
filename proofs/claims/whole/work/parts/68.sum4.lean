/-! The sum answers alike: all kinds. -/
theorem sum_s {i md n1 n2 : Nat} (hi : i < 2) (fl : Int32) (h1 : n1 < 2 ^ 64) (h2 : n2 < 2 ^ 64) : C_U_sum (nI md) fl i (lN n1) (lN n2) = C_U_sum_19 (nI md) fl i (lN n1) (lN n2) (decide (dS i n1 = dS i n2)) := by
  rw [C_U_sum, F_minus hi h1, F_minus hi h2]
  rcases dS_01 i n1 with a | a <;> rcases dS_01 i n2 with b | b <;> rw [a, b]
  · rw [if_pos rfl]; rfl
  · rw [if_neg (by decide)]; rfl
  · rw [if_neg (by decide)]; rfl
  · rw [if_pos rfl]; rfl
theorem own_V {i n : Nat} (h : n < 2 * zS i) : lN n = zV i (dS i n) (dM i n) := by
  rw [zV, ← own_split h]
theorem sum_eq {i md n1 n2 : Nat} (hi : i < 2) (hm : md ≤ 3) (fl : Int32) (row oth : Nat → Int32) (h1 : n1 < 2 * zS i) (h2 : n2 < 2 * zS i) (g1 : dM i n1 ≤ zI i) (g2 : dM i n2 ≤ zI i) (hN : C_M_none (nI (zP i)) (nI (zB i)) = C_F_none i) :
    (C_M_sum (nI md) fl (nI (dK i n1)) (nI (dK i n2)) (nI (dS i n1)) (iI (dE i n1)) (iI (dE i n2)) (lN (dP i n1)) (lN (dP i n2)) (nI (zP i)) (nI (zB i)) row oth (nI (dS i n2))).1 = (C_U_sum (nI md) fl i (lN n1) (lN n2)).1 ∧ (C_M_sum (nI md) fl (nI (dK i n1)) (nI (dK i n2)) (nI (dS i n1)) (iI (dE i n1)) (iI (dE i n2)) (lN (dP i n1)) (lN (dP i n2)) (nI (zP i)) (nI (zB i)) row oth (nI (dS i n2))).2.1 = (C_U_sum (nI md) fl i (lN n1) (lN n2)).2 := by
  have hzl := zL_lt hi
  have hzp := zL_pos i
  have hz2 : 2 * zS i ≤ 2 ^ 64 := by have := @zS_le i; omega
  have q1 : n1 < 2 ^ 64 := Nat.lt_of_lt_of_le h1 hz2
  have q2 : n2 < 2 ^ 64 := Nat.lt_of_lt_of_le h2 hz2
  have p63a : dP i n1 < 2 ^ 63 := Nat.lt_trans (dP_lt hi n1) (by decide)
  have p63b : dP i n2 < 2 ^ 63 := Nat.lt_trans (dP_lt hi n2) (by decide)
  have z1 : (lN (dP i n1) = 0) ↔ dP i n1 = 0 := lN_e0 p63a
  have z2 : (lN (dP i n2) = 0) ↔ dP i n2 = 0 := lN_e0 p63b
  have k21 : (nI 2 = 1) = False := eq_false (by decide)
  have k11 : (nI 1 = 1) = True := eq_true (by decide)
  have c3 : nI md = 3 ↔ md = 3 := md_e hm (by decide)
  have ks : (nI (dS i n1) = nI (dS i n2)) = (dS i n1 = dS i n2) := propext (nI_01 (dS_le _ _) (dS_le _ _))
  rw [sum_s hi fl q1 q2, C_U_sum_19, sum_c hi hm fl q1 q2, F_isEnd hi q1, F_isEnd hi q2, C_M_sum, endl_i hi (dS_le _ _), endl_i hi (dS_le _ _), made_0 hi (dS_le _ _), C_M_invalid, hN, C_U_invalid]
  rcases dK_cases i n1 with ⟨a, e⟩ | ⟨a, e⟩ | ⟨a, e⟩
  · omega
  · have hV : lN n1 = zV i (dS i n1) (zI i) := by rw [own_V h1, a]
    rw [e, decide_eq_true a]
    rcases dK_cases i n2 with ⟨b, e'⟩ | ⟨b, e'⟩ | ⟨b, e'⟩
    · omega
    · rw [e', decide_eq_true b]
      by_cases hs : dS i n1 = dS i n2
      · rw [decide_eq_true hs]
        simp only [k11, ks, hs, if_true]
        rw [hs] at hV
        exact ⟨hV.symm, rfl⟩
      · rw [decide_eq_false hs]
        simp only [k11, ks, hs, if_true, if_false]
        exact ⟨rfl, rfl⟩
    · rw [e', decide_eq_false (show ¬ dM i n2 = zI i by omega)]
      simp only [k11, k21, if_true, if_false]
      exact ⟨hV.symm, rfl⟩
  · rw [e, decide_eq_false (show ¬ dM i n1 = zI i by omega)]
    rcases dK_cases i n2 with ⟨b, e'⟩ | ⟨b, e'⟩ | ⟨b, e'⟩
    · omega
    · have hV : lN n2 = zV i (dS i n2) (zI i) := by rw [own_V h2, b]
      rw [e', decide_eq_true b]
      simp only [k11, k21, if_true, if_false]
      exact ⟨hV.symm, rfl⟩
    · rw [e', decide_eq_false (show ¬ dM i n2 = zI i by omega)]
      simp only [k21, if_true, if_false]
      by_cases c : dP i n1 = 0 ∧ dP i n2 = 0
      · rw [if_pos (z1.2 c.1), if_pos (z2.2 c.2), c.1, c.2, sR]
        by_cases hs : dS i n1 = dS i n2
        · rw [if_pos ((nI_01 (dS_le _ _) (dS_le _ _)).2 hs), if_pos hs, if_pos (show 0 * 2 ^ dX i n1 + 0 * 2 ^ dX i n2 = 0 by rw [Nat.zero_mul, Nat.zero_mul]), hs]
          exact ⟨rfl, rfl⟩
        · rw [if_neg (fun q => hs ((nI_01 (dS_le _ _) (dS_le _ _)).1 q)), if_neg hs, if_pos (show 0 * 2 ^ dX i n1 = 0 * 2 ^ dX i n2 by rw [Nat.zero_mul, Nat.zero_mul])]
          by_cases h3 : md = 3
          · rw [if_pos (c3.2 h3), if_pos h3]
            exact ⟨made_0 (s := 1) hi (by decide), rfl⟩
          · rw [if_neg (fun q => h3 (c3.1 q)), if_neg h3]
            exact ⟨made_0 (s := 0) hi (by decide), rfl⟩
      · have M := sum_m hi hm fl a b c
        by_cases d : dP i n1 = 0
        · rw [if_pos (z1.2 d), if_neg (fun q => c ⟨d, z2.1 q⟩)]
          exact M
        · rw [if_neg (fun q => d (z1.1 q))]
          exact M
