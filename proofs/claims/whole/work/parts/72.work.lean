/-! 'work' answers alike. -/
theorem opp_dM {i m : Nat} (n : Nat) : dM i (dM i n + m * zS i) = dM i n := by
  unfold dM
  rw [Nat.add_mul_mod_self_right, Nat.mod_mod]
theorem opp_dS {i m : Nat} (n : Nat) (h : m ≤ 1) : dS i (dM i n + m * zS i) = m := by
  have h1 := @dM_lt i n
  have h2 := @zS_pos i
  unfold dS
  rw [Nat.add_mul_div_right _ _ h2, Nat.div_eq_of_lt h1, Nat.zero_add, Nat.mod_eq_of_lt (by omega)]
def mW (md fl : Int32) (i m1 m2 : Nat) (row oth : Nat → Int32) (k1 : Int32) : Int64 × Int32 :=
  if nI (dK i m1) = 0 then (C_M_none (nI (zP i)) (nI (zB i)), fl)
  else if nI (dK i m2) = 0 then (C_M_none (nI (zP i)) (nI (zB i)), fl)
  else if 2 ≤ k1 then
    if k1 = 2 then ((C_M_product md fl (nI (dK i m1)) (nI (dK i m2)) (nI (dS i m1)) (nI (dS i m2)) (iI (dE i m1)) (iI (dE i m2)) (lN (dP i m1)) (lN (dP i m2)) (nI (zP i)) (nI (zB i)) row).1, (C_M_product md fl (nI (dK i m1)) (nI (dK i m2)) (nI (dS i m1)) (nI (dS i m2)) (iI (dE i m1)) (iI (dE i m2)) (lN (dP i m1)) (lN (dP i m2)) (nI (zP i)) (nI (zB i)) row).2.1)
    else if k1 = 3 then ((C_M_quotient md fl (nI (dK i m1)) (nI (dK i m2)) (nI (dS i m1)) (nI (dS i m2)) (iI (dE i m1)) (iI (dE i m2)) (lN (dP i m1)) (lN (dP i m2)) (nI (zP i)) (nI (zB i)) row).1, (C_M_quotient md fl (nI (dK i m1)) (nI (dK i m2)) (nI (dS i m1)) (nI (dS i m2)) (iI (dE i m1)) (iI (dE i m2)) (lN (dP i m1)) (lN (dP i m2)) (nI (zP i)) (nI (zB i)) row).2.1)
    else ((C_M_rest md fl (nI (dK i m1)) (nI (dK i m2)) (nI (dS i m1)) (iI (dE i m1)) (iI (dE i m2)) (lN (dP i m1)) (lN (dP i m2)) (nI (zP i)) (nI (zB i)) row).1, (C_M_rest md fl (nI (dK i m1)) (nI (dK i m2)) (nI (dS i m1)) (iI (dE i m1)) (iI (dE i m2)) (lN (dP i m1)) (lN (dP i m2)) (nI (zP i)) (nI (zB i)) row).2.1)
  else if k1 = 1 then ((C_M_sum md fl (nI (dK i m1)) (nI (dK i m2)) (nI (dS i m1)) (iI (dE i m1)) (iI (dE i m2)) (lN (dP i m1)) (lN (dP i m2)) (nI (zP i)) (nI (zB i)) row oth (1 - nI (dS i m2))).1, (C_M_sum md fl (nI (dK i m1)) (nI (dK i m2)) (nI (dS i m1)) (iI (dE i m1)) (iI (dE i m2)) (lN (dP i m1)) (lN (dP i m2)) (nI (zP i)) (nI (zB i)) row oth (1 - nI (dS i m2))).2.1)
  else ((C_M_sum md fl (nI (dK i m1)) (nI (dK i m2)) (nI (dS i m1)) (iI (dE i m1)) (iI (dE i m2)) (lN (dP i m1)) (lN (dP i m2)) (nI (zP i)) (nI (zB i)) row oth (nI (dS i m2))).1, (C_M_sum md fl (nI (dK i m1)) (nI (dK i m2)) (nI (dS i m1)) (iI (dE i m1)) (iI (dE i m2)) (lN (dP i m1)) (lN (dP i m2)) (nI (zP i)) (nI (zB i)) row oth (nI (dS i m2))).2.1)
theorem sub_eq {i md m1 m2 : Nat} (hi : i < 2) (hm : md ≤ 3) (fl : Int32) (row oth : Nat → Int32) (h1 : m1 < 2 * zS i) (h2 : m2 < 2 * zS i) (g1 : dM i m1 ≤ zI i) (g2 : dM i m2 ≤ zI i) (hN : C_M_none (nI (zP i)) (nI (zB i)) = C_F_none i) :
    (C_M_sum (nI md) fl (nI (dK i m1)) (nI (dK i m2)) (nI (dS i m1)) (iI (dE i m1)) (iI (dE i m2)) (lN (dP i m1)) (lN (dP i m2)) (nI (zP i)) (nI (zB i)) row oth (1 - nI (dS i m2))).1 = (C_U_sum (nI md) fl i (lN m1) (C_F_opposite i (lN m2))).1 ∧ (C_M_sum (nI md) fl (nI (dK i m1)) (nI (dK i m2)) (nI (dS i m1)) (iI (dE i m1)) (iI (dE i m2)) (lN (dP i m1)) (lN (dP i m2)) (nI (zP i)) (nI (zB i)) row oth (1 - nI (dS i m2))).2.1 = (C_U_sum (nI md) fl i (lN m1) (C_F_opposite i (lN m2))).2 := by
  have a1 := opp_dM (i := i) (m := 1 - dS i m2) m2
  have a2 := opp_dS (i := i) (m := 1 - dS i m2) m2 (by omega)
  have a3 : dK i (dM i m2 + (1 - dS i m2) * zS i) = dK i m2 := by unfold dK; rw [a1]
  have a4 : dP i (dM i m2 + (1 - dS i m2) * zS i) = dP i m2 := by unfold dP; rw [a1]
  have a5 : dE i (dM i m2 + (1 - dS i m2) * zS i) = dE i m2 := by unfold dE; rw [a1]
  have a6 : dM i m2 + (1 - dS i m2) * zS i < 2 * zS i := by
    have b1 := @dM_lt i m2
    rcases (show 1 - dS i m2 = 0 ∨ 1 - dS i m2 = 1 by omega) with q | q <;> rw [q] <;> omega
  rw [F_opp hi h2, zV, one_sub (dS_le _ _)]
  have S := sum_eq (n2 := dM i m2 + (1 - dS i m2) * zS i) hi hm fl row oth h1 a6 g1 (by rw [a1]; exact g2) hN
  rw [a2, a3, a4, a5] at S
  exact S
theorem mW_eq {i md m1 m2 : Nat} (hi : i < 2) (hm : md ≤ 3) (fl : Int32) (row oth : Nat → Int32) (h1 : m1 < 2 * zS i) (h2 : m2 < 2 * zS i) (hN : C_M_none (nI (zP i)) (nI (zB i)) = C_F_none i) {k1 : Int32} (hk : k1 = 0 ∨ k1 = 1 ∨ k1 = 2 ∨ k1 = 3 ∨ k1 = 4) : mW (nI md) fl i m1 m2 row oth k1 = C_U_result (nI md) fl k1 i (lN m1) (lN m2) := by
  have hz2 : 2 * zS i ≤ 2 ^ 64 := by have := @zS_le i; omega
  have q1 : m1 < 2 ^ 64 := Nat.lt_of_lt_of_le h1 hz2
  have q2 : m2 < 2 ^ 64 := Nat.lt_of_lt_of_le h2 hz2
  have nk : ∀ m, dM i m ≤ zI i → ¬ nI (dK i m) = 0 := by
    intro m g
    rcases dK_cases i m with ⟨a, e⟩ | ⟨a, e⟩ | ⟨a, e⟩
    · omega
    · rw [e]; decide
    · rw [e]; decide
  rw [mW, C_U_result, F_isNone hi q1, F_isNone hi q2, hN]
  by_cases g1 : dM i m1 ≤ zI i
  · rw [if_neg (nk m1 g1), decide_eq_false (show ¬ zI i < dM i m1 by omega), if_pos (show false = false from rfl)]
    by_cases g2 : dM i m2 ≤ zI i
    · rw [if_neg (nk m2 g2), decide_eq_false (show ¬ zI i < dM i m2 by omega), if_pos (show false = false from rfl)]
      rcases hk with rfl | rfl | rfl | rfl | rfl
      · have S := sum_eq hi hm fl row oth h1 h2 g1 g2 hN
        rw [if_neg (show ¬ (2 : Int32) ≤ 0 by decide), if_neg (show ¬ (0 : Int32) = 1 by decide), if_pos (show (0 : Int32) = 0 from rfl), S.1, S.2]
      · have S := sub_eq hi hm fl row oth h1 h2 g1 g2 hN
        rw [if_neg (show ¬ (2 : Int32) ≤ 1 by decide), if_pos (show (1 : Int32) = 1 from rfl), if_neg (show ¬ (1 : Int32) = 0 by decide), if_pos (show (1 : Int32) = 1 from rfl), S.1, S.2]
      · have S := prod_eq hi hm fl row q1 q2 g1 g2 hN
        rw [if_pos (show (2 : Int32) ≤ 2 by decide), if_pos (show (2 : Int32) = 2 from rfl), if_neg (show ¬ (2 : Int32) = 0 by decide), if_neg (show ¬ (2 : Int32) = 1 by decide), if_pos (show (2 : Int32) = 2 from rfl), S.1, S.2]
      · have S := quot_eq hi hm fl row q1 q2 g1 g2 hN
        rw [if_pos (show (2 : Int32) ≤ 3 by decide), if_neg (show ¬ (3 : Int32) = 2 by decide), if_pos (show (3 : Int32) = 3 from rfl), if_neg (show ¬ (3 : Int32) = 0 by decide), if_neg (show ¬ (3 : Int32) = 1 by decide), if_neg (show ¬ (3 : Int32) = 2 by decide), if_pos (show (3 : Int32) = 3 from rfl), S.1, S.2]
      · have S := rest_eq hi hm fl row h1 h2 g1 g2 hN
        rw [if_pos (show (2 : Int32) ≤ 4 by decide), if_neg (show ¬ (4 : Int32) = 2 by decide), if_neg (show ¬ (4 : Int32) = 3 by decide), if_neg (show ¬ (4 : Int32) = 0 by decide), if_neg (show ¬ (4 : Int32) = 1 by decide), if_neg (show ¬ (4 : Int32) = 2 by decide), if_neg (show ¬ (4 : Int32) = 3 by decide), S.1, S.2]
    · have e : dK i m2 = 0 := by
        rcases dK_cases i m2 with ⟨a, e⟩ | ⟨a, e⟩ | ⟨a, e⟩
        · exact e
        · omega
        · omega
      rw [if_pos (show nI (dK i m2) = 0 by rw [e]; rfl), decide_eq_true (show zI i < dM i m2 by omega), if_neg (show ¬ true = false by decide)]
  · have e : dK i m1 = 0 := by
      rcases dK_cases i m1 with ⟨a, e⟩ | ⟨a, e⟩ | ⟨a, e⟩
      · exact e
      · omega
      · omega
    rw [if_pos (show nI (dK i m1) = 0 by rw [e]; rfl), decide_eq_true (show zI i < dM i m1 by omega), if_neg (show ¬ true = false by decide)]
