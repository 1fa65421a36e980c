/-! The class's quotient: six steps of ten bits. -/
theorem quo_n {A Y : Nat} (hY : 0 < Y) : A * 2 ^ 10 / Y = A / Y * 2 ^ 10 + A % Y * 2 ^ 10 / Y ∧ A * 2 ^ 10 % Y = A % Y * 2 ^ 10 % Y := by
  have h := Nat.div_add_mod A Y
  have e : A * 2 ^ 10 = A % Y * 2 ^ 10 + Y * (A / Y * 2 ^ 10) := by
    have : Y * (A / Y * 2 ^ 10) = Y * (A / Y) * 2 ^ 10 := by rw [Nat.mul_assoc]
    omega
  constructor
  · rw [e, Nat.add_mul_div_left _ _ hY, Nat.add_comm]
  · rw [e, Nat.add_mul_mod_self_left]
theorem quo_s {A Y : Nat} {e : Int} (hY : 0 < Y) (hY2 : Y < 2 ^ 53) : (jShl (lN (A % Y)) 10) - (jShl (lN (A % Y)) 10) / lN Y * lN Y = lN (A * 2 ^ 10 % Y) ∧ (jShl (lN (A / Y)) 10) + ((jShl (lN (A % Y)) 10) / lN Y) = lN (A * 2 ^ 10 / Y) ∧ iI e + (-10) = iI (e - 10) := by
  have hr := Nat.mod_lt A hY
  obtain ⟨q1, q2⟩ := quo_n (A := A) hY
  rw [show (10 : Int32) = nI 10 from rfl, jShl_lN _ (by decide), jShl_lN _ (by decide), pk_lRem (by omega) hY (by omega), pk_lDiv (by omega) hY (by omega), lN_add, ← q1, ← q2]
  refine ⟨rfl, rfl, ?_⟩
  show iI e + iI (-10) = _
  rw [iI_add]
  rfl
theorem quo_6 {i X Y : Nat} {e : Int} (md fl : Int32) (v : Bool) (hY : 0 < Y) (hY2 : Y < 2 ^ 53) : C_U_quotient_146_0 md fl i v (lN Y) (lN (X % Y)) (lN (X / Y)) (iI e) = C_U_quotient_146_6 md fl i v (lN Y) (lN (X * 2 ^ 60 % Y)) (lN (X * 2 ^ 60 / Y)) (iI (e - 60)) := by
  have st := fun (A : Nat) (d : Int) => quo_s (A := A) (e := d) hY hY2
  rw [C_U_quotient_146_0, (st X e).1, (st X e).2.1, (st X e).2.2]
  rw [C_U_quotient_146_1, (st (X * 2 ^ 10) (e - 10)).1, (st (X * 2 ^ 10) (e - 10)).2.1, (st (X * 2 ^ 10) (e - 10)).2.2]
  rw [C_U_quotient_146_2, (st ((X * 2 ^ 10) * 2 ^ 10) ((e - 10) - 10)).1, (st ((X * 2 ^ 10) * 2 ^ 10) ((e - 10) - 10)).2.1, (st ((X * 2 ^ 10) * 2 ^ 10) ((e - 10) - 10)).2.2]
  rw [C_U_quotient_146_3, (st (((X * 2 ^ 10) * 2 ^ 10) * 2 ^ 10) (((e - 10) - 10) - 10)).1, (st (((X * 2 ^ 10) * 2 ^ 10) * 2 ^ 10) (((e - 10) - 10) - 10)).2.1, (st (((X * 2 ^ 10) * 2 ^ 10) * 2 ^ 10) (((e - 10) - 10) - 10)).2.2]
  rw [C_U_quotient_146_4, (st ((((X * 2 ^ 10) * 2 ^ 10) * 2 ^ 10) * 2 ^ 10) ((((e - 10) - 10) - 10) - 10)).1, (st ((((X * 2 ^ 10) * 2 ^ 10) * 2 ^ 10) * 2 ^ 10) ((((e - 10) - 10) - 10) - 10)).2.1, (st ((((X * 2 ^ 10) * 2 ^ 10) * 2 ^ 10) * 2 ^ 10) ((((e - 10) - 10) - 10) - 10)).2.2]
  rw [C_U_quotient_146_5, (st (((((X * 2 ^ 10) * 2 ^ 10) * 2 ^ 10) * 2 ^ 10) * 2 ^ 10) (((((e - 10) - 10) - 10) - 10) - 10)).1, (st (((((X * 2 ^ 10) * 2 ^ 10) * 2 ^ 10) * 2 ^ 10) * 2 ^ 10) (((((e - 10) - 10) - 10) - 10) - 10)).2.1, (st (((((X * 2 ^ 10) * 2 ^ 10) * 2 ^ 10) * 2 ^ 10) * 2 ^ 10) (((((e - 10) - 10) - 10) - 10) - 10)).2.2]
  rw [show X * 2 ^ 10 * 2 ^ 10 * 2 ^ 10 * 2 ^ 10 * 2 ^ 10 * 2 ^ 10 = X * 2 ^ 60 from by omega, show e - 10 - 10 - 10 - 10 - 10 - 10 = e - 60 from by omega]
