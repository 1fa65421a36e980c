/-! The class's significand and power. -/
def lf (i n : Nat) : Nat := 52 - (dP i n).log2
theorem dP_log {i n : Nat} (hi : i < 2) (h0 : dP i n ≠ 0) : (dP i n).log2 ≤ 52 := by
  have := z_log_lt (dP_lt hi n) h0
  omega
theorem F_lift {i n : Nat} (hi : i < 2) (h0 : dP i n ≠ 0) : C_F_lift (lN (dP i n)) = nI (lf i n) := by
  have h1 := dP_log hi h0
  rw [C_F_lift, fp_n h0 (Nat.lt_trans (dP_lt hi n) (by decide)), lf]
  have := pk_sub (a := 62 - (dP i n).log2) (b := 10) (by omega)
  rw [show (10 : Int32) = nI 10 from rfl, this]
  congr 1
  omega
theorem F_sig {i n : Nat} (hi : i < 2) (hn : n < 2 ^ 64) (h0 : dP i n ≠ 0) : C_F_significand i (lN n) = lN (dP i n * 2 ^ lf i n) := by
  rw [C_F_significand, F_plain hi hn, F_lift hi h0, jShl_lN _ (by unfold lf; omega)]
theorem sig_lt {i n : Nat} (hi : i < 2) (h0 : dP i n ≠ 0) : dP i n * 2 ^ lf i n < 2 ^ 53 ∧ 2 ^ 52 ≤ dP i n * 2 ^ lf i n := by
  have hl := dP_log hi h0
  have h1 : 2 ^ (dP i n).log2 ≤ dP i n := Nat.log2_self_le h0
  have h2 : dP i n < 2 ^ ((dP i n).log2 + 1) := Nat.lt_log2_self
  unfold lf
  constructor
  · calc dP i n * 2 ^ (52 - (dP i n).log2) < 2 ^ ((dP i n).log2 + 1) * 2 ^ (52 - (dP i n).log2) := Nat.mul_lt_mul_of_pos_right h2 (Nat.two_pow_pos _)
      _ = 2 ^ 53 := by rw [← Nat.pow_add]; congr 1; omega
  · calc 2 ^ 52 = 2 ^ (dP i n).log2 * 2 ^ (52 - (dP i n).log2) := by rw [← Nat.pow_add]; congr 1; omega
      _ ≤ dP i n * 2 ^ (52 - (dP i n).log2) := Nat.mul_le_mul_right _ h1
theorem lN_32 {q : Nat} (h : q < 2 ^ 31) : (lN q).toInt32 = nI q := by
  apply Int32.toInt_inj.mp
  rw [Int64.toInt_toInt32, pk_lT (by omega), iI_nI, iI_toInt ⟨by omega, by omega⟩]
  show ((q : Int)).bmod 4294967296 = q
  rw [Int.bmod_def]
  omega
theorem F_pow {i n : Nat} (hi : i < 2) (hn : n < 2 ^ 64) (h0 : dP i n ≠ 0) : C_F_power i (lN n) = iI (dE i n - (lf i n : Int)) := by
  have hq : dM i n / zL i < 2 ^ 31 := by
    have := @dM_lt i n
    rcases i01 hi with rfl | rfl
    · exact Nat.lt_trans (show dM 0 n / zL 0 < 2 ^ 11 from Nat.div_lt_of_lt_mul this) (by decide)
    · exact Nat.lt_trans (show dM 1 n / zL 1 < 2 ^ 8 from Nat.div_lt_of_lt_mul this) (by decide)
  have e1 : (jUshr (C_F_size i (lN n)) (fPr i - 1)).toInt32 = nI (dM i n / zL i) := by
    rw [F_size hi hn, show fPr i - 1 = nI (zP i - 1) from by rcases i01 hi with rfl | rfl <;> decide, jUshr_lN (Nat.lt_trans (dM_63 n) (by decide)) (by have := zP_le i; omega)]
    show (lN (dM i n / zL i)).toInt32 = nI (dM i n / zL i)
    exact lN_32 hq
  generalize hqe : dM i n / zL i = q at *
  rw [C_F_power, e1, F_plain hi hn, F_lift hi h0, iI_nI, iI_nI, jMax, show (1 : Int32) = iI 1 from rfl, iI_max ⟨by omega, by omega⟩ ⟨by decide, by decide⟩, C_F_unitPower, fBi_n hi, fPr_n hi, iI_nI, iI_nI, show (1 : Int32) = iI 1 from rfl, iI_sub, iI_sub, iI_sub, iI_sub]
  congr 1
  unfold dE
  rw [hqe]
  omega
/-- rounding of a number as the class hands it on -/
theorem sig_round {i n j md : Nat} (hi : i < 2) (h0 : dP i n ≠ 0) (sg : Bool) (more : Bool) : zround j md sg (dP i n * 2 ^ lf i n) (dE i n - (lf i n : Int)) more = zround j md sg (dP i n) (dE i n) more := by
  rw [zround_shift j md sg h0, show dE i n - (lf i n : Int) + (lf i n : Int) = dE i n from by omega]
