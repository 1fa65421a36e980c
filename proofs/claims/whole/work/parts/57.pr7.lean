/-! 'whole' answers alike. -/
theorem zc_00 {r m : Nat} (h : 0 < m) : zc r m false = 0 ↔ r = 0 := by
  unfold zc
  by_cases g : 2 * r < m
  · rw [if_pos g]
    by_cases k : r = 0
    · rw [if_pos ⟨k, rfl⟩]; omega
    · rw [if_neg (fun x => k x.1)]; omega
  · rw [if_neg g]
    split <;> omega
theorem sig_cut {i n : Nat} : zq (dP i n * 2 ^ lf i n) (-(dE i n - (lf i n : Int))) = zq (dP i n) (-dE i n) ∧ (zr (dP i n * 2 ^ lf i n) (-(dE i n - (lf i n : Int))) = 0 ↔ zr (dP i n) (-dE i n) = 0) := by
  obtain ⟨a, b⟩ := z_cutS (dP i n) (lf i n) (-dE i n) false
  rw [show -dE i n + (lf i n : Int) = -(dE i n - (lf i n : Int)) from by omega] at a b
  refine ⟨a, ?_⟩
  rw [← zc_00 (Nat.two_pow_pos (-(dE i n - (lf i n : Int))).toNat), b, zc_00 (Nat.two_pow_pos _)]
theorem cut_n {i n md lim : Nat} (hi : i < 2) (fl : Int32) (hn : n < 2 ^ 64) (hl : lim < 2 ^ 64) : C_U_cut (nI md) fl i (lN n) (lN lim) = if lim < zq (dP i n) (-dE i n) then (lN lim, fl ||| 16) else (lN (zq (dP i n) (-dE i n)), if zr (dP i n) (-dE i n) = 0 then fl else fl ||| 1) := by
  by_cases h0 : dP i n = 0
  · have hd : dM i n = 0 := (dP_0 n).1 h0
    have hq : zq (dP i n) (-dE i n) = 0 ∧ zr (dP i n) (-dE i n) = 0 := by
      rw [zq_e.1, zq_e.2, h0, Nat.zero_mul, Nat.zero_div, Nat.zero_mod]
      exact ⟨rfl, rfl⟩
    rw [hq.1, hq.2, if_neg (Nat.not_lt_zero _), if_pos rfl, C_U_cut, C_F_significand, C_F_power, F_plain hi hn, F_size hi hn, h0, hd]
    rcases i01 hi with rfl | rfl
    · rw [show jShl (lN 0) (C_F_lift (lN 0)) = lN 0 from by decide +kernel, show C_F_unitPower 0 (jMax ((jUshr (lN 0) (fPr 0 - 1)).toInt32) 1) - C_F_lift (lN 0) = -1127 from by decide +kernel, show C_U_moved (lN 0) (-1127) = lN 0 from by decide +kernel, C_U_cut_23, if_neg (by decide), beyond_n (by decide) hl, decide_eq_false (Nat.not_lt_zero _), if_pos rfl, if_neg (by decide), if_pos (by decide +kernel)]
    · rw [show jShl (lN 0) (C_F_lift (lN 0)) = lN 0 from by decide +kernel, show C_F_unitPower 1 (jMax ((jUshr (lN 0) (fPr 1 - 1)).toInt32) 1) - C_F_lift (lN 0) = -202 from by decide +kernel, show C_U_moved (lN 0) (-202) = lN 0 from by decide +kernel, C_U_cut_23, if_neg (by decide), beyond_n (by decide) hl, decide_eq_false (Nat.not_lt_zero _), if_pos rfl, if_neg (by decide), if_pos (by decide +kernel)]
  · have hs := sig_lt hi h0
    have hE := dE_s hi n
    have hlf : lf i n ≤ 52 := by unfold lf; omega
    obtain ⟨a, b⟩ := @sig_cut i n
    rw [C_U_cut, F_sig hi hn h0, F_pow hi hn h0, cut_23 fl hs.1 hs.2 (by omega) hl, a]
    simp only [b]
theorem inj64 {a b : Nat} (ha : a < 2 ^ 64) (hb : b < 2 ^ 64) : lN a = lN b ↔ a = b :=
  ⟨fun h => by rw [← wb_tn ha, ← wb_tn hb, h], fun h => by rw [h]⟩
theorem neg64 {T : Nat} (h : T < 2 ^ 64) : lN T < 0 ↔ 2 ^ 63 ≤ T := by
  rw [Int64.lt_iff_toInt_lt, show (lN T).toInt = (Int64.ofNat T).toInt from rfl, Int64.toInt_ofNat', show Int64.size = 18446744073709551616 from rfl, Int.bmod_def, show (0 : Int64).toInt = 0 from rfl]
  omega
/-- what both sides answer: T the whole part, fr what was cut off -/
def whR (s w T : Nat) (fr : Bool) (fl : Int32) : Int64 × Int32 :=
  if 2 ^ w - 1 + s < T then (if s = 1 then -(lN (2 ^ w - 1 + s)) else lN (2 ^ w - 1 + s), fl ||| 16) else (if s = 1 then -(lN T) else lN T, if fr = false then fl else fl ||| 1)
theorem wh_186 {s w T : Nat} (hs : s ≤ 1) (hw : w = 31 ∨ w = 63) (hT : T < 2 ^ (w + 1)) (fl er kx px : Int32) (fx : Int64) (pr bi : Int32) (fr : Bool) : (C_M_whole_186 fl er kx (nI s) px fx pr bi (nI w) (lN (2 ^ w - 1)) (-(lN (2 ^ w - 1)) - 1) (lN T) fr false).1 = (whR s w T fr fl).1 ∧ (C_M_whole_186 fl er kx (nI s) px fx pr bi (nI w) (lN (2 ^ w - 1)) (-(lN (2 ^ w - 1)) - 1) (lN T) fr false).2.1 = (whR s w T fr fl).2 ∧ (C_M_whole_186 fl er kx (nI s) px fx pr bi (nI w) (lN (2 ^ w - 1)) (-(lN (2 ^ w - 1)) - 1) (lN T) fr false).2.2.1 = er := by
  have h64 : T < 2 ^ 64 := Nat.lt_of_lt_of_le hT (Nat.pow_le_pow_right (by decide) (by omega))
  have e7 : -(lN (2 ^ w - 1)) - 1 = -(lN (2 ^ w - 1 + 1)) := by rcases hw with rfl | rfl <;> decide +kernel
  have eS : jShl 1 (nI w) = lN (2 ^ w) := by rcases hw with rfl | rfl <;> decide +kernel
  have hw2 : 2 ^ w ≤ 2 ^ 63 := Nat.pow_le_pow_right (by decide) (by omega)
  have hwp := Nat.two_pow_pos w
  have s1 : (nI s = 1) ↔ s = 1 := s_e (k := 1) hs (by decide)
  have c1 : (lN T = lN (2 ^ w)) ↔ T = 2 ^ w := inj64 h64 (by omega)
  have c2 : (lN T < 0) ↔ 2 ^ 63 ≤ T := neg64 h64
  have c3 : T < 2 ^ 63 → (lN T ≤ lN (2 ^ w - 1) ↔ T ≤ 2 ^ w - 1) := fun h => pk_lLE h (by omega)
  rw [C_M_whole_186, if_pos rfl, eS, e7]
  unfold whR
  rcases Nat.lt_trichotomy T (2 ^ w) with t | t | t
  · rw [if_neg (fun q => by have := c1.1 q; omega), C_M_whole_227, if_pos rfl, if_neg (fun q => by have := c2.1 q; omega), if_pos ((c3 (by omega)).2 (by omega)), if_neg (by omega), C_M_whole_274]
    simp only [C_M_whole_289, s1]
    rcases (show s = 0 ∨ s = 1 by omega) with rfl | rfl <;> cases fr <;> simp
  · rw [if_pos (c1.2 t)]
    rcases (show s = 0 ∨ s = 1 by omega) with rfl | rfl
    · rw [if_neg (by decide), C_M_whole_227, if_pos rfl, if_pos (show 2 ^ w - 1 + 0 < T by omega)]
      by_cases g : 2 ^ 63 ≤ T
      · rw [if_pos (c2.2 g), if_neg (by decide)]
        exact ⟨rfl, rfl, rfl⟩
      · rw [if_neg (fun q => g (c2.1 q)), if_neg (fun q => by have := (c3 (by omega)).1 q; omega), if_neg (by decide)]
        exact ⟨rfl, rfl, rfl⟩
    · rw [if_pos (by decide), if_neg (show ¬ 2 ^ w - 1 + 1 < T by omega), show 2 ^ w - 1 + 1 = T from by omega]
      cases fr
      · exact ⟨rfl, rfl, rfl⟩
      · exact ⟨rfl, rfl, rfl⟩
  · rw [if_neg (fun q => by have := c1.1 q; omega), C_M_whole_227, if_pos rfl, if_pos (show 2 ^ w - 1 + s < T by omega)]
    have hfin : ∀ X : Int64 × Int32 × Int32 × Int32 × Int32 × Int32 × Int64 × Int32 × Int32, X = (if nI s = 1 then (-(lN (2 ^ w - 1 + 1)), fl ||| 16, er, kx, nI s, px, fx, pr, bi) else (lN (2 ^ w - 1), fl ||| 16, er, kx, nI s, px, fx, pr, bi)) → X.1 = (if s = 1 then -(lN (2 ^ w - 1 + s)) else lN (2 ^ w - 1 + s)) ∧ X.2.1 = fl ||| 16 ∧ X.2.2.1 = er := by
      intro X hX
      rw [hX]
      rcases (show s = 0 ∨ s = 1 by omega) with rfl | rfl
      · exact ⟨rfl, rfl, rfl⟩
      · exact ⟨rfl, rfl, rfl⟩
    by_cases g : 2 ^ 63 ≤ T
    · rw [if_pos (c2.2 g)]
      exact hfin _ rfl
    · rw [if_neg (fun q => g (c2.1 q)), if_neg (fun q => by have := (c3 (by omega)).1 q; omega)]
      exact hfin _ rfl
