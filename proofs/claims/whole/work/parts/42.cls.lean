/-! The class's small methods, and the reference's, as numbers. zV: the bits of a number, sign s, magnitude m. -/
theorem i01 {i : Nat} (hi : i < 2) : i = 0 ∨ i = 1 := by omega
def zV (i s m : Nat) : Int64 := lN (m + s * zS i)
theorem fSg_n {i : Nat} (hi : i < 2) : fSg i = lN (zS i) := by rcases i01 hi with rfl | rfl <;> decide +kernel
theorem fSg1_n {i : Nat} (hi : i < 2) : fSg i - 1 = lN (zS i - 1) := by rcases i01 hi with rfl | rfl <;> decide +kernel
theorem fLe_n {i : Nat} (hi : i < 2) : fLe i = lN (zL i) := by rcases i01 hi with rfl | rfl <;> decide +kernel
theorem fEn_n {i : Nat} (hi : i < 2) : fEn i = lN (zI i) := by rcases i01 hi with rfl | rfl <;> decide +kernel
theorem fPr_n {i : Nat} (hi : i < 2) : fPr i = nI (zP i) := by rcases i01 hi with rfl | rfl <;> decide +kernel
theorem fBi_n {i : Nat} (hi : i < 2) : fBi i = nI (zB i) := by rcases i01 hi with rfl | rfl <;> decide +kernel
theorem zS_pos {i : Nat} : 0 < zS i := by unfold zS; split <;> decide
theorem zS_le {i : Nat} : zS i ≤ 2 ^ 63 := by unfold zS; split <;> decide
theorem zI_lt {i : Nat} (hi : i < 2) : zI i < zS i := by rcases i01 hi with rfl | rfl <;> decide +kernel
theorem zL_lt {i : Nat} (hi : i < 2) : 2 * zL i ≤ zI i := by rcases i01 hi with rfl | rfl <;> decide +kernel
theorem dM_lt {i : Nat} (n : Nat) : dM i n < zS i := Nat.mod_lt _ zS_pos
theorem dM_63 {i : Nat} (n : Nat) : dM i n < 2 ^ 63 := Nat.lt_of_lt_of_le (dM_lt n) zS_le
theorem dS_01 (i n : Nat) : dS i n = 0 ∨ dS i n = 1 := by unfold dS; omega
theorem z63 {i : Nat} (hi : i < 2) : zI i < 2 ^ 63 := Nat.lt_of_lt_of_le (zI_lt hi) zS_le
theorem F_size {i n : Nat} (hi : i < 2) (hn : n < 2 ^ 64) : C_F_size i (lN n) = lN (dM i n) := by
  rw [C_F_size, fSg1_n hi]
  rcases i01 hi with rfl | rfl
  · exact wb_mask (k := 63) hn (by decide)
  · exact wb_mask (k := 31) hn (by decide)
theorem n_bit (n k : Nat) : n &&& 2 ^ k = n / 2 ^ k % 2 * 2 ^ k := by
  have hb : n.testBit k = decide (n / 2 ^ k % 2 = 1) := Nat.testBit_eq_decide_div_mod_eq
  rcases Nat.mod_two_eq_zero_or_one (n / 2 ^ k) with h | h
  · rw [h, Nat.zero_mul]
    rw [h] at hb
    apply Nat.eq_of_testBit_eq
    intro j
    rw [Nat.testBit_and, Nat.testBit_two_pow, Nat.zero_testBit]
    by_cases hj : k = j
    · subst hj; rw [hb]; rfl
    · simp [hj]
  · rw [h, Nat.one_mul]
    rw [h] at hb
    apply Nat.eq_of_testBit_eq
    intro j
    rw [Nat.testBit_and, Nat.testBit_two_pow]
    by_cases hj : k = j
    · subst hj; rw [hb]; simp
    · simp [hj]
theorem F_and {i n : Nat} (hi : i < 2) (hn : n < 2 ^ 64) : lN n &&& fSg i = lN (dS i n * zS i) := by
  rw [fSg_n hi, wb_and hn (Nat.lt_of_le_of_lt zS_le (by decide))]
  rcases i01 hi with rfl | rfl
  · exact congrArg lN (n_bit n 63)
  · exact congrArg lN (n_bit n 31)
theorem F_minus {i n : Nat} (hi : i < 2) (hn : n < 2 ^ 64) : C_F_isMinus i (lN n) = decide (dS i n = 1) := by
  rw [C_F_isMinus, F_and hi hn]
  rcases dS_01 i n with h | h <;> rw [h]
  · rw [if_pos (by rw [Nat.zero_mul]; rfl)]; rfl
  · rw [if_neg (by rw [Nat.one_mul, ← fSg_n hi]; rcases i01 hi with rfl | rfl <;> decide)]; rfl
theorem F_isNone {i n : Nat} (hi : i < 2) (hn : n < 2 ^ 64) : C_F_isNone i (lN n) = decide (zI i < dM i n) := by
  rw [C_F_isNone, F_size hi hn, fEn_n hi]
  by_cases h : dM i n ≤ zI i
  · rw [if_pos ((pk_lLE (dM_63 n) (z63 hi)).2 h), decide_eq_false (by omega)]
  · rw [if_neg (fun g => h ((pk_lLE (dM_63 n) (z63 hi)).1 g)), decide_eq_true (by omega)]
theorem F_isEnd {i n : Nat} (hi : i < 2) (hn : n < 2 ^ 64) : C_F_isEndless i (lN n) = decide (dM i n = zI i) := by
  rw [C_F_isEndless, F_size hi hn, fEn_n hi]
  by_cases h : dM i n = zI i
  · rw [if_pos ((pk_lEQ (dM_63 n) (z63 hi)).2 h), decide_eq_true h]
  · rw [if_neg (fun g => h ((pk_lEQ (dM_63 n) (z63 hi)).1 g)), decide_eq_false h]
theorem F_isZero {i n : Nat} (hi : i < 2) (hn : n < 2 ^ 64) : C_F_isZero i (lN n) = decide (dM i n = 0) := by
  rw [C_F_isZero, F_size hi hn]
  by_cases h : dM i n = 0
  · rw [if_pos ((lN_e0 (dM_63 n)).2 h), decide_eq_true h]
  · rw [if_neg (fun g => h ((lN_e0 (dM_63 n)).1 g)), decide_eq_false h]
theorem zL_63 {i : Nat} (hi : i < 2) : zL i < 2 ^ 63 := by have := zL_lt hi; have := z63 hi; omega
theorem F_plain {i n : Nat} (hi : i < 2) (hn : n < 2 ^ 64) : C_F_plain i (lN n) = lN (dP i n) := by
  rw [C_F_plain, F_size hi hn, fLe_n hi, dP]
  by_cases h : dM i n < zL i
  · rw [if_neg (fun g => by have := (pk_lLE (zL_63 hi) (dM_63 n)).1 g; omega), if_pos h]
  · rw [if_pos ((pk_lLE (zL_63 hi) (dM_63 n)).2 (by omega)), if_neg h]
    have h1 : dM i n < 2 ^ 64 := Nat.lt_trans (dM_63 n) (by decide)
    rcases i01 hi with rfl | rfl
    · have e1 : lN (zL 0) - 1 = lN (2 ^ 52 - 1) := by decide +kernel
      rw [e1, wb_mask h1 (by decide)]
      have e2 : lN (zL 0) = lN (1 * 2 ^ 52) := by decide +kernel
      rw [e2, g_or' (k := 52) rfl (Nat.mod_lt _ (by decide)) (by have := Nat.mod_lt (dM 0 n) (show 0 < 2 ^ 52 by decide); omega)]
      rfl
    · have e1 : lN (zL 1) - 1 = lN (2 ^ 23 - 1) := by decide +kernel
      rw [e1, wb_mask h1 (by decide)]
      have e2 : lN (zL 1) = lN (1 * 2 ^ 23) := by decide +kernel
      rw [e2, g_or' (k := 23) rfl (Nat.mod_lt _ (by decide)) (by have := Nat.mod_lt (dM 1 n) (show 0 < 2 ^ 23 by decide); omega)]
      rfl
theorem F_own {i n : Nat} (hi : i < 2) (hn : n < 2 ^ 64) : C_F_own i (lN n) = lN (n % (2 * zS i)) := by
  rcases i01 hi with rfl | rfl
  · rw [C_F_own, show fSg 0 ||| (fSg 0 - 1) = lN (2 ^ 64 - 1) from by decide +kernel, wb_and hn (by decide), Nat.and_two_pow_sub_one_eq_mod]
    rfl
  · rw [C_F_own, show fSg 1 ||| (fSg 1 - 1) = lN (2 ^ 32 - 1) from by decide +kernel, wb_and hn (by decide), Nat.and_two_pow_sub_one_eq_mod]
    rfl
theorem own_lt {i : Nat} (n : Nat) : n % (2 * zS i) < 2 * zS i := Nat.mod_lt _ (by have := @zS_pos i; omega)
theorem own_64 {i : Nat} (n : Nat) : n % (2 * zS i) < 2 ^ 64 := Nat.lt_of_lt_of_le (own_lt n) (by have := @zS_le i; omega)
theorem own_dM (i n : Nat) : dM i (n % (2 * zS i)) = dM i n := Nat.mod_mod_of_dvd _ ⟨2, Nat.mul_comm 2 _⟩
theorem own_dS (i n : Nat) : dS i (n % (2 * zS i)) = dS i n := by
  unfold dS
  rw [Nat.mul_comm 2, Nat.mod_mul_right_div_self, Nat.mod_mod]
theorem own_dK (i n : Nat) : dK i (n % (2 * zS i)) = dK i n := by unfold dK; rw [own_dM]
theorem own_dP (i n : Nat) : dP i (n % (2 * zS i)) = dP i n := by unfold dP; rw [own_dM]
theorem own_dE (i n : Nat) : dE i (n % (2 * zS i)) = dE i n := by unfold dE; rw [own_dM]
theorem own_split {i n : Nat} (h : n < 2 * zS i) : n = dM i n + dS i n * zS i := by
  unfold dM dS
  have h1 : n / zS i < 2 := by rw [Nat.div_lt_iff_lt_mul zS_pos]; omega
  rw [Nat.mod_eq_of_lt h1]
  have := Nat.mod_add_div n (zS i)
  rw [Nat.mul_comm] at this
  omega
theorem F_opp {i n : Nat} (hi : i < 2) (h : n < 2 * zS i) : C_F_opposite i (lN n) = zV i (1 - dS i n) (dM i n) := by
  have hm := @dM_lt i n
  have key : ∀ k m : Nat, k < 64 → m < 2 ^ k → lN m ^^^ lN (2 ^ k) = lN (m + 2 ^ k) ∧ lN (m + 2 ^ k) ^^^ lN (2 ^ k) = lN m := by
    intro k m hk hm
    have e1 : lN m ||| lN (2 ^ k) = lN (m + 2 ^ k) := by
      have h64 : 2 ^ (k + 1) ≤ 2 ^ 64 := Nat.pow_le_pow_right (by decide) hk
      rw [Nat.pow_succ] at h64
      have := g_or' (k := k) (a := m) (b := 1) rfl hm (by omega)
      rwa [Nat.one_mul] at this
    have hn0 : ∀ j, m.testBit j = true → j < k := fun j hj => by
      rcases Nat.lt_or_ge j k with g | g
      · exact g
      · rw [Nat.testBit_lt_two_pow (Nat.lt_of_lt_of_le hm (Nat.pow_le_pow_right (by decide) g))] at hj
        exact absurd hj (by decide)
    have h64 : 2 ^ (k + 1) ≤ 2 ^ 64 := Nat.pow_le_pow_right (by decide) hk
    rw [Nat.pow_succ] at h64
    have hx : m ^^^ 2 ^ k = m + 2 ^ k := by
      have h2 : m ||| 2 ^ k = m + 2 ^ k := by
        have := Nat.two_pow_add_eq_or_of_lt hm 1
        rw [Nat.mul_one] at this
        rw [Nat.or_comm, ← this, Nat.add_comm]
      rw [← h2]
      apply Nat.eq_of_testBit_eq
      intro j
      rw [Nat.testBit_xor, Nat.testBit_or, Nat.testBit_two_pow]
      by_cases hj : k = j
      · subst hj
        rcases hb : m.testBit k with _ | _
        · simp
        · exact absurd (hn0 k hb) (Nat.lt_irrefl k)
      · simp [hj]
    have w1 : lN m ^^^ lN (2 ^ k) = lN (m ^^^ 2 ^ k) := wb_inj (by
      show (lN m).toBitVec ^^^ (lN (2 ^ k)).toBitVec = _
      rw [wb_tb, wb_tb, wb_tb, BitVec.ofNat_xor])
    refine ⟨by rw [w1, hx], ?_⟩
    rw [← hx, ← w1]
    apply wb_inj
    show ((lN m).toBitVec ^^^ (lN (2 ^ k)).toBitVec) ^^^ (lN (2 ^ k)).toBitVec = _
    rw [BitVec.xor_assoc, BitVec.xor_self, BitVec.xor_zero]
  have hs := own_split h
  rw [C_F_opposite, fSg_n hi, zV]
  obtain ⟨k, hk, ek⟩ : ∃ k, k < 64 ∧ zS i = 2 ^ k := by
    rcases i01 hi with rfl | rfl
    · exact ⟨63, by decide, rfl⟩
    · exact ⟨31, by decide, rfl⟩
  have kk := key k (dM i n) hk (by rw [← ek]; exact hm)
  rw [← ek] at kk
  rcases dS_01 i n with h0 | h0
  · rw [h0, Nat.zero_mul, Nat.add_zero] at hs
    rw [h0, Nat.sub_zero, Nat.one_mul, ← kk.1]
    exact congrArg (fun z => lN z ^^^ lN (zS i)) hs
  · rw [h0, Nat.one_mul] at hs
    rw [h0, Nat.sub_self, Nat.zero_mul, Nat.add_zero]
    refine Eq.trans ?_ kk.2
    exact congrArg (fun z => lN z ^^^ lN (zS i)) hs
theorem F_signed {i a : Nat} (hi : i < 2) (h : a < zS i) (z : Bool) : C_F_signed i z (lN a) = zV i (if z = false then 0 else 1) a := by
  rw [C_F_signed, zV]
  cases z
  · rw [if_pos rfl, if_pos rfl, Nat.zero_mul, Nat.add_zero]
  · rw [if_neg (by decide), if_neg (by decide), fSg_n hi]
    rcases i01 hi with rfl | rfl
    · have := g_or' (k := 63) (a := a) (b := 1) rfl h (by have : zS 0 = 2 ^ 63 := rfl; omega)
      exact this
    · have := g_or' (k := 31) (a := a) (b := 1) rfl h (by have : zS 1 = 2 ^ 31 := rfl; omega)
      exact this
theorem made_w {s e f a b : Nat} {p q : Nat} (hp : 2 ^ b = p) (hq : 2 ^ a * p = q) (hb : b < 63) (ha : a + b < 64) (hf : f < p) (h : e < 2 ^ a) (hs : s * q + (e * p + f) < 2 ^ 64) : (jShl (lN s) (nI (a + b)) ||| jShl (lN e) (nI b)) ||| lN f = lN (e * p + f + s * q) := by
  rw [jShl_lN _ ha, jShl_lN _ (by omega), Nat.pow_add, hp, hq]
  have hpq : 0 < p := by omega
  have h1 : e * p < q := by rw [← hq]; exact Nat.mul_lt_mul_of_pos_right h hpq
  have hpow : 2 ^ (a + b) = q := by rw [Nat.pow_add, hp, hq]
  rw [g_or hpow h1 (by omega)]
  have e2 : s * q + e * p = (s * 2 ^ a + e) * p := by rw [← hq, Nat.add_mul, Nat.mul_assoc]
  rw [e2, g_or hp hf (by rw [← e2]; omega), ← e2]
  congr 1
  omega
theorem made_n {i s e f : Nat} (hi : i < 2) (hs : s ≤ 1) (hf : f < zL i) (h : e * zL i + f < zS i) : C_M_made (nI (zP i)) (nI s) (lN e) (lN f) = zV i s (e * zL i + f) := by
  have hsI : (nI s).toInt64 = lN s := by
    rcases (show s = 0 ∨ s = 1 by omega) with rfl | rfl <;> decide
  have hs2 : s * zS i + (e * zL i + f) < 2 ^ 64 := by
    have := @zS_le i
    have : s * zS i ≤ 1 * zS i := Nat.mul_le_mul_right _ hs
    omega
  have he : e * zL i < zS i := by omega
  rcases i01 hi with rfl | rfl
  · rw [C_M_made, if_neg (by decide), hsI]
    exact made_w (a := 11) (b := 52) rfl rfl (by decide) (by decide) hf (by rw [show zS 0 = 2 ^ 11 * zL 0 from rfl] at he; exact Nat.lt_of_mul_lt_mul_right he) hs2
  · rw [C_M_made, if_pos (by decide), hsI]
    exact made_w (a := 8) (b := 23) rfl rfl (by decide) (by decide) hf (by rw [show zS 1 = 2 ^ 8 * zL 1 from rfl] at he; exact Nat.lt_of_mul_lt_mul_right he) hs2
