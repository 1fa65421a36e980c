/-! compare answers alike. -/
def sg9 (x y : Nat) : Int32 := if x = y then 0 else if y < x then 1 else -1
def dX (i n : Nat) : Nat := max (dM i n / zL i) 1 - 1
def lo9 (i : Nat) : Int := 1 - (zB i : Int) - ((zP i : Int) - 1)
theorem dE_X (i n : Nat) : dE i n = lo9 i + (dX i n : Int) := by
  unfold dE dX lo9
  have : 1 ≤ max (dM i n / zL i) 1 := Nat.le_max_right _ _
  omega
theorem bit_n {a d j : Nat} (ha : a < 2 ^ 53) (hd : d ≤ 4000) (hj : j ≤ 8000) : C_M_bit (lN a) (iI ((j : Int) - d)) = nI (a * 2 ^ d / 2 ^ j % 2) := by
  have hB : iB ((j : Int) - d) := ⟨by omega, by omega⟩
  have c0 : iI ((j : Int) - d) < 0 ↔ (j : Int) - d < 0 := iI_lt (b := 0) hB ⟨by decide, by decide⟩
  have c1 : iI ((j : Int) - d) ≤ 62 ↔ (j : Int) - d ≤ 62 := iI_le (b := 62) hB ⟨by decide, by decide⟩
  rw [C_M_bit]
  by_cases h : j < d
  · rw [if_pos (c0.2 (by omega))]
    obtain ⟨k, rfl⟩ : ∃ k, d = j + 1 + k := ⟨d - j - 1, by omega⟩
    rw [show a * 2 ^ (j + 1 + k) = (a * 2 ^ k * 2) * 2 ^ j from by rw [Nat.pow_add, Nat.pow_succ]; simp only [Nat.mul_assoc, Nat.mul_comm, Nat.mul_left_comm], Nat.mul_div_cancel _ (Nat.two_pow_pos j), Nat.mul_mod_left]
    rfl
  · obtain ⟨k, rfl⟩ : ∃ k, j = d + k := ⟨j - d, by omega⟩
    rw [if_neg (fun g => by have := c0.1 g; omega)]
    rw [show (((d + k : Nat) : Int) - (d : Int)) = (k : Int) from by omega] at c1 ⊢
    rw [Nat.pow_add, Nat.mul_comm (2 ^ d), Nat.mul_div_mul_right _ _ (Nat.two_pow_pos d)]
    by_cases hk : k ≤ 62
    · rw [if_pos (c1.2 (by omega)), ← iI_nI, bit_lN ha (by omega)]
      rcases Nat.mod_two_eq_zero_or_one (a / 2 ^ k) with g | g <;> rw [g] <;> decide
    · rw [if_neg (fun g => by have := c1.1 g; omega), Nat.div_eq_of_lt (Nat.lt_of_lt_of_le ha (Nat.pow_le_pow_right (by decide) (by omega)))]
      rfl
theorem sg_add {x y c : Nat} : sg9 (x + c) (y + c) = sg9 x y := by
  unfold sg9
  by_cases h : x = y
  · rw [if_pos h, if_pos (by omega)]
  · rw [if_neg h, if_neg (by omega)]
    by_cases g : y < x
    · rw [if_pos g, if_pos (by omega)]
    · rw [if_neg g, if_neg (by omega)]
theorem cmp_out (er kx ky sx sy px py : Int32) (fx fy : Int64) (pr bi u7 u9 : Int32) (h : ¬ u9 = 0) : ∀ (n : Nat) (u : Int32), C_M_compare_222 er kx ky sx sy px py fx fy pr bi n u7 u9 u = C_M_compare_282 er kx ky sx sy px py fx fy pr bi u7 u9 := by
  intro n u
  cases n with
  | zero => rw [C_M_compare_222]
  | succ n =>
    rw [C_M_compare_222]
    split
    · rfl
    · rfl
theorem cmp_loop (er kx ky sx sy : Int32) {a b dx dy : Nat} (ha : a < 2 ^ 53) (hb : b < 2 ^ 53) (hdx : dx ≤ 4000) (hdy : dy ≤ 4000) {lo : Int} (hl : -5000 ≤ lo ∧ lo ≤ 0) {pr bi : Int32} (hp : (1 - bi) - (pr - 1) = iI lo) (u7 : Int32) : ∀ (t n : Nat), t ≤ n → t ≤ 8000 →
    C_M_compare_222 er kx ky sx sy (iI (lo + dx)) (iI (lo + dy)) (lN a) (lN b) pr bi n u7 0 (iI (lo + t - 1)) = C_M_compare_282 er kx ky sx sy (iI (lo + dx)) (iI (lo + dy)) (lN a) (lN b) pr bi u7 (sg9 (a * 2 ^ dx % 2 ^ t) (b * 2 ^ dy % 2 ^ t)) := by
  intro t
  induction t with
  | zero =>
    intro n _ _
    rw [show sg9 (a * 2 ^ dx % 2 ^ 0) (b * 2 ^ dy % 2 ^ 0) = 0 from by rw [Nat.pow_zero, Nat.mod_one, Nat.mod_one]; rfl]
    cases n with
    | zero => rw [C_M_compare_222]
    | succ n => rw [C_M_compare_222, hp, if_pos ((iI_lt ⟨by omega, by omega⟩ ⟨by omega, by omega⟩).2 (by omega))]
  | succ t ih =>
    intro n hn ht
    obtain ⟨n, rfl⟩ : ∃ q, n = q + 1 := ⟨n - 1, by omega⟩
    rw [C_M_compare_222, hp, if_neg (fun g => by have := (iI_lt ⟨by omega, by omega⟩ ⟨by omega, by omega⟩).1 g; omega), if_pos rfl]
    rw [iI_sub, iI_sub, show lo + ((t + 1 : Nat) : Int) - 1 - (lo + (dx : Int)) = (t : Int) - dx from by omega, show lo + ((t + 1 : Nat) : Int) - 1 - (lo + (dy : Int)) = (t : Int) - dy from by omega, bit_n ha hdx (by omega), bit_n hb hdy (by omega)]
    rw [show iI (lo + ((t + 1 : Nat) : Int) - 1) + (-1) = iI (lo + (t : Int) - 1) from by rw [show (-1 : Int32) = iI (-1) from rfl, iI_add]; congr 1; omega]
    generalize hX : a * 2 ^ dx = X at *
    generalize hY : b * 2 ^ dy = Y at *
    rw [Nat.mod_pow_succ (x := X), Nat.mod_pow_succ (x := Y)]
    have hx1 := Nat.mod_lt X (Nat.two_pow_pos t)
    have hy1 := Nat.mod_lt Y (Nat.two_pow_pos t)
    rcases Nat.mod_two_eq_zero_or_one (X / 2 ^ t) with g1 | g1 <;> rcases Nat.mod_two_eq_zero_or_one (Y / 2 ^ t) with g2 | g2 <;> rw [g1, g2]
    · rw [show nI 0 - nI 0 = 0 from by decide, ih n (by omega) (by omega), Nat.mul_zero, Nat.add_zero, Nat.add_zero]
    · rw [cmp_out _ _ _ _ _ _ _ _ _ _ _ _ _ (show ¬ nI 0 - nI 1 = 0 by decide)]
      congr 1
      unfold sg9
      rw [if_neg (by omega), if_neg (by omega)]
      decide
    · rw [cmp_out _ _ _ _ _ _ _ _ _ _ _ _ _ (show ¬ nI 1 - nI 0 = 0 by decide)]
      congr 1
      unfold sg9
      rw [if_neg (by omega), if_pos (by omega)]
      decide
    · rw [show nI 1 - nI 1 = 0 from by decide, ih n (by omega) (by omega), sg_add]
/-- a number's worth grows with its magnitude -/
def vM (i m : Nat) : Nat := (if m < zL i then m else m % zL i + zL i) * 2 ^ (max (m / zL i) 1 - 1)
theorem vM_step (i m : Nat) : vM i m < vM i (m + 1) := by
  have hz := zL_pos i
  unfold vM
  by_cases h1 : m + 1 < zL i
  · rw [if_pos h1, if_pos (by omega), Nat.div_eq_of_lt h1, Nat.div_eq_of_lt (by omega)]
    show m * 2 ^ 0 < (m + 1) * 2 ^ 0
    omega
  · rw [if_neg h1]
    have e1 := Nat.div_add_mod m (zL i)
    by_cases h2 : m < zL i
    · have hm : m + 1 = zL i := by omega
      rw [if_pos h2, Nat.div_eq_of_lt h2, hm, Nat.div_self hz, Nat.mod_self]
      show m * 2 ^ 0 < (0 + zL i) * 2 ^ 0
      omega
    · rw [if_neg h2]
      have hr := Nat.mod_lt m hz
      have hq : 1 ≤ m / zL i := (Nat.le_div_iff_mul_le hz).2 (by omega)
      by_cases h3 : m % zL i + 1 < zL i
      · have e2 : (m + 1) / zL i = m / zL i := by
          rw [Nat.div_eq_iff hz]
          constructor
          · rw [Nat.mul_comm]; omega
          · rw [Nat.mul_comm]; omega
        have e3 : (m + 1) % zL i = m % zL i + 1 := by
          have e4 := Nat.div_add_mod (m + 1) (zL i)
          rw [e2] at e4
          omega
        rw [e2, e3]
        exact Nat.mul_lt_mul_of_pos_right (by omega) (Nat.two_pow_pos _)
      · have e2 : (m + 1) / zL i = m / zL i + 1 := by
          rw [Nat.div_eq_iff hz]
          constructor
          · rw [Nat.add_mul, Nat.mul_comm]; omega
          · rw [Nat.add_mul, Nat.mul_comm]; omega
        have e3 : (m + 1) % zL i = 0 := by
          have e4 := Nat.div_add_mod (m + 1) (zL i)
          rw [e2, Nat.mul_add] at e4
          omega
        rw [e2, e3, Nat.max_eq_left hq, Nat.max_eq_left (by omega), show m / zL i + 1 - 1 = (m / zL i - 1) + 1 from by omega, Nat.pow_succ, Nat.zero_add, ← Nat.mul_assoc, Nat.mul_right_comm]
        exact Nat.mul_lt_mul_of_pos_right (by omega) (Nat.two_pow_pos _)
theorem vM_lt (i : Nat) {m k : Nat} (h : m < k) : vM i m < vM i k := by
  induction k with
  | zero => omega
  | succ k ih =>
    rcases Nat.lt_or_ge m k with g | g
    · exact Nat.lt_trans (ih g) (vM_step i k)
    · have : m = k := by omega
      subst this
      exact vM_step i m
theorem vM_sg (i m k : Nat) : sg9 (vM i m) (vM i k) = sg9 m k := by
  unfold sg9
  rcases Nat.lt_trichotomy m k with h | h | h
  · have := vM_lt i h
    rw [if_neg (by omega), if_neg (by omega), if_neg (by omega), if_neg (by omega)]
  · rw [h, if_pos rfl, if_pos rfl]
  · have := vM_lt i h
    rw [if_neg (by omega), if_pos this, if_neg (by omega), if_pos h]
theorem dPX (i n : Nat) : dP i n * 2 ^ dX i n = vM i (dM i n) := rfl
theorem vM_bound {i m : Nat} (hi : i < 2) (h : m < zI i) : vM i m < 2 ^ (zP i + 2 * zB i - 1) := by
  have hz := zL_pos i
  refine Nat.lt_of_lt_of_le (vM_lt i h) (Nat.le_of_eq ?_)
  rcases i01 hi with rfl | rfl
  · have : vM 0 (zI 0) = 2 ^ 52 * 2 ^ 2046 := by
      unfold vM
      rw [if_neg (by decide), show zI 0 % zL 0 + zL 0 = 2 ^ 52 from by decide +kernel, show max (zI 0 / zL 0) 1 - 1 = 2046 from by decide +kernel]
    rw [this, ← Nat.pow_add]
    rfl
  · have : vM 1 (zI 1) = 2 ^ 23 * 2 ^ 254 := by
      unfold vM
      rw [if_neg (by decide), show zI 1 % zL 1 + zL 1 = 2 ^ 23 from by decide +kernel, show max (zI 1 / zL 1) 1 - 1 = 254 from by decide +kernel]
    rw [this, ← Nat.pow_add]
    rfl
theorem lN_neg {m : Nat} (h : m < 2 ^ 63) : (-(lN m)).toInt = -(m : Int) := by
  have e : lN m = Int64.ofInt (m : Int) := Int64.ofInt_eq_ofNat.symm
  rw [e, ← Int64.ofInt_neg, Int64.toInt_ofInt_of_le (by omega) (by omega)]
def rk (i n : Nat) : Int := if dS i n = 1 then -(dM i n : Int) else (dM i n : Int)
theorem F_rank {i n : Nat} (hi : i < 2) (hn : n < 2 ^ 64) : (C_F_rank i (lN n)).toInt = rk i n := by
  rw [C_F_rank, F_minus hi hn, F_size hi hn, rk]
  rcases dS_01 i n with h | h <;> rw [h]
  · exact pk_lT (dM_63 n)
  · exact lN_neg (dM_63 n)
