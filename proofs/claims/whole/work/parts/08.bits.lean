/-! Numbers as rows of bits: adding and taking away bit by bit. -/
theorem z_2 (n : Nat) : n % 2 = 0 ∨ n % 2 = 1 := by omega
theorem z_dm (X k : Nat) : 2 ^ k * (X / 2 ^ k) + X % 2 ^ k = X := Nat.div_add_mod X (2 ^ k)
theorem z_ms (X k : Nat) : X % 2 ^ (k + 1) = X % 2 ^ k + 2 ^ k * (X / 2 ^ k % 2) := Nat.mod_pow_succ
theorem z_ds (X k : Nat) : X / 2 ^ (k + 1) = X / 2 ^ k / 2 := by rw [Nat.pow_succ, Nat.div_div_eq_div_mul]
theorem z_mlt (X k : Nat) : X % 2 ^ k < 2 ^ k := Nat.mod_lt _ (z_p k)
theorem z_add_div (X Y k : Nat) : (X + Y) / 2 ^ k = X / 2 ^ k + Y / 2 ^ k + (X % 2 ^ k + Y % 2 ^ k) / 2 ^ k := by
  have h : X + Y = 2 ^ k * (X / 2 ^ k + Y / 2 ^ k) + (X % 2 ^ k + Y % 2 ^ k) := by
    have h1 := z_dm X k
    have h2 := z_dm Y k
    rw [Nat.mul_add]
    omega
  conv => lhs; rw [h]
  rw [Nat.mul_add_div (z_p k)]
theorem z_add_bit (X Y k : Nat) : (X + Y) / 2 ^ k % 2 = (X / 2 ^ k % 2 + Y / 2 ^ k % 2 + (X % 2 ^ k + Y % 2 ^ k) / 2 ^ k) % 2 := by
  rw [z_add_div]
  omega
theorem z_carry (X Y k : Nat) : (X % 2 ^ (k + 1) + Y % 2 ^ (k + 1)) / 2 ^ (k + 1) = (X / 2 ^ k % 2 + Y / 2 ^ k % 2 + (X % 2 ^ k + Y % 2 ^ k) / 2 ^ k) / 2 := by
  rw [z_ms, z_ms, z_ds]
  have h : X % 2 ^ k + 2 ^ k * (X / 2 ^ k % 2) + (Y % 2 ^ k + 2 ^ k * (Y / 2 ^ k % 2)) = 2 ^ k * (X / 2 ^ k % 2 + Y / 2 ^ k % 2) + (X % 2 ^ k + Y % 2 ^ k) := by
    rw [Nat.mul_add]
    omega
  rw [h, Nat.mul_add_div (z_p k)]
theorem z_carry_le (X Y k : Nat) : (X % 2 ^ k + Y % 2 ^ k) / 2 ^ k ≤ 1 := by
  have h1 := z_mlt X k
  have h2 := z_mlt Y k
  have h3 : (X % 2 ^ k + Y % 2 ^ k) / 2 ^ k < 2 := by
    rw [Nat.div_lt_iff_lt_mul (z_p k)]
    omega
  omega
def zbor (X Y k : Nat) : Nat := if X % 2 ^ k < Y % 2 ^ k then 1 else 0
theorem z_sub_div {X Y : Nat} (h : Y ≤ X) (k : Nat) : (X - Y) / 2 ^ k + Y / 2 ^ k + zbor X Y k = X / 2 ^ k := by
  have h1 := z_dm X k
  have h2 := z_dm Y k
  have h3 := z_mlt X k
  have h4 := z_mlt Y k
  have hp := z_p k
  have hle : Y / 2 ^ k ≤ X / 2 ^ k := Nat.div_le_div_right h
  unfold zbor
  by_cases g : X % 2 ^ k < Y % 2 ^ k
  · rw [if_pos g]
    have hlt : Y / 2 ^ k < X / 2 ^ k := by
      rcases Nat.lt_or_ge (Y / 2 ^ k) (X / 2 ^ k) with q | q
      · exact q
      · have : Y / 2 ^ k = X / 2 ^ k := by omega
        rw [this] at h2
        omega
    obtain ⟨d, hd⟩ : ∃ d, X / 2 ^ k = Y / 2 ^ k + 1 + d := ⟨X / 2 ^ k - Y / 2 ^ k - 1, by omega⟩
    have e : X - Y = 2 ^ k * d + (2 ^ k + X % 2 ^ k - Y % 2 ^ k) := by
      rw [hd, Nat.mul_add, Nat.mul_add, Nat.mul_one] at h1
      omega
    rw [e, Nat.mul_add_div hp, Nat.div_eq_of_lt (by omega)]
    omega
  · rw [if_neg g]
    obtain ⟨d, hd⟩ : ∃ d, X / 2 ^ k = Y / 2 ^ k + d := ⟨X / 2 ^ k - Y / 2 ^ k, by omega⟩
    have e : X - Y = 2 ^ k * d + (X % 2 ^ k - Y % 2 ^ k) := by
      rw [hd, Nat.mul_add] at h1
      omega
    rw [e, Nat.mul_add_div hp, Nat.div_eq_of_lt (by omega)]
    omega
theorem z_sub_bit {X Y : Nat} (h : Y ≤ X) (k : Nat) : (X - Y) / 2 ^ k % 2 = (X / 2 ^ k % 2 + Y / 2 ^ k % 2 + zbor X Y k) % 2 := by
  have := z_sub_div h k
  omega
theorem z_borrow (X Y k : Nat) : zbor X Y (k + 1) = if X / 2 ^ k % 2 < Y / 2 ^ k % 2 + zbor X Y k then 1 else 0 := by
  have h3 := z_mlt X k
  have h4 := z_mlt Y k
  unfold zbor
  rw [z_ms X, z_ms Y]
  rcases z_2 (X / 2 ^ k) with a | a <;> rcases z_2 (Y / 2 ^ k) with b | b <;> rw [a, b] <;> by_cases g : X % 2 ^ k < Y % 2 ^ k <;> simp [g] <;> omega
theorem z_bor0 (X Y : Nat) : zbor X Y 0 = 0 := by
  unfold zbor
  simp [Nat.mod_one]
theorem z_bit_hi {N k : Nat} (h : N < 2 ^ k) : N / 2 ^ k % 2 = 0 := by rw [Nat.div_eq_of_lt h]
/-- the bit at log2 N is the highest -/
theorem z_top {N : Nat} (h : N ≠ 0) : N / 2 ^ N.log2 % 2 = 1 := by
  have h1 : N / 2 ^ N.log2 < 2 := by
    rw [Nat.div_lt_iff_lt_mul (z_p _), Nat.mul_comm, ← Nat.pow_succ]
    exact Nat.lt_log2_self
  have h2 : 0 < N / 2 ^ N.log2 := Nat.div_pos (Nat.log2_self_le h) (z_p _)
  omega
theorem z_above {N k : Nat} (h : N.log2 < k) : N / 2 ^ k % 2 = 0 := by
  refine z_bit_hi ?_
  by_cases h0 : N = 0
  · rw [h0]
    exact z_p k
  · exact (Nat.log2_lt h0).1 h
