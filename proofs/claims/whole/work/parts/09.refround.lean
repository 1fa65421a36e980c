/-! The reference's way to round, as numbers: half, rest, and the carry into the exponent. -/
theorem zc_bits (N n : Nat) (more : Bool) : zc (N % 2 ^ (n + 1)) (2 ^ (n + 1)) more = if N / 2 ^ n % 2 = 0 then (if N % 2 ^ n = 0 ∧ more = false then 0 else 1) else (if N % 2 ^ n = 0 ∧ more = false then 2 else 3) := by
  have h1 := z_ms N n
  have h2 := z_mlt N n
  have h3 : 2 ^ (n + 1) = 2 * 2 ^ n := by rw [Nat.pow_succ, Nat.mul_comm]
  unfold zc
  rcases z_2 (N / 2 ^ n) with a | a
  · have h4 : N % 2 ^ (n + 1) = N % 2 ^ n := by rw [h1, a, Nat.mul_zero, Nat.add_zero]
    have c1 : 2 * (N % 2 ^ n) < 2 * 2 ^ n := by omega
    rw [h4, h3, if_pos c1, if_pos a]
  · have h4 : N % 2 ^ (n + 1) = N % 2 ^ n + 2 ^ n := by rw [h1, a, Nat.mul_one]
    have c1 : ¬ (2 * (N % 2 ^ n + 2 ^ n) < 2 * 2 ^ n) := by omega
    have c2 : ¬ (N / 2 ^ n % 2 = 0) := by omega
    rw [h4, h3, if_neg c1, if_neg c2]
    have h5 : 2 * (N % 2 ^ n + 2 ^ n) = 2 * 2 ^ n ↔ N % 2 ^ n = 0 := by omega
    simp only [h5]
theorem zL_pos (i : Nat) : 0 < zL i := z_p _
theorem zB_ge (i : Nat) : 127 ≤ zB i := by
  unfold zB
  split <;> omega
/-- the carry: q1 is what is kept, rounded; E the exponent -/
theorem z_carryM (i : Nat) {E q1 : Nat} (hE : 1 ≤ E) : q1 = 2 * zL i → ((2 * zB i < E + 1 ↔ (2 * zB i < E ∨ zI i ≤ (E - 1) * zL i + q1)) ∧ (E + 1) * zL i = (E - 1) * zL i + q1) := by
  intro hq
  obtain ⟨k, rfl⟩ : ∃ k, E = k + 1 := ⟨E - 1, by omega⟩
  have e1 : (k + 1 + 1) * zL i = (k + 1 - 1) * zL i + q1 := by
    rw [hq, Nat.add_sub_cancel, Nat.succ_mul, Nat.succ_mul]
    omega
  refine ⟨?_, e1⟩
  rw [← e1]
  unfold zI
  constructor
  · intro h
    exact Or.inr (Nat.mul_le_mul_right _ (by omega))
  · intro h
    rcases h with h | h
    · omega
    · have := Nat.le_of_mul_le_mul_right h (zL_pos i)
      omega
theorem z_usualM (i : Nat) {E q1 : Nat} (hE : 1 ≤ E) (h1 : zL i ≤ q1) (h2 : q1 < 2 * zL i) : (2 * zB i < E ↔ (2 * zB i < E ∨ zI i ≤ (E - 1) * zL i + q1)) ∧ E * zL i + (q1 - zL i) = (E - 1) * zL i + q1 := by
  obtain ⟨k, rfl⟩ : ∃ k, E = k + 1 := ⟨E - 1, by omega⟩
  have e1 : (k + 1) * zL i = k * zL i + zL i := Nat.succ_mul _ _
  refine ⟨⟨fun h => Or.inl h, fun h => ?_⟩, ?_⟩
  · rcases h with h | h
    · exact h
    · rcases Nat.lt_or_ge (2 * zB i) (k + 1) with g | g
      · exact g
      · exfalso
        unfold zI at h
        rw [Nat.add_sub_cancel] at h
        have h3 : (k + 2) * zL i ≤ (2 * zB i + 1) * zL i := Nat.mul_le_mul_right _ (by omega)
        have h4 : (k + 2) * zL i = k * zL i + 2 * zL i := by rw [Nat.add_mul]
        omega
  · rw [Nat.add_sub_cancel]
    omega
theorem z_smallM (i : Nat) {q1 : Nat} (h1 : q1 < zL i) : ¬ (2 * zB i < 1 ∨ zI i ≤ (1 - 1) * zL i + q1) ∧ (1 - 1) * zL i + q1 = q1 := by
  have hb := zB_ge i
  have h2 : 1 * zL i ≤ (2 * zB i + 1) * zL i := Nat.mul_le_mul_right _ (by omega)
  refine ⟨?_, by omega⟩
  unfold zI
  omega
/-- how much is kept: less than 2 ^ P, and at least 2 ^ (P - 1) where the exponent isn't the least -/
theorem zq_lt (i N : Nat) (e : Int) (h0 : N ≠ 0) : zq N (zlow i (zX i N e) e) < 2 * zL i := by
  have hl := zlow_ge i N e
  have hP := zP_ge i
  generalize zlow i (zX i N e) e = low at hl
  have hL : 2 * zL i = 2 ^ zP i := by
    unfold zL
    rw [Nat.mul_comm, ← Nat.pow_succ]
    congr 1
    omega
  rw [hL]
  unfold zq
  have hN : N < 2 ^ (N.log2 + 1) := Nat.lt_log2_self
  rw [Nat.div_lt_iff_lt_mul (z_p _), ← Nat.pow_add]
  have h1 : N * 2 ^ (-low).toNat < 2 ^ (N.log2 + 1) * 2 ^ (-low).toNat := Nat.mul_lt_mul_of_pos_right hN (z_p _)
  rw [← Nat.pow_add] at h1
  exact Nat.lt_of_lt_of_le h1 (z_pow_le (by omega))
theorem zq_ge (i N : Nat) (e : Int) (h0 : N ≠ 0) (hE : 1 < zX i N e) : zL i ≤ zq N (zlow i (zX i N e) e) := by
  have hX : zX i N e = (N.log2 : Int) + e + (zB i : Int) := by
    unfold zX at hE ⊢
    omega
  have hP := zP_ge i
  have hl : zlow i (zX i N e) e = (N.log2 : Int) - ((zP i : Int) - 1) := by
    unfold zlow
    omega
  rw [hl]
  unfold zq zL
  generalize hlow : (N.log2 : Int) - ((zP i : Int) - 1) = low
  rw [Nat.le_div_iff_mul_le (z_p _), ← Nat.pow_add]
  have hN : 2 ^ N.log2 * 2 ^ (-low).toNat ≤ N * 2 ^ (-low).toNat := Nat.mul_le_mul_right _ (Nat.log2_self_le h0)
  rw [← Nat.pow_add] at hN
  exact Nat.le_trans (z_pow_le (by omega)) hN
