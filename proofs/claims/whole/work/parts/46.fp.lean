/-! freePlaces: 62 less the place of the highest bit. -/
theorem fp_t {n s w : Nat} (h : n * 2 ^ s < 2 ^ 63) (hs : s < 64) (hw : 1 ≤ w) (hw2 : w ≤ 63) : jUshr (jShl (lN n) (nI s)) (nI (63 - w)) = 0 ↔ n * 2 ^ s < 2 ^ (63 - w) := by
  rw [jShl_lN _ hs, jUshr_lN (Nat.lt_trans h (by decide)) (by omega), lN_e0 (Nat.lt_of_le_of_lt (Nat.div_le_self _ _) h), Nat.div_eq_zero_iff]
  have := Nat.two_pow_pos (63 - w)
  omega
theorem fp_up {n s w : Nat} (h : n * 2 ^ s < 2 ^ (63 - w)) (hw2 : w ≤ 63) : n * 2 ^ (s + w) < 2 ^ 63 := by
  rw [Nat.pow_add, ← Nat.mul_assoc, show (63 : Nat) = (63 - w) + w from by omega, Nat.pow_add 2 (63 - w) w]
  exact Nat.mul_lt_mul_of_pos_right h (Nat.two_pow_pos w)
theorem fp_dn {n s w : Nat} (h : ¬ n * 2 ^ s < 2 ^ (63 - w)) (hw2 : w ≤ 63) : 2 ^ 63 ≤ n * 2 ^ (s + w) := by
  rw [Nat.pow_add, ← Nat.mul_assoc, show (63 : Nat) = (63 - w) + w from by omega, Nat.pow_add 2 (63 - w) w]
  exact Nat.mul_le_mul_right _ (by omega)
def fpP (n : Nat) (w : Nat) (g : Int64 → Int32 → Int32) : Prop := ∀ s, s + w ≤ 64 → n * 2 ^ s < 2 ^ 63 → 2 ^ 63 ≤ n * 2 ^ (s + w) → g (lN n) (nI s) = nI (62 - n.log2)
theorem fp_step {n w : Nat} {g f : Int64 → Int32 → Int32} (hw : 1 ≤ w) (hw2 : w ≤ 32) (hf : ∀ x u, f x u = if jUshr (jShl x u) (nI (63 - w)) = 0 then g x (u + nI w) else g x u) (hg : fpP n w g) : fpP n (2 * w) f := by
  intro s hs h1 h2
  rw [hf]
  by_cases h : n * 2 ^ s < 2 ^ (63 - w)
  · rw [if_pos ((fp_t h1 (by omega) hw (by omega)).2 h), show nI s + nI w = nI (s + w) from (Int32.ofNat_add s w).symm]
    exact hg (s + w) (by omega) (fp_up h (by omega)) (by rw [show s + w + w = s + 2 * w from by omega]; exact h2)
  · rw [if_neg (fun g => h ((fp_t h1 (by omega) hw (by omega)).1 g))]
    exact hg s (by omega) h1 (fp_dn h (by omega))
theorem fp_0 (n : Nat) : fpP n 1 C_U_freePlaces_5_0 := by
  intro s hs h1 h2
  show nI s = _
  have hn : n ≠ 0 := fun g => by rw [g, Nat.zero_mul] at h2; omega
  have e1 : (n * 2 ^ s).log2 = n.log2 + s := z_log_mul hn s
  have e2 : (n * 2 ^ s).log2 < 63 := z_log_lt h1 (z_ne hn s)
  have e3 : (n * 2 ^ (s + 1)).log2 = n.log2 + (s + 1) := z_log_mul hn (s + 1)
  have e4 := z_log_ge h2
  congr 1
  omega
theorem fp_n {n : Nat} (h0 : n ≠ 0) (h : n < 2 ^ 63) : C_U_freePlaces (lN n) = nI (62 - n.log2) := by
  have p1 : fpP n 2 C_U_freePlaces_5_1 := fp_step (w := 1) (by decide) (by decide) (fun x u => by rw [C_U_freePlaces_5_1]; rfl) (fp_0 n)
  have p2 : fpP n 4 C_U_freePlaces_5_2 := fp_step (w := 2) (by decide) (by decide) (fun x u => by rw [C_U_freePlaces_5_2]; rfl) p1
  have p4 : fpP n 8 C_U_freePlaces_5_4 := fp_step (w := 4) (by decide) (by decide) (fun x u => by rw [C_U_freePlaces_5_4]; rfl) p2
  have p8 : fpP n 16 C_U_freePlaces_5_8 := fp_step (w := 8) (by decide) (by decide) (fun x u => by rw [C_U_freePlaces_5_8]; rfl) p4
  have p16 : fpP n 32 C_U_freePlaces_5_16 := fp_step (w := 16) (by decide) (by decide) (fun x u => by rw [C_U_freePlaces_5_16]; rfl) p8
  have p32 : fpP n 64 C_U_freePlaces_5_32 := fp_step (w := 32) (by decide) (by decide) (fun x u => by rw [C_U_freePlaces_5_32]; rfl) p16
  have e := p32 0 (by decide) (by rw [Nat.pow_zero, Nat.mul_one]; exact h) (by
    have : 1 * 2 ^ 64 ≤ n * 2 ^ (0 + 64) := Nat.mul_le_mul_right _ (by omega)
    omega)
  exact e
theorem fp_z : C_U_freePlaces 0 = nI 63 := by decide +kernel
