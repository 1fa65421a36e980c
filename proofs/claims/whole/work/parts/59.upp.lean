/-! upperProduct: the upper half of the product, its last bit set where the lower half isn't zero. -/
theorem up_num {a b : Nat} (ha : a < 2 ^ 63) (hb : b < 2 ^ 63) {al ah bl bh w y z x m1 m2 h : Nat} (e1 : al = a % 2 ^ 32) (e2 : ah = a / 2 ^ 32) (e3 : bl = b % 2 ^ 32) (e4 : bh = b / 2 ^ 32) (f1 : w = al * bl) (f2 : y = ah * bl) (f3 : z = al * bh) (f4 : x = ah * bh) (g1 : m1 = y + w / 2 ^ 32) (g2 : m2 = z + m1 % 2 ^ 32) (g3 : h = x + m1 / 2 ^ 32 + m2 / 2 ^ 32) :
    w < 2 ^ 64 ∧ y < 2 ^ 64 ∧ z < 2 ^ 64 ∧ m1 < 2 ^ 64 ∧ m2 < 2 ^ 64 ∧ h < 2 ^ 64 ∧ h = a * b / 2 ^ 64 ∧ (a * b % 2 ^ 64 = 0 ↔ m2 % 2 ^ 32 = 0 ∧ w % 2 ^ 32 = 0) := by
  have p1 : al ≤ 2 ^ 32 - 1 := by omega
  have p2 : bl ≤ 2 ^ 32 - 1 := by omega
  have p3 : ah ≤ 2 ^ 31 - 1 := by omega
  have p4 : bh ≤ 2 ^ 31 - 1 := by omega
  have w1 : w ≤ (2 ^ 32 - 1) * (2 ^ 32 - 1) := by rw [f1]; exact Nat.mul_le_mul p1 p2
  have y1 : y ≤ (2 ^ 31 - 1) * (2 ^ 32 - 1) := by rw [f2]; exact Nat.mul_le_mul p3 p2
  have z1 : z ≤ (2 ^ 32 - 1) * (2 ^ 31 - 1) := by rw [f3]; exact Nat.mul_le_mul p1 p4
  have x1 : x ≤ (2 ^ 31 - 1) * (2 ^ 31 - 1) := by rw [f4]; exact Nat.mul_le_mul p3 p4
  have hab : a * b = x * 2 ^ 64 + (y + z) * 2 ^ 32 + w := by
    have ea : a = ah * 2 ^ 32 + al := by omega
    have eb : b = bh * 2 ^ 32 + bl := by omega
    rw [ea, eb, f1, f2, f3, f4, Nat.add_mul, Nat.mul_add, Nat.mul_add, show (2 : Nat) ^ 64 = 2 ^ 32 * 2 ^ 32 by decide]
    generalize (2 : Nat) ^ 32 = k
    rw [show ah * k * (bh * k) = ah * bh * (k * k) by ac_rfl, show ah * k * bl = ah * bl * k by ac_rfl, show al * (bh * k) = al * bh * k by ac_rfl, Nat.add_mul]
    omega
  generalize a * b = n at hab
  clear f1 f2 f3 f4 e1 e2 e3 e4
  refine ⟨by omega, by omega, by omega, by omega, by omega, by omega, by omega, by omega⟩
theorem upper_n {a b : Nat} (ha : a < 2 ^ 63) (hb : b < 2 ^ 63) : C_U_upperProduct (lN a) (lN b) = lN (zst (a * b) 64) := by
  obtain ⟨q1, q2, q3, q4, q5, q6, q7, q8⟩ := up_num ha hb rfl rfl rfl rfl rfl rfl rfl rfl rfl rfl rfl
  have ha4 : a < 2 ^ 64 := by omega
  have hb4 : b < 2 ^ 64 := by omega
  have mk : ∀ {n : Nat}, n < 2 ^ 64 → lN n &&& 4294967295 = lN (n % 2 ^ 32) := fun h => wb_mask (k := 32) h (by decide)
  have sh : ∀ {n : Nat}, n < 2 ^ 64 → jUshr (lN n) 32 = lN (n / 2 ^ 32) := fun h => jUshr_lN (k := 32) h (by decide)
  rw [C_U_upperProduct]
  simp only [mk ha4, mk hb4, sh ha4, sh hb4, lN_mul]
  simp only [sh q1, mk q1, lN_add]
  simp only [sh q4, mk q4, lN_add]
  simp only [sh q5, mk q5, lN_add]
  rw [q7, zst]
  by_cases h1 : (a % 2 ^ 32 * (b / 2 ^ 32) + (a / 2 ^ 32 * (b % 2 ^ 32) + a % 2 ^ 32 * (b % 2 ^ 32) / 2 ^ 32) % 2 ^ 32) % 2 ^ 32 = 0
  · rw [if_pos ((lN_e0 (by omega)).2 h1)]
    by_cases h2 : a % 2 ^ 32 * (b % 2 ^ 32) % 2 ^ 32 = 0
    · rw [if_pos ((lN_e0 (by omega)).2 h2), if_neg (fun g => g (q8.2 ⟨h1, h2⟩))]
    · rw [if_neg (fun g => h2 ((lN_e0 (by omega)).1 g)), if_pos (fun g => h2 (q8.1 g).2), show (1 : Int64) = lN 1 from rfl, wb_or (by omega) (by decide), z_or1]
  · rw [if_neg (fun g => h1 ((lN_e0 (by omega)).1 g)), if_pos (fun g => h1 (q8.1 g).1), show (1 : Int64) = lN 1 from rfl, wb_or (by omega) (by decide), z_or1]
