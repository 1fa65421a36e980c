/-! The class's sum: pressed. -/
theorem pressed_n {a k : Nat} (ha : a < 2 ^ 63) (hk : k < 2 ^ 30) : C_U_pressed (lN a) (nI k) = lN (zst a k) := by
  have c : (nI k ≤ 62) ↔ k ≤ 62 := nI_leI (b := 62) (by omega) (by decide)
  rw [C_U_pressed, zst]
  by_cases h : k ≤ 62
  · have hle : a / 2 ^ k * 2 ^ k ≤ a := Nat.div_mul_le_self _ _
    have hd := Nat.div_add_mod' a (2 ^ k)
    have hq := Nat.div_le_self a (2 ^ k)
    rw [if_pos (c.2 h), jUshr_lN (by omega) (by omega), jShl_lN _ (by omega)]
    have e : (lN (a / 2 ^ k * 2 ^ k) = lN a) ↔ a % 2 ^ k = 0 := by
      rw [pk_lEQ (by omega) ha]; omega
    by_cases g : a % 2 ^ k = 0
    · rw [if_pos (e.2 g), if_neg (fun q => q g)]
    · rw [if_neg (fun q => g (e.1 q)), if_pos g, show (1 : Int64) = lN 1 from rfl, wb_or (by omega) (by decide), z_or1]
  · have hp : 2 ^ 63 ≤ 2 ^ k := Nat.pow_le_pow_right (by decide) (by omega)
    rw [if_neg (fun q => h (c.1 q)), Nat.mod_eq_of_lt (show a < 2 ^ k by omega), Nat.div_eq_of_lt (show a < 2 ^ k by omega)]
    by_cases g : a = 0
    · rw [if_pos ((lN_e0 ha).2 g), if_neg (fun q => q g)]
      rfl
    · rw [if_neg (fun q => g ((lN_e0 ha).1 q)), if_pos g]
      rfl
