/-! whole: the class's cut. -/
theorem sg_63 {n : Nat} (h : n < 2 ^ 64) : (lN n ^^^ (-9223372036854775808)).toInt = (n : Int) - 2 ^ 63 := by
  have e := F_opp (i := 0) (n := n) (by decide) h
  rw [C_F_opposite, show fSg 0 = -9223372036854775808 from rfl] at e
  rw [e, zV]
  have hs := own_split (i := 0) (n := n) h
  have hm := @dM_lt 0 n
  have e0 : zS 0 = 2 ^ 63 := rfl
  rcases dS_01 0 n with g | g <;> rw [g] at hs ⊢
  · show (Int64.ofNat (dM 0 n + (1 - 0) * zS 0)).toInt = _
    rw [Int64.toInt_ofNat', show Int64.size = 18446744073709551616 from rfl, Int.bmod_def]
    omega
  · rw [Nat.sub_self, Nat.zero_mul, Nat.add_zero, pk_lT (by omega)]
    omega
theorem beyond_n {a b : Nat} (ha : a < 2 ^ 64) (hb : b < 2 ^ 64) : C_U_isBeyond (lN a) (lN b) = decide (b < a) := by
  rw [C_U_isBeyond]
  have e : ((lN a ^^^ (-9223372036854775808)) ≤ (lN b ^^^ (-9223372036854775808))) ↔ a ≤ b := by
    rw [Int64.le_iff_toInt_le, sg_63 ha, sg_63 hb]; omega
  by_cases g : a ≤ b
  · rw [if_pos (e.2 g), decide_eq_false (by omega)]
  · rw [if_neg (fun q => g (e.1 q)), decide_eq_true (by omega)]
theorem moved_n {a : Nat} {p : Int} (ha : a < 2 ^ 64) (hp : -5000 ≤ p ∧ p < 64) (hb : 0 ≤ p → a * 2 ^ p.toNat < 2 ^ 64) : C_U_moved (lN a) (iI p) = lN (zq a (-p)) := by
  have c1 : (iI p ≤ -64) ↔ p ≤ -64 := iI_le (b := -64) ⟨by omega, by omega⟩ ⟨by decide, by decide⟩
  have c2 : (iI p < 64) ↔ p < 64 := iI_lt (b := 64) ⟨by omega, by omega⟩ ⟨by decide, by decide⟩
  have c3 : (0 ≤ iI p) ↔ 0 ≤ p := iI_le (a := 0) ⟨by decide, by decide⟩ ⟨by omega, by omega⟩
  rw [C_U_moved, zq_e.1]
  by_cases h1 : p ≤ -64
  · rw [if_pos (c1.2 h1), show p.toNat = 0 from by omega, Nat.pow_zero, Nat.mul_one, Nat.div_eq_of_lt (Nat.lt_of_lt_of_le ha (Nat.pow_le_pow_right (by decide) (by omega)))]
    rfl
  · rw [if_neg (fun q => h1 (c1.1 q)), if_pos (c2.2 hp.2)]
    by_cases h2 : 0 ≤ p
    · rw [if_pos (c3.2 h2)]
      obtain ⟨d, rfl⟩ : ∃ d : Nat, p = (d : Int) := ⟨p.toNat, by omega⟩
      rw [← iI_nI, jShl_lN _ (by omega), show (-(d : Int)).toNat = 0 from by omega, Nat.pow_zero, Nat.div_one]
      rfl
    · rw [if_neg (fun q => h2 (c3.1 q))]
      obtain ⟨d, rfl⟩ : ∃ d : Nat, p = -(d : Int) := ⟨(-p).toNat, by omega⟩
      rw [iI_neg, Int.neg_neg, ← iI_nI, jUshr_lN ha (by omega), show (-(d : Int)).toNat = 0 from by omega, Nat.pow_zero, Nat.mul_one]
      rfl
theorem cut_23 {md M lim : Nat} {p : Int} (fl : Int32) (hM : M < 2 ^ 53) (hM2 : 2 ^ 52 ≤ M) (hp : -4000 ≤ p ∧ p ≤ 4000) (hl : lim < 2 ^ 64) : C_U_cut_23 (nI md) fl (lN lim) (lN M) (iI p) (C_U_moved (lN M) (iI p)) = if lim < zq M (-p) then (lN lim, fl ||| 16) else (lN (zq M (-p)), if zr M (-p) = 0 then fl else fl ||| 1) := by
  have c1 : ((12 : Int32) ≤ iI p) ↔ 12 ≤ p := iI_le (a := 12) ⟨by decide, by decide⟩ ⟨by omega, by omega⟩
  have c3 : (0 ≤ iI p) ↔ 0 ≤ p := iI_le (a := 0) ⟨by decide, by decide⟩ ⟨by omega, by omega⟩
  rw [C_U_cut_23]
  by_cases h1 : 12 ≤ p
  · have hT : 2 ^ 64 ≤ zq M (-p) := by
      rw [zq_e.1, show (-p).toNat = 0 from by omega, Nat.pow_zero, Nat.div_one]
      calc 2 ^ 64 = 2 ^ 52 * 2 ^ 12 := by decide
        _ ≤ M * 2 ^ p.toNat := Nat.mul_le_mul hM2 (Nat.pow_le_pow_right (by decide) (by omega))
    rw [if_pos (c1.2 h1), if_pos (by omega)]
    rfl
  · have hb : 0 ≤ p → M * 2 ^ p.toNat < 2 ^ 64 := fun h => by
      calc M * 2 ^ p.toNat ≤ M * 2 ^ 11 := Nat.mul_le_mul_left _ (Nat.pow_le_pow_right (by decide) (by omega))
        _ < 2 ^ 53 * 2 ^ 11 := Nat.mul_lt_mul_of_pos_right hM (by decide)
        _ = 2 ^ 64 := by decide
    have hT : zq M (-p) < 2 ^ 64 := by
      rw [zq_e.1]
      by_cases h : 0 ≤ p
      · exact Nat.lt_of_le_of_lt (Nat.div_le_self _ _) (hb h)
      · rw [show p.toNat = 0 from by omega, Nat.pow_zero, Nat.mul_one]
        exact Nat.lt_of_le_of_lt (Nat.div_le_self _ _) (by omega)
    rw [if_neg (fun q => h1 (c1.1 q)), moved_n (by omega) (by omega) hb, beyond_n hT hl]
    by_cases h2 : lim < zq M (-p)
    · rw [decide_eq_true h2, if_neg (by decide), if_pos h2]
      rfl
    · rw [decide_eq_false h2, if_pos rfl, if_neg h2]
      by_cases h3 : 0 ≤ p
      · have : zr M (-p) = 0 := by rw [zq_e.2, show (-p).toNat = 0 from by omega, Nat.pow_zero, Nat.mod_one]
        rw [if_pos (c3.2 h3), if_pos this]
      · rw [if_neg (fun q => h3 (c3.1 q))]
        obtain ⟨d, rfl⟩ : ∃ d : Nat, p = -(d : Int) := ⟨(-p).toNat, by omega⟩
        have q1 : zq M (- -(d : Int)) = M / 2 ^ d := by
          rw [zq_e.1, show (-(d : Int)).toNat = 0 from by omega, show (- -(d : Int)).toNat = d from by omega, Nat.pow_zero, Nat.mul_one]
        have q2 : zr M (- -(d : Int)) = M % 2 ^ d := by
          rw [zq_e.2, show (-(d : Int)).toNat = 0 from by omega, show (- -(d : Int)).toNat = d from by omega, Nat.pow_zero, Nat.mul_one]
        rw [q1, q2, iI_neg, Int.neg_neg]
        have hdm := Nat.div_add_mod' M (2 ^ d)
        have key : (C_U_moved (lN (M / 2 ^ d)) (iI (d : Int)) = lN M) ↔ M % 2 ^ d = 0 := by
          by_cases h4 : d < 64
          · have hle : M / 2 ^ d * 2 ^ d ≤ M := Nat.div_mul_le_self _ _
            rw [moved_n (by omega) (by omega) (fun _ => by rw [Int.toNat_natCast]; omega), zq_e.1, show (-(d : Int)).toNat = 0 from by omega, Int.toNat_natCast, Nat.pow_zero, Nat.div_one, pk_lEQ (by omega) (by omega)]
            omega
          · have hp2 : 2 ^ 64 ≤ 2 ^ d := Nat.pow_le_pow_right (by decide) (by omega)
            rw [Nat.div_eq_of_lt (by omega), Nat.mod_eq_of_lt (by omega), C_U_moved]
            have d1 : ¬ iI (d : Int) ≤ -64 := fun q => by have := (iI_le (b := -64) ⟨by omega, by omega⟩ ⟨by decide, by decide⟩).1 q; omega
            have d2 : ¬ iI (d : Int) < 64 := fun q => by have := (iI_lt (b := 64) ⟨by omega, by omega⟩ ⟨by decide, by decide⟩).1 q; omega
            rw [if_neg d1, if_neg d2]
            constructor
            · intro q
              have := (pk_lEQ (a := 0) (b := M) (by decide) (by omega)).1 q
              omega
            · intro q
              omega
        by_cases h5 : M % 2 ^ d = 0
        · rw [if_pos (key.2 h5), if_pos h5]
        · rw [if_neg (fun q => h5 (key.1 q)), if_neg h5]
          rfl
