/-! whole: the reference's loop over the bits of the part. -/
theorem zq_e {x : Nat} {e : Int} : zq x (-e) = x * 2 ^ e.toNat / 2 ^ (-e).toNat ∧ zr x (-e) = x * 2 ^ e.toNat % 2 ^ (-e).toNat := by
  unfold zq zr
  rw [Int.neg_neg]
  exact ⟨rfl, rfl⟩
theorem zq_up {x j : Nat} {e : Int} (h : 0 ≤ e + j) : zq (x + 2 ^ j) (-e) = zq x (-e) + 2 ^ (e + j).toNat ∧ zr (x + 2 ^ j) (-e) = zr x (-e) := by
  rw [zq_e.1, zq_e.1, zq_e.2, zq_e.2]
  by_cases g : 0 ≤ e
  · obtain ⟨d, rfl⟩ : ∃ d : Nat, e = (d : Int) := ⟨e.toNat, by omega⟩
    rw [show (-(d : Int)).toNat = 0 from by omega, show ((d : Int)).toNat = d from by omega, show ((d : Int) + (j : Int)).toNat = j + d from by omega, Nat.pow_zero, Nat.div_one, Nat.div_one, Nat.mod_one, Nat.mod_one, Nat.add_mul, Nat.pow_add]
    exact ⟨rfl, rfl⟩
  · obtain ⟨d, rfl⟩ : ∃ d : Nat, e = -(d : Int) := ⟨(-e).toNat, by omega⟩
    rw [show (-(d : Int)).toNat = 0 from by omega, show (-(-(d : Int))).toNat = d from by omega, Nat.pow_zero, Nat.mul_one, Nat.mul_one]
    obtain ⟨k, rfl⟩ : ∃ k : Nat, j = k + d := ⟨j - d, by omega⟩
    rw [show (-(d : Int) + ((k + d : Nat) : Int)).toNat = k from by omega, Nat.pow_add, Nat.add_mul_div_right _ _ (Nat.two_pow_pos d), Nat.add_mul_mod_self_right]
    exact ⟨rfl, rfl⟩
theorem zq_dn {x j : Nat} {e : Int} (h : e + j < 0) (hx : x < 2 ^ j) : zq (x + 2 ^ j) (-e) = 0 ∧ zq x (-e) = 0 ∧ zr (x + 2 ^ j) (-e) ≠ 0 := by
  rw [zq_e.1, zq_e.1, zq_e.2]
  obtain ⟨d, rfl⟩ : ∃ d : Nat, e = -(d : Int) := ⟨(-e).toNat, by omega⟩
  rw [show (-(d : Int)).toNat = 0 from by omega, show (-(-(d : Int))).toNat = d from by omega, Nat.pow_zero, Nat.mul_one, Nat.mul_one]
  have hp : 2 ^ (j + 1) ≤ 2 ^ d := Nat.pow_le_pow_right (by decide) (by omega)
  rw [Nat.pow_succ] at hp
  have hj := Nat.two_pow_pos j
  rw [Nat.div_eq_of_lt (by omega), Nat.div_eq_of_lt (by omega), Nat.mod_eq_of_lt (by omega)]
  exact ⟨rfl, rfl, by omega⟩
theorem zq_mono {x y : Nat} (h : x ≤ y) (k : Int) : zq x k ≤ zq y k := Nat.div_le_div_right (Nat.mul_le_mul_right _ h)
theorem wh_true (fl er kx sx px : Int32) (fx : Int64) (pr bi u4 : Int32) (u5 u7 u9 : Int64) (v11 : Bool) : C_M_whole_186 fl er kx sx px fx pr bi u4 u5 u7 u9 v11 true = if sx = 1 then (u7, fl ||| 16, er, kx, sx, px, fx, pr, bi) else (u5, fl ||| 16, er, kx, sx, px, fx, pr, bi) := by
  rw [C_M_whole_186, if_neg (by decide), C_M_whole_227, if_neg (by decide)]
theorem wh_out (fl er kx sx px : Int32) (fx : Int64) (pr bi u4 : Int32) (u5 u7 u9 : Int64) (v11 : Bool) (n : Nat) (u13 : Int32) : C_M_whole_112 fl er kx sx px fx pr bi n u4 u5 u7 u9 v11 true u13 = if sx = 1 then (u7, fl ||| 16, er, kx, sx, px, fx, pr, bi) else (u5, fl ||| 16, er, kx, sx, px, fx, pr, bi) := by
  cases n with
  | zero => rw [C_M_whole_112, wh_true]
  | succ n =>
    rw [C_M_whole_112]
    split
    · rw [wh_true]
    · rw [if_neg (by decide), wh_true]
theorem wh_loop (fl er kx sx : Int32) {a w : Nat} {e : Int} (ha : a < 2 ^ 53) (he : -3000 ≤ e ∧ e ≤ 3000) (hw : w ≤ 63) (pr bi : Int32) (u5 u7 : Int64) : ∀ (n j : Nat), j + n = 53 → zq (a % 2 ^ j) (-e) < 2 ^ (w + 1) →
    C_M_whole_112 fl er kx sx (iI e) (lN a) pr bi n (nI w) u5 u7 (lN (zq (a % 2 ^ j) (-e))) (decide (zr (a % 2 ^ j) (-e) ≠ 0)) false (nI j) =
      if 2 ^ (w + 1) ≤ zq a (-e) then (if sx = 1 then (u7, fl ||| 16, er, kx, sx, iI e, lN a, pr, bi) else (u5, fl ||| 16, er, kx, sx, iI e, lN a, pr, bi)) else C_M_whole_186 fl er kx sx (iI e) (lN a) pr bi (nI w) u5 u7 (lN (zq a (-e))) (decide (zr a (-e) ≠ 0)) false := by
  intro n
  induction n with
  | zero =>
    intro j hj hq
    have : j = 53 := by omega
    subst this
    rw [Nat.mod_eq_of_lt ha] at hq ⊢
    rw [C_M_whole_112, if_neg (by omega)]
  | succ n ih =>
    intro j hj hq
    have c53 : ¬ (53 : Int32) ≤ nI j := fun g => by
      have := (nI_leI (a := 53) (by decide) (by omega)).1 g
      omega
    have eb : (jShr (lN a) (nI j) &&& 1 = 1) ↔ a / 2 ^ j % 2 = 1 := by
      rw [bit_lN ha (by omega)]
      exact pk_lEQ (b := 1) (by omega) (by decide)
    have en : nI j + 1 = nI (j + 1) := by
      have := Int32.ofNat_add j 1
      exact this.symm
    rw [C_M_whole_112, if_neg c53, if_pos rfl, en]
    have hs := Nat.mod_pow_succ (x := a) (b := 2) (k := j)
    have hxj := Nat.mod_lt a (Nat.two_pow_pos j)
    have hle : a % 2 ^ (j + 1) ≤ a := Nat.mod_le _ _
    rcases Nat.mod_two_eq_zero_or_one (a / 2 ^ j) with g | g
    · rw [if_neg (fun q => by have := eb.1 q; omega)]
      rw [g, Nat.mul_zero, Nat.add_zero] at hs
      have := ih (j + 1) (by omega) (by rw [hs]; exact hq)
      rw [hs] at this
      exact this
    · rw [if_pos (eb.2 g)]
      rw [g, Nat.mul_one] at hs
      have hI : iI e + nI j = iI (e + j) := by rw [iI_nI, iI_add]
      have c0 : (0 ≤ iI (e + j)) ↔ 0 ≤ e + j := iI_le (a := 0) ⟨by decide, by decide⟩ ⟨by omega, by omega⟩
      have cw : (iI (e + j) ≤ nI w) ↔ e + j ≤ w := by rw [iI_nI]; exact iI_le ⟨by omega, by omega⟩ ⟨by omega, by omega⟩
      rw [hI]
      by_cases h0 : 0 ≤ e + j
      · rw [if_pos (c0.2 h0)]
        obtain ⟨z1, z2⟩ := zq_up (x := a % 2 ^ j) h0
        rw [← hs] at z1 z2
        by_cases h1 : e + j ≤ w
        · rw [if_pos (cw.2 h1)]
          obtain ⟨k, hk⟩ : ∃ k : Nat, e + j = (k : Int) := ⟨(e + j).toNat, by omega⟩
          rw [hk, Int.toNat_natCast] at z1
          rw [hk, ← iI_nI, show (1 : Int64) = lN 1 from rfl, jShl_lN _ (by omega), Nat.one_mul, lN_add, ← z1, ← z2]
          have hx2 : zq (a % 2 ^ j) (-e) < 2 ^ k := by
            rw [zq_e.1]
            rw [Nat.div_lt_iff_lt_mul (Nat.two_pow_pos _)]
            calc a % 2 ^ j * 2 ^ e.toNat < 2 ^ j * 2 ^ e.toNat := Nat.mul_lt_mul_of_pos_right hxj (Nat.two_pow_pos _)
              _ = 2 ^ k * 2 ^ (-e).toNat := by rw [← Nat.pow_add, ← Nat.pow_add]; congr 1; omega
          have hk2 : 2 ^ (k + 1) ≤ 2 ^ (w + 1) := Nat.pow_le_pow_right (by decide) (by omega)
          rw [Nat.pow_succ] at hk2
          exact ih (j + 1) (by omega) (by rw [z1]; omega)
        · have h2 : 2 ^ (w + 1) ≤ 2 ^ (e + j).toNat := Nat.pow_le_pow_right (by decide) (by omega)
          have h3 := zq_mono hle (-e)
          rw [if_neg (fun q => h1 (cw.1 q)), wh_out, if_pos (show 2 ^ (w + 1) ≤ zq a (-e) by omega)]
      · rw [if_neg (fun q => h0 (c0.1 q))]
        obtain ⟨z1, z2, z3⟩ := zq_dn (x := a % 2 ^ j) (show e + j < 0 by omega) hxj
        rw [← hs] at z1 z3
        have := ih (j + 1) (by omega) (by rw [z1]; exact Nat.two_pow_pos _)
        rw [z1, decide_eq_true z3] at this
        rw [z2]
        exact this
