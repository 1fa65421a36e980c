/-! What a register's bits mean, as numbers; the reference's take. -/
def fi (z : Bool) : Nat := if z = false then 0 else 1
def zS (i : Nat) : Nat := if i = 0 then 2 ^ 63 else 2 ^ 31
def dM (i n : Nat) : Nat := n % zS i
def dS (i n : Nat) : Nat := n / zS i % 2
def dK (i n : Nat) : Nat := if zI i < dM i n then 0 else if dM i n = zI i then 1 else 2
def dP (i n : Nat) : Nat := if dM i n < zL i then dM i n else dM i n % zL i + zL i
def dE (i n : Nat) : Int := ((max (dM i n / zL i) 1 : Nat) : Int) - (zB i : Int) - ((zP i : Int) - 1)
theorem nI_mask {m k : Nat} {M : Int32} (hk : k ≤ 32) (hM : M.toBitVec.toNat = 2 ^ k - 1) : nI m &&& M = nI (m % 2 ^ k) := by
  rw [pk_and (nI m) k hM]
  have e : (nI m).toBitVec.toNat = m % 2 ^ 32 := BitVec.toNat_ofNat m 32
  rw [e, Nat.mod_mod_of_dvd _ (Nat.pow_dvd_pow 2 hk)]
theorem lN_mask {n k : Nat} (hn : n < 2 ^ 64) (hk : k < 63) : lN n &&& ((jShl 1 (nI k)) - 1) = lN (n % 2 ^ k) := by
  have e1 : jShl 1 (nI k) = lN (1 * 2 ^ k) := wb_shl 1 (by omega)
  rw [e1, Nat.one_mul, show (1 : Int64) = lN 1 from rfl, lN_sub (z_p k), wb_mask hn (by omega)]
theorem jUshr_lN {n k : Nat} (hn : n < 2 ^ 64) (hk : k < 64) : jUshr (lN n) (nI k) = lN (n / 2 ^ k) := wb_shr hn hk
theorem jShl_lN (n : Nat) {k : Nat} (hk : k < 64) : jShl (lN n) (nI k) = lN (n * 2 ^ k) := wb_shl n hk
theorem lN_e0 {n : Nat} (h : n < 2 ^ 63) : lN n = 0 ↔ n = 0 := pk_lEQ (b := 0) h (by decide)
theorem nI_e0 {x : Nat} (h : x < 2 ^ 31) : nI x = 0 ↔ x = 0 := nI_eq (b := 0) h (by decide)
theorem take_130 {i x f : Nat} (hi : i < 2) (hx : x < 2 ^ 30) (kx sx : Int32) : C_M_take_130 kx sx (nI (zP i)) (nI (zB i)) (nI x) (lN f) = (kx, sx, iI (((max x 1 : Nat) : Int) - (zB i : Int) - ((zP i : Int) - 1)), lN f) := by
  unfold C_M_take_130
  have e1 : (1 : Int32) = iI 1 := rfl
  by_cases h : x = 0
  · subst h
    rw [if_pos (show nI 0 = 0 from rfl), e1, iI_nI, iI_nI, iI_sub, iI_sub, iI_sub]
    rfl
  · rw [if_neg (fun q => h ((nI_e0 (by omega)).1 q)), e1, iI_nI, iI_nI, iI_nI, iI_sub, iI_sub, iI_sub, show max x 1 = x by omega]
theorem take_23 {i n w : Nat} (hi : i < 2) (hn : n < 2 ^ 64) (hw : w = if i = 0 then 11 else 8) :
    C_M_take_23 (nI (zP i)) (nI (zB i)) (lN n) (nI w) = (nI (dK i n), nI (dS i n), iI (dE i n), lN (dP i n)) := by
  have hP1 : nI (zP i) - 1 = nI (zP i - 1) := by
    rw [show (1 : Int32) = nI 1 from rfl, pk_sub (by have := zP_ge i; omega)]
  have hcases : (i = 0 ∧ w = 11 ∧ zP i = 53 ∧ zB i = 1023 ∧ zL i = 2 ^ 52 ∧ zS i = 2 ^ 52 * 2 ^ 11) ∨ (i = 1 ∧ w = 8 ∧ zP i = 24 ∧ zB i = 127 ∧ zL i = 2 ^ 23 ∧ zS i = 2 ^ 23 * 2 ^ 8) := by
    rcases (show i = 0 ∨ i = 1 by omega) with rfl | rfl
    · left
      rw [hw]
      decide
    · right
      rw [hw]
      decide
  have hL : zL i = 2 ^ (zP i - 1) := rfl
  have hZS : zS i = zL i * 2 ^ w := by rcases hcases with h | h <;> (obtain ⟨_, h2, _, _, h5, h6⟩ := h; rw [h5, h6, h2])
  have hw30 : w ≤ 30 ∧ 1 ≤ w := by rcases hcases with h | h <;> omega
  have hP52 : zP i - 1 ≤ 52 := by rcases hcases with h | h <;> omega
  have hPw : zP i - 1 + w ≤ 63 := by rcases hcases with h | h <;> omega
  have hBw : 2 * zB i + 2 = 2 ^ w := by rcases hcases with h | h <;> (obtain ⟨_, h2, _, h4, _, _⟩ := h; rw [h4, h2])
  unfold C_M_take_23
  rw [hP1]
  have hmask : (((1 : Int32) <<< (nI w &&& 31)) - 1).toBitVec.toNat = 2 ^ w - 1 := by
    rcases hcases with h | h <;> (obtain ⟨_, h2, _⟩ := h; rw [h2]; decide)
  have hx : (jUshr (lN n) (nI (zP i - 1))).toInt32 &&& (((1 : Int32) <<< (nI w &&& 31)) - 1) = nI (dM i n / zL i) := by
    rw [jUshr_lN hn (by omega), lN_i, nI_mask (by omega) hmask, ← hL]
    congr 1
    unfold dM
    rw [hZS, Nat.mod_mul_right_div_self]
  have hf : lN n &&& ((jShl 1 (nI (zP i - 1))) - 1) = lN (dM i n % zL i) := by
    rw [lN_mask hn (by omega), ← hL]
    congr 1
    unfold dM
    rw [hZS, Nat.mod_mul_right_mod]
  have hs : (jUshr (lN n) (nI (zP i - 1) + nI w)).toInt32 &&& 1 = nI (dS i n) := by
    rw [nI_add, jUshr_lN hn (by omega), lN_i, nI_mask (k := 1) (by decide) (by decide)]
    congr 1
    unfold dS
    rw [hZS, hL, ← Nat.pow_add]
  rw [hx, hf, hs]
  have hmag : dM i n < zL i * 2 ^ w := by
    unfold dM
    rw [← hZS]
    refine Nat.mod_lt _ ?_
    rw [hZS]
    exact Nat.mul_pos (zL_pos i) (z_p w)
  have hxlt : dM i n / zL i < 2 ^ w := by rwa [Nat.div_lt_iff_lt_mul (zL_pos i), Nat.mul_comm]
  have hw2 : 2 ^ w ≤ 2 ^ 11 := z_pow_le (by rcases hcases with h | h <;> omega)
  have h11 : (2 : Nat) ^ 11 = 2048 := by decide
  have hflt : dM i n % zL i < zL i := Nat.mod_lt _ (zL_pos i)
  have hL52 : zL i ≤ 2 ^ 52 := by rw [hL]; exact z_pow_le hP52
  have h52 : (2 : Nat) ^ 52 + 2 ^ 52 < 2 ^ 63 := by decide
  have hdm := Nat.div_add_mod (dM i n) (zL i)
  have hc : (2 * nI (zB i) + 1 ≤ nI (dM i n / zL i)) ↔ 2 * zB i + 1 ≤ dM i n / zL i := by
    rw [show (2 : Int32) = nI 2 from rfl, show (1 : Int32) = nI 1 from rfl, pk_mul, nI_add]
    exact nI_leI (by omega) (by omega)
  have h105 : ∀ kx : Int32, C_M_take_105 (nI (dS i n)) (nI (zP i)) (nI (zB i)) (nI (dM i n / zL i)) (lN (dM i n % zL i)) kx = (kx, nI (dS i n), iI (dE i n), lN (dP i n)) := by
    intro kx
    unfold C_M_take_105
    by_cases h : dM i n / zL i = 0
    · rw [if_pos (by rw [h]; rfl), take_130 hi (by omega)]
      have hlt : dM i n < zL i := by
        rcases Nat.div_eq_zero_iff.1 h with g | g
        · have := zL_pos i
          omega
        · exact g
      unfold dE dP
      rw [if_pos hlt, Nat.mod_eq_of_lt hlt]
    · rw [if_neg (fun q => h ((nI_e0 (by omega)).1 q)), hP1, show (1 : Int64) = lN 1 from rfl, jShl_lN 1 (by omega), Nat.one_mul, lN_add, ← hL, take_130 hi (by omega)]
      have hge : ¬ dM i n < zL i := fun g => h (Nat.div_eq_of_lt g)
      unfold dE dP
      rw [if_neg hge]
  have hI : zI i = (2 * zB i + 1) * zL i := rfl
  by_cases h1 : 2 * zB i + 1 ≤ dM i n / zL i
  · have hxe : dM i n / zL i = 2 * zB i + 1 := by omega
    have hme : dM i n = zI i + dM i n % zL i := by
      rw [hI]
      rw [hxe, Nat.mul_comm] at hdm
      omega
    rw [if_pos (hc.2 h1)]
    by_cases h2 : dM i n % zL i = 0
    · rw [if_pos ((lN_e0 (by omega)).2 h2), h105]
      unfold dK
      rw [if_neg (by omega), if_pos (by omega)]
      rfl
    · rw [if_neg (fun q => h2 ((lN_e0 (by omega)).1 q)), h105]
      unfold dK
      rw [if_pos (by omega)]
      rfl
  · have hlt : dM i n < zI i := by
      rw [hI, ← Nat.div_lt_iff_lt_mul (zL_pos i)]
      omega
    rw [if_neg (fun q => h1 (hc.1 q)), h105]
    unfold dK
    rw [if_neg (by omega), if_neg (by omega)]
    rfl
theorem fmt_P (z : Bool) : (C_M_format z).1 = nI (zP (fi z)) := by cases z <;> decide
theorem fmt_B (z : Bool) : (C_M_format z).2 = nI (zB (fi z)) := by cases z <;> decide
theorem fi_lt (z : Bool) : fi z < 2 := by cases z <;> decide
theorem take_spec (z : Bool) (rg : Nat → Int64) (k : Int32) : C_M_take (C_M_format z).1 (C_M_format z).2 rg k = (nI (dK (fi z) (uL (rg k.toNatClampNeg))), nI (dS (fi z) (uL (rg k.toNatClampNeg))), iI (dE (fi z) (uL (rg k.toNatClampNeg))), lN (dP (fi z) (uL (rg k.toNatClampNeg)))) := by
  unfold C_M_take
  rw [fmt_P, fmt_B]
  have hn := uL_lt (rg k.toNatClampNeg)
  have e := lN_uL (rg k.toNatClampNeg)
  generalize uL (rg k.toNatClampNeg) = n at hn e
  rw [e]
  cases z
  · rw [if_neg (by decide)]
    exact take_23 (i := 0) (w := 11) (by decide) hn rfl
  · rw [if_pos (by decide)]
    exact take_23 (i := 1) (w := 8) (by decide) hn rfl
theorem dP_lt {i : Nat} (hi : i < 2) (n : Nat) : dP i n < 2 ^ 53 := by
  have h1 : dM i n % zL i < zL i := Nat.mod_lt _ (zL_pos i)
  have h2 : zL i ≤ 2 ^ 52 := by
    unfold zL
    exact z_pow_le (by have := zP_le i; omega)
  have h3 : (2 : Nat) ^ 52 + 2 ^ 52 = 2 ^ 53 := by decide
  unfold dP
  split <;> omega
theorem dE_b {i : Nat} (hi : i < 2) (n : Nat) : 0 ≤ dE i n - (1 - (zB i : Int) - ((zP i : Int) - 1)) ∧ dE i n - (1 - (zB i : Int) - ((zP i : Int) - 1)) ≤ 2046 := by
  have h1 : dM i n / zL i < 2048 := by
    rcases (show i = 0 ∨ i = 1 by omega) with rfl | rfl
    · have e1 : zL 0 = 4503599627370496 := by decide
      have e2 : zS 0 = 9223372036854775808 := by decide
      unfold dM
      rw [e1, e2]
      omega
    · have e1 : zL 1 = 8388608 := by decide
      have e2 : zS 1 = 2147483648 := by decide
      unfold dM
      rw [e1, e2]
      omega
  unfold dE
  omega
theorem zPB {i : Nat} (hi : i < 2) : (zP i = 53 ∧ zB i = 1023) ∨ (zP i = 24 ∧ zB i = 127) := by
  rcases (show i = 0 ∨ i = 1 by omega) with rfl | rfl
  · left; decide
  · right; decide
