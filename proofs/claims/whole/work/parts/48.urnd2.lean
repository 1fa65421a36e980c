/-! The class's rounding is zround: the body. -/
def zb (sg : Bool) : Nat := if sg = false then 0 else 1
def zRes (i : Nat) (sg : Bool) (fl : Int32) (z : Nat × Nat) : Int64 × Int32 := (zV i (zb sg) z.1, fl ||| nI z.2)
theorem r168 {i md m r : Nat} (hi : i < 2) (hm : md ≤ 3) (fl : Int32) (sg : Bool) (h1 : m < 2 ^ 63) (h2 : r < 2 ^ 63) : C_U_rounded_168 (nI md) fl i sg (lN r) (lN m) = zRes i sg fl (if zI i ≤ m then zhuge i md sg else (m, if r = 0 then 0 else if m < zL i then 3 else 1)) := by
  rw [C_U_rounded_168, fEn_n hi, fLe_n hi, huge_n hi hm]
  by_cases g : zI i ≤ m
  · rw [if_neg (fun x => by have := (pk_lLT h1 (z63 hi)).1 x; omega), if_pos g]
    rfl
  · rw [if_pos ((pk_lLT h1 (z63 hi)).2 (by omega)), if_neg g, F_signed hi (by have := zI_lt hi; omega)]
    by_cases k : r = 0
    · rw [if_pos ((lN_e0 h2).2 k), if_pos k, zRes, or_0]
      rfl
    · rw [if_neg (fun x => k ((lN_e0 h2).1 x)), if_neg k]
      by_cases j : m < zL i
      · rw [if_neg (fun x => by have := (pk_lLE (zL_63 hi) h1).1 x; omega), if_pos j]
        rfl
      · rw [if_pos ((pk_lLE (zL_63 hi) h1).2 (by omega)), if_neg j]
        rfl
theorem zc_0i {r h : Nat} (h0 : 0 < h) : zc r (2 * h) false = 0 ↔ r = 0 := by
  unfold zc
  by_cases g : 2 * r < 2 * h
  · rw [if_pos g]
    by_cases k : r = 0
    · rw [if_pos ⟨k, rfl⟩]; omega
    · rw [if_neg (fun x => k x.1)]; omega
  · rw [if_neg g]
    split <;> omega
theorem zu_01 (md : Nat) (sg : Bool) (q c : Nat) : zu md sg q c = 0 ∨ zu md sg q c = 1 := by
  unfold zu
  split
  · split <;> simp
  · split
    · split <;> simp
    · split
      · split <;> simp
      · simp
theorem r112 {i md M low E : Nat} (hi : i < 2) (hm : md ≤ 3) (fl : Int32) (sg : Bool) (hM : M < 2 ^ 63) (hl : 1 ≤ low) (hl2 : low ≤ 63) (hE : 1 ≤ E) (hE2 : E ≤ 2 * zB i) (hq : M / 2 ^ low < 2 * zL i) :
    C_U_rounded_112 (nI md) fl i sg (lN M) (nI E) (nI low) = zRes i sg fl (zend i md sg (E : Int) (M / 2 ^ low) (zc (M % 2 ^ low) (2 ^ low) false)) := by
  have e2 : 2 ^ low = 2 * 2 ^ (low - 1) := by rw [show low = (low - 1) + 1 from by omega, Nat.pow_succ, Nat.mul_comm]; rfl
  have hh0 := Nat.two_pow_pos (low - 1)
  have hr := Nat.mod_lt M (Nat.two_pow_pos low)
  have hrM := Nat.mod_le M (2 ^ low)
  have hqM := Nat.div_le_self M (2 ^ low)
  have hpl : 2 ^ (low - 1) < 2 ^ 63 := Nat.pow_lt_pow_right (by decide) (by omega)
  have hmul : (E - 1) * zL i + 2 * zL i < 2 ^ 63 := by
    have : (E - 1) * zL i ≤ (2 * zB i - 1) * zL i := Nat.mul_le_mul_right _ (by omega)
    have h2 : (2 * zB i - 1) * zL i + 2 * zL i < 2 ^ 63 := by rcases i01 hi with rfl | rfl <;> decide +kernel
    omega
  have eS : lN M - jShl (lN (M / 2 ^ low)) (nI low) = lN (M % 2 ^ low) := by
    rw [jShl_lN _ (by omega), lN_sub (Nat.div_mul_le_self _ _)]
    congr 1
    have := Nat.div_add_mod' M (2 ^ low)
    omega
  have eH : jShl 1 (nI low - 1) = lN (2 ^ (low - 1)) := by
    have := pk_sub (a := low) (b := 1) hl
    rw [show nI low - 1 = nI (low - 1) from this, show (1 : Int64) = lN 1 from rfl, jShl_lN _ (by omega), Nat.one_mul]
  have eE : (nI E - 1).toInt64 = lN (E - 1) := by
    have := pk_sub (a := E) (b := 1) hE
    rw [show nI E - 1 = nI (E - 1) from this]
    have : zB i ≤ 1023 := by rcases i01 hi with rfl | rfl <;> decide
    exact nI_to (by omega)
  rw [C_U_rounded_112, jUshr_lN (Nat.lt_trans hM (by decide)) (by omega), eS, eH, goes_n hm fl sg (by omega) (by omega) hpl hh0 (by omega), ← e2]
  have key : ∀ q2 : Nat, q2 ≤ 2 * zL i → C_U_rounded_153 (nI md) fl i sg (nI E) (lN q2) (lN (M % 2 ^ low)) = zRes i sg fl (if zI i ≤ (E - 1) * zL i + q2 then zhuge i md sg else ((E - 1) * zL i + q2, if M % 2 ^ low = 0 then 0 else if (E - 1) * zL i + q2 < zL i then 3 else 1)) := fun q2 hq2 => by
    rw [C_U_rounded_153, eE, fLe_n hi, lN_mul, lN_add]
    exact r168 hi hm fl sg (by omega) (by omega)
  have hc0 : zc (M % 2 ^ low) (2 ^ low) false = 0 ↔ M % 2 ^ low = 0 := by rw [e2]; exact zc_0i hh0
  rw [zend, show ((E : Int) - 1).toNat = E - 1 from by omega]
  generalize zc (M % 2 ^ low) (2 ^ low) false = c at *
  have hT : ∀ q2 : Nat, (if 2 * (zB i : Int) < (E : Int) ∨ zI i ≤ (E - 1) * zL i + q2 then zhuge i md sg else ((E - 1) * zL i + q2, if c = 0 then 0 else if (E - 1) * zL i + q2 < zL i then 3 else 1)) = (if zI i ≤ (E - 1) * zL i + q2 then zhuge i md sg else ((E - 1) * zL i + q2, if M % 2 ^ low = 0 then 0 else if (E - 1) * zL i + q2 < zL i then 3 else 1)) := fun q2 => by
    have n1 : ¬ 2 * (zB i : Int) < (E : Int) := by omega
    simp only [hc0, n1, false_or]
  rw [hT]
  rcases zu_01 md sg (M / 2 ^ low) c with g | g
  · rw [g, decide_eq_false (by decide), if_pos rfl, Nat.add_zero]
    exact key _ (by omega)
  · rw [g, decide_eq_true rfl, if_neg (by decide), show (1 : Int64) = lN 1 from rfl, lN_add]
    exact key _ (by omega)
