/-! The reference's rounding is zround: the end. -/
def cOf (hb : Nat) (rs : Bool) : Nat := if hb = 0 then (if rs = false then 0 else 1) else (if rs = false then 2 else 3)
theorem m162 {i md s q hb : Nat} (hm : md ≤ 3) (hs : s ≤ 1) (hb1 : hb ≤ 1) (rs : Bool) (hq : q < 2 ^ 63) (fl pr bi u2 u6 : Int32) : C_M_rounded_162 (nI md) fl pr bi (nI s) u2 u6 (lN q) (nI hb) rs = C_M_rounded_265 (nI md) fl pr bi (nI s) u2 u6 (lN q) (decide (cOf hb rs = 0)) (decide (zu md (decide (s = 1)) q (cOf hb rs) = 1)) := by
  have m0 : (nI md = 0) ↔ md = 0 := md_e (k := 0) hm (by decide)
  have m2 : (nI md = 2) ↔ md = 2 := md_e (k := 2) hm (by decide)
  have m3 : (nI md = 3) ↔ md = 3 := md_e (k := 3) hm (by decide)
  have s1 : (nI s = 1) ↔ s = 1 := s_e (k := 1) hs (by decide)
  have s0 : (nI s = 0) ↔ s = 0 := s_e (k := 0) hs (by decide)
  have h1 : (nI hb = 1) ↔ hb = 1 := s_e (k := 1) hb1 (by decide)
  have h0 : (nI hb = 0) ↔ hb = 0 := s_e (k := 0) hb1 (by decide)
  have b4 : (lN q &&& 1 = 1) ↔ q % 2 = 1 := by
    rw [wb_a1 (Nat.lt_trans hq (by decide))]
    exact pk_lEQ (b := 1) (by omega) (by decide)
  simp only [C_M_rounded_162, C_M_rounded_177, C_M_rounded_216, C_M_rounded_240, m0, m2, m3, s1, s0, h1, h0, b4]
  have hmd : md = 0 ∨ md = 1 ∨ md = 2 ∨ md = 3 := by omega
  have hq2 := Nat.mod_two_eq_zero_or_one q
  rcases hmd with rfl | rfl | rfl | rfl <;> rcases (show s = 0 ∨ s = 1 by omega) with rfl | rfl <;> rcases (show hb = 0 ∨ hb = 1 by omega) with rfl | rfl <;> cases rs <;> rcases hq2 with e | e <;> simp [zu, cOf, e]
theorem jshr_L {i : Nat} (hi : i < 2) : jShr (lN (2 * zL i)) 1 = lN (zL i) := by rcases i01 hi with rfl | rfl <;> decide +kernel
theorem m265 {i md s q c E : Nat} {e low : Int} (hi : i < 2) (hm : md ≤ 3) (hs : s ≤ 1) (fl : Int32) (hq : q < 2 * zL i) (hE1 : 1 ≤ E) (hEb : E < 90000) (hlow : low + e = (E : Int) - (zB i : Int) - ((zP i : Int) - 1)) (hsm : q < zL i → E = 1) :
    C_M_rounded_265 (nI md) fl (nI (zP i)) (nI (zB i)) (nI s) (iI e) (iI low) (lN q) (decide (c = 0)) (decide (zu md (decide (s = 1)) q c = 1)) = zRes i (decide (s = 1)) fl (zend i md (decide (s = 1)) (E : Int) q c) := by
  obtain ⟨e1, e2, e3, e4, e5⟩ := shl_L hi
  have h63 := zL_63 hi
  have hzl := zL_lt hi
  have hz3 := z63 hi
  have hp := zL_pos i
  have key : ∀ q1 : Nat, q ≤ q1 → q1 ≤ 2 * zL i → C_M_rounded_276 (nI md) fl (nI (zP i)) (nI (zB i)) (nI s) (iI e) (iI low) (lN q1) (decide (c = 0)) = zRes i (decide (s = 1)) fl (if 2 * (zB i : Int) < (E : Int) ∨ zI i ≤ (E - 1) * zL i + q1 then zhuge i md (decide (s = 1)) else ((E - 1) * zL i + q1, if c = 0 then 0 else if (E - 1) * zL i + q1 < zL i then 3 else 1)) := by
    intro q1 hqq hq1
    have hT : ∀ x y : Nat, (if decide (c = 0) = true then x else y) = (if c = 0 then x else y) := fun x y => by simp only [decide_eq_true_eq]
    have hI : (2 * (zB i : Int) < (E : Int)) ↔ 2 * zB i < E := by omega
    have hEL : zL i ≤ E * zL i := Nat.le_mul_of_pos_left _ (by omega)
    rw [C_M_rounded_276, e2]
    by_cases g : q1 = 2 * zL i
    · rw [if_pos (by rw [g]), g, jshr_L hi, show (iI low + iI e) + 1 = iI (((E + 1 : Nat) : Int) - (zB i : Int) - ((zP i : Int) - 1)) from by
        rw [show (1 : Int32) = iI 1 from rfl, iI_add, iI_add]; congr 1; omega]
      rw [m303 hi hm hs fl _ (by omega) (by omega) (by omega), hT, if_neg (Nat.lt_irrefl _)]
      obtain ⟨z1, z2⟩ := z_carryM i hE1 g
      rw [g] at z1 z2
      rw [Nat.sub_self, z2]
      have hge : ¬ (E - 1) * zL i + 2 * zL i < zL i := by omega
      simp only [hI, ← z1, Nat.le_refl, true_and, hge, Nat.lt_irrefl, if_false, Nat.add_zero]
    · rw [if_neg (fun x => g ((pk_lEQ (by omega) (by omega)).1 x)), iI_add, hlow, m303 hi hm hs fl _ (by omega) hE1 (by omega), hT]
      by_cases k : q1 < zL i
      · have hE : E = 1 := hsm (by omega)
        subst hE
        obtain ⟨z1, z2⟩ := z_smallM i k
        have n1 : ¬ (2 * ((zB i : Int)) < ((1 : Nat) : Int) ∨ zI i ≤ (1 - 1) * zL i + q1) := by
          intro x
          exact z1 (x.imp (fun y => by omega) id)
        rw [if_neg (fun x => by omega), if_neg n1, if_pos k, if_pos k, z2, if_pos k]
      · obtain ⟨z1, z2⟩ := z_usualM i hE1 (show zL i ≤ q1 by omega) (by omega)
        have hge : ¬ (E - 1) * zL i + q1 < zL i := by omega
        have hle : zL i ≤ q1 := by omega
        rw [if_neg k, if_neg k, z2]
        simp only [hI, ← z1, hle, true_and, hge, if_false]
  rw [C_M_rounded_265, zend, show ((E : Int) - 1).toNat = E - 1 from by omega]
  rcases zu_01 md (decide (s = 1)) q c with g | g
  · rw [g, decide_eq_false (by decide), if_pos rfl]
    exact key _ (by omega) (by omega)
  · rw [g, decide_eq_true rfl, if_neg (by decide), show (1 : Int64) = lN 1 from rfl, lN_add]
    exact key _ (by omega) (by omega)
theorem mLow_n {i N : Nat} {e : Int} (hi : i < 2) (he : iB e) : mLow N (nI (zP i)) (nI (zB i)) (iI e) = zlow i (zX i N e) e := by
  have hP := zP_le i
  have hB : zB i ≤ 1023 := by rcases i01 hi with rfl | rfl <;> decide
  unfold mLow zlow zX
  rw [iI_nI, iI_nI, iI_toInt ⟨by omega, by omega⟩, iI_toInt ⟨by omega, by omega⟩, iI_toInt he]
  omega
theorem mHR (N : Nat) (low : Int) (more : Bool) : mHalf N low ≤ 1 ∧ zc (zr N low) (2 ^ low.toNat) more = cOf (mHalf N low) (mRest N low more) := by
  unfold mHalf mRest
  by_cases h : 0 < low
  · rw [if_pos h]
    refine ⟨by omega, ?_⟩
    obtain ⟨n, hn⟩ : ∃ n : Nat, low = (n : Int) + 1 := ⟨(low - 1).toNat, by omega⟩
    rw [(zq_pos (by omega)).2, show low.toNat = n + 1 from by omega, show (low - 1).toNat = n from by omega, zc_bits, cOf]
    by_cases a : N % 2 ^ n = 0 <;> cases more <;> simp [a]
  · rw [if_neg h]
    refine ⟨by omega, ?_⟩
    rw [show low.toNat = 0 from by omega, show (low - 1).toNat = 0 from by omega]
    unfold zr
    rw [show low.toNat = 0 from by omega, Nat.pow_zero, Nat.mod_one, Nat.mod_one, zc_0 (by decide)]
    cases more <;> rfl
/-- the reference's rounded -/
theorem mrounded_n {i md s N : Nat} {e : Int} (hi : i < 2) (hm : md ≤ 3) (hs : s ≤ 1) (fl : Int32) (more : Bool) (h0 : N ≠ 0) (hN : N < 2 ^ 2200) (he : -60000 ≤ e ∧ e ≤ 60000) : C_M_rounded (nI md) fl (nI (zP i)) (nI (zB i)) (nI s) (iI e) more N = zRes i (decide (s = 1)) fl (zround i md (decide (s = 1)) N e more) := by
  have hB : zB i ≤ 1023 := by rcases i01 hi with rfl | rfl <;> decide
  have hlog := z_log_lt hN h0
  have hX1 : 1 ≤ zX i N e := by unfold zX; omega
  have hX2 : zX i N e < 80000 := by unfold zX; omega
  have h63 := zL_63 hi
  have hzl := zL_lt hi
  have hz3 := z63 hi
  have hq := zq_lt i N e h0
  rw [C_M_rounded, mLow_n hi ⟨by omega, by omega⟩]
  obtain ⟨a1, a2⟩ := mHR N (zlow i (zX i N e) e) more
  rw [m162 (i := i) hm hs a1 _ (by omega), ← a2]
  obtain ⟨E, hE⟩ : ∃ E : Nat, zX i N e = (E : Int) := ⟨(zX i N e).toNat, by omega⟩
  have hsm : zq N (zlow i (zX i N e) e) < zL i → E = 1 := by
    intro x
    rcases Nat.lt_or_ge 1 E with y | y
    · have := zq_ge i N e h0 (by omega)
      omega
    · omega
  have hlow : zlow i (zX i N e) e + e = (E : Int) - (zB i : Int) - ((zP i : Int) - 1) := by rw [hE]; unfold zlow; omega
  rw [m265 hi hm hs fl hq (by omega) (by omega) hlow hsm, zround, hE]
