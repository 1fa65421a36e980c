/-! The class's rounding is zround. -/
theorem nI_to {q : Nat} (h : q < 2 ^ 31) : (nI q).toInt64 = lN q := by
  apply Int64.toInt_inj.mp
  rw [pk_lT (by omega), Int32.toInt_toInt64, iI_nI, iI_toInt ⟨by omega, by omega⟩]
theorem md_e {md k : Nat} (h : md ≤ 3) (hk : k ≤ 3) : nI md = nI k ↔ md = k := nI_eq (by omega) (by omega)
theorem goes_n {md q r h : Nat} (hm : md ≤ 3) (fl : Int32) (sg : Bool) (hq : q < 2 ^ 63) (hr : r < 2 ^ 63) (hh : h < 2 ^ 63) (h0 : 0 < h) (hrm : r < 2 * h) : C_U_goesAwayFromZero (nI md) fl sg (lN q) (lN r) (lN h) = decide (zu md sg q (zc r (2 * h) false) = 1) := by
  have c0 : zc r (2 * h) false = if r < h then (if r = 0 then 0 else 1) else if r = h then 2 else 3 := by
    unfold zc
    by_cases g : r < h
    · rw [if_pos (by omega), if_pos g]
      by_cases k : r = 0
      · rw [if_pos ⟨k, rfl⟩, if_pos k]
      · rw [if_neg (fun x => k x.1), if_neg k]
    · rw [if_neg (by omega), if_neg g]
      by_cases k : r = h
      · rw [if_pos ⟨by omega, rfl⟩, if_pos k]
      · rw [if_neg (fun x => k (by omega)), if_neg k]
  have b1 : lN h < lN r ↔ h < r := pk_lLT hh hr
  have b2 : lN r = lN h ↔ r = h := pk_lEQ hr hh
  have b3 : lN r = 0 ↔ r = 0 := lN_e0 hr
  have b4 : lN q &&& 1 = 0 ↔ q % 2 = 0 := by
    rw [wb_a1 (Nat.lt_trans hq (by decide)), lN_e0 (by omega)]
  rw [C_U_goesAwayFromZero, c0]
  have m0 : (nI md = 0) ↔ md = 0 := md_e (k := 0) hm (by decide)
  have m1 : (nI md = 1) ↔ md = 1 := md_e (k := 1) hm (by decide)
  have m2 : (nI md = 2) ↔ md = 2 := md_e (k := 2) hm (by decide)
  simp only [m0, m1, m2, b1, b2, b3, b4]
  have hmd : md = 0 ∨ md = 1 ∨ md = 2 ∨ md = 3 := by omega
  have hq2 := Nat.mod_two_eq_zero_or_one q
  have hC : (r = 0 ∧ r < h) ∨ (¬ r = 0 ∧ r < h) ∨ r = h ∨ h < r := by omega
  rcases hC with ⟨g1, g2⟩ | ⟨g1, g2⟩ | g1 | g1
  · have f1 : (h < r) = False := eq_false (by omega)
    have f2 : (r = h) = False := eq_false (by omega)
    have f3 : (r = 0) = True := eq_true g1
    have f4 : (r < h) = True := eq_true g2
    simp only [f1, f2, f3, f4, if_true, if_false]
    rcases hmd with rfl | rfl | rfl | rfl <;> cases sg <;> simp [zu]
  · have f1 : (h < r) = False := eq_false (by omega)
    have f2 : (r = h) = False := eq_false (by omega)
    have f3 : (r = 0) = False := eq_false g1
    have f4 : (r < h) = True := eq_true g2
    simp only [f1, f2, f3, f4, if_true, if_false]
    rcases hmd with rfl | rfl | rfl | rfl <;> cases sg <;> simp [zu]
  · have f1 : (h < r) = False := eq_false (by omega)
    have f2 : (r = h) = True := eq_true g1
    have f3 : (r = 0) = False := eq_false (by omega)
    have f4 : (r < h) = False := eq_false (by omega)
    simp only [f1, f2, f3, f4, if_true, if_false]
    rcases hmd with rfl | rfl | rfl | rfl <;> cases sg <;> rcases hq2 with e | e <;> simp [zu, e]
  · have f1 : (h < r) = True := eq_true g1
    have f2 : (r = h) = False := eq_false (by omega)
    have f3 : (r = 0) = False := eq_false (by omega)
    have f4 : (r < h) = False := eq_false (by omega)
    simp only [f1, f2, f3, f4, if_true, if_false]
    rcases hmd with rfl | rfl | rfl | rfl <;> cases sg <;> simp [zu]
theorem huge_n {i md : Nat} (hi : i < 2) (hm : md ≤ 3) (fl : Int32) (sg : Bool) : C_U_huge (nI md) fl i sg = (zV i (if sg = false then 0 else 1) (zhuge i md sg).1, fl ||| nI (zhuge i md sg).2) := by
  have m1 : (nI md = 1) ↔ md = 1 := md_e (k := 1) hm (by decide)
  have m2 : (nI md = 2) ↔ md = 2 := md_e (k := 2) hm (by decide)
  have m3 : (nI md = 3) ↔ md = 3 := md_e (k := 3) hm (by decide)
  have e1 : ∀ f : Int32, C_U_huge_34 (nI md) f i sg true = (zV i (if sg = false then 0 else 1) (zI i - 1), f) := fun f => by
    rw [C_U_huge_34, if_neg (by decide), C_F_greatest, show fEn i - 1 = lN (zI i - 1) from by rcases i01 hi with rfl | rfl <;> decide +kernel, F_signed hi (by have := zI_lt hi; omega)]
  have e2 : ∀ f : Int32, C_U_huge_34 (nI md) f i sg false = (zV i (if sg = false then 0 else 1) (zI i), f) := fun f => by
    rw [C_U_huge_34, if_pos rfl, C_F_endless, fEn_n hi, F_signed hi (zI_lt hi)]
  rw [C_U_huge, zhuge]
  simp only [m1, m2, m3, e1, e2, C_U_raise]
  have hmd : md = 0 ∨ md = 1 ∨ md = 2 ∨ md = 3 := by omega
  rcases hmd with rfl | rfl | rfl | rfl <;> cases sg <;> simp <;> rfl
theorem or_0 (fl : Int32) : fl ||| nI 0 = fl := by
  apply Int32.toBitVec_inj.mp
  show fl.toBitVec ||| BitVec.ofNat 32 0 = fl.toBitVec
  simp
