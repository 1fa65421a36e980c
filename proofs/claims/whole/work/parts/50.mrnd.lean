/-! The reference's rounding is zround. -/
theorem endl_i {i s : Nat} (hi : i < 2) (hs : s ≤ 1) : C_M_endless (nI (zP i)) (nI (zB i)) (nI s) = zV i s (zI i) := by
  rcases i01 hi with rfl | rfl
  · exact endl_n false hs
  · exact endl_n true hs
theorem shl_L {i : Nat} (hi : i < 2) : jShl 1 (nI (zP i) - 1) = lN (zL i) ∧ jShl 1 (nI (zP i)) = lN (2 * zL i) ∧ (2 * nI (zB i)).toInt64 = lN (2 * zB i) ∧ lN (zL i) - 1 = lN (zL i - 1) ∧ 2 * zB i * zL i + (zL i - 1) = zI i - 1 := by
  rcases i01 hi with rfl | rfl <;> decide +kernel
theorem m393 {i s : Nat} (hi : i < 2) (hs : s ≤ 1) (fl : Int32) (v : Bool) : C_M_rounded_393 fl (nI (zP i)) (nI (zB i)) (nI s) v = (zV i s (if v = false then zI i else zI i - 1), fl) := by
  obtain ⟨e1, e2, e3, e4, e5⟩ := shl_L hi
  have hp := zL_pos i
  have hz := zI_lt hi
  rw [C_M_rounded_393, e1, e3, e4, endl_i hi hs, made_n hi hs (by omega) (by rw [e5]; omega), e5]
  cases v
  · rw [if_pos rfl, if_pos rfl]
  · rw [if_neg (by decide), if_neg (by decide)]
theorem s_e {s k : Nat} (hs : s ≤ 1) (hk : k ≤ 1) : nI s = nI k ↔ s = k := nI_eq (by omega) (by omega)
theorem zb_s {s : Nat} (hs : s ≤ 1) : zb (decide (s = 1)) = s := by
  rcases (show s = 0 ∨ s = 1 by omega) with rfl | rfl <;> rfl
theorem m322h {i md s : Nat} (hi : i < 2) (hm : md ≤ 3) (hs : s ≤ 1) (fl : Int32) (X : Int64 × Int32) (u13 : Int32) (h : ¬ ((u13 + nI (zP i)) - 1) ≤ nI (zB i)) (u7 : Int64) (v11 : Bool) : C_M_rounded_322 (nI md) fl (nI (zP i)) (nI (zB i)) (nI s) u7 v11 u13 true = zRes i (decide (s = 1)) fl (zhuge i md (decide (s = 1))) := by
  have m1 : (nI md = 1) ↔ md = 1 := md_e (k := 1) hm (by decide)
  have m2 : (nI md = 2) ↔ md = 2 := md_e (k := 2) hm (by decide)
  have m3 : (nI md = 3) ↔ md = 3 := md_e (k := 3) hm (by decide)
  have s1 : (nI s = 1) ↔ s = 1 := s_e (k := 1) hs (by decide)
  have s0 : (nI s = 0) ↔ s = 0 := s_e (k := 0) hs (by decide)
  rw [C_M_rounded_322, if_neg (by decide), if_neg h, zRes, zb_s hs, zhuge]
  simp only [m1, m2, m3, s1, s0, m393 hi hs]
  have hmd : md = 0 ∨ md = 1 ∨ md = 2 ∨ md = 3 := by omega
  rcases hmd with rfl | rfl | rfl | rfl <;> rcases (show s = 0 ∨ s = 1 by omega) with rfl | rfl <;> simp <;> rfl
theorem m455u {i s w E : Nat} (hi : i < 2) (hs : s ≤ 1) (fl : Int32) (h1 : zL i ≤ w) (h2 : w < 2 * zL i) (hE : E ≤ 2 * zB i) : C_M_rounded_455 fl (nI (zP i)) (nI (zB i)) (nI s) (lN w) (iI ((E : Int) - (zB i : Int) - ((zP i : Int) - 1))) true = (zV i s (E * zL i + (w - zL i)), fl) := by
  obtain ⟨e1, e2, e3, e4, e5⟩ := shl_L hi
  have hB : zB i ≤ 1023 := by rcases i01 hi with rfl | rfl <;> decide
  have hz := zI_lt hi
  have hP : E * zL i ≤ 2 * zB i * zL i := Nat.mul_le_mul_right _ hE
  rw [C_M_rounded_455, if_neg (by decide), e1, lN_sub h1]
  rw [show (((iI ((E : Int) - (zB i : Int) - ((zP i : Int) - 1)) + nI (zP i)) - 1) + nI (zB i)) = nI E from by
    rw [iI_nI, iI_nI, iI_nI, show (1 : Int32) = iI 1 from rfl, iI_add, iI_sub, iI_add]; congr 1; omega]
  rw [nI_to (by omega), made_n hi hs (by omega) (by omega)]
theorem m303 {i md s w E : Nat} (hi : i < 2) (hm : md ≤ 3) (hs : s ≤ 1) (fl : Int32) (v11 : Bool) (h2 : w < 2 * zL i) (hE1 : 1 ≤ E) (hEb : E < 100000) : C_M_rounded_303 (nI md) fl (nI (zP i)) (nI (zB i)) (nI s) (lN w) v11 (iI ((E : Int) - (zB i : Int) - ((zP i : Int) - 1))) = zRes i (decide (s = 1)) fl (if zL i ≤ w ∧ 2 * zB i < E then zhuge i md (decide (s = 1)) else (if w < zL i then w else E * zL i + (w - zL i), if v11 = true then 0 else if w < zL i then 3 else 1)) := by
  obtain ⟨e1, e2, e3, e4, e5⟩ := shl_L hi
  have hB : zB i ≤ 1023 := by rcases i01 hi with rfl | rfl <;> decide
  have hP := zP_le i
  have h63 := zL_63 hi
  have hzl := zL_lt hi
  have hz := zI_lt hi
  have hz2 := @zS_le i
  rw [C_M_rounded_303, e1]
  by_cases g : w < zL i
  · rw [if_pos ((pk_lLT (by omega) h63).2 g), C_M_rounded_322, if_pos rfl, if_neg (fun x => by omega), if_pos g, if_pos g, C_M_rounded_431]
    have hmk : C_M_made (nI (zP i)) (nI s) 0 (lN w) = zV i s w := by
      have := made_n (e := 0) hi hs g (by rw [Nat.zero_mul]; omega)
      rw [Nat.zero_mul, Nat.zero_add] at this
      exact this
    cases v11
    · rw [if_pos rfl, if_pos rfl, if_neg (by decide), C_M_rounded_455, if_pos rfl, hmk, zRes, zb_s hs]
      rfl
    · rw [if_neg (by decide), if_pos rfl, C_M_rounded_455, if_pos rfl, hmk, zRes, zb_s hs, or_0]
  · rw [if_neg (fun x => g ((pk_lLT (by omega) h63).1 x))]
    have hc : ((iI ((E : Int) - (zB i : Int) - ((zP i : Int) - 1)) + nI (zP i)) - 1) = iI ((E : Int) - (zB i : Int)) := by
      rw [iI_nI, show (1 : Int32) = iI 1 from rfl, iI_add, iI_sub]; congr 1; omega
    have hc2 : ((iI ((E : Int) - (zB i : Int) - ((zP i : Int) - 1)) + nI (zP i)) - 1) ≤ nI (zB i) ↔ E ≤ 2 * zB i := by
      rw [hc, iI_nI, iI_le ⟨by omega, by omega⟩ ⟨by omega, by omega⟩]; omega
    by_cases k : E ≤ 2 * zB i
    · rw [C_M_rounded_322, if_neg (by decide), if_pos (hc2.2 k), if_neg (fun x => by omega), if_neg g, if_neg g, C_M_rounded_431, if_neg (show ¬ true = false by decide), m455u hi hs _ (by omega) h2 k, m455u hi hs _ (by omega) h2 k]
      cases v11
      · rw [if_pos rfl, if_neg (by decide), zRes, zb_s hs]
        rfl
      · rw [if_neg (by decide), if_pos rfl, zRes, zb_s hs, or_0]
    · rw [if_pos ⟨by omega, by omega⟩]
      exact m322h hi hm hs fl (0, 0) _ (fun x => k (hc2.1 x)) _ _
