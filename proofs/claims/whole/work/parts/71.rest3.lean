/-! The rest answers alike: the reference's ways, all kinds. -/
theorem rest_m {i md n1 n2 : Nat} (hi : i < 2) (hm : md ≤ 3) (fl : Int32) (row : Nat → Int32) (p1 : dP i n1 ≠ 0) (p2 : dP i n2 ≠ 0) :
    (C_M_rest (nI md) fl (nI 2) (nI 2) (nI (dS i n1)) (iI (dE i n1)) (iI (dE i n2)) (lN (dP i n1)) (lN (dP i n2)) (nI (zP i)) (nI (zB i)) row).1 = (rR i md fl (dS i n1) (dP i n1 * 2 ^ dX i n1 % (dP i n2 * 2 ^ dX i n2))).1 ∧ (C_M_rest (nI md) fl (nI 2) (nI 2) (nI (dS i n1)) (iI (dE i n1)) (iI (dE i n2)) (lN (dP i n1)) (lN (dP i n2)) (nI (zP i)) (nI (zB i)) row).2.1 = (rR i md fl (dS i n1) (dP i n1 * 2 ^ dX i n1 % (dP i n2 * 2 ^ dX i n2))).2 := by
  have b1 := dP_lt hi n1
  have b2 := dP_lt hi n2
  have E1 := dE_X i n1
  have E2 := dE_X i n2
  have D1 := dE_s hi n1
  have D2 := dE_s hi n2
  have X1 := dX_le hi n1
  have X2 := dX_le hi n2
  have hs := dS_le i n1
  have c : iI (dE i n1) < iI (dE i n2) ↔ dE i n1 < dE i n2 := iI_lt ⟨by omega, by omega⟩ ⟨by omega, by omega⟩
  rw [C_M_rest, if_neg (show ¬ nI 2 = 1 by decide), if_pos (show nI 2 = 2 by decide), if_neg (fun q => p2 ((lN_e0 (by omega)).1 q)), if_neg (fun q => p1 ((lN_e0 (by omega)).1 q))]
  by_cases h : dE i n1 < dE i n2
  · obtain ⟨k, hk⟩ : ∃ k : Nat, dX i n2 = dX i n1 + k := ⟨dX i n2 - dX i n1, by omega⟩
    have ek : iI (dE i n2) - iI (dE i n1) = iI (k : Int) := by
      rw [iI_sub]
      congr 1
      omega
    have c54 : (54 : Int32) ≤ iI (k : Int) ↔ (54 : Int) ≤ (k : Int) := iI_le (a := 54) ⟨by decide, by decide⟩ ⟨by omega, by omega⟩
    have eR : dP i n1 * 2 ^ dX i n1 % (dP i n2 * 2 ^ dX i n2) = dP i n1 % (dP i n2 * 2 ^ k) * 2 ^ dX i n1 := by
      rw [← Nat.mul_mod_mul_right, Nat.mul_assoc (dP i n2), ← Nat.pow_add, hk, Nat.add_comm (dX i n1) k]
    have big : ∀ t : Nat, 53 ≤ t → 2 ^ t ≤ dP i n2 * 2 ^ k → dP i n1 % (dP i n2 * 2 ^ k) = dP i n1 := by
      intro t ht hb
      have : 2 ^ 53 ≤ 2 ^ t := z_pow_le ht
      exact Nat.mod_eq_of_lt (by omega)
    rw [if_pos (c.2 h), ek]
    by_cases h54 : 54 ≤ k
    · have hb : 2 ^ 54 ≤ dP i n2 * 2 ^ k := by
        have a1 : 2 ^ 54 ≤ 2 ^ k := z_pow_le h54
        have a2 : 1 * 2 ^ k ≤ dP i n2 * 2 ^ k := Nat.mul_le_mul_right _ (by omega)
        omega
      rw [big 54 (by omega) hb] at eR
      rw [if_pos (c54.2 (by omega))]
      exact r183 hi hm fl hs row b1 eR E1 (by omega)
    · have e62 : (62 : Int32) - iI (k : Int) = nI (62 - k) := by
        rw [show (62 : Int32) = iI 62 from rfl, iI_sub, iI_nI]
        congr 1
        omega
      have hp : 2 ^ (62 - k) < 2 ^ 63 := Nat.lt_of_le_of_lt (z_pow_le (show 62 - k ≤ 62 by omega)) (by decide)
      have hq : 2 ^ (62 - k) * 2 ^ k = 2 ^ 62 := by
        rw [← Nat.pow_add]
        congr 1
        omega
      have c2 : lN (1 * 2 ^ (62 - k)) ≤ lN (dP i n2) ↔ 2 ^ (62 - k) ≤ dP i n2 := by
        rw [Nat.one_mul]
        exact pk_lLE hp (by omega)
      rw [if_neg (fun q => h54 (by have := c54.1 q; omega)), e62, show (1 : Int64) = lN 1 from rfl, jShl_lN 1 (by omega)]
      by_cases hb : 2 ^ (62 - k) ≤ dP i n2
      · have a1 := Nat.mul_le_mul_right (2 ^ k) hb
        rw [hq] at a1
        rw [big 62 (by omega) a1] at eR
        rw [if_pos (c2.2 hb)]
        exact r183 hi hm fl hs row b1 eR E1 (by omega)
      · have a1 := Nat.mul_lt_mul_of_pos_right (show dP i n2 < 2 ^ (62 - k) by omega) (z_p k)
        rw [hq] at a1
        have a0 : 0 < dP i n2 * 2 ^ k := Nat.mul_pos (by omega) (z_p k)
        have a2 := Nat.mod_le (dP i n1) (dP i n2 * 2 ^ k)
        rw [if_neg (fun q => hb (c2.1 q)), ← iI_nI, jShl_lN _ (by omega), pk_lRem (by omega) a0 (by omega)]
        exact r183 hi hm fl hs row (by omega) eR E1 (by omega)
  · obtain ⟨k, hk⟩ : ∃ k : Nat, dX i n1 = k + dX i n2 := ⟨dX i n1 - dX i n2, by omega⟩
    have eE : dE i n1 = dE i n2 + (k : Int) := by omega
    have ek : ((iI (dE i n1)).toInt - (iI (dE i n2)).toInt).toNat = k := by
      rw [iI_toInt ⟨by omega, by omega⟩, iI_toInt ⟨by omega, by omega⟩]
      omega
    have eR : dP i n1 * 2 ^ dX i n1 % (dP i n2 * 2 ^ dX i n2) = dP i n1 * 2 ^ k % dP i n2 * 2 ^ dX i n2 := by
      rw [← Nat.mul_mod_mul_right, Nat.mul_assoc (dP i n1), ← Nat.pow_add, hk]
    have r0 := rs_pow (u := dP i n1) (Y := dP i n2) (j := 0) (k := k)
    rw [Nat.pow_zero, Nat.mul_one, Nat.zero_add] at r0
    have a2 := Nat.mod_lt (dP i n1 * 2 ^ k) (show 0 < dP i n2 by omega)
    rw [if_neg (fun q => h (c.1 q)), ek, pk_lRem (by omega) (by omega) (by omega), eE, rest_95 _ _ _ (by omega) b2 _ _ _ (by omega) _ _ (Nat.mod_lt _ (by omega)) (by omega), r0, C_M_rest_121]
    exact r183 hi hm fl hs row (by omega) eR E2 (by omega)
theorem rest_eq {i md n1 n2 : Nat} (hi : i < 2) (hm : md ≤ 3) (fl : Int32) (row : Nat → Int32) (h1 : n1 < 2 * zS i) (h2 : n2 < 2 * zS i) (g1 : dM i n1 ≤ zI i) (g2 : dM i n2 ≤ zI i) (hN : C_M_none (nI (zP i)) (nI (zB i)) = C_F_none i) :
    (C_M_rest (nI md) fl (nI (dK i n1)) (nI (dK i n2)) (nI (dS i n1)) (iI (dE i n1)) (iI (dE i n2)) (lN (dP i n1)) (lN (dP i n2)) (nI (zP i)) (nI (zB i)) row).1 = (C_U_rest (nI md) fl i (lN n1) (lN n2)).1 ∧ (C_M_rest (nI md) fl (nI (dK i n1)) (nI (dK i n2)) (nI (dS i n1)) (iI (dE i n1)) (iI (dE i n2)) (lN (dP i n1)) (lN (dP i n2)) (nI (zP i)) (nI (zB i)) row).2.1 = (C_U_rest (nI md) fl i (lN n1) (lN n2)).2 := by
  have hzl := zL_lt hi
  have hzp := zL_pos i
  have hz2 : 2 * zS i ≤ 2 ^ 64 := by have := @zS_le i; omega
  have q1 : n1 < 2 ^ 64 := Nat.lt_of_lt_of_le h1 hz2
  have q2 : n2 < 2 ^ 64 := Nat.lt_of_lt_of_le h2 hz2
  have b1 := dP_lt hi n1
  have b2 := dP_lt hi n2
  have hs := dS_le i n1
  have w1 := pz_s hi n1
  have w2 := pz_s hi n2
  have s1 := @sN_b i n1 hi
  have s2 := @sN_b i n2 hi
  have D1 := dE_s hi n1
  have zs : (lN (sN i n2) = 0) ↔ dP i n2 = 0 := by rw [lN_e0 (by omega)]; exact sN_0 i n2
  have z1 : (lN (dP i n1) = 0) ↔ dP i n1 = 0 := lN_e0 (by omega)
  have z2 : (lN (dP i n2) = 0) ↔ dP i n2 = 0 := lN_e0 (by omega)
  have cg : 0 ≤ iI (pz i n1 - pz i n2) ↔ 0 ≤ pz i n1 - pz i n2 := iI_le (a := 0) ⟨by decide, by decide⟩ ⟨by omega, by omega⟩
  have R0 : ∀ s : Nat, rR i md fl s 0 = (zV i s 0, fl) := fun s => by rw [rR, if_pos rfl]
  rw [C_U_rest, F_isEnd hi q1, F_isEnd hi q2, F_sigz hi q1, F_sigz hi q2, F_powz hi q1, F_powz hi q2, iI_sub, C_U_invalid]
  rcases dK_cases i n1 with ⟨a, e⟩ | ⟨a, e⟩ | ⟨a, e⟩
  · omega
  · rw [e, decide_eq_true a, C_M_rest, if_pos (show nI 1 = 1 by decide), if_neg (show ¬ true = false by decide), C_M_invalid, hN]
    exact ⟨rfl, rfl⟩
  · have O := own_R (md := md) hi fl h1 a
    rw [e, decide_eq_false (show ¬ dM i n1 = zI i by omega), if_pos (show false = false from rfl)]
    rcases dK_cases i n2 with ⟨b, e'⟩ | ⟨b, e'⟩ | ⟨b, e'⟩
    · omega
    · have p2 : dP i n2 ≠ 0 := fun q => by have := (dP_0 n2).1 q; omega
      rw [e', decide_eq_true b, if_neg (fun q => p2 (zs.1 q)), if_neg (show ¬ true = false by decide), C_M_rest, if_neg (show ¬ nI 2 = 1 by decide), if_neg (show ¬ nI 1 = 2 by decide), made_0 hi hs, ← O]
      by_cases c : dP i n1 = 0
      · rw [if_pos (z1.2 c), c, Nat.zero_mul, R0]
        exact ⟨rfl, rfl⟩
      · rw [if_neg (fun q => c (z1.1 q))]
        exact r183 hi hm fl hs row b1 rfl (dE_X i n1) (by omega)
    · rw [e', decide_eq_false (show ¬ dM i n2 = zI i by omega), if_pos (show false = false from rfl)]
      by_cases p2 : dP i n2 = 0
      · rw [if_pos (zs.2 p2), C_M_rest, if_neg (show ¬ nI 2 = 1 by decide), if_pos (show nI 2 = 2 by decide), if_pos (z2.2 p2), C_M_invalid, hN]
        exact ⟨rfl, rfl⟩
      · have cls : (if 0 ≤ iI (pz i n1 - pz i n2) then C_U_rest_73 (nI md) fl i (lN n1) (lN n2) (lN (sN i n2)) (lN (sN i n1) - lN (sN i n1) / lN (sN i n2) * lN (sN i n2)) (iI (pz i n1 - pz i n2)) else (lN n1, fl)) = rR i md fl (dS i n1) (dP i n1 * 2 ^ dX i n1 % (dP i n2 * 2 ^ dX i n2)) := by
          by_cases g : 0 ≤ pz i n1 - pz i n2
          · rw [if_pos (cg.2 g)]
            exact rest_c hi hm fl q1 q2 p2 (by omega)
          · rw [if_neg (fun q => g (cg.1 q)), Nat.mod_eq_of_lt (rest_lt hi p2 (by omega)), O]
        rw [if_neg (fun q => p2 (zs.1 q)), cls]
        by_cases p1 : dP i n1 = 0
        · rw [C_M_rest, if_neg (show ¬ nI 2 = 1 by decide), if_pos (show nI 2 = 2 by decide), if_neg (fun q => p2 (z2.1 q)), if_pos (z1.2 p1), made_0 hi hs, p1, Nat.zero_mul, Nat.zero_mod, R0]
          exact ⟨rfl, rfl⟩
        · exact rest_m hi hm fl row p1 p2
