/-! The rest answers alike. -/
def rR (i md : Nat) (fl : Int32) (s R : Nat) : Int64 × Int32 :=
  if R = 0 then (zV i s 0, fl) else zRes i (decide (s = 1)) fl (zround i md (decide (s = 1)) R (lo9 i) false)
theorem rs_scale {X Y A B c p : Nat} (eA : A * 2 ^ c = X * 2 ^ p) (eB : B * 2 ^ c = Y * 2 ^ p) : X % Y * 2 ^ p = A % B * 2 ^ c := by
  rw [← Nat.mul_mod_mul_right, ← Nat.mul_mod_mul_right, eA, eB]
theorem own_R {i md n : Nat} (hi : i < 2) (fl : Int32) (h : n < 2 * zS i) (g : dM i n < zI i) : rR i md fl (dS i n) (dP i n * 2 ^ dX i n) = (lN n, fl) := by
  have hp := z_p (dX i n)
  unfold rR
  by_cases h0 : dP i n = 0
  · rw [if_pos (by rw [h0, Nat.zero_mul]), own_V h, (dP_0 n).1 h0]
  · rw [if_neg (Nat.mul_ne_zero h0 (Nat.ne_of_gt hp)), zround_shift i md _ h0, ← dE_X, own_round hi _ h0 g, zRes, or_0, own_V h]
    show (zV i (if decide (dS i n = 1) = false then 0 else 1) (dM i n), fl) = _
    rw [zb_d]
theorem rest_c {i md n1 n2 : Nat} (hi : i < 2) (hm : md ≤ 3) (fl : Int32) (h1 : n1 < 2 ^ 64) (h2 : n2 < 2 ^ 64) (p2 : dP i n2 ≠ 0) (hg : pz i n2 ≤ pz i n1) : C_U_rest_73 (nI md) fl i (lN n1) (lN n2) (lN (sN i n2)) (lN (sN i n1) - lN (sN i n1) / lN (sN i n2) * lN (sN i n2)) (iI (pz i n1 - pz i n2)) = rR i md fl (dS i n1) (dP i n1 * 2 ^ dX i n1 % (dP i n2 * 2 ^ dX i n2)) := by
  have b1 := @sN_b i n1 hi
  have b2 := @sN_b i n2 hi
  have b3 := b2.2 p2
  have q1 := pz_s hi n1
  have q2 := pz_s hi n2
  have E1 := dE_X i n1
  have E2 := dE_X i n2
  have P1 : pz i n1 = dE i n1 - (lz i n1 : Int) := rfl
  have P2 : pz i n2 = dE i n2 - (lz i n2 : Int) := rfl
  have hk : (iI (pz i n1 - pz i n2)).toNatClampNeg = (pz i n1 - pz i n2).toNat := by
    show (iI (pz i n1 - pz i n2)).toInt.toNat = _
    rw [iI_toInt ⟨by omega, by omega⟩]
  have hd : ((pz i n1 - pz i n2).toNat : Int) = pz i n1 - pz i n2 := by omega
  have r0 := rs_pow (u := sN i n1) (Y := sN i n2) (j := 0) (k := (pz i n1 - pz i n2).toNat)
  rw [Nat.pow_zero, Nat.mul_one, Nat.zero_add] at r0
  have S := rs_scale (X := dP i n1 * 2 ^ dX i n1) (Y := dP i n2 * 2 ^ dX i n2) (A := sN i n1 * 2 ^ (pz i n1 - pz i n2).toNat) (B := sN i n2) (c := dX i n2) (p := lz i n2) (by
    unfold sN
    simp only [Nat.mul_assoc, ← Nat.pow_add]
    congr 2
    omega) (by
    unfold sN
    simp only [Nat.mul_assoc, ← Nat.pow_add]
    congr 2
    omega)
  rw [C_U_rest_73, hk, pk_lRem (by omega) (by omega) (by omega), rest_l (by omega) (by omega) _ _ _ (Nat.mod_lt _ (by omega)) (by omega) (by omega) (by omega), r0, C_U_rest_99, F_z hi, F_minus hi h1, zb_d, F_powz hi h2]
  have hlt : sN i n1 * 2 ^ (pz i n1 - pz i n2).toNat % sN i n2 < sN i n2 := Nat.mod_lt _ (by omega)
  generalize sN i n1 * 2 ^ (pz i n1 - pz i n2).toNat % sN i n2 = r at *
  generalize dP i n1 * 2 ^ dX i n1 % (dP i n2 * 2 ^ dX i n2) = R at *
  have z : R = 0 ↔ r = 0 := by
    have a1 := z_p (lz i n2)
    have a2 := z_p (dX i n2)
    constructor
    · intro h
      rw [h, Nat.zero_mul] at S
      rcases Nat.mul_eq_zero.1 S.symm with q | q
      · exact q
      · omega
    · intro h
      rw [h, Nat.zero_mul] at S
      rcases Nat.mul_eq_zero.1 S with q | q
      · exact q
      · omega
  unfold rR
  by_cases g : r = 0
  · rw [if_pos ((lN_e0 (by omega)).2 g), if_pos (z.2 g)]
  · rw [if_neg (fun q => g ((lN_e0 (by omega)).1 q)), if_neg (fun q => g (z.1 q)), rounded_n hi hm fl _ (by omega) g (by omega), zround_rep i md _ (fun q => g (z.1 q)) g S (show lo9 i - (lz i n2 : Int) = pz i n2 - (dX i n2 : Int) by omega) false]
theorem rest_lt {i n1 n2 : Nat} (hi : i < 2) (p2 : dP i n2 ≠ 0) (hg : pz i n1 < pz i n2) : dP i n1 * 2 ^ dX i n1 < dP i n2 * 2 ^ dX i n2 := by
  have b1 := @sN_b i n1 hi
  have b2 := @sN_b i n2 hi
  have b3 := b2.2 p2
  have E1 := dE_X i n1
  have E2 := dE_X i n2
  have P1 : pz i n1 = dE i n1 - (lz i n1 : Int) := rfl
  have P2 : pz i n2 = dE i n2 - (lz i n2 : Int) := rfl
  obtain ⟨d, hd⟩ : ∃ d : Nat, pz i n2 - pz i n1 = ((d + 1 : Nat) : Int) := ⟨(pz i n2 - pz i n1).toNat - 1, by omega⟩
  have e1 : sN i n1 * 2 ^ dX i n1 = dP i n1 * 2 ^ dX i n1 * 2 ^ lz i n1 := by
    unfold sN
    simp only [Nat.mul_assoc, ← Nat.pow_add]
    congr 2
    omega
  have e2 : sN i n2 * 2 ^ (d + 1) * 2 ^ dX i n1 = dP i n2 * 2 ^ dX i n2 * 2 ^ lz i n1 := by
    unfold sN
    simp only [Nat.mul_assoc, ← Nat.pow_add]
    congr 2
    omega
  have s1 : 2 ^ 1 ≤ 2 ^ (d + 1) := z_pow_le (by omega)
  have s2 : 2 ^ 52 * 2 ^ 1 ≤ sN i n2 * 2 ^ (d + 1) := Nat.mul_le_mul b3 s1
  have s3 : sN i n1 < sN i n2 * 2 ^ (d + 1) := by omega
  have s4 := Nat.mul_lt_mul_of_pos_right s3 (z_p (dX i n1))
  rw [e1, e2] at s4
  exact Nat.lt_of_mul_lt_mul_right s4
theorem r183 {i md s r R c : Nat} (hi : i < 2) (hm : md ≤ 3) (fl : Int32) (hs : s ≤ 1) (row : Nat → Int32) {e : Int} (hr : r < 2 ^ 53) (hR : R = r * 2 ^ c) (he : e = lo9 i + c) (hb : -5000 ≤ e ∧ e ≤ 5000) : (C_M_rest_183 (nI md) fl (nI s) (nI (zP i)) (nI (zB i)) row (lN r) (iI e)).1 = (rR i md fl s R).1 ∧ (C_M_rest_183 (nI md) fl (nI s) (nI (zP i)) (nI (zB i)) row (lN r) (iI e)).2.1 = (rR i md fl s R).2 := by
  have hc := z_p c
  rw [C_M_rest_183, made_0 hi hs, show (0 : Int32).toInt.toNat = 0 from rfl, Nat.pow_zero, Nat.mul_one, show uL (lN r) = r from wb_tn (by omega), rR, hR]
  by_cases g : r = 0
  · rw [if_pos ((lN_e0 (by omega)).2 g), if_pos (by rw [g, Nat.zero_mul])]
    exact ⟨rfl, rfl⟩
  · rw [if_neg (fun q => g ((lN_e0 (by omega)).1 q)), if_neg (Nat.mul_ne_zero g (Nat.ne_of_gt hc)), zround_shift i md _ g, ← he, mrounded_n hi hm hs fl false g (Nat.lt_of_lt_of_le hr (z_pow_le (by decide))) (by omega)]
    exact ⟨rfl, rfl⟩
