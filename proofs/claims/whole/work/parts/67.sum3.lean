/-! The sum answers alike. -/
def sR (i md : Nat) (fl : Int32) (s1 s2 X Y : Nat) (e : Int) : Int64 × Int32 :=
  if s1 = s2 then (if X + Y = 0 then (zV i s1 0, fl) else zRes i (decide (s1 = 1)) fl (zround i md (decide (s1 = 1)) (X + Y) e false))
  else if X = Y then (zV i (if md = 3 then 1 else 0) 0, fl)
  else if Y < X then zRes i (decide (s1 = 1)) fl (zround i md (decide (s1 = 1)) (X - Y) e false)
  else zRes i (decide (s2 = 1)) fl (zround i md (decide (s2 = 1)) (Y - X) e false)
theorem sR_eq {i md X Y a b s1 s2 : Nat} {e f : Int} (fl : Int32) (h : SM i X Y a b e f) (h0 : X + Y = 0 → a + b = 0) : sR i md fl s1 s2 X Y e = sR i md fl s1 s2 a b f := by
  unfold sR
  by_cases hs : s1 = s2
  · rw [if_pos hs, if_pos hs]
    by_cases g : X + Y = 0
    · rw [if_pos g, if_pos (h0 g)]
    · obtain ⟨u1, u2⟩ := (h md (decide (s1 = 1))).1 g
      rw [if_neg g, if_neg u1, u2]
  · rw [if_neg hs, if_neg hs]
    rcases Nat.lt_trichotomy X Y with g | g | g
    · obtain ⟨u1, u2⟩ := (h md (decide (s2 = 1))).2.2.2 g
      rw [if_neg (by omega), if_neg (by omega), if_neg (show ¬ a = b by omega), if_neg (show ¬ b < a by omega), u2]
    · rw [if_pos g, if_pos ((h md true).2.1 g)]
    · obtain ⟨u1, u2⟩ := (h md (decide (s1 = 1))).2.2.1 g
      rw [if_neg (by omega), if_pos g, if_neg (show ¬ a = b by omega), if_pos u1, u2]
theorem F_z {i : Nat} (hi : i < 2) (z : Bool) : C_F_zero i z = zV i (if z = false then 0 else 1) 0 := by
  rw [C_F_zero]
  exact F_signed (a := 0) hi zS_pos z
theorem s102 {i md n1 : Nat} {f t : Int} (hi : i < 2) (hm : md ≤ 3) (fl : Int32) (hn : n1 < 2 ^ 64) (v : Bool) (hf : -80000 ≤ f ∧ f ≤ 80000) (ht : -(2 ^ 63) < t ∧ t < 2 ^ 63) : C_U_sum_102 (nI md) fl i (lN n1) v (iI f) (LI t) = (if t = 0 then (if v = false then (zV i (if md = 3 then 1 else 0) 0, fl) else (zV i (dS i n1) 0, fl)) else if 0 ≤ t then zRes i false fl (zround i md false t.natAbs f false) else zRes i true fl (zround i md true t.natAbs f false)) := by
  have c0 : LI t = 0 ↔ t = 0 := by
    rw [← Int64.toInt_inj, LI_to ht]
    rfl
  have c1 : 0 ≤ LI t ↔ 0 ≤ t := by
    rw [Int64.le_iff_toInt_le, LI_to ht]
    rfl
  have c3 : nI md = 3 ↔ md = 3 := md_e hm (by decide)
  rw [C_U_sum_102, F_z hi, F_z hi, F_z hi, F_minus hi hn, zb_d]
  by_cases h : t = 0
  · rw [if_pos (c0.2 h), if_pos h]
    by_cases hv : v = false
    · rw [if_pos hv, if_pos hv]
      by_cases h3 : md = 3
      · rw [if_pos (c3.2 h3), if_pos h3]
        rfl
      · rw [if_neg (fun q => h3 (c3.1 q)), if_neg h3]
        rfl
    · rw [if_neg hv, if_neg hv]
  · rw [if_neg (fun q => h (c0.1 q)), if_neg h]
    by_cases g : 0 ≤ t
    · obtain ⟨k, rfl⟩ : ∃ k : Nat, t = (k : Int) := ⟨t.toNat, by omega⟩
      rw [if_pos (c1.2 g), if_pos g, ← lN_LI, rounded_n hi hm fl false (by omega) (by omega) (by omega), Int.natAbs_natCast]
    · obtain ⟨k, rfl⟩ : ∃ k : Nat, t = -(k : Int) := ⟨(-t).toNat, by omega⟩
      rw [if_neg (fun q => g (c1.1 q)), if_neg g, LI_neg, Int.neg_neg, ← lN_LI, rounded_n hi hm fl true (by omega) (by omega) (by omega), Int.natAbs_neg, Int.natAbs_natCast]
theorem s102_R {i md n1 a b s2 : Nat} {f : Int} (hi : i < 2) (hm : md ≤ 3) (fl : Int32) (hn : n1 < 2 ^ 64) (h2 : s2 = 0 ∨ s2 = 1) (hf : -80000 ≤ f ∧ f ≤ 80000) (ha : a < 2 ^ 62) (hb : b < 2 ^ 62) : C_U_sum_102 (nI md) fl i (lN n1) (decide (dS i n1 = s2)) (iI f) (LI (vz (dS i n1) a) + LI (vz s2 b)) = sR i md fl (dS i n1) s2 a b f := by
  have hv1 : -(2 ^ 62) < vz (dS i n1) a ∧ vz (dS i n1) a < 2 ^ 62 := by
    unfold vz
    split <;> omega
  have hv2 : -(2 ^ 62) < vz s2 b ∧ vz s2 b < 2 ^ 62 := by
    unfold vz
    split <;> omega
  rw [LI_add, s102 hi hm fl hn _ hf (by omega)]
  unfold sR
  clear hv1 hv2
  have vz0 : ∀ x, vz 0 x = (x : Int) := fun _ => rfl
  have vz1 : ∀ x, vz 1 x = -(x : Int) := fun _ => rfl
  rcases dS_01 i n1 with h1 | h1 <;> rcases h2 with h2 | h2 <;> rw [h1, h2]
  · rw [vz0, vz0, if_pos (show (0 : Nat) = 0 from rfl)]
    by_cases h : a + b = 0
    · rw [if_pos (by omega), if_pos h, if_neg (by decide)]
    · rw [if_neg (by omega), if_neg h, if_pos (by omega), show ((a : Int) + (b : Int)).natAbs = a + b from by omega]
      rfl
  · rw [vz0, vz1, if_neg (show ¬ (0 : Nat) = 1 by decide)]
    rcases Nat.lt_trichotomy a b with h | h | h
    · rw [if_neg (by omega), if_neg (show ¬ a = b by omega), if_neg (by omega), if_neg (show ¬ b < a by omega), show ((a : Int) + -(b : Int)).natAbs = b - a from by omega]
      rfl
    · rw [if_pos (by omega), if_pos h, if_pos (by decide)]
    · rw [if_neg (by omega), if_neg (show ¬ a = b by omega), if_pos (by omega), if_pos h, show ((a : Int) + -(b : Int)).natAbs = a - b from by omega]
      rfl
  · rw [vz0, vz1, if_neg (show ¬ (1 : Nat) = 0 by decide)]
    rcases Nat.lt_trichotomy a b with h | h | h
    · rw [if_neg (by omega), if_neg (show ¬ a = b by omega), if_pos (by omega), if_neg (show ¬ b < a by omega), show (-(a : Int) + (b : Int)).natAbs = b - a from by omega]
      rfl
    · rw [if_pos (by omega), if_pos h, if_pos (by decide)]
    · rw [if_neg (by omega), if_neg (show ¬ a = b by omega), if_neg (by omega), if_pos h, show (-(a : Int) + (b : Int)).natAbs = a - b from by omega]
      rfl
  · rw [vz1, vz1, if_pos (show (1 : Nat) = 1 from rfl)]
    by_cases h : a + b = 0
    · rw [if_pos (by omega), if_pos h, if_neg (by decide)]
    · rw [if_neg (by omega), if_neg h, if_neg (by omega), show (-(a : Int) + -(b : Int)).natAbs = a + b from by omega]
      rfl
theorem sum_c {i md n1 n2 : Nat} (hi : i < 2) (hm : md ≤ 3) (fl : Int32) (h1 : n1 < 2 ^ 64) (h2 : n2 < 2 ^ 64) : C_U_sum_102 (nI md) fl i (lN n1) (decide (dS i n1 = dS i n2)) ((jMax (C_F_power i (lN n1)) (C_F_power i (lN n2))) - 9) ((C_U_term i (lN n1) ((jMax (C_F_power i (lN n1)) (C_F_power i (lN n2))) - 9)) + (C_U_term i (lN n2) ((jMax (C_F_power i (lN n1)) (C_F_power i (lN n2))) - 9))) = sR i md fl (dS i n1) (dS i n2) (dP i n1 * 2 ^ dX i n1) (dP i n2 * 2 ^ dX i n2) (lo9 i) := by
  have p1 := pz_s hi n1
  have p2 := pz_s hi n2
  have hsm := @sm_max i n1 n2 hi
  have e : (jMax (C_F_power i (lN n1)) (C_F_power i (lN n2))) - 9 = iI (max (pz i n1) (pz i n2) - 9) := by
    rw [F_powz hi h1, F_powz hi h2, jMax, iI_max ⟨by omega, by omega⟩ ⟨by omega, by omega⟩, show (9 : Int32) = iI 9 from rfl, iI_sub]
  have m1 : pz i n1 ≤ max (pz i n1) (pz i n2) := Int.le_max_left _ _
  have m2 : pz i n2 ≤ max (pz i n1) (pz i n2) := Int.le_max_right _ _
  have m3 : max (pz i n1) (pz i n2) ≤ 2000 := Int.max_le.2 ⟨p1.2, p2.2⟩
  have z0 : dP i n1 * 2 ^ dX i n1 + dP i n2 * 2 ^ dX i n2 = 0 → tz i n1 (max (pz i n1) (pz i n2)) + tz i n2 (max (pz i n1) (pz i n2)) = 0 := by
    intro h
    have q1 : dP i n1 = 0 := by
      rcases Nat.mul_eq_zero.1 (show dP i n1 * 2 ^ dX i n1 = 0 by omega) with q | q
      · exact q
      · have := z_p (dX i n1)
        omega
    have q2 : dP i n2 = 0 := by
      rcases Nat.mul_eq_zero.1 (show dP i n2 * 2 ^ dX i n2 = 0 by omega) with q | q
      · exact q
      · have := z_p (dX i n2)
        omega
    rw [tz_0 q1, tz_0 q2]
  rw [e, term_n hi h1 m1 m3, term_n hi h2 m2 m3, s102_R hi hm fl h1 (dS_01 i n2) (by omega) (tz_lt hi _ _) (tz_lt hi _ _)]
  exact (sR_eq fl hsm z0).symm
theorem base_n {i : Nat} (hi : i < 2) : mBase (nI (zP i)) (nI (zB i)) = iI (lo9 i) := by rcases i01 hi with rfl | rfl <;> decide +kernel
theorem mN_n {i : Nat} (hi : i < 2) (n : Nat) : mN (lN (dP i n)) (iI (dE i n)) (iI (lo9 i)) = dP i n * 2 ^ dX i n := by
  have h := dP_lt hi n
  have g := dX_le hi n
  rw [mN, show uL (lN (dP i n)) = dP i n from wb_tn (by omega), iI_sub, show dE i n - lo9 i = (dX i n : Int) from by have := dE_X i n; omega, iI_toInt ⟨by omega, by omega⟩, Int.toNat_natCast]
theorem dPX_lt {i : Nat} (hi : i < 2) {n : Nat} (g : dM i n < zI i) : dP i n * 2 ^ dX i n < 2 ^ 2100 := by
  rw [dPX]
  refine Nat.lt_of_lt_of_le (vM_bound hi g) (Nat.pow_le_pow_right (by decide) ?_)
  rcases i01 hi with rfl | rfl <;> decide
theorem b2200 {k : Nat} (hk : k < 2 ^ 2100 + 2 ^ 2100) : k < 2 ^ 2200 := by
  refine Nat.lt_of_lt_of_le hk ?_
  rw [← Nat.two_mul, ← Nat.pow_succ']
  exact Nat.pow_le_pow_right (by decide) (by decide)
theorem lo_b {i : Nat} (hi : i < 2) : -1200 ≤ lo9 i ∧ lo9 i ≤ 0 := by rcases i01 hi with rfl | rfl <;> decide
theorem nI_01 {a b : Nat} (ha : a ≤ 1) (hb : b ≤ 1) : nI a = nI b ↔ a = b := nI_eq (by omega) (by omega)
theorem sum_m {i md n1 n2 : Nat} (hi : i < 2) (hm : md ≤ 3) (fl : Int32) (g1 : dM i n1 < zI i) (g2 : dM i n2 < zI i) (h0 : ¬ (dP i n1 = 0 ∧ dP i n2 = 0)) :
    (C_M_sum_104 (nI md) fl (nI (dS i n1)) (iI (dE i n1)) (iI (dE i n2)) (lN (dP i n1)) (lN (dP i n2)) (nI (zP i)) (nI (zB i)) (nI (dS i n2))).1 = (sR i md fl (dS i n1) (dS i n2) (dP i n1 * 2 ^ dX i n1) (dP i n2 * 2 ^ dX i n2) (lo9 i)).1 ∧ (C_M_sum_104 (nI md) fl (nI (dS i n1)) (iI (dE i n1)) (iI (dE i n2)) (lN (dP i n1)) (lN (dP i n2)) (nI (zP i)) (nI (zB i)) (nI (dS i n2))).2.1 = (sR i md fl (dS i n1) (dS i n2) (dP i n1 * 2 ^ dX i n1) (dP i n2 * 2 ^ dX i n2) (lo9 i)).2 := by
  have lo := lo_b hi
  have he : -60000 ≤ lo9 i ∧ lo9 i ≤ 60000 := by omega
  have c3 : nI md = 3 ↔ md = 3 := md_e hm (by decide)
  have n0 : dP i n1 * 2 ^ dX i n1 + dP i n2 * 2 ^ dX i n2 ≠ 0 := by
    intro h
    refine h0 ⟨?_, ?_⟩
    · rcases Nat.mul_eq_zero.1 (show dP i n1 * 2 ^ dX i n1 = 0 by omega) with q | q
      · exact q
      · have := z_p (dX i n1)
        omega
    · rcases Nat.mul_eq_zero.1 (show dP i n2 * 2 ^ dX i n2 = 0 by omega) with q | q
      · exact q
      · have := z_p (dX i n2)
        omega
  have l1 := dPX_lt hi g1
  have l2 := dPX_lt hi g2
  have R : ∀ (s N : Nat), s ≤ 1 → N ≠ 0 → N < 2 ^ 2100 + 2 ^ 2100 → C_M_rounded (nI md) fl (nI (zP i)) (nI (zB i)) (nI s) (iI (lo9 i)) false N = zRes i (decide (s = 1)) fl (zround i md (decide (s = 1)) N (lo9 i) false) := fun s N hs hN hl => mrounded_n hi hm hs fl false hN (b2200 hl) he
  rw [C_M_sum_104, base_n hi, mN_n hi, mN_n hi]
  generalize dP i n1 * 2 ^ dX i n1 = X at *
  generalize dP i n2 * 2 ^ dX i n2 = Y at *
  generalize (2 : Nat) ^ 2100 = T at *
  unfold sR
  by_cases hs : dS i n1 = dS i n2
  · rw [if_pos ((nI_01 (dS_le _ _) (dS_le _ _)).2 hs), if_pos hs, if_neg n0, R _ _ (dS_le _ _) n0 (by omega), hs]
    exact ⟨rfl, rfl⟩
  · rw [if_neg (fun q => hs ((nI_01 (dS_le _ _) (dS_le _ _)).1 q)), if_neg hs]
    rcases Nat.lt_trichotomy X Y with h | h | h
    · rw [if_neg (show ¬ X = Y by omega), if_neg (show ¬ Y < X by omega), if_neg (show ¬ X = Y by omega), if_neg (show ¬ Y < X by omega), R _ _ (dS_le _ _) (by omega) (by omega)]
      exact ⟨rfl, rfl⟩
    · rw [if_pos h, if_pos h]
      by_cases h3 : md = 3
      · rw [if_pos (c3.2 h3), if_pos h3]
        exact ⟨made_0 (s := 1) hi (by decide), rfl⟩
      · rw [if_neg (fun q => h3 (c3.1 q)), if_neg h3]
        exact ⟨made_0 (s := 0) hi (by decide), rfl⟩
    · rw [if_neg (show ¬ X = Y by omega), if_pos h, if_neg (show ¬ X = Y by omega), if_pos h, R _ _ (dS_le _ _) (by omega) (by omega)]
      exact ⟨rfl, rfl⟩
