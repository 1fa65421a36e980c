/-! The rest: a number rounds to itself; the class's loop; the reference's loop. -/
theorem zu_0 (md : Nat) (sg : Bool) (q : Nat) : zu md sg q 0 = 0 := by
  unfold zu
  simp
theorem zend_0 {i md : Nat} (sg : Bool) {E : Int} {q m : Nat} (h1 : E ≤ 2 * (zB i : Int)) (h2 : (E - 1).toNat * zL i + q = m) (h3 : m < zI i) : zend i md sg E q 0 = (m, 0) := by
  unfold zend
  rw [zu_0, Nat.add_zero, h2, if_neg (by omega), if_pos rfl]
theorem own_round {i md n : Nat} (hi : i < 2) (sg : Bool) (h0 : dP i n ≠ 0) (h : dM i n < zI i) : zround i md sg (dP i n) (dE i n) false = (dM i n, 0) := by
  have hL : zL i = 2 ^ (zP i - 1) := rfl
  have hp2 : 2 ≤ zP i := by rcases i01 hi with rfl | rfl <;> decide
  have key : ∃ E : Int, zX i (dP i n) (dE i n) = E ∧ zlow i E (dE i n) = 0 ∧ E ≤ 2 * (zB i : Int) ∧ (E - 1).toNat * zL i + dP i n = dM i n := by
    by_cases g : dM i n < zL i
    · have hP : dP i n = dM i n := by rw [dP, if_pos g]
      have hE : dE i n = 1 - (zB i : Int) - ((zP i : Int) - 1) := by
        unfold dE
        rw [Nat.div_eq_of_lt g]
        rfl
      have hlog : (dP i n).log2 < zP i - 1 := z_log_lt (by rw [hP, ← hL]; exact g) h0
      refine ⟨1, ?_, ?_, ?_, ?_⟩
      · unfold zX
        rw [hE]
        omega
      · unfold zlow
        rw [hE]
        omega
      · have := zB_ge i
        omega
      · rw [hP, show ((1 : Int) - 1).toNat = 0 from by decide, Nat.zero_mul, Nat.zero_add]
    · have hP : dP i n = dM i n % zL i + zL i := by rw [dP, if_neg g]
      have hzp := zL_pos i
      have hm := Nat.mod_lt (dM i n) hzp
      have hdm := dM_split i n
      have hq1 : 1 ≤ dM i n / zL i := (Nat.le_div_iff_mul_le hzp).2 (by omega)
      have hq2 : dM i n / zL i < 2 * zB i + 1 := (Nat.div_lt_iff_lt_mul hzp).2 h
      have hE : dE i n = ((dM i n / zL i : Nat) : Int) - (zB i : Int) - ((zP i : Int) - 1) := by
        unfold dE
        rw [Nat.max_eq_left hq1]
      generalize dM i n / zL i = q at *
      generalize dM i n % zL i = r at *
      have hlog : (dP i n).log2 = zP i - 1 := by
        refine (Nat.log2_eq_iff h0).2 ⟨?_, ?_⟩
        · rw [← hL]
          omega
        · rw [Nat.pow_succ, ← hL]
          omega
      refine ⟨(q : Int), ?_, ?_, by omega, ?_⟩
      · unfold zX
        rw [hE, hlog]
        omega
      · unfold zlow
        rw [hE]
        omega
      · rw [show ((q : Int) - 1).toNat = q - 1 from by omega, hP]
        obtain ⟨t, rfl⟩ : ∃ t, q = t + 1 := ⟨q - 1, by omega⟩
        rw [Nat.add_mul] at hdm
        rw [Nat.add_sub_cancel]
        omega
  obtain ⟨E, e1, e2, e3, e4⟩ := key
  have c : zc (zr (dP i n) 0) (2 ^ (0 : Int).toNat) false = 0 := by
    unfold zr
    rw [show (0 : Int).toNat = 0 from rfl, Nat.pow_zero, Nat.mod_one]
    rfl
  have q : zq (dP i n) 0 = dP i n := by
    unfold zq
    rw [show (-(0 : Int)).toNat = 0 from rfl, show (0 : Int).toNat = 0 from rfl, Nat.pow_zero, Nat.mul_one, Nat.div_one]
  rw [zround, e1, e2, c, q]
  exact zend_0 sg e3 e4 h
theorem rs_pow {u Y j k : Nat} : u * 2 ^ j % Y * 2 ^ k % Y = u * 2 ^ (j + k) % Y := by
  rw [Nat.pow_add, ← Nat.mul_assoc, Nat.mul_mod (u * 2 ^ j % Y), Nat.mod_mod, ← Nat.mul_mod]
theorem rest_l {Y : Nat} (h0 : 0 < Y) (hY : Y < 2 ^ 53) : ∀ (n : Nat) (u : Nat) (k : Int), u < Y → k ≤ (n : Int) → -20 ≤ k → k ≤ 5000 → restLoop n (lN Y) (lN u) (iI k) = lN (u * 2 ^ k.toNat % Y) := by
  intro n
  induction n with
  | zero =>
    intro u k hu hk h1 h2
    rw [restLoop, show k.toNat = 0 from by omega, Nat.pow_zero, Nat.mul_one, Nat.mod_eq_of_lt hu]
  | succ n ih =>
    intro u k hu hk h1 h2
    have c : iI k ≤ 0 ↔ k ≤ 0 := iI_le (b := 0) ⟨by omega, by omega⟩ ⟨by decide, by decide⟩
    rw [restLoop]
    by_cases h : k ≤ 0
    · rw [if_pos (c.2 h), show k.toNat = 0 from by omega, Nat.pow_zero, Nat.mul_one, Nat.mod_eq_of_lt hu]
    · have hj : ∃ j : Nat, j ≤ 10 ∧ jMin (iI k) 10 = nI j ∧ j + (k - 10).toNat = k.toNat := by
        refine ⟨(min k 10).toNat, by omega, ?_, by omega⟩
        rw [jMin, show (10 : Int32) = iI 10 from rfl, iI_min ⟨by omega, by omega⟩ ⟨by decide, by decide⟩, iI_nI]
        congr 1
        omega
      obtain ⟨j, j1, j2, j3⟩ := hj
      have hp : 2 ^ j ≤ 2 ^ 10 := z_pow_le j1
      have hb : u * 2 ^ j < 2 ^ 63 := by
        have : u * 2 ^ j ≤ 2 ^ 53 * 2 ^ 10 := Nat.mul_le_mul (by omega) hp
        have e2 : u * 2 ^ j < 2 ^ 53 * 2 ^ 10 := Nat.lt_of_lt_of_le (Nat.mul_lt_mul_of_pos_right (Nat.lt_trans hu hY) (z_p j)) (Nat.mul_le_mul_left _ hp)
        omega
      rw [if_neg (fun q => h (c.1 q)), j2, jShl_lN _ (by omega), pk_lRem hb h0 (by omega), show iI k + (-10) = iI (k - 10) from by rw [show (-10 : Int32) = iI (-10) from rfl, iI_add, Int.sub_eq_add_neg], ih _ _ (Nat.mod_lt _ h0) (by omega) (by omega) (by omega), rs_pow, j3]
theorem rest_95 (md fl sx : Int32) {Y : Nat} (h0 : 0 < Y) (hY : Y < 2 ^ 53) (pr bi : Int32) (row : Nat → Int32) {e : Int} (he : -5000 ≤ e ∧ e ≤ 5000) : ∀ (n u : Nat), u < Y → n ≤ 5000 → C_M_rest_95 md fl sx (iI e) (lN Y) pr bi row n (lN u) (iI (e + n)) = C_M_rest_121 md fl sx (iI e) pr bi row (lN (u * 2 ^ n % Y)) := by
  intro n
  induction n with
  | zero =>
    intro u hu hn
    rw [C_M_rest_95, Nat.pow_zero, Nat.mul_one, Nat.mod_eq_of_lt hu]
  | succ n ih =>
    intro u hu hn
    have c : iI (e + ((n + 1 : Nat) : Int)) ≤ iI e ↔ e + ((n + 1 : Nat) : Int) ≤ e := iI_le ⟨by omega, by omega⟩ ⟨by omega, by omega⟩
    have e2 : u * 2 ^ 1 % Y * 2 ^ n % Y = u * 2 ^ (n + 1) % Y := by rw [rs_pow, Nat.add_comm 1 n]
    rw [C_M_rest_95, if_neg (fun q => by have := c.1 q; omega), show (2 : Int64) = lN 2 from rfl, lN_mul, pk_lRem (by omega) h0 (by omega), show iI (e + ((n + 1 : Nat) : Int)) + (-1) = iI (e + n) from by
      rw [show (-1 : Int32) = iI (-1) from rfl, iI_add]
      congr 1
      omega, ih _ (Nat.mod_lt _ h0) (by omega), show 2 * u = u * 2 ^ 1 from by omega, e2]
