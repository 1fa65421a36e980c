/-! Rounding as a number: the two sizes i (0 wide, 1 narrow), a magnitude N times 2 ^ e, 'more' says that a little more than N is meant. -/
def zP (i : Nat) : Nat := if i = 0 then 53 else 24
def zB (i : Nat) : Nat := if i = 0 then 1023 else 127
def zL (i : Nat) : Nat := 2 ^ (zP i - 1)
def zI (i : Nat) : Nat := (2 * zB i + 1) * zL i
/-- what is cut off: 0 nothing, 1 less than half, 2 half, 3 more than half -/
def zc (r m : Nat) (more : Bool) : Nat :=
  if 2 * r < m then (if r = 0 ∧ more = false then 0 else 1) else if 2 * r = m ∧ more = false then 2 else 3
def zq (N : Nat) (low : Int) : Nat := N * 2 ^ (-low).toNat / 2 ^ low.toNat
def zr (N : Nat) (low : Int) : Nat := N * 2 ^ (-low).toNat % 2 ^ low.toNat
def zu (md : Nat) (sg : Bool) (q c : Nat) : Nat :=
  if md = 0 then (if c = 3 ∨ c = 2 ∧ q % 2 = 1 then 1 else 0)
  else if md = 2 then (if c ≠ 0 ∧ sg = false then 1 else 0)
  else if md = 3 then (if c ≠ 0 ∧ sg = true then 1 else 0) else 0
def zX (i N : Nat) (e : Int) : Int := max ((N.log2 : Int) + e + (zB i : Int)) 1
def zlow (i : Nat) (E e : Int) : Int := E - (zB i : Int) - ((zP i : Int) - 1) - e
def zhuge (i md : Nat) (sg : Bool) : Nat × Nat := (if md = 1 ∨ md = (if sg then 2 else 3) then zI i - 1 else zI i, 5)
def zend (i md : Nat) (sg : Bool) (E : Int) (q c : Nat) : Nat × Nat :=
  if 2 * (zB i : Int) < E ∨ zI i ≤ (E - 1).toNat * zL i + (q + zu md sg q c) then zhuge i md sg
  else ((E - 1).toNat * zL i + (q + zu md sg q c), if c = 0 then 0 else if (E - 1).toNat * zL i + (q + zu md sg q c) < zL i then 3 else 1)
def zround (i md : Nat) (sg : Bool) (N : Nat) (e : Int) (more : Bool) : Nat × Nat :=
  zend i md sg (zX i N e) (zq N (zlow i (zX i N e) e)) (zc (zr N (zlow i (zX i N e) e)) (2 ^ (zlow i (zX i N e) e).toNat) more)
theorem z_p (k : Nat) : 0 < 2 ^ k := Nat.two_pow_pos k
theorem z_ne {N : Nat} (h : N ≠ 0) (k : Nat) : N * 2 ^ k ≠ 0 := Nat.mul_ne_zero h (Nat.ne_of_gt (z_p k))
theorem z_log_mul {N : Nat} (h : N ≠ 0) (k : Nat) : (N * 2 ^ k).log2 = N.log2 + k := by
  refine (Nat.log2_eq_iff (z_ne h k)).2 ⟨?_, ?_⟩
  · rw [Nat.pow_add]
    exact Nat.mul_le_mul_right _ (Nat.log2_self_le h)
  · rw [show N.log2 + k + 1 = (N.log2 + 1) + k by omega, Nat.pow_add]
    exact Nat.mul_lt_mul_of_pos_right Nat.lt_log2_self (z_p k)
theorem z_log_div {N k : Nat} (h : 2 ^ k ≤ N) : (N / 2 ^ k).log2 = N.log2 - k := by
  have hp := z_p k
  have h0 : N ≠ 0 := by omega
  have hk : k ≤ N.log2 := (Nat.le_log2 h0).2 h
  have h1 : N / 2 ^ k ≠ 0 := by
    have := Nat.div_pos h hp
    omega
  refine (Nat.log2_eq_iff h1).2 ⟨?_, ?_⟩
  · rw [Nat.le_div_iff_mul_le hp, ← Nat.pow_add, Nat.sub_add_cancel hk]
    exact Nat.log2_self_le h0
  · rw [Nat.div_lt_iff_lt_mul hp, ← Nat.pow_add, show N.log2 - k + 1 + k = N.log2 + 1 by omega]
    exact Nat.lt_log2_self
theorem z_log_lt {N k : Nat} (h : N < 2 ^ k) (h0 : N ≠ 0) : N.log2 < k := (Nat.log2_lt h0).2 h
theorem z_log_ge {N k : Nat} (h : 2 ^ k ≤ N) : k ≤ N.log2 := by
  have hp := z_p k
  exact (Nat.le_log2 (by omega)).2 h
theorem zc_0 {m : Nat} (h : 0 < m) (more : Bool) : zc 0 m more = if more = false then 0 else 1 := by
  unfold zc
  rw [if_pos (by omega)]
  cases more <;> simp
theorem zc_mul (r m : Nat) {a : Nat} (ha : 0 < a) (more : Bool) : zc (r * a) (m * a) more = zc r m more := by
  have h1 : 2 * (r * a) < m * a ↔ 2 * r < m := by
    rw [← Nat.mul_assoc]
    exact Nat.mul_lt_mul_right ha
  have h2 : 2 * (r * a) = m * a ↔ 2 * r = m := by
    rw [← Nat.mul_assoc]
    exact Nat.mul_right_cancel_iff ha
  have h3 : r * a = 0 ↔ r = 0 := by
    rw [Nat.mul_eq_zero]
    omega
  simp only [zc, h1, h2, h3]
theorem z_cutS (N k : Nat) (low : Int) (more : Bool) : zq (N * 2 ^ k) (low + k) = zq N low ∧ zc (zr (N * 2 ^ k) (low + k)) (2 ^ (low + k).toNat) more = zc (zr N low) (2 ^ low.toNat) more := by
  unfold zq zr
  by_cases h : 0 ≤ low
  · obtain ⟨n, rfl⟩ := Int.eq_ofNat_of_zero_le h
    have e1 : (-(n : Int)).toNat = 0 := by omega
    have e2 : ((n : Int) + (k : Int)).toNat = n + k := by omega
    have e3 : (-((n : Int) + (k : Int))).toNat = 0 := by omega
    have e4 : ((n : Int)).toNat = n := by omega
    rw [e1, e2, e3, e4, Nat.pow_zero, Nat.mul_one, Nat.mul_one, Nat.pow_add]
    refine ⟨Nat.mul_div_mul_right _ _ (z_p k), ?_⟩
    rw [Nat.mul_mod_mul_right, zc_mul _ _ (z_p k)]
  · obtain ⟨j, rfl⟩ : ∃ j : Nat, low = -(j : Int) := ⟨(-low).toNat, by omega⟩
    have e1 : (-(-(j : Int))).toNat = j := by omega
    have e2 : (-(j : Int)).toNat = 0 := by omega
    rw [e1, e2, Nat.pow_zero, Nat.div_one, Nat.mod_one, zc_0 Nat.one_pos]
    by_cases hk : k ≤ j
    · have e3 : (-(j : Int) + (k : Int)).toNat = 0 := by omega
      have e4 : (-(-(j : Int) + (k : Int))).toNat = j - k := by omega
      rw [e3, e4, Nat.pow_zero, Nat.div_one, Nat.mod_one, zc_0 Nat.one_pos, Nat.mul_assoc, ← Nat.pow_add, Nat.add_sub_cancel' hk]
      exact ⟨rfl, rfl⟩
    · have e3 : (-(j : Int) + (k : Int)).toNat = k - j := by omega
      have e4 : (-(-(j : Int) + (k : Int))).toNat = 0 := by omega
      have e5 : N * 2 ^ k = N * 2 ^ j * 2 ^ (k - j) := by
        rw [Nat.mul_assoc, ← Nat.pow_add, show j + (k - j) = k by omega]
      rw [e3, e4, Nat.pow_zero, Nat.mul_one, e5, Nat.mul_div_cancel _ (z_p _), Nat.mul_mod_left, zc_0 (z_p _)]
      exact ⟨rfl, rfl⟩
theorem zX_shift (i : Nat) {N : Nat} (h : N ≠ 0) (k : Nat) (e : Int) : zX i (N * 2 ^ k) e = zX i N (e + k) := by
  unfold zX
  rw [z_log_mul h, show (((N.log2 + k : Nat) : Int) + e + (zB i : Int)) = (N.log2 : Int) + (e + k) + (zB i : Int) by omega]
/-- N * 2 ^ k times 2 ^ e is N times 2 ^ (e + k) -/
theorem zround_shift (i md : Nat) (sg : Bool) {N : Nat} (h : N ≠ 0) (k : Nat) (e : Int) (more : Bool) : zround i md sg (N * 2 ^ k) e more = zround i md sg N (e + k) more := by
  have hl : ∀ E, zlow i E e = zlow i E (e + k) + k := fun E => by
    unfold zlow
    omega
  unfold zround
  rw [zX_shift i h, hl]
  obtain ⟨h1, h2⟩ := z_cutS N k (zlow i (zX i N (e + k)) (e + k)) more
  rw [h1, h2]
theorem zc_coarse {t a r m2 : Nat} (ht : t < a) (more : Bool) : zc (t + a * r) (a * (2 * m2)) more = zc r (2 * m2) (more || decide (t ≠ 0)) := by
  have e1 : a * (2 * m2) = 2 * (a * m2) := Nat.mul_left_comm _ _ _
  rw [e1]
  rcases Nat.lt_trichotomy r m2 with h | h | h
  · have h9 : a * (r + 1) ≤ a * m2 := Nat.mul_le_mul_left a h
    rw [Nat.mul_succ] at h9
    have h3 : (t + a * r = 0) ↔ (t = 0 ∧ r = 0) := by
      rw [Nat.add_eq_zero_iff, Nat.mul_eq_zero]
      omega
    have c1 : 2 * (t + a * r) < 2 * (a * m2) := by omega
    have c2 : 2 * r < 2 * m2 := by omega
    unfold zc
    rw [if_pos c1, if_pos c2]
    simp only [h3]
    by_cases h0 : t = 0 <;> cases more <;> simp [h0]
  · subst h
    have c1 : ¬ (2 * (t + a * r) < 2 * (a * r)) := by omega
    have c2 : ¬ (2 * r < 2 * r) := by omega
    unfold zc
    rw [if_neg c1, if_neg c2]
    by_cases h0 : t = 0
    · subst h0
      cases more <;> simp
    · have h7 : ¬ (2 * (t + a * r) = 2 * (a * r)) := by omega
      cases more <;> simp [h0, h7]
  · have h9 : a * (m2 + 1) ≤ a * r := Nat.mul_le_mul_left a h
    rw [Nat.mul_succ] at h9
    have c1 : ¬ (2 * (t + a * r) < 2 * (a * m2)) := by omega
    have c2 : ¬ (2 * r < 2 * m2) := by omega
    have c3 : ¬ (2 * (t + a * r) = 2 * (a * m2)) := by omega
    have c4 : ¬ (2 * r = 2 * m2) := by omega
    unfold zc
    rw [if_neg c1, if_neg c2, if_neg (fun q => c3 q.1), if_neg (fun q => c4 q.1)]
theorem zlow_ge (i N : Nat) (e : Int) : (N.log2 : Int) - ((zP i : Int) - 1) ≤ zlow i (zX i N e) e := by
  unfold zlow zX
  omega
/-- the low k bits may be thrown together into 'more', if rounding cuts above them -/
theorem zround_coarse (i md : Nat) (sg : Bool) {N k : Nat} (e : Int) (more : Bool) (h : 2 ^ k ≤ N) (hl : (k : Int) + 1 ≤ zlow i (zX i N e) e) : zround i md sg N e more = zround i md sg (N / 2 ^ k) (e + k) (more || decide (N % 2 ^ k ≠ 0)) := by
  have hp := z_p k
  have h0 : N ≠ 0 := by omega
  have hk : k ≤ N.log2 := z_log_ge h
  have hX : zX i (N / 2 ^ k) (e + k) = zX i N e := by
    unfold zX
    rw [z_log_div h, show (((N.log2 - k : Nat) : Int) + (e + k) + (zB i : Int)) = (N.log2 : Int) + e + (zB i : Int) by omega]
  have h2 : ∀ E, zlow i E (e + k) = zlow i E e - k := fun E => by
    unfold zlow
    omega
  unfold zround
  rw [hX, h2]
  obtain ⟨n, hn⟩ : ∃ n : Nat, zlow i (zX i N e) e = ((n + 1 + k : Nat) : Int) := ⟨(zlow i (zX i N e) e - k - 1).toNat, by omega⟩
  rw [hn]
  have e1 : (-(((n + 1 + k : Nat) : Int))).toNat = 0 := by omega
  have e2 : (((n + 1 + k : Nat) : Int)).toNat = n + 1 + k := by omega
  have e3 : (((n + 1 + k : Nat) : Int) - (k : Int)).toNat = n + 1 := by omega
  have e4 : (-(((n + 1 + k : Nat) : Int) - (k : Int))).toNat = 0 := by omega
  have e5 : 2 ^ (n + 1 + k) = 2 ^ k * (2 * 2 ^ n) := by rw [Nat.add_comm, Nat.pow_add, Nat.pow_succ, Nat.mul_comm (2 ^ n) 2]
  have e6 : 2 ^ (n + 1) = 2 * 2 ^ n := by rw [Nat.pow_succ, Nat.mul_comm]
  unfold zq zr
  rw [e1, e2, e3, e4, Nat.pow_zero, Nat.mul_one, Nat.mul_one, e5, e6, Nat.mod_mul, zc_coarse (Nat.mod_lt _ hp), Nat.div_div_eq_div_mul]
theorem z_or1 (n : Nat) : n ||| 1 = n / 2 * 2 + 1 := by
  have h1 : (n ||| 1) / 2 = n / 2 := by
    rw [Nat.or_div_two]
    simp
  have h2 : (n ||| 1) % 2 = 1 := by
    rw [Nat.or_mod_two_eq_one]
    simp
  omega
theorem z_log_st {N : Nat} (h : N ≠ 0) : (N / 2 * 2 + 1).log2 = N.log2 := by
  refine (Nat.log2_eq_iff (by omega)).2 ⟨?_, ?_⟩
  · have := Nat.log2_self_le h
    omega
  · have h1 : N < 2 ^ (N.log2 + 1) := Nat.lt_log2_self
    rw [Nat.pow_succ] at h1 ⊢
    omega
/-- 'more' may be put into the lowest bit, if rounding cuts two bits or more -/
theorem zround_odd (i md : Nat) (sg : Bool) {N : Nat} (e : Int) (h : N ≠ 0) (hl : 2 ≤ zlow i (zX i N e) e) : zround i md sg N e true = zround i md sg (N / 2 * 2 + 1) e false := by
  have hX : zX i (N / 2 * 2 + 1) e = zX i N e := by
    unfold zX
    rw [z_log_st h]
  unfold zround
  rw [hX]
  obtain ⟨n, hn⟩ : ∃ n : Nat, zlow i (zX i N e) e = ((n + 2 : Nat) : Int) := ⟨(zlow i (zX i N e) e - 2).toNat, by omega⟩
  rw [hn]
  have e1 : (-(((n + 2 : Nat) : Int))).toNat = 0 := by omega
  have e2 : (((n + 2 : Nat) : Int)).toNat = n + 2 := by omega
  have e5 : 2 ^ (n + 2) = 2 * (2 * 2 ^ n) := by
    rw [Nat.pow_succ, Nat.pow_succ]
    omega
  unfold zq zr
  rw [e1, e2, Nat.pow_zero, Nat.mul_one, Nat.mul_one, e5]
  have q1 : N / (2 * (2 * 2 ^ n)) = (N / 2 * 2 + 1) / (2 * (2 * 2 ^ n)) := by
    rw [← Nat.div_div_eq_div_mul N, ← Nat.div_div_eq_div_mul (N / 2 * 2 + 1), show (N / 2 * 2 + 1) / 2 = N / 2 by omega]
  have r1 : N % (2 * (2 * 2 ^ n)) = N % 2 + 2 * (N / 2 % (2 * 2 ^ n)) := Nat.mod_mul
  have r2 : (N / 2 * 2 + 1) % (2 * (2 * 2 ^ n)) = 1 + 2 * (N / 2 % (2 * 2 ^ n)) := by
    rw [Nat.mod_mul, show (N / 2 * 2 + 1) / 2 = N / 2 by omega, show (N / 2 * 2 + 1) % 2 = 1 by omega]
  rw [q1, r1, r2]
  have hc : zc (N % 2 + 2 * (N / 2 % (2 * 2 ^ n))) (2 * (2 * 2 ^ n)) true = zc (1 + 2 * (N / 2 % (2 * 2 ^ n))) (2 * (2 * 2 ^ n)) false := by
    generalize N / 2 % (2 * 2 ^ n) = s
    generalize 2 ^ n = m
    have h2 := Nat.mod_two_eq_zero_or_one N
    unfold zc
    by_cases hs : s < m
    · have c1 : 2 * (N % 2 + 2 * s) < 2 * (2 * m) := by omega
      have c2 : 2 * (1 + 2 * s) < 2 * (2 * m) := by omega
      have c3 : ¬ (1 + 2 * s = 0) := by omega
      rw [if_pos c1, if_pos c2, if_neg (fun q => by cases q.2), if_neg (fun q => c3 q.1)]
    · have c1 : ¬ (2 * (N % 2 + 2 * s) < 2 * (2 * m)) := by omega
      have c2 : ¬ (2 * (1 + 2 * s) < 2 * (2 * m)) := by omega
      have c3 : ¬ (2 * (1 + 2 * s) = 2 * (2 * m)) := by omega
      rw [if_neg c1, if_neg c2, if_neg (fun q => by cases q.2), if_neg (fun q => c3 q.1)]
  rw [hc]
/-- both at once: m is N without its low k bits, its lowest bit set where that (or 'more') loses something -/
theorem zround_st (i md : Nat) (sg : Bool) {N k : Nat} (e : Int) (more : Bool) (h : 2 ^ (zP i + 1 + k) ≤ N) : zround i md sg N e more = zround i md sg (if more = true ∨ N % 2 ^ k ≠ 0 then N / 2 ^ k / 2 * 2 + 1 else N / 2 ^ k) (e + k) false := by
  have hp := z_p (zP i + 1)
  have hpk := z_p k
  rw [Nat.pow_add] at h
  have hm : 2 ^ (zP i + 1) ≤ N / 2 ^ k := (Nat.le_div_iff_mul_le hpk).2 h
  have hN : 2 ^ k ≤ N := Nat.le_trans (Nat.le_mul_of_pos_left _ hp) h
  have hlg := z_log_ge hm
  have hlN : k ≤ N.log2 := z_log_ge hN
  rw [z_log_div hN] at hlg
  have hlow := zlow_ge i N e
  rw [zround_coarse i md sg e more hN (by omega)]
  have hcond : (more || decide (N % 2 ^ k ≠ 0)) = true ↔ (more = true ∨ N % 2 ^ k ≠ 0) := by simp
  by_cases hc : more = true ∨ N % 2 ^ k ≠ 0
  · rw [if_pos hc, hcond.2 hc]
    refine zround_odd i md sg (e + k) (by omega) ?_
    have h3 := zlow_ge i (N / 2 ^ k) (e + k)
    rw [z_log_div hN] at h3
    omega
  · rw [if_neg hc]
    have h4 : (more || decide (N % 2 ^ k ≠ 0)) = false := by
      rw [← Bool.not_eq_true, hcond]
      exact hc
    rw [h4]
