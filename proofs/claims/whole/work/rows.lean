section
/-! Rounding as a number: the two sizes i (0 wide, 1 narrow), a magnitude N times 2 ^ e, 'more' says that a little more than N is meant. -/
def zP (i : Nat) : Nat := if i = 0 then 53 else 24
def zB (i : Nat) : Nat := if i = 0 then 1023 else 127
def zL (i : Nat) : Nat := 2 ^ (zP i - 1)
def zI (i : Nat) : Nat := (2 * zB i + 1) * zL i
/-- what is cut off: 0 nothing, 1 less than half, 2 half, 3 more than half -/
def zc (r m : Nat) (more : Bool) : Nat :=
  if 2 * r < m then (if r = 0 ∧ more = false then 0 else 1) else if 2 * r = m ∧ more = false then 2 else 3
def zq (N : Nat) (low : Int) : Nat := N * 2 ^ (-low).toNat / 2 ^ low.toNat
def zr (N : Nat) (low : Int) : Nat := N * 2 ^ (-low).toNat % 2 ^ low.toNat
def zu (md : Nat) (sg : Bool) (q c : Nat) : Nat :=
  if md = 0 then (if c = 3 ∨ c = 2 ∧ q % 2 = 1 then 1 else 0)
  else if md = 2 then (if c ≠ 0 ∧ sg = false then 1 else 0)
  else if md = 3 then (if c ≠ 0 ∧ sg = true then 1 else 0) else 0
def zX (i N : Nat) (e : Int) : Int := max ((N.log2 : Int) + e + (zB i : Int)) 1
def zlow (i : Nat) (E e : Int) : Int := E - (zB i : Int) - ((zP i : Int) - 1) - e
def zhuge (i md : Nat) (sg : Bool) : Nat × Nat := (if md = 1 ∨ md = (if sg then 2 else 3) then zI i - 1 else zI i, 5)
def zend (i md : Nat) (sg : Bool) (E : Int) (q c : Nat) : Nat × Nat :=
  if 2 * (zB i : Int) < E ∨ zI i ≤ (E - 1).toNat * zL i + (q + zu md sg q c) then zhuge i md sg
  else ((E - 1).toNat * zL i + (q + zu md sg q c), if c = 0 then 0 else if (E - 1).toNat * zL i + (q + zu md sg q c) < zL i then 3 else 1)
def zround (i md : Nat) (sg : Bool) (N : Nat) (e : Int) (more : Bool) : Nat × Nat :=
  zend i md sg (zX i N e) (zq N (zlow i (zX i N e) e)) (zc (zr N (zlow i (zX i N e) e)) (2 ^ (zlow i (zX i N e) e).toNat) more)
theorem z_p (k : Nat) : 0 < 2 ^ k := Nat.two_pow_pos k
theorem z_ne {N : Nat} (h : N ≠ 0) (k : Nat) : N * 2 ^ k ≠ 0 := Nat.mul_ne_zero h (Nat.ne_of_gt (z_p k))
theorem z_log_mul {N : Nat} (h : N ≠ 0) (k : Nat) : (N * 2 ^ k).log2 = N.log2 + k := by
  refine (Nat.log2_eq_iff (z_ne h k)).2 ⟨?_, ?_⟩
  · rw [Nat.pow_add]
    exact Nat.mul_le_mul_right _ (Nat.log2_self_le h)
  · rw [show N.log2 + k + 1 = (N.log2 + 1) + k by omega, Nat.pow_add]
    exact Nat.mul_lt_mul_of_pos_right Nat.lt_log2_self (z_p k)
theorem z_log_div {N k : Nat} (h : 2 ^ k ≤ N) : (N / 2 ^ k).log2 = N.log2 - k := by
  have hp := z_p k
  have h0 : N ≠ 0 := by omega
  have hk : k ≤ N.log2 := (Nat.le_log2 h0).2 h
  have h1 : N / 2 ^ k ≠ 0 := by
    have := Nat.div_pos h hp
    omega
  refine (Nat.log2_eq_iff h1).2 ⟨?_, ?_⟩
  · rw [Nat.le_div_iff_mul_le hp, ← Nat.pow_add, Nat.sub_add_cancel hk]
    exact Nat.log2_self_le h0
  · rw [Nat.div_lt_iff_lt_mul hp, ← Nat.pow_add, show N.log2 - k + 1 + k = N.log2 + 1 by omega]
    exact Nat.lt_log2_self
theorem z_log_lt {N k : Nat} (h : N < 2 ^ k) (h0 : N ≠ 0) : N.log2 < k := (Nat.log2_lt h0).2 h
theorem z_log_ge {N k : Nat} (h : 2 ^ k ≤ N) : k ≤ N.log2 := by
  have hp := z_p k
  exact (Nat.le_log2 (by omega)).2 h
theorem zc_0 {m : Nat} (h : 0 < m) (more : Bool) : zc 0 m more = if more = false then 0 else 1 := by
  unfold zc
  rw [if_pos (by omega)]
  cases more <;> simp
theorem zc_mul (r m : Nat) {a : Nat} (ha : 0 < a) (more : Bool) : zc (r * a) (m * a) more = zc r m more := by
  have h1 : 2 * (r * a) < m * a ↔ 2 * r < m := by
    rw [← Nat.mul_assoc]
    exact Nat.mul_lt_mul_right ha
  have h2 : 2 * (r * a) = m * a ↔ 2 * r = m := by
    rw [← Nat.mul_assoc]
    exact Nat.mul_right_cancel_iff ha
  have h3 : r * a = 0 ↔ r = 0 := by
    rw [Nat.mul_eq_zero]
    omega
  simp only [zc, h1, h2, h3]
theorem z_cutS (N k : Nat) (low : Int) (more : Bool) : zq (N * 2 ^ k) (low + k) = zq N low ∧ zc (zr (N * 2 ^ k) (low + k)) (2 ^ (low + k).toNat) more = zc (zr N low) (2 ^ low.toNat) more := by
  unfold zq zr
  by_cases h : 0 ≤ low
  · obtain ⟨n, rfl⟩ := Int.eq_ofNat_of_zero_le h
    have e1 : (-(n : Int)).toNat = 0 := by omega
    have e2 : ((n : Int) + (k : Int)).toNat = n + k := by omega
    have e3 : (-((n : Int) + (k : Int))).toNat = 0 := by omega
    have e4 : ((n : Int)).toNat = n := by omega
    rw [e1, e2, e3, e4, Nat.pow_zero, Nat.mul_one, Nat.mul_one, Nat.pow_add]
    refine ⟨Nat.mul_div_mul_right _ _ (z_p k), ?_⟩
    rw [Nat.mul_mod_mul_right, zc_mul _ _ (z_p k)]
  · obtain ⟨j, rfl⟩ : ∃ j : Nat, low = -(j : Int) := ⟨(-low).toNat, by omega⟩
    have e1 : (-(-(j : Int))).toNat = j := by omega
    have e2 : (-(j : Int)).toNat = 0 := by omega
    rw [e1, e2, Nat.pow_zero, Nat.div_one, Nat.mod_one, zc_0 Nat.one_pos]
    by_cases hk : k ≤ j
    · have e3 : (-(j : Int) + (k : Int)).toNat = 0 := by omega
      have e4 : (-(-(j : Int) + (k : Int))).toNat = j - k := by omega
      rw [e3, e4, Nat.pow_zero, Nat.div_one, Nat.mod_one, zc_0 Nat.one_pos, Nat.mul_assoc, ← Nat.pow_add, Nat.add_sub_cancel' hk]
      exact ⟨rfl, rfl⟩
    · have e3 : (-(j : Int) + (k : Int)).toNat = k - j := by omega
      have e4 : (-(-(j : Int) + (k : Int))).toNat = 0 := by omega
      have e5 : N * 2 ^ k = N * 2 ^ j * 2 ^ (k - j) := by
        rw [Nat.mul_assoc, ← Nat.pow_add, show j + (k - j) = k by omega]
      rw [e3, e4, Nat.pow_zero, Nat.mul_one, e5, Nat.mul_div_cancel _ (z_p _), Nat.mul_mod_left, zc_0 (z_p _)]
      exact ⟨rfl, rfl⟩
theorem zX_shift (i : Nat) {N : Nat} (h : N ≠ 0) (k : Nat) (e : Int) : zX i (N * 2 ^ k) e = zX i N (e + k) := by
  unfold zX
  rw [z_log_mul h, show (((N.log2 + k : Nat) : Int) + e + (zB i : Int)) = (N.log2 : Int) + (e + k) + (zB i : Int) by omega]
/-- N * 2 ^ k times 2 ^ e is N times 2 ^ (e + k) -/
theorem zround_shift (i md : Nat) (sg : Bool) {N : Nat} (h : N ≠ 0) (k : Nat) (e : Int) (more : Bool) : zround i md sg (N * 2 ^ k) e more = zround i md sg N (e + k) more := by
  have hl : ∀ E, zlow i E e = zlow i E (e + k) + k := fun E => by
    unfold zlow
    omega
  unfold zround
  rw [zX_shift i h, hl]
  obtain ⟨h1, h2⟩ := z_cutS N k (zlow i (zX i N (e + k)) (e + k)) more
  rw [h1, h2]
theorem zc_coarse {t a r m2 : Nat} (ht : t < a) (more : Bool) : zc (t + a * r) (a * (2 * m2)) more = zc r (2 * m2) (more || decide (t ≠ 0)) := by
  have e1 : a * (2 * m2) = 2 * (a * m2) := Nat.mul_left_comm _ _ _
  rw [e1]
  rcases Nat.lt_trichotomy r m2 with h | h | h
  · have h9 : a * (r + 1) ≤ a * m2 := Nat.mul_le_mul_left a h
    rw [Nat.mul_succ] at h9
    have h3 : (t + a * r = 0) ↔ (t = 0 ∧ r = 0) := by
      rw [Nat.add_eq_zero_iff, Nat.mul_eq_zero]
      omega
    have c1 : 2 * (t + a * r) < 2 * (a * m2) := by omega
    have c2 : 2 * r < 2 * m2 := by omega
    unfold zc
    rw [if_pos c1, if_pos c2]
    simp only [h3]
    by_cases h0 : t = 0 <;> cases more <;> simp [h0]
  · subst h
    have c1 : ¬ (2 * (t + a * r) < 2 * (a * r)) := by omega
    have c2 : ¬ (2 * r < 2 * r) := by omega
    unfold zc
    rw [if_neg c1, if_neg c2]
    by_cases h0 : t = 0
    · subst h0
      cases more <;> simp
    · have h7 : ¬ (2 * (t + a * r) = 2 * (a * r)) := by omega
      cases more <;> simp [h0, h7]
  · have h9 : a * (m2 + 1) ≤ a * r := Nat.mul_le_mul_left a h
    rw [Nat.mul_succ] at h9
    have c1 : ¬ (2 * (t + a * r) < 2 * (a * m2)) := by omega
    have c2 : ¬ (2 * r < 2 * m2) := by omega
    have c3 : ¬ (2 * (t + a * r) = 2 * (a * m2)) := by omega
    have c4 : ¬ (2 * r = 2 * m2) := by omega
    unfold zc
    rw [if_neg c1, if_neg c2, if_neg (fun q => c3 q.1), if_neg (fun q => c4 q.1)]
theorem zlow_ge (i N : Nat) (e : Int) : (N.log2 : Int) - ((zP i : Int) - 1) ≤ zlow i (zX i N e) e := by
  unfold zlow zX
  omega
/-- the low k bits may be thrown together into 'more', if rounding cuts above them -/
theorem zround_coarse (i md : Nat) (sg : Bool) {N k : Nat} (e : Int) (more : Bool) (h : 2 ^ k ≤ N) (hl : (k : Int) + 1 ≤ zlow i (zX i N e) e) : zround i md sg N e more = zround i md sg (N / 2 ^ k) (e + k) (more || decide (N % 2 ^ k ≠ 0)) := by
  have hp := z_p k
  have h0 : N ≠ 0 := by omega
  have hk : k ≤ N.log2 := z_log_ge h
  have hX : zX i (N / 2 ^ k) (e + k) = zX i N e := by
    unfold zX
    rw [z_log_div h, show (((N.log2 - k : Nat) : Int) + (e + k) + (zB i : Int)) = (N.log2 : Int) + e + (zB i : Int) by omega]
  have h2 : ∀ E, zlow i E (e + k) = zlow i E e - k := fun E => by
    unfold zlow
    omega
  unfold zround
  rw [hX, h2]
  obtain ⟨n, hn⟩ : ∃ n : Nat, zlow i (zX i N e) e = ((n + 1 + k : Nat) : Int) := ⟨(zlow i (zX i N e) e - k - 1).toNat, by omega⟩
  rw [hn]
  have e1 : (-(((n + 1 + k : Nat) : Int))).toNat = 0 := by omega
  have e2 : (((n + 1 + k : Nat) : Int)).toNat = n + 1 + k := by omega
  have e3 : (((n + 1 + k : Nat) : Int) - (k : Int)).toNat = n + 1 := by omega
  have e4 : (-(((n + 1 + k : Nat) : Int) - (k : Int))).toNat = 0 := by omega
  have e5 : 2 ^ (n + 1 + k) = 2 ^ k * (2 * 2 ^ n) := by rw [Nat.add_comm, Nat.pow_add, Nat.pow_succ, Nat.mul_comm (2 ^ n) 2]
  have e6 : 2 ^ (n + 1) = 2 * 2 ^ n := by rw [Nat.pow_succ, Nat.mul_comm]
  unfold zq zr
  rw [e1, e2, e3, e4, Nat.pow_zero, Nat.mul_one, Nat.mul_one, e5, e6, Nat.mod_mul, zc_coarse (Nat.mod_lt _ hp), Nat.div_div_eq_div_mul]
theorem z_or1 (n : Nat) : n ||| 1 = n / 2 * 2 + 1 := by
  have h1 : (n ||| 1) / 2 = n / 2 := by
    rw [Nat.or_div_two]
    simp
  have h2 : (n ||| 1) % 2 = 1 := by
    rw [Nat.or_mod_two_eq_one]
    simp
  omega
theorem z_log_st {N : Nat} (h : N ≠ 0) : (N / 2 * 2 + 1).log2 = N.log2 := by
  refine (Nat.log2_eq_iff (by omega)).2 ⟨?_, ?_⟩
  · have := Nat.log2_self_le h
    omega
  · have h1 : N < 2 ^ (N.log2 + 1) := Nat.lt_log2_self
    rw [Nat.pow_succ] at h1 ⊢
    omega
/-- 'more' may be put into the lowest bit, if rounding cuts two bits or more -/
theorem zround_odd (i md : Nat) (sg : Bool) {N : Nat} (e : Int) (h : N ≠ 0) (hl : 2 ≤ zlow i (zX i N e) e) : zround i md sg N e true = zround i md sg (N / 2 * 2 + 1) e false := by
  have hX : zX i (N / 2 * 2 + 1) e = zX i N e := by
    unfold zX
    rw [z_log_st h]
  unfold zround
  rw [hX]
  obtain ⟨n, hn⟩ : ∃ n : Nat, zlow i (zX i N e) e = ((n + 2 : Nat) : Int) := ⟨(zlow i (zX i N e) e - 2).toNat, by omega⟩
  rw [hn]
  have e1 : (-(((n + 2 : Nat) : Int))).toNat = 0 := by omega
  have e2 : (((n + 2 : Nat) : Int)).toNat = n + 2 := by omega
  have e5 : 2 ^ (n + 2) = 2 * (2 * 2 ^ n) := by
    rw [Nat.pow_succ, Nat.pow_succ]
    omega
  unfold zq zr
  rw [e1, e2, Nat.pow_zero, Nat.mul_one, Nat.mul_one, e5]
  have q1 : N / (2 * (2 * 2 ^ n)) = (N / 2 * 2 + 1) / (2 * (2 * 2 ^ n)) := by
    rw [← Nat.div_div_eq_div_mul N, ← Nat.div_div_eq_div_mul (N / 2 * 2 + 1), show (N / 2 * 2 + 1) / 2 = N / 2 by omega]
  have r1 : N % (2 * (2 * 2 ^ n)) = N % 2 + 2 * (N / 2 % (2 * 2 ^ n)) := Nat.mod_mul
  have r2 : (N / 2 * 2 + 1) % (2 * (2 * 2 ^ n)) = 1 + 2 * (N / 2 % (2 * 2 ^ n)) := by
    rw [Nat.mod_mul, show (N / 2 * 2 + 1) / 2 = N / 2 by omega, show (N / 2 * 2 + 1) % 2 = 1 by omega]
  rw [q1, r1, r2]
  have hc : zc (N % 2 + 2 * (N / 2 % (2 * 2 ^ n))) (2 * (2 * 2 ^ n)) true = zc (1 + 2 * (N / 2 % (2 * 2 ^ n))) (2 * (2 * 2 ^ n)) false := by
    generalize N / 2 % (2 * 2 ^ n) = s
    generalize 2 ^ n = m
    have h2 := Nat.mod_two_eq_zero_or_one N
    unfold zc
    by_cases hs : s < m
    · have c1 : 2 * (N % 2 + 2 * s) < 2 * (2 * m) := by omega
      have c2 : 2 * (1 + 2 * s) < 2 * (2 * m) := by omega
      have c3 : ¬ (1 + 2 * s = 0) := by omega
      rw [if_pos c1, if_pos c2, if_neg (fun q => by cases q.2), if_neg (fun q => c3 q.1)]
    · have c1 : ¬ (2 * (N % 2 + 2 * s) < 2 * (2 * m)) := by omega
      have c2 : ¬ (2 * (1 + 2 * s) < 2 * (2 * m)) := by omega
      have c3 : ¬ (2 * (1 + 2 * s) = 2 * (2 * m)) := by omega
      rw [if_neg c1, if_neg c2, if_neg (fun q => by cases q.2), if_neg (fun q => c3 q.1)]
  rw [hc]
/-- both at once: m is N without its low k bits, its lowest bit set where that (or 'more') loses something -/
theorem zround_st (i md : Nat) (sg : Bool) {N k : Nat} (e : Int) (more : Bool) (h : 2 ^ (zP i + 1 + k) ≤ N) : zround i md sg N e more = zround i md sg (if more = true ∨ N % 2 ^ k ≠ 0 then N / 2 ^ k / 2 * 2 + 1 else N / 2 ^ k) (e + k) false := by
  have hp := z_p (zP i + 1)
  have hpk := z_p k
  rw [Nat.pow_add] at h
  have hm : 2 ^ (zP i + 1) ≤ N / 2 ^ k := (Nat.le_div_iff_mul_le hpk).2 h
  have hN : 2 ^ k ≤ N := Nat.le_trans (Nat.le_mul_of_pos_left _ hp) h
  have hlg := z_log_ge hm
  have hlN : k ≤ N.log2 := z_log_ge hN
  rw [z_log_div hN] at hlg
  have hlow := zlow_ge i N e
  rw [zround_coarse i md sg e more hN (by omega)]
  have hcond : (more || decide (N % 2 ^ k ≠ 0)) = true ↔ (more = true ∨ N % 2 ^ k ≠ 0) := by simp
  by_cases hc : more = true ∨ N % 2 ^ k ≠ 0
  · rw [if_pos hc, hcond.2 hc]
    refine zround_odd i md sg (e + k) (by omega) ?_
    have h3 := zlow_ge i (N / 2 ^ k) (e + k)
    rw [z_log_div hN] at h3
    omega
  · rw [if_neg hc]
    have h4 : (more || decide (N % 2 ^ k ≠ 0)) = false := by
      rw [← Bool.not_eq_true, hcond]
      exact hc
    rw [h4]
end
section
/-! The exact results of the operations, once as the reference has them and once as the program has them, round alike. -/
theorem zP_le (i : Nat) : zP i ≤ 53 := by
  unfold zP
  split <;> omega
theorem zP_ge (i : Nat) : 24 ≤ zP i := by
  unfold zP
  split <;> omega
theorem z_pow_le {a b : Nat} (h : a ≤ b) : 2 ^ a ≤ 2 ^ b := Nat.pow_le_pow_right (by decide) h
def zst (N k : Nat) : Nat := if N % 2 ^ k ≠ 0 then N / 2 ^ k / 2 * 2 + 1 else N / 2 ^ k
theorem zround_zst (i md : Nat) (sg : Bool) {N k : Nat} (e : Int) (h : 2 ^ (zP i + 1 + k) ≤ N) : zround i md sg N e false = zround i md sg (zst N k) (e + k) false := by
  rw [zround_st i md sg e false h]
  have hc : (false = true ∨ N % 2 ^ k ≠ 0) ↔ N % 2 ^ k ≠ 0 := by simp
  simp only [zst, hc]
theorem zround_rep (i md : Nat) (sg : Bool) {N1 N2 a c : Nat} {e1 e2 : Int} (h1 : N1 ≠ 0) (h2 : N2 ≠ 0) (h : N1 * 2 ^ a = N2 * 2 ^ c) (he : e1 - a = e2 - c) (more : Bool) : zround i md sg N1 e1 more = zround i md sg N2 e2 more := by
  have A := zround_shift i md sg h1 a (e1 - a) more
  have B := zround_shift i md sg h2 c (e2 - c) more
  rw [show e1 - (a : Int) + a = e1 by omega] at A
  rw [show e2 - (c : Int) + c = e2 by omega] at B
  rw [← A, ← B, h, he]
theorem z_prod (i md : Nat) (sg : Bool) {px py lx ly : Nat} (ex ey : Int) (hx : 2 ^ 52 ≤ px * 2 ^ lx) (hy : 2 ^ 52 ≤ py * 2 ^ ly) :
    zround i md sg (px * py) (ex + ey) false = zround i md sg (zst (px * 2 ^ lx * 2 ^ 10 * (py * 2 ^ ly * 2 ^ 10)) 64) (ex - lx + (ey - ly) - 20 + 64) false := by
  have hN : px * py * 2 ^ (lx + ly + 20) = px * 2 ^ lx * 2 ^ 10 * (py * 2 ^ ly * 2 ^ 10) := by
    rw [Nat.pow_add, Nat.pow_add, show (2 : Nat) ^ 20 = 2 ^ 10 * 2 ^ 10 by decide]
    ac_rfl
  have hbig : 2 ^ 124 ≤ px * 2 ^ lx * 2 ^ 10 * (py * 2 ^ ly * 2 ^ 10) := by
    have h1 : 2 ^ 52 * 2 ^ 10 ≤ px * 2 ^ lx * 2 ^ 10 := Nat.mul_le_mul_right _ hx
    have h2 : 2 ^ 52 * 2 ^ 10 ≤ py * 2 ^ ly * 2 ^ 10 := Nat.mul_le_mul_right _ hy
    exact Nat.le_trans (by decide) (Nat.mul_le_mul h1 h2)
  generalize px * 2 ^ lx * 2 ^ 10 * (py * 2 ^ ly * 2 ^ 10) = X at hN hbig ⊢
  have hX0 : X ≠ 0 := by
    intro h0
    rw [h0] at hbig
    exact absurd hbig (by decide)
  have hn0 : px * py ≠ 0 := by
    intro h0
    rw [h0, Nat.zero_mul] at hN
    exact hX0 hN.symm
  have h1 : zround i md sg (px * py) (ex + ey) false = zround i md sg X (ex + ey - ((lx + ly + 20 : Nat) : Int)) false :=
    zround_rep i md sg (a := lx + ly + 20) (c := 0) hn0 hX0 (by rw [hN, Nat.pow_zero, Nat.mul_one]) (by omega) false
  have h2 : 2 ^ (zP i + 1 + 64) ≤ X := Nat.le_trans (z_pow_le (by have := zP_le i; omega)) hbig
  have h3 := zround_zst i md sg (k := 64) (ex + ey - ((lx + ly + 20 : Nat) : Int)) h2
  rw [h1, h3, show ex + ey - ((lx + ly + 20 : Nat) : Int) + ((64 : Nat) : Int) = ex - lx + (ey - ly) - 20 + 64 by omega]
theorem z_mod0 {a b c : Nat} (hb : 0 < b) : a % (b * c) = 0 ↔ (a % b = 0 ∧ a / b % c = 0) := by
  rw [Nat.mod_mul, Nat.add_eq_zero_iff, Nat.mul_eq_zero]
  omega
theorem z_quot (i md : Nat) (sg : Bool) {px py lx ly : Nat} (ex ey : Int) (hlx : lx ≤ 52) (hpy : 0 < py) (hx : 2 ^ 52 ≤ px * 2 ^ lx) (hy : py * 2 ^ ly < 2 ^ 53) :
    zround i md sg (px * 2 ^ 120 / py) (ex - ey - 120) (decide (px * 2 ^ 120 % py ≠ 0)) = zround i md sg (if px * 2 ^ lx * 2 ^ 60 % (py * 2 ^ ly) ≠ 0 then px * 2 ^ lx * 2 ^ 60 / (py * 2 ^ ly) / 2 * 2 + 1 else px * 2 ^ lx * 2 ^ 60 / (py * 2 ^ ly)) (ex - lx - (ey - ly) - 60) false := by
  have hA : px * 2 ^ 120 = px * 2 ^ lx * 2 ^ 60 * 2 ^ (60 - lx) := by
    rw [Nat.mul_assoc, Nat.mul_assoc, ← Nat.pow_add, ← Nat.pow_add, show lx + (60 + (60 - lx)) = 120 by omega]
  have hB : py * 2 ^ (60 + ly - lx) = py * 2 ^ ly * 2 ^ (60 - lx) := by
    rw [Nat.mul_assoc, ← Nat.pow_add, show ly + (60 - lx) = 60 + ly - lx by omega]
  have hD : 0 < py * 2 ^ ly := Nat.mul_pos hpy (z_p ly)
  have hdiv : px * 2 ^ 120 / py / 2 ^ (60 + ly - lx) = px * 2 ^ lx * 2 ^ 60 / (py * 2 ^ ly) := by
    rw [Nat.div_div_eq_div_mul, hA, hB, Nat.mul_div_mul_right _ _ (z_p _)]
  have hmod : (px * 2 ^ 120 % py = 0 ∧ px * 2 ^ 120 / py % 2 ^ (60 + ly - lx) = 0) ↔ px * 2 ^ lx * 2 ^ 60 % (py * 2 ^ ly) = 0 := by
    rw [← z_mod0 hpy, hA, hB, Nat.mul_mod_mul_right, Nat.mul_eq_zero]
    have := z_p (60 - lx)
    omega
  have hq : 2 ^ 59 ≤ px * 2 ^ lx * 2 ^ 60 / (py * 2 ^ ly) := by
    rw [Nat.le_div_iff_mul_le hD]
    have h1 : 2 ^ 59 * (py * 2 ^ ly) ≤ 2 ^ 59 * 2 ^ 53 := Nat.mul_le_mul_left _ (Nat.le_of_lt hy)
    have h2 : 2 ^ 52 * 2 ^ 60 ≤ px * 2 ^ lx * 2 ^ 60 := Nat.mul_le_mul_right _ hx
    exact Nat.le_trans h1 (Nat.le_trans (by decide) h2)
  have hbig : 2 ^ (zP i + 1 + (60 + ly - lx)) ≤ px * 2 ^ 120 / py := by
    rw [Nat.pow_add]
    have h3 : 2 ^ (zP i + 1) ≤ px * 2 ^ 120 / py / 2 ^ (60 + ly - lx) := by
      rw [hdiv]
      exact Nat.le_trans (z_pow_le (by have := zP_le i; omega)) hq
    exact Nat.le_trans (Nat.mul_le_mul_right _ h3) (Nat.div_mul_le_self _ _)
  rw [zround_st i md sg (k := 60 + ly - lx) (ex - ey - 120) _ hbig, hdiv]
  have hcond : (decide (px * 2 ^ 120 % py ≠ 0) = true ∨ px * 2 ^ 120 / py % 2 ^ (60 + ly - lx) ≠ 0) ↔ px * 2 ^ lx * 2 ^ 60 % (py * 2 ^ ly) ≠ 0 := by
    rw [decide_eq_true_eq]
    constructor
    · intro h q
      have q := hmod.2 q
      rcases h with h | h
      · exact h q.1
      · exact h q.2
    · intro h
      by_cases h1 : px * 2 ^ 120 % py = 0
      · exact Or.inr (fun h2 => h (hmod.1 ⟨h1, h2⟩))
      · exact Or.inl h1
  simp only [hcond]
  rw [show ex - ey - 120 + ((60 + ly - lx : Nat) : Int) = ex - lx - (ey - ly) - 60 by omega]
theorem z_add {A d : Nat} (NB : Nat) (hA : A % 2 = 0) : A + zst NB d = zst (A * 2 ^ d + NB) d := by
  unfold zst
  rw [Nat.mul_add_mod', Nat.add_comm (A * 2 ^ d) NB, Nat.add_mul_div_right _ _ (z_p d)]
  split <;> omega
theorem z_sub {A d NB : Nat} (hA : A % 2 = 0) (h : NB ≤ A * 2 ^ d) : A - zst NB d = zst (A * 2 ^ d - NB) d ∧ zst NB d ≤ A := by
  have hp := z_p d
  have hdm := Nat.div_add_mod NB (2 ^ d)
  have hlt := Nat.mod_lt NB hp
  rw [Nat.mul_comm] at hdm
  generalize hw : NB / 2 ^ d = w at hdm
  generalize ht : NB % 2 ^ d = t at hdm hlt
  have hwA : w ≤ A := Nat.le_of_mul_le_mul_right (Nat.le_trans (by omega) h) hp
  unfold zst
  rw [hw, ht]
  by_cases h0 : t = 0
  · have e1 : A * 2 ^ d - NB = (A - w) * 2 ^ d := by
      rw [Nat.sub_mul]
      omega
    rw [e1, Nat.mul_mod_left, Nat.mul_div_cancel _ hp]
    simp [h0, hwA]
  · have hwA' : w + 1 ≤ A := by
      rcases Nat.lt_or_ge w A with g | g
      · exact g
      · have : w = A := by omega
        subst this
        omega
    have e1 : A * 2 ^ d - NB = (2 ^ d - t) + (A - w - 1) * 2 ^ d := by
      have e2 : A * 2 ^ d = (A - w - 1) * 2 ^ d + w * 2 ^ d + 2 ^ d := by
        rw [← Nat.add_mul, ← Nat.succ_mul]
        congr 1
        omega
      omega
    have e3 : (A * 2 ^ d - NB) / 2 ^ d = A - w - 1 := by
      rw [e1, Nat.add_mul_div_right _ _ hp, Nat.div_eq_of_lt (by omega)]
      omega
    have e4 : (A * 2 ^ d - NB) % 2 ^ d ≠ 0 := by
      rw [e1, Nat.add_mul_mod_self_right, Nat.mod_eq_of_lt (by omega)]
      omega
    rw [e3, if_pos h0, if_pos e4]
    omega
/-- a sum: the smaller one pressed to the greater one's unit -/
theorem z_sumP (i md : Nat) (sg : Bool) {A d NB : Nat} (e : Int) (hA : A % 2 = 0) (h0 : A * 2 ^ d + NB ≠ 0) (hc : NB % 2 ^ d = 0 ∨ 2 ^ 61 ≤ A) : zround i md sg (A * 2 ^ d + NB) e false = zround i md sg (A + zst NB d) (e + d) false := by
  by_cases ht : NB % 2 ^ d = 0
  · have e1 : A * 2 ^ d + NB = (A + zst NB d) * 2 ^ d := by
      have hdm := Nat.div_add_mod NB (2 ^ d)
      rw [Nat.mul_comm] at hdm
      unfold zst
      rw [if_neg (by omega), Nat.add_mul]
      omega
    have h1 : A + zst NB d ≠ 0 := by
      intro h2
      rw [h2, Nat.zero_mul] at e1
      omega
    rw [e1, zround_shift i md sg h1]
  · have h61 : 2 ^ 61 ≤ A := by
      rcases hc with h | h
      · exact absurd h ht
      · exact h
    rw [z_add NB hA]
    refine zround_zst i md sg e ?_
    have h2 : 2 ^ (zP i + 1 + d) ≤ A * 2 ^ d := by
      rw [Nat.pow_add]
      exact Nat.mul_le_mul_right _ (Nat.le_trans (z_pow_le (by have := zP_le i; omega)) h61)
    omega
/-- a difference -/
theorem z_sumM (i md : Nat) (sg : Bool) {A d NB : Nat} (e : Int) (hA : A % 2 = 0) (h0 : NB < A * 2 ^ d) (hc : NB % 2 ^ d = 0 ∨ (2 ^ 61 ≤ A ∧ 2 ≤ d ∧ NB < 2 ^ 62)) : zround i md sg (A * 2 ^ d - NB) e false = zround i md sg (A - zst NB d) (e + d) false := by
  obtain ⟨h1, h2⟩ := z_sub hA (Nat.le_of_lt h0)
  by_cases ht : NB % 2 ^ d = 0
  · have e1 : A * 2 ^ d - NB = (A - zst NB d) * 2 ^ d := by
      have hdm := Nat.div_add_mod NB (2 ^ d)
      rw [Nat.mul_comm] at hdm
      unfold zst
      rw [if_neg (by omega), Nat.sub_mul]
      omega
    have h3 : A - zst NB d ≠ 0 := by
      intro h2
      rw [h2, Nat.zero_mul] at e1
      omega
    rw [e1, zround_shift i md sg h3]
  · obtain ⟨h61, hd, h62⟩ : 2 ^ 61 ≤ A ∧ 2 ≤ d ∧ NB < 2 ^ 62 := by
      rcases hc with h | h
      · exact absurd h ht
      · exact h
    rw [h1]
    refine zround_zst i md sg e ?_
    have h4 : 2 ^ (zP i + 1 + d) ≤ 2 ^ 60 * 2 ^ d := by
      rw [Nat.pow_add]
      exact Nat.mul_le_mul_right _ (z_pow_le (by have := zP_le i; omega))
    have h5 : 2 ^ 61 * 2 ^ d ≤ A * 2 ^ d := Nat.mul_le_mul_right _ h61
    have h6 : 2 ^ 2 ≤ 2 ^ d := z_pow_le hd
    omega
end
section
/-! Numbers as rows of bits: adding and taking away bit by bit. -/
theorem z_2 (n : Nat) : n % 2 = 0 ∨ n % 2 = 1 := by omega
theorem z_dm (X k : Nat) : 2 ^ k * (X / 2 ^ k) + X % 2 ^ k = X := Nat.div_add_mod X (2 ^ k)
theorem z_ms (X k : Nat) : X % 2 ^ (k + 1) = X % 2 ^ k + 2 ^ k * (X / 2 ^ k % 2) := Nat.mod_pow_succ
theorem z_ds (X k : Nat) : X / 2 ^ (k + 1) = X / 2 ^ k / 2 := by rw [Nat.pow_succ, Nat.div_div_eq_div_mul]
theorem z_mlt (X k : Nat) : X % 2 ^ k < 2 ^ k := Nat.mod_lt _ (z_p k)
theorem z_add_div (X Y k : Nat) : (X + Y) / 2 ^ k = X / 2 ^ k + Y / 2 ^ k + (X % 2 ^ k + Y % 2 ^ k) / 2 ^ k := by
  have h : X + Y = 2 ^ k * (X / 2 ^ k + Y / 2 ^ k) + (X % 2 ^ k + Y % 2 ^ k) := by
    have h1 := z_dm X k
    have h2 := z_dm Y k
    rw [Nat.mul_add]
    omega
  conv => lhs; rw [h]
  rw [Nat.mul_add_div (z_p k)]
theorem z_add_bit (X Y k : Nat) : (X + Y) / 2 ^ k % 2 = (X / 2 ^ k % 2 + Y / 2 ^ k % 2 + (X % 2 ^ k + Y % 2 ^ k) / 2 ^ k) % 2 := by
  rw [z_add_div]
  omega
theorem z_carry (X Y k : Nat) : (X % 2 ^ (k + 1) + Y % 2 ^ (k + 1)) / 2 ^ (k + 1) = (X / 2 ^ k % 2 + Y / 2 ^ k % 2 + (X % 2 ^ k + Y % 2 ^ k) / 2 ^ k) / 2 := by
  rw [z_ms, z_ms, z_ds]
  have h : X % 2 ^ k + 2 ^ k * (X / 2 ^ k % 2) + (Y % 2 ^ k + 2 ^ k * (Y / 2 ^ k % 2)) = 2 ^ k * (X / 2 ^ k % 2 + Y / 2 ^ k % 2) + (X % 2 ^ k + Y % 2 ^ k) := by
    rw [Nat.mul_add]
    omega
  rw [h, Nat.mul_add_div (z_p k)]
theorem z_carry_le (X Y k : Nat) : (X % 2 ^ k + Y % 2 ^ k) / 2 ^ k ≤ 1 := by
  have h1 := z_mlt X k
  have h2 := z_mlt Y k
  have h3 : (X % 2 ^ k + Y % 2 ^ k) / 2 ^ k < 2 := by
    rw [Nat.div_lt_iff_lt_mul (z_p k)]
    omega
  omega
def zbor (X Y k : Nat) : Nat := if X % 2 ^ k < Y % 2 ^ k then 1 else 0
theorem z_sub_div {X Y : Nat} (h : Y ≤ X) (k : Nat) : (X - Y) / 2 ^ k + Y / 2 ^ k + zbor X Y k = X / 2 ^ k := by
  have h1 := z_dm X k
  have h2 := z_dm Y k
  have h3 := z_mlt X k
  have h4 := z_mlt Y k
  have hp := z_p k
  have hle : Y / 2 ^ k ≤ X / 2 ^ k := Nat.div_le_div_right h
  unfold zbor
  by_cases g : X % 2 ^ k < Y % 2 ^ k
  · rw [if_pos g]
    have hlt : Y / 2 ^ k < X / 2 ^ k := by
      rcases Nat.lt_or_ge (Y / 2 ^ k) (X / 2 ^ k) with q | q
      · exact q
      · have : Y / 2 ^ k = X / 2 ^ k := by omega
        rw [this] at h2
        omega
    obtain ⟨d, hd⟩ : ∃ d, X / 2 ^ k = Y / 2 ^ k + 1 + d := ⟨X / 2 ^ k - Y / 2 ^ k - 1, by omega⟩
    have e : X - Y = 2 ^ k * d + (2 ^ k + X % 2 ^ k - Y % 2 ^ k) := by
      rw [hd, Nat.mul_add, Nat.mul_add, Nat.mul_one] at h1
      omega
    rw [e, Nat.mul_add_div hp, Nat.div_eq_of_lt (by omega)]
    omega
  · rw [if_neg g]
    obtain ⟨d, hd⟩ : ∃ d, X / 2 ^ k = Y / 2 ^ k + d := ⟨X / 2 ^ k - Y / 2 ^ k, by omega⟩
    have e : X - Y = 2 ^ k * d + (X % 2 ^ k - Y % 2 ^ k) := by
      rw [hd, Nat.mul_add] at h1
      omega
    rw [e, Nat.mul_add_div hp, Nat.div_eq_of_lt (by omega)]
    omega
theorem z_sub_bit {X Y : Nat} (h : Y ≤ X) (k : Nat) : (X - Y) / 2 ^ k % 2 = (X / 2 ^ k % 2 + Y / 2 ^ k % 2 + zbor X Y k) % 2 := by
  have := z_sub_div h k
  omega
theorem z_borrow (X Y k : Nat) : zbor X Y (k + 1) = if X / 2 ^ k % 2 < Y / 2 ^ k % 2 + zbor X Y k then 1 else 0 := by
  have h3 := z_mlt X k
  have h4 := z_mlt Y k
  unfold zbor
  rw [z_ms X, z_ms Y]
  rcases z_2 (X / 2 ^ k) with a | a <;> rcases z_2 (Y / 2 ^ k) with b | b <;> rw [a, b] <;> by_cases g : X % 2 ^ k < Y % 2 ^ k <;> simp [g] <;> omega
theorem z_bor0 (X Y : Nat) : zbor X Y 0 = 0 := by
  unfold zbor
  simp [Nat.mod_one]
theorem z_bit_hi {N k : Nat} (h : N < 2 ^ k) : N / 2 ^ k % 2 = 0 := by rw [Nat.div_eq_of_lt h]
/-- the bit at log2 N is the highest -/
theorem z_top {N : Nat} (h : N ≠ 0) : N / 2 ^ N.log2 % 2 = 1 := by
  have h1 : N / 2 ^ N.log2 < 2 := by
    rw [Nat.div_lt_iff_lt_mul (z_p _), Nat.mul_comm, ← Nat.pow_succ]
    exact Nat.lt_log2_self
  have h2 : 0 < N / 2 ^ N.log2 := Nat.div_pos (Nat.log2_self_le h) (z_p _)
  omega
theorem z_above {N k : Nat} (h : N.log2 < k) : N / 2 ^ k % 2 = 0 := by
  refine z_bit_hi ?_
  by_cases h0 : N = 0
  · rw [h0]
    exact z_p k
  · exact (Nat.log2_lt h0).1 h
end
section
/-! The reference's way to round, as numbers: half, rest, and the carry into the exponent. -/
theorem zc_bits (N n : Nat) (more : Bool) : zc (N % 2 ^ (n + 1)) (2 ^ (n + 1)) more = if N / 2 ^ n % 2 = 0 then (if N % 2 ^ n = 0 ∧ more = false then 0 else 1) else (if N % 2 ^ n = 0 ∧ more = false then 2 else 3) := by
  have h1 := z_ms N n
  have h2 := z_mlt N n
  have h3 : 2 ^ (n + 1) = 2 * 2 ^ n := by rw [Nat.pow_succ, Nat.mul_comm]
  unfold zc
  rcases z_2 (N / 2 ^ n) with a | a
  · have h4 : N % 2 ^ (n + 1) = N % 2 ^ n := by rw [h1, a, Nat.mul_zero, Nat.add_zero]
    have c1 : 2 * (N % 2 ^ n) < 2 * 2 ^ n := by omega
    rw [h4, h3, if_pos c1, if_pos a]
  · have h4 : N % 2 ^ (n + 1) = N % 2 ^ n + 2 ^ n := by rw [h1, a, Nat.mul_one]
    have c1 : ¬ (2 * (N % 2 ^ n + 2 ^ n) < 2 * 2 ^ n) := by omega
    have c2 : ¬ (N / 2 ^ n % 2 = 0) := by omega
    rw [h4, h3, if_neg c1, if_neg c2]
    have h5 : 2 * (N % 2 ^ n + 2 ^ n) = 2 * 2 ^ n ↔ N % 2 ^ n = 0 := by omega
    simp only [h5]
theorem zL_pos (i : Nat) : 0 < zL i := z_p _
theorem zB_ge (i : Nat) : 127 ≤ zB i := by
  unfold zB
  split <;> omega
/-- the carry: q1 is what is kept, rounded; E the exponent -/
theorem z_carryM (i : Nat) {E q1 : Nat} (hE : 1 ≤ E) : q1 = 2 * zL i → ((2 * zB i < E + 1 ↔ (2 * zB i < E ∨ zI i ≤ (E - 1) * zL i + q1)) ∧ (E + 1) * zL i = (E - 1) * zL i + q1) := by
  intro hq
  obtain ⟨k, rfl⟩ : ∃ k, E = k + 1 := ⟨E - 1, by omega⟩
  have e1 : (k + 1 + 1) * zL i = (k + 1 - 1) * zL i + q1 := by
    rw [hq, Nat.add_sub_cancel, Nat.succ_mul, Nat.succ_mul]
    omega
  refine ⟨?_, e1⟩
  rw [← e1]
  unfold zI
  constructor
  · intro h
    exact Or.inr (Nat.mul_le_mul_right _ (by omega))
  · intro h
    rcases h with h | h
    · omega
    · have := Nat.le_of_mul_le_mul_right h (zL_pos i)
      omega
theorem z_usualM (i : Nat) {E q1 : Nat} (hE : 1 ≤ E) (h1 : zL i ≤ q1) (h2 : q1 < 2 * zL i) : (2 * zB i < E ↔ (2 * zB i < E ∨ zI i ≤ (E - 1) * zL i + q1)) ∧ E * zL i + (q1 - zL i) = (E - 1) * zL i + q1 := by
  obtain ⟨k, rfl⟩ : ∃ k, E = k + 1 := ⟨E - 1, by omega⟩
  have e1 : (k + 1) * zL i = k * zL i + zL i := Nat.succ_mul _ _
  refine ⟨⟨fun h => Or.inl h, fun h => ?_⟩, ?_⟩
  · rcases h with h | h
    · exact h
    · rcases Nat.lt_or_ge (2 * zB i) (k + 1) with g | g
      · exact g
      · exfalso
        unfold zI at h
        rw [Nat.add_sub_cancel] at h
        have h3 : (k + 2) * zL i ≤ (2 * zB i + 1) * zL i := Nat.mul_le_mul_right _ (by omega)
        have h4 : (k + 2) * zL i = k * zL i + 2 * zL i := by rw [Nat.add_mul]
        omega
  · rw [Nat.add_sub_cancel]
    omega
theorem z_smallM (i : Nat) {q1 : Nat} (h1 : q1 < zL i) : ¬ (2 * zB i < 1 ∨ zI i ≤ (1 - 1) * zL i + q1) ∧ (1 - 1) * zL i + q1 = q1 := by
  have hb := zB_ge i
  have h2 : 1 * zL i ≤ (2 * zB i + 1) * zL i := Nat.mul_le_mul_right _ (by omega)
  refine ⟨?_, by omega⟩
  unfold zI
  omega
/-- how much is kept: less than 2 ^ P, and at least 2 ^ (P - 1) where the exponent isn't the least -/
theorem zq_lt (i N : Nat) (e : Int) (h0 : N ≠ 0) : zq N (zlow i (zX i N e) e) < 2 * zL i := by
  have hl := zlow_ge i N e
  have hP := zP_ge i
  generalize zlow i (zX i N e) e = low at hl
  have hL : 2 * zL i = 2 ^ zP i := by
    unfold zL
    rw [Nat.mul_comm, ← Nat.pow_succ]
    congr 1
    omega
  rw [hL]
  unfold zq
  have hN : N < 2 ^ (N.log2 + 1) := Nat.lt_log2_self
  rw [Nat.div_lt_iff_lt_mul (z_p _), ← Nat.pow_add]
  have h1 : N * 2 ^ (-low).toNat < 2 ^ (N.log2 + 1) * 2 ^ (-low).toNat := Nat.mul_lt_mul_of_pos_right hN (z_p _)
  rw [← Nat.pow_add] at h1
  exact Nat.lt_of_lt_of_le h1 (z_pow_le (by omega))
theorem zq_ge (i N : Nat) (e : Int) (h0 : N ≠ 0) (hE : 1 < zX i N e) : zL i ≤ zq N (zlow i (zX i N e) e) := by
  have hX : zX i N e = (N.log2 : Int) + e + (zB i : Int) := by
    unfold zX at hE ⊢
    omega
  have hP := zP_ge i
  have hl : zlow i (zX i N e) e = (N.log2 : Int) - ((zP i : Int) - 1) := by
    unfold zlow
    omega
  rw [hl]
  unfold zq zL
  generalize hlow : (N.log2 : Int) - ((zP i : Int) - 1) = low
  rw [Nat.le_div_iff_mul_le (z_p _), ← Nat.pow_add]
  have hN : 2 ^ N.log2 * 2 ^ (-low).toNat ≤ N * 2 ^ (-low).toNat := Nat.mul_le_mul_right _ (Nat.log2_self_le h0)
  rw [← Nat.pow_add] at hN
  exact Nat.le_trans (z_pow_le (by omega)) hN
end
