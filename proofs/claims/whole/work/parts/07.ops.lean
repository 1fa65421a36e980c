/-! The exact results of the operations, once as the reference has them and once as the program has them, round alike. -/
theorem zP_le (i : Nat) : zP i ≤ 53 := by
  unfold zP
  split <;> omega
theorem zP_ge (i : Nat) : 24 ≤ zP i := by
  unfold zP
  split <;> omega
theorem z_pow_le {a b : Nat} (h : a ≤ b) : 2 ^ a ≤ 2 ^ b := Nat.pow_le_pow_right (by decide) h
def zst (N k : Nat) : Nat := if N % 2 ^ k ≠ 0 then N / 2 ^ k / 2 * 2 + 1 else N / 2 ^ k
theorem zround_zst (i md : Nat) (sg : Bool) {N k : Nat} (e : Int) (h : 2 ^ (zP i + 1 + k) ≤ N) : zround i md sg N e false = zround i md sg (zst N k) (e + k) false := by
  rw [zround_st i md sg e false h]
  have hc : (false = true ∨ N % 2 ^ k ≠ 0) ↔ N % 2 ^ k ≠ 0 := by simp
  simp only [zst, hc]
theorem zround_rep (i md : Nat) (sg : Bool) {N1 N2 a c : Nat} {e1 e2 : Int} (h1 : N1 ≠ 0) (h2 : N2 ≠ 0) (h : N1 * 2 ^ a = N2 * 2 ^ c) (he : e1 - a = e2 - c) (more : Bool) : zround i md sg N1 e1 more = zround i md sg N2 e2 more := by
  have A := zround_shift i md sg h1 a (e1 - a) more
  have B := zround_shift i md sg h2 c (e2 - c) more
  rw [show e1 - (a : Int) + a = e1 by omega] at A
  rw [show e2 - (c : Int) + c = e2 by omega] at B
  rw [← A, ← B, h, he]
theorem z_prod (i md : Nat) (sg : Bool) {px py lx ly : Nat} (ex ey : Int) (hx : 2 ^ 52 ≤ px * 2 ^ lx) (hy : 2 ^ 52 ≤ py * 2 ^ ly) :
    zround i md sg (px * py) (ex + ey) false = zround i md sg (zst (px * 2 ^ lx * 2 ^ 10 * (py * 2 ^ ly * 2 ^ 10)) 64) (ex - lx + (ey - ly) - 20 + 64) false := by
  have hN : px * py * 2 ^ (lx + ly + 20) = px * 2 ^ lx * 2 ^ 10 * (py * 2 ^ ly * 2 ^ 10) := by
    rw [Nat.pow_add, Nat.pow_add, show (2 : Nat) ^ 20 = 2 ^ 10 * 2 ^ 10 by decide]
    ac_rfl
  have hbig : 2 ^ 124 ≤ px * 2 ^ lx * 2 ^ 10 * (py * 2 ^ ly * 2 ^ 10) := by
    have h1 : 2 ^ 52 * 2 ^ 10 ≤ px * 2 ^ lx * 2 ^ 10 := Nat.mul_le_mul_right _ hx
    have h2 : 2 ^ 52 * 2 ^ 10 ≤ py * 2 ^ ly * 2 ^ 10 := Nat.mul_le_mul_right _ hy
    exact Nat.le_trans (by decide) (Nat.mul_le_mul h1 h2)
  generalize px * 2 ^ lx * 2 ^ 10 * (py * 2 ^ ly * 2 ^ 10) = X at hN hbig ⊢
  have hX0 : X ≠ 0 := by
    intro h0
    rw [h0] at hbig
    exact absurd hbig (by decide)
  have hn0 : px * py ≠ 0 := by
    intro h0
    rw [h0, Nat.zero_mul] at hN
    exact hX0 hN.symm
  have h1 : zround i md sg (px * py) (ex + ey) false = zround i md sg X (ex + ey - ((lx + ly + 20 : Nat) : Int)) false :=
    zround_rep i md sg (a := lx + ly + 20) (c := 0) hn0 hX0 (by rw [hN, Nat.pow_zero, Nat.mul_one]) (by omega) false
  have h2 : 2 ^ (zP i + 1 + 64) ≤ X := Nat.le_trans (z_pow_le (by have := zP_le i; omega)) hbig
  have h3 := zround_zst i md sg (k := 64) (ex + ey - ((lx + ly + 20 : Nat) : Int)) h2
  rw [h1, h3, show ex + ey - ((lx + ly + 20 : Nat) : Int) + ((64 : Nat) : Int) = ex - lx + (ey - ly) - 20 + 64 by omega]
theorem z_mod0 {a b c : Nat} (hb : 0 < b) : a % (b * c) = 0 ↔ (a % b = 0 ∧ a / b % c = 0) := by
  rw [Nat.mod_mul, Nat.add_eq_zero_iff, Nat.mul_eq_zero]
  omega
theorem z_quot (i md : Nat) (sg : Bool) {px py lx ly : Nat} (ex ey : Int) (hlx : lx ≤ 52) (hpy : 0 < py) (hx : 2 ^ 52 ≤ px * 2 ^ lx) (hy : py * 2 ^ ly < 2 ^ 53) :
    zround i md sg (px * 2 ^ 120 / py) (ex - ey - 120) (decide (px * 2 ^ 120 % py ≠ 0)) = zround i md sg (if px * 2 ^ lx * 2 ^ 60 % (py * 2 ^ ly) ≠ 0 then px * 2 ^ lx * 2 ^ 60 / (py * 2 ^ ly) / 2 * 2 + 1 else px * 2 ^ lx * 2 ^ 60 / (py * 2 ^ ly)) (ex - lx - (ey - ly) - 60) false := by
  have hA : px * 2 ^ 120 = px * 2 ^ lx * 2 ^ 60 * 2 ^ (60 - lx) := by
    rw [Nat.mul_assoc, Nat.mul_assoc, ← Nat.pow_add, ← Nat.pow_add, show lx + (60 + (60 - lx)) = 120 by omega]
  have hB : py * 2 ^ (60 + ly - lx) = py * 2 ^ ly * 2 ^ (60 - lx) := by
    rw [Nat.mul_assoc, ← Nat.pow_add, show ly + (60 - lx) = 60 + ly - lx by omega]
  have hD : 0 < py * 2 ^ ly := Nat.mul_pos hpy (z_p ly)
  have hdiv : px * 2 ^ 120 / py / 2 ^ (60 + ly - lx) = px * 2 ^ lx * 2 ^ 60 / (py * 2 ^ ly) := by
    rw [Nat.div_div_eq_div_mul, hA, hB, Nat.mul_div_mul_right _ _ (z_p _)]
  have hmod : (px * 2 ^ 120 % py = 0 ∧ px * 2 ^ 120 / py % 2 ^ (60 + ly - lx) = 0) ↔ px * 2 ^ lx * 2 ^ 60 % (py * 2 ^ ly) = 0 := by
    rw [← z_mod0 hpy, hA, hB, Nat.mul_mod_mul_right, Nat.mul_eq_zero]
    have := z_p (60 - lx)
    omega
  have hq : 2 ^ 59 ≤ px * 2 ^ lx * 2 ^ 60 / (py * 2 ^ ly) := by
    rw [Nat.le_div_iff_mul_le hD]
    have h1 : 2 ^ 59 * (py * 2 ^ ly) ≤ 2 ^ 59 * 2 ^ 53 := Nat.mul_le_mul_left _ (Nat.le_of_lt hy)
    have h2 : 2 ^ 52 * 2 ^ 60 ≤ px * 2 ^ lx * 2 ^ 60 := Nat.mul_le_mul_right _ hx
    exact Nat.le_trans h1 (Nat.le_trans (by decide) h2)
  have hbig : 2 ^ (zP i + 1 + (60 + ly - lx)) ≤ px * 2 ^ 120 / py := by
    rw [Nat.pow_add]
    have h3 : 2 ^ (zP i + 1) ≤ px * 2 ^ 120 / py / 2 ^ (60 + ly - lx) := by
      rw [hdiv]
      exact Nat.le_trans (z_pow_le (by have := zP_le i; omega)) hq
    exact Nat.le_trans (Nat.mul_le_mul_right _ h3) (Nat.div_mul_le_self _ _)
  rw [zround_st i md sg (k := 60 + ly - lx) (ex - ey - 120) _ hbig, hdiv]
  have hcond : (decide (px * 2 ^ 120 % py ≠ 0) = true ∨ px * 2 ^ 120 / py % 2 ^ (60 + ly - lx) ≠ 0) ↔ px * 2 ^ lx * 2 ^ 60 % (py * 2 ^ ly) ≠ 0 := by
    rw [decide_eq_true_eq]
    constructor
    · intro h q
      have q := hmod.2 q
      rcases h with h | h
      · exact h q.1
      · exact h q.2
    · intro h
      by_cases h1 : px * 2 ^ 120 % py = 0
      · exact Or.inr (fun h2 => h (hmod.1 ⟨h1, h2⟩))
      · exact Or.inl h1
  simp only [hcond]
  rw [show ex - ey - 120 + ((60 + ly - lx : Nat) : Int) = ex - lx - (ey - ly) - 60 by omega]
theorem z_add {A d : Nat} (NB : Nat) (hA : A % 2 = 0) : A + zst NB d = zst (A * 2 ^ d + NB) d := by
  unfold zst
  rw [Nat.mul_add_mod', Nat.add_comm (A * 2 ^ d) NB, Nat.add_mul_div_right _ _ (z_p d)]
  split <;> omega
theorem z_sub {A d NB : Nat} (hA : A % 2 = 0) (h : NB ≤ A * 2 ^ d) : A - zst NB d = zst (A * 2 ^ d - NB) d ∧ zst NB d ≤ A := by
  have hp := z_p d
  have hdm := Nat.div_add_mod NB (2 ^ d)
  have hlt := Nat.mod_lt NB hp
  rw [Nat.mul_comm] at hdm
  generalize hw : NB / 2 ^ d = w at hdm
  generalize ht : NB % 2 ^ d = t at hdm hlt
  have hwA : w ≤ A := Nat.le_of_mul_le_mul_right (Nat.le_trans (by omega) h) hp
  unfold zst
  rw [hw, ht]
  by_cases h0 : t = 0
  · have e1 : A * 2 ^ d - NB = (A - w) * 2 ^ d := by
      rw [Nat.sub_mul]
      omega
    rw [e1, Nat.mul_mod_left, Nat.mul_div_cancel _ hp]
    simp [h0, hwA]
  · have hwA' : w + 1 ≤ A := by
      rcases Nat.lt_or_ge w A with g | g
      · exact g
      · have : w = A := by omega
        subst this
        omega
    have e1 : A * 2 ^ d - NB = (2 ^ d - t) + (A - w - 1) * 2 ^ d := by
      have e2 : A * 2 ^ d = (A - w - 1) * 2 ^ d + w * 2 ^ d + 2 ^ d := by
        rw [← Nat.add_mul, ← Nat.succ_mul]
        congr 1
        omega
      omega
    have e3 : (A * 2 ^ d - NB) / 2 ^ d = A - w - 1 := by
      rw [e1, Nat.add_mul_div_right _ _ hp, Nat.div_eq_of_lt (by omega)]
      omega
    have e4 : (A * 2 ^ d - NB) % 2 ^ d ≠ 0 := by
      rw [e1, Nat.add_mul_mod_self_right, Nat.mod_eq_of_lt (by omega)]
      omega
    rw [e3, if_pos h0, if_pos e4]
    omega
/-- a sum: the smaller one pressed to the greater one's unit -/
theorem z_sumP (i md : Nat) (sg : Bool) {A d NB : Nat} (e : Int) (hA : A % 2 = 0) (h0 : A * 2 ^ d + NB ≠ 0) (hc : NB % 2 ^ d = 0 ∨ 2 ^ 61 ≤ A) : zround i md sg (A * 2 ^ d + NB) e false = zround i md sg (A + zst NB d) (e + d) false := by
  by_cases ht : NB % 2 ^ d = 0
  · have e1 : A * 2 ^ d + NB = (A + zst NB d) * 2 ^ d := by
      have hdm := Nat.div_add_mod NB (2 ^ d)
      rw [Nat.mul_comm] at hdm
      unfold zst
      rw [if_neg (by omega), Nat.add_mul]
      omega
    have h1 : A + zst NB d ≠ 0 := by
      intro h2
      rw [h2, Nat.zero_mul] at e1
      omega
    rw [e1, zround_shift i md sg h1]
  · have h61 : 2 ^ 61 ≤ A := by
      rcases hc with h | h
      · exact absurd h ht
      · exact h
    rw [z_add NB hA]
    refine zround_zst i md sg e ?_
    have h2 : 2 ^ (zP i + 1 + d) ≤ A * 2 ^ d := by
      rw [Nat.pow_add]
      exact Nat.mul_le_mul_right _ (Nat.le_trans (z_pow_le (by have := zP_le i; omega)) h61)
    omega
/-- a difference -/
theorem z_sumM (i md : Nat) (sg : Bool) {A d NB : Nat} (e : Int) (hA : A % 2 = 0) (h0 : NB < A * 2 ^ d) (hc : NB % 2 ^ d = 0 ∨ (2 ^ 61 ≤ A ∧ 2 ≤ d ∧ NB < 2 ^ 62)) : zround i md sg (A * 2 ^ d - NB) e false = zround i md sg (A - zst NB d) (e + d) false := by
  obtain ⟨h1, h2⟩ := z_sub hA (Nat.le_of_lt h0)
  by_cases ht : NB % 2 ^ d = 0
  · have e1 : A * 2 ^ d - NB = (A - zst NB d) * 2 ^ d := by
      have hdm := Nat.div_add_mod NB (2 ^ d)
      rw [Nat.mul_comm] at hdm
      unfold zst
      rw [if_neg (by omega), Nat.sub_mul]
      omega
    have h3 : A - zst NB d ≠ 0 := by
      intro h2
      rw [h2, Nat.zero_mul] at e1
      omega
    rw [e1, zround_shift i md sg h3]
  · obtain ⟨h61, hd, h62⟩ : 2 ^ 61 ≤ A ∧ 2 ≤ d ∧ NB < 2 ^ 62 := by
      rcases hc with h | h
      · exact absurd h ht
      · exact h
    rw [h1]
    refine zround_zst i md sg e ?_
    have h4 : 2 ^ (zP i + 1 + d) ≤ 2 ^ 60 * 2 ^ d := by
      rw [Nat.pow_add]
      exact Nat.mul_le_mul_right _ (z_pow_le (by have := zP_le i; omega))
    have h5 : 2 ^ 61 * 2 ^ d ≤ A * 2 ^ d := Nat.mul_le_mul_right _ h61
    have h6 : 2 ^ 2 ≤ 2 ^ d := z_pow_le hd
    omega
