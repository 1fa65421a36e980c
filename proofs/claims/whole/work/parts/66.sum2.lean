/-! The class's sum as numbers: significand and power of zero too; what is pressed; both sums round alike. -/
def lz (i n : Nat) : Nat := if dP i n = 0 then 53 else lf i n
def sN (i n : Nat) : Nat := dP i n * 2 ^ lz i n
def pz (i n : Nat) : Int := dE i n - (lz i n : Int)
def tz (i n : Nat) (m : Int) : Nat := zst (sN i n * 2 ^ 9) (m - pz i n).toNat
def LI (z : Int) : Int64 := Int64.ofInt z
theorem lz_le (i n : Nat) : lz i n ≤ 53 := by
  unfold lz lf
  split <;> omega
theorem lz_52 {i n : Nat} (h : dP i n ≠ 0) : lz i n ≤ 52 := by
  unfold lz lf
  rw [if_neg h]
  omega
theorem F_liftz {i n : Nat} (hi : i < 2) : C_F_lift (lN (dP i n)) = nI (lz i n) := by
  by_cases h0 : dP i n = 0
  · rw [h0, lz, if_pos h0]
    decide +kernel
  · rw [F_lift hi h0, lz, if_neg h0]
theorem F_sigz {i n : Nat} (hi : i < 2) (hn : n < 2 ^ 64) : C_F_significand i (lN n) = lN (sN i n) := by
  have := lz_le i n
  rw [C_F_significand, F_plain hi hn, F_liftz hi, jShl_lN _ (by omega), sN]
theorem F_powz {i n : Nat} (hi : i < 2) (hn : n < 2 ^ 64) : C_F_power i (lN n) = iI (pz i n) := by
  have hq : dM i n / zL i < 2 ^ 31 := by
    have := @dM_lt i n
    rcases i01 hi with rfl | rfl
    · exact Nat.lt_trans (show dM 0 n / zL 0 < 2 ^ 11 from Nat.div_lt_of_lt_mul this) (by decide)
    · exact Nat.lt_trans (show dM 1 n / zL 1 < 2 ^ 8 from Nat.div_lt_of_lt_mul this) (by decide)
  have e1 : (jUshr (C_F_size i (lN n)) (fPr i - 1)).toInt32 = nI (dM i n / zL i) := by
    rw [F_size hi hn, show fPr i - 1 = nI (zP i - 1) from by rcases i01 hi with rfl | rfl <;> decide, jUshr_lN (Nat.lt_trans (dM_63 n) (by decide)) (by have := zP_le i; omega)]
    show (lN (dM i n / zL i)).toInt32 = nI (dM i n / zL i)
    exact lN_32 hq
  generalize hqe : dM i n / zL i = q at *
  rw [C_F_power, e1, F_plain hi hn, F_liftz hi, iI_nI, iI_nI, jMax, show (1 : Int32) = iI 1 from rfl, iI_max ⟨by omega, by omega⟩ ⟨by decide, by decide⟩, C_F_unitPower, fBi_n hi, fPr_n hi, iI_nI, iI_nI, show (1 : Int32) = iI 1 from rfl, iI_sub, iI_sub, iI_sub, iI_sub]
  congr 1
  unfold pz dE
  rw [hqe]
  omega
theorem sN_0 (i n : Nat) : sN i n = 0 ↔ dP i n = 0 := by
  unfold sN
  rw [Nat.mul_eq_zero]
  have := z_p (lz i n)
  omega
theorem sN_b {i n : Nat} (hi : i < 2) : sN i n < 2 ^ 53 ∧ (dP i n ≠ 0 → 2 ^ 52 ≤ sN i n) := by
  by_cases h0 : dP i n = 0
  · rw [(sN_0 i n).2 h0]
    exact ⟨by decide, fun q => absurd h0 q⟩
  · have h := sig_lt hi h0
    unfold sN lz
    rw [if_neg h0]
    exact ⟨h.1, fun _ => h.2⟩
theorem zst_lt {A : Nat} (d : Nat) (h : A < 2 ^ 62) : zst A d < 2 ^ 62 := by
  have h1 := Nat.div_le_self A (2 ^ d)
  unfold zst
  generalize A / 2 ^ d = w at *
  split <;> omega
theorem zst_0 (A d : Nat) : zst A d = 0 ↔ A = 0 := by
  have h1 := Nat.div_add_mod A (2 ^ d)
  unfold zst
  by_cases h : A % 2 ^ d = 0
  · rw [if_neg (fun q => q h)]
    constructor
    · intro g
      rw [g, h, Nat.mul_zero] at h1
      exact h1.symm
    · intro g
      rw [g, Nat.zero_div]
  · rw [if_pos h]
    constructor
    · intro g
      omega
    · intro g
      rw [g, Nat.zero_mod] at h
      exact absurd rfl h
theorem zst_k0 (A : Nat) : zst A 0 = A := by
  unfold zst
  rw [Nat.pow_zero, Nat.mod_one, Nat.div_one, if_neg (fun q => q rfl)]
/-- X, Y in units of 2 ^ e sum up and differ as a, b in units of 2 ^ f do -/
def SM (i X Y a b : Nat) (e f : Int) : Prop := ∀ (md : Nat) (sg : Bool), (X + Y ≠ 0 → a + b ≠ 0 ∧ zround i md sg (X + Y) e false = zround i md sg (a + b) f false) ∧ (X = Y → a = b) ∧ (Y < X → b < a ∧ zround i md sg (X - Y) e false = zround i md sg (a - b) f false) ∧ (X < Y → a < b ∧ zround i md sg (Y - X) e false = zround i md sg (b - a) f false)
theorem sm_sym {i X Y a b : Nat} {e f : Int} (h : SM i X Y a b e f) : SM i Y X b a e f := by
  intro md sg
  obtain ⟨h1, h2, h3, h4⟩ := h md sg
  rw [Nat.add_comm X Y, Nat.add_comm a b] at h1
  exact ⟨h1, fun g => (h2 g.symm).symm, h4, h3⟩
theorem sm_core {i X Y A B d c p : Nat} {e f : Int} (eA : A * 2 ^ d * 2 ^ c = X * 2 ^ p) (eB : B * 2 ^ c = Y * 2 ^ p) (he : e - p = f - c) (hA : A % 2 = 0) (hB : d ≤ 9 → B % 2 ^ d = 0) (hb : A = 0 ∨ 2 ^ 61 ≤ A) (h62 : B < 2 ^ 62) (h0 : A = 0 → B = 0) : SM i X Y A (zst B d) e (f + d) := by
  intro md sg
  have hp := z_p p
  have hc := z_p c
  have hd := z_p d
  have cl : Y < X ↔ B < A * 2 ^ d := by
    rw [← Nat.mul_lt_mul_right hp, ← eA, ← eB]
    exact Nat.mul_lt_mul_right hc
  have cg : X < Y ↔ A * 2 ^ d < B := by
    rw [← Nat.mul_lt_mul_right hp, ← eA, ← eB]
    exact Nat.mul_lt_mul_right hc
  refine ⟨fun h => ?_, fun h => ?_, fun h => ?_, fun h => ?_⟩
  · have s : (X + Y) * 2 ^ p = (A * 2 ^ d + B) * 2 ^ c := by rw [Nat.add_mul, Nat.add_mul, eA, eB]
    have n0 : A * 2 ^ d + B ≠ 0 := by
      intro g
      rw [g, Nat.zero_mul] at s
      rcases Nat.mul_eq_zero.1 s with q | q
      · exact h q
      · omega
    have hA1 : 2 ^ 61 ≤ A := by
      rcases hb with g | g
      · rw [g, h0 g, Nat.zero_mul] at n0
        exact absurd rfl n0
      · exact g
    refine ⟨by omega, ?_⟩
    rw [zround_rep i md sg h n0 s he false]
    exact z_sumP i md sg f hA n0 (Or.inr hA1)
  · have g : A * 2 ^ d = B := by
      have h1 : ¬ Y < X := by omega
      have h2 : ¬ X < Y := by omega
      rw [cl] at h1
      rw [cg] at h2
      omega
    rw [← g, zst, Nat.mul_mod_left, if_neg (fun q => q rfl), Nat.mul_div_cancel _ hd]
  · have g := cl.1 h
    have hA1 : 2 ^ 61 ≤ A := by
      rcases hb with q | q
      · rw [q, Nat.zero_mul] at g
        omega
      · exact q
    have n0 : A * 2 ^ d - B ≠ 0 := by omega
    have s : (X - Y) * 2 ^ p = (A * 2 ^ d - B) * 2 ^ c := by rw [Nat.sub_mul, Nat.sub_mul, eA, eB]
    obtain ⟨u1, u2⟩ := z_sub (d := d) hA (Nat.le_of_lt g)
    have u3 : zst (A * 2 ^ d - B) d ≠ 0 := fun q => n0 ((zst_0 _ _).1 q)
    refine ⟨by omega, ?_⟩
    rw [zround_rep i md sg (by omega) n0 s he false]
    refine z_sumM i md sg f hA g ?_
    by_cases q : d ≤ 9
    · exact Or.inl (hB q)
    · exact Or.inr ⟨hA1, by omega, h62⟩
  · have g := cg.1 h
    have hA1 : 2 ^ 61 ≤ A := by
      rcases hb with q | q
      · rw [h0 q] at g
        omega
      · exact q
    have d0 : d = 0 := by
      rcases Nat.eq_zero_or_pos d with q | q
      · exact q
      · have q1 : 2 ^ 1 ≤ 2 ^ d := z_pow_le q
        have q2 : 2 ^ 61 * 2 ^ 1 ≤ A * 2 ^ d := Nat.mul_le_mul hA1 q1
        omega
    subst d0
    rw [Nat.pow_zero, Nat.mul_one] at g eA
    have s : (Y - X) * 2 ^ p = (B - A) * 2 ^ c := by rw [Nat.sub_mul, Nat.sub_mul, eA, eB]
    rw [zst_k0]
    refine ⟨g, ?_⟩
    rw [zround_rep i md sg (by omega) (show B - A ≠ 0 by omega) s he false, show f + ((0 : Nat) : Int) = f from by omega]
theorem dX_0 {i n : Nat} (h : dP i n = 0) : dX i n = 0 := by
  have h1 := (dP_0 n).1 h
  unfold dX
  rw [h1, Nat.zero_div]
  rfl
theorem sm_P {i n1 n2 : Nat} (hi : i < 2) (hp : pz i n2 ≤ pz i n1) : SM i (dP i n1 * 2 ^ dX i n1) (dP i n2 * 2 ^ dX i n2) (tz i n1 (pz i n1)) (tz i n2 (pz i n1)) (lo9 i) (pz i n1 - 9) := by
  have b1 := @sN_b i n1 hi
  have b2 := @sN_b i n2 hi
  have E1 := dE_X i n1
  have E2 := dE_X i n2
  have P1 : pz i n1 = dE i n1 - (lz i n1 : Int) := rfl
  have P2 : pz i n2 = dE i n2 - (lz i n2 : Int) := rfl
  have t1 : tz i n1 (pz i n1) = sN i n1 * 2 ^ 9 := by
    rw [tz, Int.sub_self]
    exact zst_k0 _
  have hz : sN i n1 * 2 ^ 9 = 0 → sN i n2 * 2 ^ 9 = 0 := by
    intro h
    have h1 : dP i n1 = 0 := (sN_0 i n1).1 (by omega)
    have h2 := dX_0 h1
    have h3 : lz i n1 = 53 := by rw [lz, if_pos h1]
    have h4 : dP i n2 = 0 := by
      rcases Nat.eq_zero_or_pos (dP i n2) with q | q
      · exact q
      · have := lz_52 (i := i) (n := n2) (by omega)
        omega
    rw [(sN_0 i n2).2 h4, Nat.zero_mul]
  have hd : ((pz i n1 - pz i n2).toNat : Int) = pz i n1 - pz i n2 := by omega
  rw [t1, tz]
  generalize (pz i n1 - pz i n2).toNat = d at *
  have x1 : sN i n1 * 2 ^ 9 * 2 ^ d * 2 ^ dX i n2 = dP i n1 * 2 ^ dX i n1 * 2 ^ (9 + lz i n2) := by
    unfold sN
    simp only [Nat.mul_assoc, ← Nat.pow_add]
    congr 2
    omega
  have x2 : sN i n2 * 2 ^ 9 * 2 ^ dX i n2 = dP i n2 * 2 ^ dX i n2 * 2 ^ (9 + lz i n2) := by
    unfold sN
    simp only [Nat.mul_assoc, ← Nat.pow_add]
    congr 2
    omega
  have x3 : d ≤ 9 → sN i n2 * 2 ^ 9 % 2 ^ d = 0 := by
    intro h
    have e9 : (2 : Nat) ^ 9 = 2 ^ (9 - d) * 2 ^ d := by
      rw [← Nat.pow_add]
      congr 1
      omega
    rw [e9, ← Nat.mul_assoc, Nat.mul_mod_left]
  have x4 : sN i n1 * 2 ^ 9 = 0 ∨ 2 ^ 61 ≤ sN i n1 * 2 ^ 9 := by
    by_cases h : dP i n1 = 0
    · exact Or.inl (by rw [(sN_0 i n1).2 h, Nat.zero_mul])
    · have := b1.2 h
      exact Or.inr (by omega)
  have core := sm_core (i := i) (e := lo9 i) (f := pz i n2 - 9) x1 x2 (by omega) (by omega) x3 x4 (by omega) hz
  rw [show pz i n2 - 9 + (d : Int) = pz i n1 - 9 from by omega] at core
  exact core
theorem pz_s {i : Nat} (hi : i < 2) (n : Nat) : -1300 ≤ pz i n ∧ pz i n ≤ 2000 := by
  have h := dE_s hi n
  have g := lz_le i n
  unfold pz
  omega
theorem sm_max {i n1 n2 : Nat} (hi : i < 2) : SM i (dP i n1 * 2 ^ dX i n1) (dP i n2 * 2 ^ dX i n2) (tz i n1 (max (pz i n1) (pz i n2))) (tz i n2 (max (pz i n1) (pz i n2))) (lo9 i) (max (pz i n1) (pz i n2) - 9) := by
  by_cases h : pz i n2 ≤ pz i n1
  · rw [Int.max_eq_left h]
    exact sm_P hi h
  · rw [Int.max_eq_right (by omega)]
    exact sm_sym (sm_P hi (by omega))
theorem tz_0 {i n : Nat} (h : dP i n = 0) (m : Int) : tz i n m = 0 := by
  rw [tz, zst_0, (sN_0 i n).2 h, Nat.zero_mul]
theorem tz_lt {i : Nat} (hi : i < 2) (n : Nat) (m : Int) : tz i n m < 2 ^ 62 := by
  have := @sN_b i n hi
  exact zst_lt _ (by omega)
theorem lN_LI (n : Nat) : lN n = LI (n : Int) := Int64.ofInt_eq_ofNat.symm
theorem LI_neg (z : Int) : -LI z = LI (-z) := (Int64.ofInt_neg z).symm
theorem LI_add (a b : Int) : LI a + LI b = LI (a + b) := (Int64.ofInt_add a b).symm
theorem LI_to {z : Int} (h : -(2 ^ 63) < z ∧ z < 2 ^ 63) : (LI z).toInt = z := Int64.toInt_ofInt_of_le (by omega) (by omega)
/-- a term with its sign -/
def vz (s a : Nat) : Int := if s = 1 then -(a : Int) else (a : Int)
theorem term_n {i n : Nat} (hi : i < 2) (hn : n < 2 ^ 64) {m : Int} (hm : pz i n ≤ m) (hb : m ≤ 2000) : C_U_term i (lN n) (iI (m - 9)) = LI (vz (dS i n) (tz i n m)) := by
  have hs := @sN_b i n hi
  have hp := pz_s hi n
  have e1 : jShl (lN (sN i n)) 9 = lN (sN i n * 2 ^ 9) := jShl_lN _ (k := 9) (by decide)
  have e2 : iI (m - 9) - iI (pz i n) + 9 = nI (m - pz i n).toNat := by
    rw [show (9 : Int32) = iI 9 from rfl, iI_sub, iI_add, iI_nI]
    congr 1
    omega
  rw [C_U_term, F_minus hi hn, F_sigz hi hn, F_powz hi hn, e1, e2, pressed_n (by omega) (by omega), ← tz, vz]
  rcases dS_01 i n with h | h
  · rw [h, if_pos (by decide), if_neg (by decide), lN_LI]
  · rw [h, if_neg (by decide), if_pos rfl, lN_LI, LI_neg]
