/-! The class's rounding is zround: the end. -/
theorem zq_pos {N : Nat} {low : Int} (h : 0 ≤ low) : zq N low = N / 2 ^ low.toNat ∧ zr N low = N % 2 ^ low.toNat := by
  unfold zq zr
  rw [show (-low).toNat = 0 from by omega, Nat.pow_zero, Nat.mul_one]
  exact ⟨rfl, rfl⟩
theorem unit_n {i : Nat} (hi : i < 2) (E e : Int) : C_F_unitPower i (iI E) - iI e = iI (zlow i E e) := by
  rw [C_F_unitPower, fBi_n hi, fPr_n hi, iI_nI, iI_nI, show (1 : Int32) = iI 1 from rfl, iI_sub, iI_sub, iI_sub, iI_sub]
  rfl
theorem r87 {i md M : Nat} {E e : Int} (hi : i < 2) (hm : md ≤ 3) (fl : Int32) (sg : Bool) (hM : M < 2 ^ 63) (hM0 : M ≠ 0) (hE : 1 ≤ E) (hE2 : E ≤ 2 * (zB i : Int)) (hl : 1 ≤ zlow i E e) (hb : zlow i E e < 1000000) (hq : zq M (zlow i E e) < 2 * zL i) :
    C_U_rounded_87 (nI md) fl i sg (lN M) (iI e) (iI E) = zRes i sg fl (zend i md sg E (zq M (zlow i E e)) (zc (zr M (zlow i E e)) (2 ^ (zlow i E e).toNat) false)) := by
  rw [C_U_rounded_87, unit_n hi]
  obtain ⟨q1, q2⟩ := zq_pos (N := M) (low := zlow i E e) (by omega)
  rw [q1] at hq
  rw [q1, q2]
  obtain ⟨n, rfl⟩ : ∃ n : Nat, E = (n : Int) := ⟨E.toNat, by omega⟩
  obtain ⟨k, hk⟩ : ∃ k : Nat, zlow i (n : Int) e = (k : Int) := ⟨(zlow i (n : Int) e).toNat, by omega⟩
  rw [hk] at hl hb hq ⊢
  rw [Int.toNat_natCast] at hq ⊢
  have c63 : iI (k : Int) ≤ 63 ↔ (k : Int) ≤ 63 := iI_le (b := 63) ⟨by omega, by omega⟩ ⟨by decide, by decide⟩
  by_cases h : (k : Int) ≤ 63
  · rw [if_pos (c63.2 h), ← iI_nI, ← iI_nI]
    exact r112 hi hm fl sg hM (by omega) (by omega) (by omega) (by omega) hq
  · rw [if_neg (fun g => h (c63.1 g)), ← iI_nI]
    have := r112 (M := 1) (low := 63) hi hm fl sg (by decide) (by decide) (by decide) (E := n) (by omega) (by omega) (by have := zL_pos i; rw [show 1 / 2 ^ 63 = 0 from by decide]; omega)
    refine Eq.trans this ?_
    have hp : 2 ^ 64 ≤ 2 ^ k := Nat.pow_le_pow_right (by decide) (by omega)
    rw [Nat.div_eq_of_lt (show M < 2 ^ k by omega), Nat.mod_eq_of_lt (show M < 2 ^ k by omega), show 1 / 2 ^ 63 = 0 from by decide]
    rw [show zc (1 % 2 ^ 63) (2 ^ 63) false = 1 from by decide, show zc M (2 ^ k) false = 1 from by
      unfold zc
      rw [if_pos (by omega), if_neg (fun x => hM0 x.1)]]
theorem r48 {i md M s : Nat} {e : Int} (hi : i < 2) (hm : md ≤ 3) (fl : Int32) (sg : Bool) (hM : M < 2 ^ 63) (hM2 : 2 ^ 62 ≤ M) (hs : s ≤ 64) (he : -100000 ≤ e ∧ e ≤ 100000) :
    C_U_rounded_48 (nI md) fl i sg (lN M) (nI s) (iI e) = zRes i sg fl (zround i md sg M (e - s) false) := by
  have hB : zB i = 1023 ∨ zB i = 127 := by rcases i01 hi with rfl | rfl <;> decide
  have hP := zP_le i
  have hP2 := zP_ge i
  have hM0 : M ≠ 0 := by omega
  have hlog : M.log2 = 62 := by
    have h1 := z_log_lt hM hM0
    have h2 := z_log_ge hM2
    omega
  have eE : jMax (((iI e - nI s) + 62) + fBi i) 1 = iI (zX i M (e - s)) := by
    rw [fBi_n hi, iI_nI, iI_nI, iI_sub, show (62 : Int32) = iI 62 from rfl, iI_add, iI_add, show (1 : Int32) = iI 1 from rfl, jMax, iI_max ⟨by omega, by omega⟩ ⟨by decide, by decide⟩, zX, hlog]
    congr 2
    omega
  have e2 : iI e - nI s = iI (e - s) := by rw [iI_nI, iI_sub]
  have eB : 2 * fBi i = iI (2 * (zB i : Int)) := by
    rw [fBi_n hi, iI_nI, show (2 : Int32) = iI 2 from rfl, iI_mul]
  have hX1 : 1 ≤ zX i M (e - s) := by unfold zX; omega
  have hX2 : zX i M (e - s) < 300000 := by unfold zX; omega
  rw [C_U_rounded_48, eE, e2, eB, huge_n hi hm]
  by_cases g : zX i M (e - s) ≤ 2 * (zB i : Int)
  · rw [if_pos ((iI_le ⟨by omega, by omega⟩ ⟨by omega, by omega⟩).2 g)]
    have hlow := zlow_ge i M (e - s)
    rw [hlog] at hlow
    exact r87 hi hm fl sg hM hM0 hX1 g (by omega) (by unfold zlow; omega) (zq_lt i M (e - s) hM0)
  · rw [if_neg (fun x => g ((iI_le ⟨by omega, by omega⟩ ⟨by omega, by omega⟩).1 x)), zround, zend, if_pos (Or.inl (by omega))]
    rfl
theorem rnd_lt {N : Nat} (h0 : N ≠ 0) (h : N < 2 ^ 63) : N * 2 ^ (62 - N.log2) < 2 ^ 63 ∧ 2 ^ 62 ≤ N * 2 ^ (62 - N.log2) := by
  have hl := z_log_lt h h0
  have h1 : 2 ^ N.log2 ≤ N := Nat.log2_self_le h0
  have h2 : N < 2 ^ (N.log2 + 1) := Nat.lt_log2_self
  constructor
  · calc N * 2 ^ (62 - N.log2) < 2 ^ (N.log2 + 1) * 2 ^ (62 - N.log2) := Nat.mul_lt_mul_of_pos_right h2 (Nat.two_pow_pos _)
      _ = 2 ^ 63 := by rw [← Nat.pow_add]; congr 1; omega
  · calc 2 ^ 62 = 2 ^ N.log2 * 2 ^ (62 - N.log2) := by rw [← Nat.pow_add]; congr 1; omega
      _ ≤ N * 2 ^ (62 - N.log2) := Nat.mul_le_mul_right _ h1
/-- the class's rounded: any bits but zero, as a number without sign -/
theorem rounded_n {i md N : Nat} {e : Int} (hi : i < 2) (hm : md ≤ 3) (fl : Int32) (sg : Bool) (hN : N < 2 ^ 64) (h0 : N ≠ 0) (he : -90000 ≤ e ∧ e ≤ 90000) : C_U_rounded (nI md) fl i sg (lN N) (iI e) = zRes i sg fl (zround i md sg N e false) := by
  have sh : ∀ (K : Nat) (d : Int), K ≠ 0 → K < 2 ^ 63 → (-100000 ≤ d ∧ d ≤ 100000) → C_U_rounded_48 (nI md) fl i sg (jShl (lN K) (C_U_freePlaces (lN K))) (C_U_freePlaces (lN K)) (iI d) = zRes i sg fl (zround i md sg K d false) := by
    intro K d k0 k63 hd
    obtain ⟨a1, a2⟩ := rnd_lt k0 k63
    rw [fp_n k0 k63, jShl_lN _ (by omega), r48 hi hm fl sg a1 a2 (by omega) hd, zround_shift i md sg k0, show d - ((62 - K.log2 : Nat) : Int) + ((62 - K.log2 : Nat) : Int) = d from by omega]
  have nn : ∀ K : Nat, K < 2 ^ 64 → (0 ≤ lN K ↔ K < 2 ^ 63) := by
    intro K hK
    constructor
    · intro h
      rcases Nat.lt_or_ge K (2 ^ 63) with g | g
      · exact g
      · rw [Int64.le_iff_toInt_le] at h
        have : (lN K).toInt = (K : Int) - 2 ^ 64 := by
          show (Int64.ofNat K).toInt = _
          rw [Int64.toInt_ofNat']
          rw [show Int64.size = 18446744073709551616 from rfl, Int.bmod_def]
          omega
        rw [this] at h
        have : (0 : Int64).toInt = 0 := rfl
        omega
    · intro h
      exact (pk_lLE (a := 0) (by decide) h).2 (Nat.zero_le _)
  rw [C_U_rounded]
  by_cases h : N < 2 ^ 63
  · rw [if_pos ((nn N hN).2 h), C_U_rounded_17, if_pos ((nn N hN).2 h)]
    exact sh N e h0 h (by omega)
  · rw [if_neg (fun g => h ((nn N hN).1 g)), C_U_rounded_17, if_neg (fun g => h ((nn N hN).1 g))]
    have ez : jUshr (lN N) 1 ||| (lN N &&& 1) = lN (zst N 1) := by
      rw [show (1 : Int32) = nI 1 from rfl, jUshr_lN hN (by decide), wb_a1 hN, Nat.pow_one, wb_or (by omega) (by omega), zst, Nat.pow_one]
      rcases Nat.mod_two_eq_zero_or_one N with g | g <;> rw [g]
      · rw [if_neg (by decide), Nat.or_zero]
      · rw [if_pos (by decide), z_or1]
    have hz : 2 ^ 62 ≤ zst N 1 ∧ zst N 1 < 2 ^ 63 := by
      unfold zst
      rw [Nat.pow_one]
      split <;> omega
    rw [ez, show (1 : Int32) = iI 1 from rfl, iI_add, sh (zst N 1) (e + 1) (by omega) hz.2 (by omega)]
    have := zround_zst i md sg (N := N) (k := 1) e (Nat.le_trans (Nat.pow_le_pow_right (by decide) (by have := zP_le i; omega)) (show 2 ^ 63 ≤ N by omega))
    rw [this]
    rfl
