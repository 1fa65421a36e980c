/-! 'whole' answers alike: the end. -/
theorem whR_hi {s w T : Nat} {fr : Bool} {fl er kx px pr bi : Int32} {fx : Int64} (hs : s ≤ 1) (hw : w = 31 ∨ w = 63) (h : 2 ^ (w + 1) ≤ T) (X : Int64 × Int32 × Int32 × Int32 × Int32 × Int32 × Int64 × Int32 × Int32) (hX : X = if nI s = 1 then (-(lN (2 ^ w - 1)) - 1, fl ||| 16, er, kx, nI s, px, fx, pr, bi) else (lN (2 ^ w - 1), fl ||| 16, er, kx, nI s, px, fx, pr, bi)) : X.1 = (whR s w T fr fl).1 ∧ X.2.1 = (whR s w T fr fl).2 ∧ X.2.2.1 = er := by
  have e7 : -(lN (2 ^ w - 1)) - 1 = -(lN (2 ^ w - 1 + 1)) := by rcases hw with rfl | rfl <;> decide +kernel
  have hwp := Nat.two_pow_pos w
  rw [Nat.pow_succ] at h
  rw [hX, e7, whR, if_pos (show 2 ^ w - 1 + s < T by omega)]
  rcases (show s = 0 ∨ s = 1 by omega) with rfl | rfl
  · exact ⟨rfl, rfl, rfl⟩
  · exact ⟨rfl, rfl, rfl⟩
theorem inf_T {i n : Nat} (hi : i < 2) (h : dM i n = zI i) : 2 ^ 64 ≤ zq (dP i n) (-dE i n) := by
  rw [zq_e.1]
  unfold dP dE
  rw [h]
  rcases i01 hi with rfl | rfl
  · rw [if_neg (by decide), show zI 0 % zL 0 + zL 0 = 2 ^ 52 from by decide +kernel, show ((max (zI 0 / zL 0) 1 : Nat) : Int) - (zB 0 : Int) - ((zP 0 : Int) - 1) = 972 from by decide +kernel, show (-(972 : Int)).toNat = 0 from rfl, show (972 : Int).toNat = 972 from rfl, Nat.pow_zero, Nat.div_one, ← Nat.pow_add]
    exact Nat.pow_le_pow_right (by decide) (by decide)
  · rw [if_neg (by decide), show zI 1 % zL 1 + zL 1 = 2 ^ 23 from by decide +kernel, show ((max (zI 1 / zL 1) 1 : Nat) : Int) - (zB 1 : Int) - ((zP 1 : Int) - 1) = 105 from by decide +kernel, show (-(105 : Int)).toNat = 0 from rfl, show (105 : Int).toNat = 105 from rfl, Nat.pow_zero, Nat.div_one, ← Nat.pow_add]
    exact Nat.pow_le_pow_right (by decide) (by decide)
theorem m59 {i n w : Nat} (hi : i < 2) (hw : w = 31 ∨ w = 63) (hk : ¬ zI i < dM i n) (fl er pr bi : Int32) : (C_M_whole_59 fl er (nI (dK i n)) (nI (dS i n)) (iI (dE i n)) (lN (dP i n)) pr bi (nI w) (lN (2 ^ w - 1))).1 = (whR (dS i n) w (zq (dP i n) (-dE i n)) (decide (zr (dP i n) (-dE i n) ≠ 0)) fl).1 ∧ (C_M_whole_59 fl er (nI (dK i n)) (nI (dS i n)) (iI (dE i n)) (lN (dP i n)) pr bi (nI w) (lN (2 ^ w - 1))).2.1 = (whR (dS i n) w (zq (dP i n) (-dE i n)) (decide (zr (dP i n) (-dE i n) ≠ 0)) fl).2 ∧ (C_M_whole_59 fl er (nI (dK i n)) (nI (dS i n)) (iI (dE i n)) (lN (dP i n)) pr bi (nI w) (lN (2 ^ w - 1))).2.2.1 = er := by
  have hE := dE_s hi n
  rw [C_M_whole_59]
  rcases dK_cases i n with ⟨h, e⟩ | ⟨h, e⟩ | ⟨h, e⟩
  · exact absurd h hk
  · rw [e, if_neg (by decide), if_pos (by decide), C_M_whole_107]
    exact whR_hi (dS_le i n) hw (Nat.le_trans (Nat.pow_le_pow_right (by decide) (by omega)) (inf_T hi h)) _ (wh_out _ _ _ _ _ _ _ _ _ _ _ _ _ _ _)
  · rw [e, if_neg (by decide), if_neg (by decide), C_M_whole_107, show ((53 - (0 : Int32).toInt)).toNat = 53 from rfl]
    have z0 : zq (dP i n % 2 ^ 0) (-dE i n) = 0 ∧ zr (dP i n % 2 ^ 0) (-dE i n) = 0 := by
      rw [Nat.pow_zero, Nat.mod_one, zq_e.1, zq_e.2, Nat.zero_mul, Nat.zero_div, Nat.zero_mod]
      exact ⟨rfl, rfl⟩
    have hl := wh_loop fl er (nI 2) (nI (dS i n)) (dP_lt hi n) (e := dE i n) (w := w) (by omega) (by omega) pr bi (lN (2 ^ w - 1)) (-(lN (2 ^ w - 1)) - 1) 53 0 rfl (by rw [z0.1]; exact Nat.two_pow_pos _)
    rw [z0.1, z0.2, show decide ((0 : Nat) ≠ 0) = false from rfl] at hl
    rw [show (0 : Int64) = lN 0 from rfl, show (0 : Int32) = nI 0 from rfl, hl]
    by_cases g : 2 ^ (w + 1) ≤ zq (dP i n) (-dE i n)
    · rw [if_pos g]
      exact whR_hi (dS_le i n) hw g _ rfl
    · rw [if_neg g]
      exact wh_186 (dS_le i n) hw (by omega) fl er (nI 2) (iI (dE i n)) (lN (dP i n)) pr bi _
theorem cut_R {i n w md : Nat} (hi : i < 2) (fl : Int32) (hn : n < 2 ^ 64) (hw : w = 31 ∨ w = 63) : (if dS i n = 1 then (-(C_U_cut (nI md) fl i (lN n) (lN (2 ^ w - 1 + dS i n))).1, (C_U_cut (nI md) fl i (lN n) (lN (2 ^ w - 1 + dS i n))).2) else C_U_cut (nI md) fl i (lN n) (lN (2 ^ w - 1 + dS i n))) = whR (dS i n) w (zq (dP i n) (-dE i n)) (decide (zr (dP i n) (-dE i n) ≠ 0)) fl := by
  have hw2 : 2 ^ w ≤ 2 ^ 63 := Nat.pow_le_pow_right (by decide) (by omega)
  have hwp := Nat.two_pow_pos w
  have hs := dS_le i n
  rw [cut_n hi fl hn (by omega), whR]
  by_cases g : 2 ^ w - 1 + dS i n < zq (dP i n) (-dE i n)
  · rw [if_pos g, if_pos g]
    split <;> rfl
  · rw [if_neg g, if_neg g]
    by_cases h : zr (dP i n) (-dE i n) = 0
    · rw [if_pos h, decide_eq_false (fun q => q h), if_pos rfl]
      split <;> rfl
    · rw [if_neg h, decide_eq_true h, if_neg (show ¬ true = false by decide)]
      split <;> rfl
theorem whole_all {md fl kx sx px : Int32} {fx : Int64} {pr bi : Int32} {rg : Nat → Int64} {z : Bool} {k2 : Int32} {z3 : Bool} (hk : MK md) (h2 : vp_in k2 16) : (C_M_whole fl kx sx px fx pr bi rg z k2 z3).1 = (C_U_whole md fl rg z k2 z3).1 ∧ (C_M_whole fl kx sx px fx pr bi rg z k2 z3).2.1 = (C_U_whole md fl rg z k2 z3).2 ∧ (C_M_whole fl kx sx px fx pr bi rg z k2 z3).2.2.1 = 0 := by
  obtain ⟨m, hm, rfl⟩ := md_of hk
  have h64 := uL_64 (rg k2.toNatClampNeg)
  have hx := lN_uL (rg k2.toNatClampNeg)
  have hi := fi_lt z
  rw [C_M_whole, if_neg (by rw [in15.2 h2]; decide), take_spec, C_U_whole, show C_U_format z = fi z from rfl, show bI false = 0 from rfl]
  dsimp only
  generalize uL (rg k2.toNatClampNeg) = n at *
  rw [hx, F_isNone hi h64, F_minus hi h64]
  by_cases g : zI (fi z) < dM (fi z) n
  · have e : dK (fi z) n = 0 := if_pos g
    rw [decide_eq_true g, if_neg (show ¬ true = false by decide), e]
    cases z3 <;> exact ⟨rfl, rfl, rfl⟩
  · rw [decide_eq_false g, if_pos rfl]
    have c31 := cut_R (md := m) (w := 31) hi fl h64 (Or.inl rfl)
    have c63 := cut_R (md := m) (w := 63) hi fl h64 (Or.inr rfl)
    have m31 := m59 (w := 31) hi (Or.inl rfl) g fl 0 (C_M_format z).1 (C_M_format z).2
    have m63 := m59 (w := 63) hi (Or.inr rfl) g fl 0 (C_M_format z).1 (C_M_format z).2
    rw [← c31] at m31
    rw [← c63] at m63
    cases z3
    · rw [if_pos rfl, if_pos rfl, C_M_whole_44, if_pos rfl]
      rcases dS_01 (fi z) n with q | q
      · rw [q] at m63 ⊢
        exact m63
      · rw [q] at m63 ⊢
        exact m63
    · rw [if_neg (show ¬ true = false by decide), if_neg (show ¬ true = false by decide), C_M_whole_44, if_neg (show ¬ true = false by decide)]
      rcases dS_01 (fi z) n with q | q
      · rw [q] at m31 ⊢
        exact m31
      · rw [q] at m31 ⊢
        exact m31
theorem pr_whole (l : Launch) (hlt : l.stackTraces = false) : PR_whole l := by
  intro z k2 z3 ad D cA cI cL h0 r0 o0 m0 ra rb rc md fl rg f S hk hc
  obtain ⟨⟨a1, a2, a3, a4, a5, a6, a7, a8, a9⟩, ⟨b1, b2⟩, ⟨c1, c2⟩, d1, d2, d3⟩ := S
  obtain ⟨rfl, rfl, rfl⟩ : a1 = md ∧ a2 = fl ∧ d3 = rg := hc
  by_cases hv : vp_in k2 16
  · have e := whole_all (fl := a2) (kx := a4) (sx := a6) (px := a8) (fx := b1) (pr := c1) (bi := c2) (rg := d3) (z := z) (z3 := z3) hk hv
    exact ⟨0, a1, _, _, _, _, _, c_L_whole l ad D cA h0 r0 o0 a1 a2 d3 f z k2 z3 hv, c_M_whole l D cI cL m0 ra rb rc a1 a2 a3 a4 a5 a6 a7 a8 a9 b1 b2 c1 c2 d1 d2 d3 z k2 z3, e.2.2, fun _ => by rw [upd0, e.1], hk, rfl, e.2.1, rfl⟩
  · have e : C_M_whole a2 a4 a6 a8 b1 c1 c2 d3 z k2 z3 = (0, a2, bI true, a4, a6, a8, b1, c1, c2) := by
      rw [C_M_whole, if_pos (in15f hv)]
    refine ⟨1, a1, a2, d3, f, _, _, t_L_whole l ad D cA h0 r0 o0 a1 a2 d3 f z k2 z3 hlt hv, c_M_whole l D cI cL m0 ra rb rc a1 a2 a3 a4 a5 a6 a7 a8 a9 b1 b2 c1 c2 d1 d2 d3 z k2 z3, ?_, fun h => absurd h (by decide), hk, rfl, ?_, rfl⟩ <;> (rw [e]) <;> rfl
