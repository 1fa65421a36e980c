/-! 'turn' answers alike. -/
theorem made_0 {i s : Nat} (hi : i < 2) (hs : s ≤ 1) : C_M_made (nI (zP i)) (nI s) 0 0 = zV i s 0 := by
  have := made_n (e := 0) (f := 0) hi hs (zL_pos i) (by rw [Nat.zero_mul]; exact zS_pos)
  rw [Nat.zero_mul] at this
  exact this
theorem zb_d (i n : Nat) : (if decide (dS i n = 1) = false then 0 else 1) = dS i n := by
  rcases dS_01 i n with h | h <;> rw [h] <;> rfl
theorem turned_n {md i j n : Nat} (hi : i < 2) (hj : j < 2) (hm : md ≤ 3) (fl : Int32) (hn : n < 2 ^ 64) : C_U_turned (nI md) fl i j (lN n) = (if dK i n = 0 then (C_F_none j, fl) else if dK i n = 1 then (zV j (dS i n) (zI j), fl) else if dP i n = 0 then (zV j (dS i n) 0, fl) else zRes j (decide (dS i n = 1)) fl (zround j md (decide (dS i n = 1)) (dP i n) (dE i n) false)) := by
  rw [C_U_turned, F_isNone hi hn, F_isEnd hi hn, F_isZero hi hn, F_minus hi hn]
  have hzl := zL_lt hi
  have hzp := zL_pos i
  rcases dK_cases i n with ⟨h, e⟩ | ⟨h, e⟩ | ⟨h, e⟩
  · rw [e, decide_eq_true h, if_neg (by decide), if_pos rfl]
  · rw [e, decide_eq_false (show ¬ zI i < dM i n by omega), decide_eq_true h, if_pos rfl, if_neg (by decide), if_neg (by decide), if_pos rfl, C_F_endless, fEn_n hj, F_signed hj (zI_lt hj), zb_d]
  · rw [e, decide_eq_false (show ¬ zI i < dM i n by omega), decide_eq_false (show ¬ dM i n = zI i by omega), if_pos rfl, if_pos rfl, if_neg (show ¬ (2 : Nat) = 0 by decide), if_neg (show ¬ (2 : Nat) = 1 by decide)]
    by_cases h0 : dM i n = 0
    · rw [decide_eq_true h0, if_neg (by decide), if_pos ((dP_0 n).2 h0), C_F_zero]
      have := F_signed (a := 0) hj zS_pos (decide (dS i n = 1))
      rw [zb_d] at this
      rw [show (0 : Int64) = lN 0 from rfl, this]
    · have h1 : dP i n ≠ 0 := fun g => h0 ((dP_0 n).1 g)
      have hs := sig_lt hi h1
      have hE := dE_s hi n
      have hlf : lf i n ≤ 52 := by unfold lf; omega
      rw [decide_eq_false h0, if_pos rfl, if_neg h1, F_sig hi hn h1, F_pow hi hn h1, rounded_n hj hm fl _ (by omega) (by omega) (by omega), sig_round hi h1]
theorem mturn_n {md i j n : Nat} (hi : i < 2) (hj : j < 2) (hm : md ≤ 3) (fl : Int32) (hn : n < 2 ^ 64) (h0 : dP i n ≠ 0) : C_M_rounded (nI md) fl (nI (zP j)) (nI (zB j)) (nI (dS i n)) (iI (dE i n)) false (uL (lN (dP i n)) * 2 ^ (0 : Int32).toInt.toNat) = zRes j (decide (dS i n = 1)) fl (zround j md (decide (dS i n = 1)) (dP i n) (dE i n) false) := by
  have hE := dE_s hi n
  have h53 := dP_lt hi n
  rw [show (0 : Int32).toInt.toNat = 0 from rfl, Nat.pow_zero, Nat.mul_one, show uL (lN (dP i n)) = dP i n from wb_tn (by omega)]
  exact mrounded_n hj hm (dS_le i n) fl false h0 (Nat.lt_trans h53 (Nat.pow_lt_pow_right (by decide) (by decide))) (by omega)
theorem turn_all {md fl kx sx px : Int32} {fx : Int64} {pr bi : Int32} {row : Nat → Int32} {rg : Nat → Int64} {z : Bool} {k2 k3 : Int32} (hk : MK md) (h2 : vp_in k2 16) (h3 : vp_in k3 16) : (C_M_turn md fl kx sx px fx pr bi row rg z k2 k3).1 = (C_U_turn md fl rg z k2 k3).1 ∧ (C_M_turn md fl kx sx px fx pr bi row rg z k2 k3).2.1 = (C_U_turn md fl rg z k2 k3).2 ∧ (C_M_turn md fl kx sx px fx pr bi row rg z k2 k3).2.2.1 = 0 ∧ (C_M_turn md fl kx sx px fx pr bi row rg z k2 k3).2.2.2.2.2.2.2.2.2.2 = vp_updL rg k2.toNatClampNeg (C_M_turn md fl kx sx px fx pr bi row rg z k2 k3).1 := by
  obtain ⟨m, hm, rfl⟩ := md_of hk
  have h64 := uL_64 (rg k3.toNatClampNeg)
  have hx := lN_uL (rg k3.toNatClampNeg)
  rw [C_M_turn, if_neg (by rw [in15.2 h2]; decide), if_neg (by rw [in15.2 h3]; decide), take_spec, C_U_turn]
  dsimp only
  generalize uL (rg k3.toNatClampNeg) = n at *
  rw [hx]
  cases z
  · rw [if_pos rfl, if_pos rfl, show C_U_format false = 0 from rfl, show C_U_format true = 1 from rfl, turned_n (by decide) (by decide) hm fl h64, show fi false = 0 from rfl, show (C_M_format true).1 = nI (zP 1) from by decide, show (C_M_format true).2 = nI (zB 1) from by decide, endl_i (by decide) (dS_le _ _), made_0 (by decide) (dS_le _ _)]
    have hN : C_M_none (nI (zP 1)) (nI (zB 1)) = C_F_none 1 := by decide +kernel
    rw [hN]
    have hp63 : dP 0 n < 2 ^ 63 := Nat.lt_trans (dP_lt (by decide) n) (by decide)
    rcases dK_cases 0 n with ⟨h, e⟩ | ⟨h, e⟩ | ⟨h, e⟩
    · rw [e]; exact ⟨rfl, rfl, rfl, rfl⟩
    · rw [e]; exact ⟨rfl, rfl, rfl, rfl⟩
    · rw [e, if_neg (show ¬ nI 2 = 0 by decide), if_neg (show ¬ nI 2 = 1 by decide), if_neg (show ¬ (2 : Nat) = 0 by decide), if_neg (show ¬ (2 : Nat) = 1 by decide)]
      by_cases g : dP 0 n = 0
      · rw [if_pos ((lN_e0 hp63).2 g), if_pos g]; exact ⟨rfl, rfl, rfl, rfl⟩
      · rw [if_neg (fun x => g ((lN_e0 hp63).1 x)), if_neg g, mturn_n (by decide) (by decide) hm fl h64 g]; exact ⟨rfl, rfl, rfl, rfl⟩
  · rw [if_neg (show ¬ (true = false) by decide), if_neg (show ¬ (true = false) by decide), show C_U_format false = 0 from rfl, show C_U_format true = 1 from rfl, turned_n (by decide) (by decide) hm fl h64, show fi true = 1 from rfl, show (C_M_format false).1 = nI (zP 0) from by decide, show (C_M_format false).2 = nI (zB 0) from by decide, endl_i (by decide) (dS_le _ _), made_0 (by decide) (dS_le _ _)]
    have hN : C_M_none (nI (zP 0)) (nI (zB 0)) = C_F_none 0 := by decide +kernel
    rw [hN]
    have hp63 : dP 1 n < 2 ^ 63 := Nat.lt_trans (dP_lt (by decide) n) (by decide)
    rcases dK_cases 1 n with ⟨h, e⟩ | ⟨h, e⟩ | ⟨h, e⟩
    · rw [e]; exact ⟨rfl, rfl, rfl, rfl⟩
    · rw [e]; exact ⟨rfl, rfl, rfl, rfl⟩
    · rw [e, if_neg (show ¬ nI 2 = 0 by decide), if_neg (show ¬ nI 2 = 1 by decide), if_neg (show ¬ (2 : Nat) = 0 by decide), if_neg (show ¬ (2 : Nat) = 1 by decide)]
      by_cases g : dP 1 n = 0
      · rw [if_pos ((lN_e0 hp63).2 g), if_pos g]; exact ⟨rfl, rfl, rfl, rfl⟩
      · rw [if_neg (fun x => g ((lN_e0 hp63).1 x)), if_neg g, mturn_n (by decide) (by decide) hm fl h64 g]; exact ⟨rfl, rfl, rfl, rfl⟩
theorem pr_turn (l : Launch) (hlt : l.stackTraces = false) : PR_turn l := by
  intro z k2 k3 ad D cA cI cL h0 r0 o0 m0 ra rb rc md fl rg f S hk hc
  obtain ⟨⟨a1, a2, a3, a4, a5, a6, a7, a8, a9⟩, ⟨b1, b2⟩, ⟨c1, c2⟩, d1, d2, d3⟩ := S
  obtain ⟨rfl, rfl, rfl⟩ : a1 = md ∧ a2 = fl ∧ d3 = rg := hc
  by_cases hv : vp_in k2 16 ∧ vp_in k3 16
  · have e := turn_all (fl := a2) (kx := a4) (sx := a6) (px := a8) (fx := b1) (pr := c1) (bi := c2) (row := d1) (rg := d3) (z := z) hk hv.1 hv.2
    exact ⟨0, a1, _, _, _, _, _, c_L_turn l ad D cA h0 r0 o0 a1 a2 d3 f z k2 k3 hv.1 hv.2, c_M_turn l D cI cL m0 ra rb rc a1 a2 a3 a4 a5 a6 a7 a8 a9 b1 b2 c1 c2 d1 d2 d3 z k2 k3, e.2.2.1, fun _ => by rw [upd0, e.1], hk, rfl, e.2.1, by rw [← e.1]; exact e.2.2.2⟩
  · have e : C_M_turn a1 a2 a4 a6 a8 b1 c1 c2 d1 d3 z k2 k3 = (0, a2, bI true, a4, a6, a8, b1, c1, c2, d1, d3) := by
      rw [C_M_turn]
      by_cases h2 : vp_in k2 16
      · rw [if_neg (by rw [in15.2 h2]; decide), if_pos (in15f (fun h3 => hv ⟨h2, h3⟩))]
      · rw [if_pos (in15f h2)]
    refine ⟨1, a1, a2, d3, f, _, _, t_L_turn l ad D cA h0 r0 o0 a1 a2 d3 f z k2 k3 hlt hv, c_M_turn l D cI cL m0 ra rb rc a1 a2 a3 a4 a5 a6 a7 a8 a9 b1 b2 c1 c2 d1 d2 d3 z k2 k3, ?_, fun h => absurd h (by decide), hk, rfl, ?_, ?_⟩ <;> (rw [e]) <;> rfl
