/-! kind and negate answer alike. -/
theorem dP_0 {i : Nat} (n : Nat) : dP i n = 0 ↔ dM i n = 0 := by
  unfold dP
  have := @zL_pos i
  split <;> omega
theorem dP_L {i : Nat} (n : Nat) : dP i n < zL i ↔ dM i n < zL i := by
  unfold dP
  split <;> omega
theorem uL_64 (x : Int64) : uL x < 2 ^ 64 := x.toBitVec.isLt
theorem fmt_L (z : Bool) : jShl 1 ((C_M_format z).1 - 1) = lN (zL (fi z)) := by cases z <;> decide +kernel
theorem kind_eq {md fl kx sx px : Int32} {fx : Int64} {pr bi : Int32} {rg : Nat → Int64} {z : Bool} {k : Int32} (hv : vp_in k 16) : (C_M_kind kx sx px fx pr bi rg z k).1 = C_U_kind md fl rg z k ∧ (C_M_kind kx sx px fx pr bi rg z k).2.1 = 0 := by
  rw [C_M_kind, if_neg (by rw [in15.2 hv]; decide), take_spec, fmt_L]
  dsimp only
  generalize hn : uL (rg k.toNatClampNeg) = n
  have hx : rg k.toNatClampNeg = lN n := by rw [← hn]; exact lN_uL _
  have h64 : n < 2 ^ 64 := by rw [← hn]; exact uL_64 _
  have hi := fi_lt z
  rw [C_U_kind, hx, show C_U_format z = fi z from rfl, F_minus hi h64, C_F_sort, F_isNone hi h64, F_isEnd hi h64, F_isZero hi h64, F_size hi h64, fLe_n hi]
  generalize fi z = i at *
  have hp63 : dP i n < 2 ^ 63 := Nat.lt_trans (dP_lt hi n) (by decide)
  have hK : (zI i < dM i n ∧ dK i n = 0) ∨ (dM i n = zI i ∧ dK i n = 1) ∨ (dM i n < zI i ∧ dK i n = 2) := by
    unfold dK
    split
    · exact Or.inl ⟨by assumption, rfl⟩
    · split
      · exact Or.inr (Or.inl ⟨by assumption, rfl⟩)
      · exact Or.inr (Or.inr ⟨by omega, rfl⟩)
  have hzl := zL_lt hi
  have hzp := @zL_pos i
  rcases hK with ⟨h, e⟩ | ⟨h, e⟩ | ⟨h, e⟩
  · rw [e, decide_eq_true h]
    rcases dS_01 i n with g | g <;> rw [g] <;> exact ⟨rfl, rfl⟩
  · rw [e, decide_eq_false (show ¬ zI i < dM i n by omega), decide_eq_true h]
    rcases dS_01 i n with g | g <;> rw [g] <;> exact ⟨rfl, rfl⟩
  · rw [e, decide_eq_false (show ¬ zI i < dM i n by omega), decide_eq_false (show ¬ dM i n = zI i by omega), if_neg (show ¬ nI 2 = 0 by decide), if_neg (show ¬ nI 2 = 1 by decide)]
    by_cases h0 : dM i n = 0
    · rw [if_pos ((lN_e0 hp63).2 ((dP_0 n).2 h0)), decide_eq_true h0]
      rcases dS_01 i n with g | g <;> rw [g] <;> exact ⟨rfl, rfl⟩
    · rw [if_neg (fun q => h0 ((dP_0 n).1 ((lN_e0 hp63).1 q))), decide_eq_false h0]
      by_cases h1 : dM i n < zL i
      · rw [if_pos ((pk_lLT hp63 (zL_63 hi)).2 ((dP_L n).2 h1)), if_neg (show ¬ lN (zL i) ≤ lN (dM i n) from fun q => by have := (pk_lLE (zL_63 hi) (dM_63 n)).1 q; omega)]
        rcases dS_01 i n with g | g <;> rw [g] <;> exact ⟨rfl, rfl⟩
      · rw [if_neg (fun q => h1 ((dP_L n).1 ((pk_lLT hp63 (zL_63 hi)).1 q))), if_pos ((pk_lLE (zL_63 hi) (dM_63 n)).2 (by omega))]
        rcases dS_01 i n with g | g <;> rw [g] <;> exact ⟨rfl, rfl⟩
theorem pr_kind (l : Launch) (hlt : l.stackTraces = false) : PR_kind l := by
  intro z k ad D cA cI cL h0 r0 o0 m0 ra rb rc md fl rg f S hk hc
  obtain ⟨⟨a1, a2, a3, a4, a5, a6, a7, a8, a9⟩, ⟨b1, b2⟩, ⟨c1, c2⟩, d1, d2, d3⟩ := S
  obtain ⟨rfl, rfl, rfl⟩ : a1 = md ∧ a2 = fl ∧ d3 = rg := hc
  by_cases hv : vp_in k 16
  · have e := kind_eq (md := a1) (fl := a2) (kx := a4) (sx := a6) (px := a8) (fx := b1) (pr := c1) (bi := c2) (rg := d3) (z := z) hv
    exact ⟨0, a1, a2, d3, _, _, _, c_L_kind l ad D cA h0 r0 o0 a1 a2 d3 f z k hv, c_M_kind l D cI cL m0 ra rb rc a1 a2 a3 a4 a5 a6 a7 a8 a9 b1 b2 c1 c2 d1 d2 d3 z k, e.2, fun _ => by rw [upd0, e.1], hk, rfl, rfl, rfl⟩
  · refine ⟨1, a1, a2, d3, f, _, _, t_L_kind l ad D cA h0 r0 o0 a1 a2 d3 f z k hlt hv, c_M_kind l D cI cL m0 ra rb rc a1 a2 a3 a4 a5 a6 a7 a8 a9 b1 b2 c1 c2 d1 d2 d3 z k, ?_, fun h => absurd h (by decide), hk, rfl, rfl, rfl⟩
    rw [C_M_kind, if_pos (in15f hv)]; rfl
theorem none_eq (z : Bool) : C_M_none (C_M_format z).1 (C_M_format z).2 = C_F_none (fi z) := by cases z <;> decide +kernel
theorem endl_n (z : Bool) {s : Nat} (hs : s ≤ 1) : C_M_endless (C_M_format z).1 (C_M_format z).2 (nI s) = zV (fi z) s (zI (fi z)) := by
  have hi := fi_lt z
  rw [C_M_endless, fmt_P, show ((2 * (C_M_format z).2) + 1).toInt64 = lN (2 * zB (fi z) + 1) from by cases z <;> decide +kernel]
  exact made_n (f := 0) hi hs (zL_pos _) (zI_lt hi)
theorem and_L {i m : Nat} (hi : i < 2) (hm : m < 2 ^ 64) : lN m &&& (lN (zL i) - 1) = lN (m % zL i) := by
  rcases i01 hi with rfl | rfl
  · rw [show lN (zL 0) - 1 = lN (2 ^ 52 - 1) from by decide +kernel]
    exact wb_mask (k := 52) hm (by decide)
  · rw [show lN (zL 1) - 1 = lN (2 ^ 23 - 1) from by decide +kernel]
    exact wb_mask (k := 23) hm (by decide)
theorem dP_mod {i n : Nat} : dP i n % zL i = dM i n % zL i := by
  unfold dP
  split
  · rfl
  · rw [Nat.add_mod_right, Nat.mod_mod]
theorem dM_split (i n : Nat) : dM i n / zL i * zL i + dM i n % zL i = dM i n := Nat.div_add_mod' _ _
theorem remade_s {i n s : Nat} (hi : i < 2) (hs : s ≤ 1) (h : dM i n < zL i) : C_M_made (nI (zP i)) (nI s) 0 (lN (dP i n) &&& (lN (zL i) - 1)) = zV i s (dM i n) := by
  have h64 : dP i n < 2 ^ 64 := Nat.lt_trans (dP_lt hi n) (by decide)
  rw [and_L hi h64, dP_mod, Nat.mod_eq_of_lt h]
  have e := made_n (e := 0) (f := dM i n) hi hs h (by rw [Nat.zero_mul, Nat.zero_add]; exact dM_lt n)
  rw [Nat.zero_mul, Nat.zero_add] at e
  exact e
theorem powE {i n : Nat} (hi : i < 2) (h : ¬ dM i n < zL i) : (((iI (dE i n) + nI (zP i)) - 1) + nI (zB i)).toInt64 = lN (dM i n / zL i) := by
  have h1 : 1 ≤ dM i n / zL i := (Nat.le_div_iff_mul_le (zL_pos i)).2 (by omega)
  have h2 : dM i n / zL i < 2 ^ 11 := by
    have := @dM_lt i n
    rcases i01 hi with rfl | rfl
    · exact Nat.div_lt_of_lt_mul this
    · exact Nat.lt_trans (show dM 1 n / zL 1 < 2 ^ 8 from Nat.div_lt_of_lt_mul this) (by decide)
  have e1 : dE i n + (zP i : Int) - 1 + (zB i : Int) = ((dM i n / zL i : Nat) : Int) := by
    unfold dE
    rw [Nat.max_eq_left h1]
    omega
  have e2 : ((iI (dE i n) + nI (zP i)) - 1) + nI (zB i) = nI (dM i n / zL i) := by
    rw [iI_nI, iI_nI, iI_nI, iI_add, show (1 : Int32) = iI 1 from rfl, iI_sub, iI_add, e1]
  rw [e2]
  generalize dM i n / zL i = q at h2
  apply Int64.toInt_inj.mp
  rw [pk_lT (by omega), Int32.toInt_toInt64, iI_nI, iI_toInt ⟨by omega, by omega⟩]
theorem remade_u {i n s : Nat} (hi : i < 2) (hs : s ≤ 1) (h : ¬ dM i n < zL i) : C_M_made (nI (zP i)) (nI s) (((iI (dE i n) + nI (zP i)) - 1) + nI (zB i)).toInt64 (lN (dP i n) &&& (lN (zL i) - 1)) = zV i s (dM i n) := by
  have h64 : dP i n < 2 ^ 64 := Nat.lt_trans (dP_lt hi n) (by decide)
  rw [and_L hi h64, dP_mod, powE hi h, made_n hi hs (Nat.mod_lt _ (zL_pos i)) (by rw [dM_split]; exact dM_lt n), dM_split]
theorem one_sub {s : Nat} (h : s ≤ 1) : 1 - nI s = nI (1 - s) := by
  rcases (show s = 0 ∨ s = 1 by omega) with rfl | rfl <;> decide
theorem dS_le (i n : Nat) : dS i n ≤ 1 := by have := dS_01 i n; omega
theorem dK_cases (i n : Nat) : (zI i < dM i n ∧ dK i n = 0) ∨ (dM i n = zI i ∧ dK i n = 1) ∨ (dM i n < zI i ∧ dK i n = 2) := by
  unfold dK
  split
  · exact Or.inl ⟨by assumption, rfl⟩
  · split
    · exact Or.inr (Or.inl ⟨by assumption, rfl⟩)
    · exact Or.inr (Or.inr ⟨by omega, rfl⟩)
theorem neg_fl {md fl : Int32} {rg : Nat → Int64} {z : Bool} {k2 k3 : Int32} : (C_U_negate md fl rg z k2 k3).2 = fl := by
  rw [C_U_negate]; split <;> rfl
theorem neg_eq {md fl kx sx px : Int32} {fx : Int64} {pr bi : Int32} {rg : Nat → Int64} {z : Bool} {k2 k3 : Int32} (h2 : vp_in k2 16) (h3 : vp_in k3 16) : (C_M_negate kx sx px fx pr bi rg z k2 k3).1 = (C_U_negate md fl rg z k2 k3).1 ∧ (C_M_negate kx sx px fx pr bi rg z k2 k3).2.1 = 0 ∧ (C_M_negate kx sx px fx pr bi rg z k2 k3).2.2.2.2.2.2.2.2 = vp_updL rg k2.toNatClampNeg (C_M_negate kx sx px fx pr bi rg z k2 k3).1 := by
  rw [C_M_negate, if_neg (by rw [in15.2 h2]; decide), if_neg (by rw [in15.2 h3]; decide), take_spec, fmt_L]
  dsimp only
  generalize hn : uL (rg k3.toNatClampNeg) = n
  have hx : rg k3.toNatClampNeg = lN n := by rw [← hn]; exact lN_uL _
  have h64 : n < 2 ^ 64 := by rw [← hn]; exact uL_64 _
  have hi := fi_lt z
  rw [C_U_negate, hx, show C_U_format z = fi z from rfl, F_own hi h64, F_isNone hi (own_64 n), own_dM, F_opp hi (own_lt n), own_dM, own_dS, one_sub (dS_le _ _), none_eq, endl_n z (by omega), fmt_P, fmt_B]
  have hp63 : dP (fi z) n < 2 ^ 63 := Nat.lt_trans (dP_lt hi n) (by decide)
  rcases dK_cases (fi z) n with ⟨h, e⟩ | ⟨h, e⟩ | ⟨h, e⟩
  · rw [e, decide_eq_true h]
    exact ⟨rfl, rfl, rfl⟩
  · rw [e, decide_eq_false (show ¬ zI (fi z) < dM (fi z) n by omega), if_neg (show ¬ nI 1 = 0 by decide), if_pos (show nI 1 = 1 by decide), h]
    exact ⟨rfl, rfl, rfl⟩
  · rw [e, decide_eq_false (show ¬ zI (fi z) < dM (fi z) n by omega), if_neg (show ¬ nI 2 = 0 by decide), if_neg (show ¬ nI 2 = 1 by decide)]
    by_cases h1 : dM (fi z) n < zL (fi z)
    · rw [if_pos ((pk_lLT hp63 (zL_63 hi)).2 ((dP_L n).2 h1)), remade_s hi (by omega) h1]
      exact ⟨rfl, rfl, rfl⟩
    · rw [if_neg (fun q => h1 ((dP_L n).1 ((pk_lLT hp63 (zL_63 hi)).1 q))), remade_u hi (by omega) h1]
      exact ⟨rfl, rfl, rfl⟩
theorem pr_negate (l : Launch) (hlt : l.stackTraces = false) : PR_negate l := by
  intro z k2 k3 ad D cA cI cL h0 r0 o0 m0 ra rb rc md fl rg f S hk hc
  obtain ⟨⟨a1, a2, a3, a4, a5, a6, a7, a8, a9⟩, ⟨b1, b2⟩, ⟨c1, c2⟩, d1, d2, d3⟩ := S
  obtain ⟨rfl, rfl, rfl⟩ : a1 = md ∧ a2 = fl ∧ d3 = rg := hc
  by_cases hv : vp_in k2 16 ∧ vp_in k3 16
  · have e := neg_eq (md := a1) (fl := a2) (kx := a4) (sx := a6) (px := a8) (fx := b1) (pr := c1) (bi := c2) (rg := d3) (z := z) hv.1 hv.2
    exact ⟨0, a1, _, _, _, _, _, c_L_negate l ad D cA h0 r0 o0 a1 a2 d3 f z k2 k3 hv.1 hv.2, c_M_negate l D cI cL m0 ra rb rc a1 a2 a3 a4 a5 a6 a7 a8 a9 b1 b2 c1 c2 d1 d2 d3 z k2 k3, e.2.1, fun _ => by rw [upd0, e.1], hk, rfl, neg_fl.symm, by rw [← e.1]; exact e.2.2⟩
  · have e : C_M_negate a4 a6 a8 b1 c1 c2 d3 z k2 k3 = (0, bI true, a4, a6, a8, b1, c1, c2, d3) := by
      rw [C_M_negate]
      by_cases h2 : vp_in k2 16
      · rw [if_neg (by rw [in15.2 h2]; decide), if_pos (in15f (fun h3 => hv ⟨h2, h3⟩))]
      · rw [if_pos (in15f h2)]
    refine ⟨1, a1, a2, d3, f, _, _, t_L_negate l ad D cA h0 r0 o0 a1 a2 d3 f z k2 k3 hlt hv, c_M_negate l D cI cL m0 ra rb rc a1 a2 a3 a4 a5 a6 a7 a8 a9 b1 b2 c1 c2 d1 d2 d3 z k2 k3, ?_, fun h => absurd h (by decide), hk, rfl, rfl, ?_⟩ <;> (rw [e]) <;> rfl
