/-! compare, its end. -/
def c282 (u7 u9 : Int32) : Int32 := if u9 = 0 then 0 else if u9 ≤ 0 then (if u7 ≤ 0 then 1 else -1) else (if u7 ≤ 0 then -1 else 1)
def cT (u7 u8 c : Int32) : Int32 := if u7 = u8 then (if u7 = 0 then 0 else c282 u7 c) else if u8 ≤ u7 then 1 else -1
theorem cmp_282 (er kx ky sx sy px py : Int32) (fx fy : Int64) (pr bi u7 u9 : Int32) : (C_M_compare_282 er kx ky sx sy px py fx fy pr bi u7 u9).1 = c282 u7 u9 ∧ (C_M_compare_282 er kx ky sx sy px py fx fy pr bi u7 u9).2.1 = er := by
  rw [C_M_compare_282, c282]
  split
  · exact ⟨rfl, rfl⟩
  · split <;> split <;> exact ⟨rfl, rfl⟩
theorem dX_le {i : Nat} (hi : i < 2) (n : Nat) : dX i n ≤ 4000 := by
  have h := dE_b hi n
  rw [dE_X] at h
  unfold lo9 at h
  omega
theorem cmp_fuel {i : Nat} (hi : i < 2) : (nI (zB i)).toInt - ((1 - nI (zB i)) - (nI (zP i) - 1)).toInt + 1 = ((zP i + 2 * zB i - 1 : Nat) : Int) ∧ (1 - nI (zB i)) - (nI (zP i) - 1) = iI (lo9 i) ∧ nI (zB i) = iI (lo9 i + ((zP i + 2 * zB i - 1 : Nat) : Int) - 1) := by
  rcases i01 hi with rfl | rfl <;> decide +kernel
theorem cmp_154 {i n1 n2 : Nat} (hi : i < 2) (h1 : dM i n1 ≤ zI i) (h2 : dM i n2 ≤ zI i) (sx sy u7 u8 : Int32) :
    (C_M_compare_154 0 (nI (dK i n1)) (nI (dK i n2)) sx sy (iI (dE i n1)) (iI (dE i n2)) (lN (dP i n1)) (lN (dP i n2)) (nI (zP i)) (nI (zB i)) u7 u8).1 = cT u7 u8 (sg9 (dM i n1) (dM i n2)) ∧ (C_M_compare_154 0 (nI (dK i n1)) (nI (dK i n2)) sx sy (iI (dE i n1)) (iI (dE i n2)) (lN (dP i n1)) (lN (dP i n2)) (nI (zP i)) (nI (zB i)) u7 u8).2.1 = 0 := by
  rw [C_M_compare_154, cT]
  by_cases hu : u7 = u8
  · rw [if_pos hu, if_pos hu]
    by_cases h0 : u7 = 0
    · rw [if_pos h0, if_pos h0]; exact ⟨rfl, rfl⟩
    · rw [if_neg h0, if_neg h0]
      rcases dK_cases i n1 with ⟨g1, e1⟩ | ⟨g1, e1⟩ | ⟨g1, e1⟩
      · omega
      · rw [e1, if_pos (by decide)]
        rcases dK_cases i n2 with ⟨g2, e2⟩ | ⟨g2, e2⟩ | ⟨g2, e2⟩
        · omega
        · rw [e2, show sg9 (dM i n1) (dM i n2) = nI 1 - nI 1 from by unfold sg9; rw [if_pos (by omega)]; decide]
          exact cmp_282 _ _ _ _ _ _ _ _ _ _ _ _ _
        · rw [e2, show sg9 (dM i n1) (dM i n2) = nI 2 - nI 1 from by unfold sg9; rw [if_neg (by omega), if_pos (by omega)]; decide]
          exact cmp_282 _ _ _ _ _ _ _ _ _ _ _ _ _
      · rw [e1, if_neg (by decide)]
        rcases dK_cases i n2 with ⟨g2, e2⟩ | ⟨g2, e2⟩ | ⟨g2, e2⟩
        · omega
        · rw [e2, if_pos (by decide), show sg9 (dM i n1) (dM i n2) = nI 1 - nI 2 from by unfold sg9; rw [if_neg (by omega), if_neg (by omega)]; decide]
          exact cmp_282 _ _ _ _ _ _ _ _ _ _ _ _ _
        · rw [e2, if_neg (by decide)]
          obtain ⟨q1, q2, q3⟩ := cmp_fuel hi
          rw [q1, Int.toNat_natCast, dE_X, dE_X]
          have hlo : -5000 ≤ lo9 i ∧ lo9 i ≤ 0 := by rcases i01 hi with rfl | rfl <;> decide
          have hT : zP i + 2 * zB i - 1 ≤ 8000 := by rcases i01 hi with rfl | rfl <;> decide
          have hl := cmp_loop 0 (nI 2) (nI 2) sx sy (dP_lt hi n1) (dP_lt hi n2) (dX_le hi n1) (dX_le hi n2) hlo q2 u7 (zP i + 2 * zB i - 1) (zP i + 2 * zB i - 1) (Nat.le_refl _) hT
          rw [← q3, dPX, dPX, Nat.mod_eq_of_lt (vM_bound hi g1), Nat.mod_eq_of_lt (vM_bound hi g2), vM_sg] at hl
          rw [hl]
          exact cmp_282 _ _ _ _ _ _ _ _ _ _ _ _ _
  · rw [if_neg hu, if_neg hu]
    split <;> exact ⟨rfl, rfl⟩
def u9 (i n : Nat) : Int32 := if dM i n = 0 then 0 else if dS i n = 1 then -1 else 1
theorem cmp_82 {i n1 n2 : Nat} (hi : i < 2) (h1 : dM i n1 ≤ zI i) (h2 : dM i n2 ≤ zI i) (v5 : Bool) (hv : v5 = decide (dM i n1 = 0)) :
    (C_M_compare_82 0 (nI (dK i n1)) (nI (dK i n2)) (nI (dS i n1)) (nI (dS i n2)) (iI (dE i n1)) (iI (dE i n2)) (lN (dP i n1)) (lN (dP i n2)) (nI (zP i)) (nI (zB i)) v5).1 = cT (u9 i n1) (u9 i n2) (sg9 (dM i n1) (dM i n2)) ∧ (C_M_compare_82 0 (nI (dK i n1)) (nI (dK i n2)) (nI (dS i n1)) (nI (dS i n2)) (iI (dE i n1)) (iI (dE i n2)) (lN (dP i n1)) (lN (dP i n2)) (nI (zP i)) (nI (zB i)) v5).2.1 = 0 := by
  have hzl := zL_lt hi
  have hzp := zL_pos i
  have s130 : ∀ (v6 : Bool) (u7 : Int32), v6 = decide (dM i n2 = 0) → C_M_compare_130 0 (nI (dK i n1)) (nI (dK i n2)) (nI (dS i n1)) (nI (dS i n2)) (iI (dE i n1)) (iI (dE i n2)) (lN (dP i n1)) (lN (dP i n2)) (nI (zP i)) (nI (zB i)) v6 u7 = C_M_compare_154 0 (nI (dK i n1)) (nI (dK i n2)) (nI (dS i n1)) (nI (dS i n2)) (iI (dE i n1)) (iI (dE i n2)) (lN (dP i n1)) (lN (dP i n2)) (nI (zP i)) (nI (zB i)) u7 (u9 i n2) := by
    intro v6 u7 hv6
    rw [C_M_compare_130, hv6, u9]
    by_cases g : dM i n2 = 0
    · rw [decide_eq_true g, if_neg (by decide), if_pos g]
    · rw [decide_eq_false g, if_pos rfl, if_neg g]
      rcases dS_01 i n2 with q | q <;> rw [q]
      · rw [if_neg (by decide), if_neg (by decide)]
      · rw [if_pos (by decide), if_pos rfl]
  have s106 : ∀ v6 : Bool, v6 = decide (dM i n2 = 0) → C_M_compare_106 0 (nI (dK i n1)) (nI (dK i n2)) (nI (dS i n1)) (nI (dS i n2)) (iI (dE i n1)) (iI (dE i n2)) (lN (dP i n1)) (lN (dP i n2)) (nI (zP i)) (nI (zB i)) v5 v6 = C_M_compare_154 0 (nI (dK i n1)) (nI (dK i n2)) (nI (dS i n1)) (nI (dS i n2)) (iI (dE i n1)) (iI (dE i n2)) (lN (dP i n1)) (lN (dP i n2)) (nI (zP i)) (nI (zB i)) (u9 i n1) (u9 i n2) := by
    intro v6 hv6
    rw [C_M_compare_106, hv, s130 v6 _ hv6, s130 v6 _ hv6, s130 v6 _ hv6]
    by_cases g : dM i n1 = 0
    · rw [decide_eq_true g, if_neg (by decide), show u9 i n1 = 0 from if_pos g]
    · rw [decide_eq_false g, if_pos rfl]
      rcases dS_01 i n1 with q | q
      · rw [q, if_neg (by decide), show u9 i n1 = 1 from (if_neg g).trans (if_neg (by rw [q]; decide))]
      · rw [q, if_pos (by decide), show u9 i n1 = -1 from (if_neg g).trans (if_pos q)]
  have hp63 : dP i n2 < 2 ^ 63 := Nat.lt_trans (dP_lt hi n2) (by decide)
  have fin := cmp_154 hi h1 h2 (nI (dS i n1)) (nI (dS i n2)) (u9 i n1) (u9 i n2)
  rw [C_M_compare_82]
  by_cases g : dM i n2 = 0
  · have hk2 : dK i n2 = 2 := by
      rcases dK_cases i n2 with ⟨a, b⟩ | ⟨a, b⟩ | ⟨a, b⟩ <;> omega
    rw [if_pos (by rw [hk2]; decide), if_pos ((lN_e0 hp63).2 ((dP_0 n2).2 g)), s106 true (decide_eq_true g).symm]
    exact fin
  · have e1 : ∀ x : Bool, (if lN (dP i n2) = 0 then C_M_compare_106 0 (nI (dK i n1)) (nI (dK i n2)) (nI (dS i n1)) (nI (dS i n2)) (iI (dE i n1)) (iI (dE i n2)) (lN (dP i n1)) (lN (dP i n2)) (nI (zP i)) (nI (zB i)) v5 true else C_M_compare_106 0 (nI (dK i n1)) (nI (dK i n2)) (nI (dS i n1)) (nI (dS i n2)) (iI (dE i n1)) (iI (dE i n2)) (lN (dP i n1)) (lN (dP i n2)) (nI (zP i)) (nI (zB i)) v5 false) = C_M_compare_106 0 (nI (dK i n1)) (nI (dK i n2)) (nI (dS i n1)) (nI (dS i n2)) (iI (dE i n1)) (iI (dE i n2)) (lN (dP i n1)) (lN (dP i n2)) (nI (zP i)) (nI (zB i)) v5 false := fun _ => if_neg (fun q => g ((dP_0 n2).1 ((lN_e0 hp63).1 q)))
    rw [e1 true, ite_self, s106 false (decide_eq_false g).symm]
    exact fin
theorem cT_eq (a b s1 s2 : Nat) (h1 : s1 = 0 ∨ s1 = 1) (h2 : s2 = 0 ∨ s2 = 1) : (if (if s1 = 1 then -(a : Int) else (a : Int)) = (if s2 = 1 then -(b : Int) else (b : Int)) then (0 : Int32) else if (if s2 = 1 then -(b : Int) else (b : Int)) ≤ (if s1 = 1 then -(a : Int) else (a : Int)) then 1 else (-1)) = cT (if a = 0 then 0 else if s1 = 1 then -1 else 1) (if b = 0 then 0 else if s2 = 1 then -1 else 1) (sg9 a b) := by
  have hs : (a < b ∧ sg9 a b = -1) ∨ (a = b ∧ sg9 a b = 0) ∨ (b < a ∧ sg9 a b = 1) := by
    unfold sg9
    rcases Nat.lt_trichotomy a b with t | t | t
    · exact Or.inl ⟨t, by rw [if_neg (by omega), if_neg (by omega)]⟩
    · exact Or.inr (Or.inl ⟨t, if_pos t⟩)
    · exact Or.inr (Or.inr ⟨t, by rw [if_neg (by omega), if_pos t]⟩)
  have hu : ∀ x q : Nat, (q = 0 ∨ q = 1) → (x = 0 ∧ (if x = 0 then (0 : Int32) else if q = 1 then -1 else 1) = 0) ∨ (0 < x ∧ q = 1 ∧ (if x = 0 then (0 : Int32) else if q = 1 then -1 else 1) = -1) ∨ (0 < x ∧ q = 0 ∧ (if x = 0 then (0 : Int32) else if q = 1 then -1 else 1) = 1) := by
    intro x q hq
    by_cases g : x = 0
    · exact Or.inl ⟨g, if_pos g⟩
    · rcases hq with r | r
      · exact Or.inr (Or.inr ⟨by omega, r, by rw [if_neg g, if_neg (by omega)]⟩)
      · exact Or.inr (Or.inl ⟨by omega, r, by rw [if_neg g, if_pos r]⟩)
  have hr : ∀ x q : Nat, (q = 0 ∨ q = 1) → (q = 1 ∧ (if q = 1 then -(x : Int) else (x : Int)) = -(x : Int)) ∨ (q = 0 ∧ (if q = 1 then -(x : Int) else (x : Int)) = (x : Int)) := by
    intro x q hq
    rcases hq with r | r
    · exact Or.inr ⟨r, if_neg (by omega)⟩
    · exact Or.inl ⟨r, if_pos r⟩
  have a1 := hu a s1 h1
  have a2 := hu b s2 h2
  have a3 := hr a s1 h1
  have a4 := hr b s2 h2
  generalize (if a = 0 then (0 : Int32) else if s1 = 1 then -1 else 1) = ua at *
  generalize (if b = 0 then (0 : Int32) else if s2 = 1 then -1 else 1) = ub at *
  generalize (if s1 = 1 then -(a : Int) else (a : Int)) = ra at *
  generalize (if s2 = 1 then -(b : Int) else (b : Int)) = rb at *
  generalize sg9 a b = c at *
  rcases hs with ⟨t, rfl⟩ | ⟨t, rfl⟩ | ⟨t, rfl⟩ <;> rcases a1 with ⟨b1, rfl⟩ | ⟨b1, c1, rfl⟩ | ⟨b1, c1, rfl⟩ <;> rcases a2 with ⟨b2, rfl⟩ | ⟨b2, c2, rfl⟩ | ⟨b2, c2, rfl⟩ <;> rcases a3 with ⟨b3, rfl⟩ | ⟨b3, rfl⟩ <;> rcases a4 with ⟨b4, rfl⟩ | ⟨b4, rfl⟩ <;> first | (exfalso; omega) | (rw [if_pos (by omega)]; decide) | (rw [if_neg (by omega), if_pos (by omega)]; decide) | (rw [if_neg (by omega), if_neg (by omega)]; decide)
theorem cmp_eq {md fl kx ky sx sy px py : Int32} {fx fy : Int64} {pr bi : Int32} {rg : Nat → Int64} {z : Bool} {k2 k3 k4 : Int32} (h2 : vp_in k2 16) (h3 : vp_in k3 16) : (C_M_compare kx ky sx sy px py fx fy pr bi rg z k2 k3 k4).1 = C_U_compare md fl rg z k2 k3 k4 ∧ (C_M_compare kx ky sx sy px py fx fy pr bi rg z k2 k3 k4).2.1 = 0 := by
  rw [C_M_compare, if_neg (by rw [in15.2 h2]; decide), if_neg (by rw [in15.2 h3]; decide), C_M_takeBoth, take_spec, take_spec, fmt_P, fmt_B]
  dsimp only
  generalize hn1 : uL (rg k2.toNatClampNeg) = n1
  generalize hn2 : uL (rg k3.toNatClampNeg) = n2
  have hx1 : rg k2.toNatClampNeg = lN n1 := by rw [← hn1]; exact lN_uL _
  have hx2 : rg k3.toNatClampNeg = lN n2 := by rw [← hn2]; exact lN_uL _
  have h641 : n1 < 2 ^ 64 := by rw [← hn1]; exact uL_64 _
  have h642 : n2 < 2 ^ 64 := by rw [← hn2]; exact uL_64 _
  have hi := fi_lt z
  rw [C_U_compare, hx1, hx2, show C_U_format z = fi z from rfl, F_isNone hi h641, F_isNone hi h642]
  have e1 : (C_F_rank (fi z) (lN n1) = C_F_rank (fi z) (lN n2)) ↔ rk (fi z) n1 = rk (fi z) n2 := by rw [← Int64.toInt_inj, F_rank hi h641, F_rank hi h642]
  have e2 : (C_F_rank (fi z) (lN n2) ≤ C_F_rank (fi z) (lN n1)) ↔ rk (fi z) n2 ≤ rk (fi z) n1 := by rw [Int64.le_iff_toInt_le, F_rank hi h641, F_rank hi h642]
  have e3 : (if C_F_rank (fi z) (lN n1) = C_F_rank (fi z) (lN n2) then (0 : Int32) else if C_F_rank (fi z) (lN n2) ≤ C_F_rank (fi z) (lN n1) then 1 else (-1)) = cT (u9 (fi z) n1) (u9 (fi z) n2) (sg9 (dM (fi z) n1) (dM (fi z) n2)) := by
    have hr : (if C_F_rank (fi z) (lN n1) = C_F_rank (fi z) (lN n2) then (0 : Int32) else if C_F_rank (fi z) (lN n2) ≤ C_F_rank (fi z) (lN n1) then 1 else (-1)) = (if rk (fi z) n1 = rk (fi z) n2 then (0 : Int32) else if rk (fi z) n2 ≤ rk (fi z) n1 then 1 else (-1)) := by simp only [e1, e2]
    rw [hr]
    exact cT_eq _ _ _ _ (dS_01 _ _) (dS_01 _ _)
  rw [e3]
  have hzl := zL_lt hi
  have hp63 : dP (fi z) n1 < 2 ^ 63 := Nat.lt_trans (dP_lt hi n1) (by decide)
  by_cases g1 : zI (fi z) < dM (fi z) n1
  · have e : dK (fi z) n1 = 0 := if_pos g1
    rw [if_pos (show nI (dK (fi z) n1) = 0 by rw [e]; rfl), decide_eq_true g1, if_neg (by decide)]
    exact ⟨rfl, rfl⟩
  · have e : ¬ nI (dK (fi z) n1) = 0 := by
      rcases dK_cases (fi z) n1 with ⟨p, q⟩ | ⟨p, q⟩ | ⟨p, q⟩
      · omega
      · rw [q]; decide
      · rw [q]; decide
    rw [if_neg e, decide_eq_false g1, if_pos rfl]
    by_cases g2 : zI (fi z) < dM (fi z) n2
    · have e : dK (fi z) n2 = 0 := if_pos g2
      rw [if_pos (show nI (dK (fi z) n2) = 0 by rw [e]; rfl), decide_eq_true g2, if_neg (by decide)]
      exact ⟨rfl, rfl⟩
    · have e : ¬ nI (dK (fi z) n2) = 0 := by
        rcases dK_cases (fi z) n2 with ⟨p, q⟩ | ⟨p, q⟩ | ⟨p, q⟩
        · omega
        · rw [q]; decide
        · rw [q]; decide
      rw [if_neg e, decide_eq_false g2, if_pos rfl, show bI false = 0 from rfl]
      by_cases g3 : dM (fi z) n1 = 0
      · have hk2 : dK (fi z) n1 = 2 := by
          have := zL_pos (fi z)
          rcases dK_cases (fi z) n1 with ⟨a, b⟩ | ⟨a, b⟩ | ⟨a, b⟩ <;> omega
        rw [if_pos (show nI (dK (fi z) n1) = 2 by rw [hk2]; decide), if_pos ((lN_e0 hp63).2 ((dP_0 n1).2 g3))]
        exact cmp_82 hi (by omega) (by omega) true (decide_eq_true g3).symm
      · rw [if_neg (show ¬ lN (dP (fi z) n1) = 0 from fun q => g3 ((dP_0 n1).1 ((lN_e0 hp63).1 q))), ite_self]
        exact cmp_82 hi (by omega) (by omega) false (decide_eq_false g3).symm
theorem pr_compare (l : Launch) (hlt : l.stackTraces = false) : PR_compare l := by
  intro z k2 k3 k4 ad D cA cI cL h0 r0 o0 m0 ra rb rc md fl rg f S hk hc
  obtain ⟨⟨a1, a2, a3, a4, a5, a6, a7, a8, a9⟩, ⟨b1, b2⟩, ⟨c1, c2⟩, d1, d2, d3⟩ := S
  obtain ⟨rfl, rfl, rfl⟩ : a1 = md ∧ a2 = fl ∧ d3 = rg := hc
  by_cases hv : vp_in k2 16 ∧ vp_in k3 16
  · have e := cmp_eq (md := a1) (fl := a2) (kx := a4) (ky := a5) (sx := a6) (sy := a7) (px := a8) (py := a9) (fx := b1) (fy := b2) (pr := c1) (bi := c2) (rg := d3) (z := z) (k4 := k4) hv.1 hv.2
    exact ⟨0, a1, a2, d3, _, _, _, c_L_compare l ad D cA h0 r0 o0 a1 a2 d3 f z k2 k3 k4 hv.1 hv.2, c_M_compare l D cI cL m0 ra rb rc a1 a2 a3 a4 a5 a6 a7 a8 a9 b1 b2 c1 c2 d1 d2 d3 z k2 k3 k4, e.2, fun _ => by rw [upd0, e.1], hk, rfl, rfl, rfl⟩
  · have e : (C_M_compare a4 a5 a6 a7 a8 a9 b1 b2 c1 c2 d3 z k2 k3 k4).2.1 = 1 := by
      rw [C_M_compare]
      by_cases h2 : vp_in k2 16
      · rw [if_neg (by rw [in15.2 h2]; decide), if_pos (in15f (fun h3 => hv ⟨h2, h3⟩))]; rfl
      · rw [if_pos (in15f h2)]; rfl
    exact ⟨1, a1, a2, d3, f, _, _, t_L_compare l ad D cA h0 r0 o0 a1 a2 d3 f z k2 k3 k4 hlt hv, c_M_compare l D cI cL m0 ra rb rc a1 a2 a3 a4 a5 a6 a7 a8 a9 b1 b2 c1 c2 d1 d2 d3 z k2 k3 k4, e, fun h => absurd h (by decide), hk, rfl, rfl, rfl⟩
