/-! The reference: rows of bits: clear, lay, highest (loops by hand, straight rows by program). -/
def bR (N : Nat) : Nat → Int32 := fun j => nI (N / 2 ^ j % 2)
def uL (x : Int64) : Nat := x.toBitVec.toNat
theorem nI_inc (k : Nat) : nI k + Int32.ofInt 1 = nI (k + 1) := by
  rw [nI_succ]
  rfl
theorem nI_dec (k : Nat) : nI (k + 1) + Int32.ofInt (-1) = nI k := by
  rw [nI_succ]
  have : (Int32.ofInt (-1)) = -1 := rfl
  rw [this, ← Int32.sub_eq_add_neg, Int32.add_sub_cancel]
theorem iI_dec (k : Int) : iI k + Int32.ofInt (-1) = iI (k - 1) := by
  show iI k + iI (-1) = _
  rw [iI_add, Int.sub_eq_add_neg]
theorem nI_cl {k : Nat} (h : k < 2200) : (nI k).toNatClampNeg = k := nI_clamp (by omega)
theorem upd_at {f : Nat → Int32} {k : Nat} {x : Int32} (j : Nat) : upd f k x j = if j = k then x else f j := rfl
theorem bR_0 (j : Nat) : bR 0 j = 0 := by
  unfold bR
  simp [nI]
theorem uL_lt (x : Int64) : uL x < 2 ^ 64 := x.toBitVec.isLt
theorem lN_uL (x : Int64) : x = lN (uL x) := wb_inj (by rw [wb_tb]; unfold uL; simp)
theorem uL_lN {n : Nat} (h : n < 2 ^ 64) : uL (lN n) = n := wb_tn h
/-- one more bit, above all that are there -/
theorem z_bitset {X n : Nat} (h : X < 2 ^ n) (j : Nat) : (X + 2 ^ n) / 2 ^ j % 2 = if j = n then 1 else X / 2 ^ j % 2 := by
  rcases Nat.lt_trichotomy j n with g | g | g
  · rw [if_neg (by omega)]
    have e : 2 ^ n = 2 ^ j * (2 ^ (n - j - 1) * 2) := by
      rw [← Nat.pow_succ, ← Nat.pow_add]
      congr 1
      omega
    rw [e, Nat.add_mul_div_left _ _ (z_p j)]
    omega
  · subst g
    rw [if_pos rfl, Nat.add_div_right _ (z_p j), Nat.div_eq_of_lt h]
  · rw [if_neg (by omega)]
    have e : 2 ^ (n + 1) ≤ 2 ^ j := z_pow_le (by omega)
    rw [Nat.pow_succ] at e
    rw [Nat.div_eq_of_lt (by omega), Nat.div_eq_of_lt (by omega)]
abbrev rmM_clear : Room := { frames := 0, cells := 0, slots := 0, locals := 0 }
theorem cwM_clear {R : Room} {s : State} {args : Array Value} {w0 : Cond} {own : String} {idx : Nat} (hts : ∀ w ∈ (w0 :: bigW), w.before args s = true) (hl : Cond.methodLink own idx yM_clear ∈ bigW) (hR : rmM_clear.frames + 1 ≤ R.frames ∧ 8 + (2 + 11) + rmM_clear.locals ≤ R.locals) : CallW R s args own "FloatUnitModel" idx yM_clear cM_clear 2 none (wsM yM_clear cM_clear 2 none) rmM_clear 0 0 0 :=
  cwV 0 hts (big_V hl w_471 sel_M_clear w_2 w_472) rfl rfl rfl ⟨rfl, by decide, by decide, by decide +kernel⟩ hR
set_option maxRecDepth 100000 in
set_option maxHeartbeats 8000000 in
theorem c_M_clear (l : Launch) (D : va_G) (cI cL : ClassId) (m0 ra rb rc : Nat) (md fl er kx ky sx sy px py : Int32) (fx fy : Int64) (pr bi : Int32) (row oth : Nat → Int32) (rg : Nat → Int64) : MoM l D cI cL m0 ra rb rc yM_clear (wsM yM_clear cM_clear 2 none) rmM_clear [] ((md, fl, er, kx, ky, sx, sy, px, py), (fx, fy), (pr, bi), row, oth, rg) none ((md, fl, er, kx, ky, sx, sy, px, py), (fx, fy), (pr, bi), (bR 0), oth, rg) := by
  refine mo_ofV (cc := cM_clear) (maxL := 2) (by decide) rfl (Nat.le_of_ble_eq_true rfl) ?_
  intro p e s m args below meth c Q hx hb hml hown hts H locs hS hw hret ls hl
  have hl : lv_has ls 2 [(0, .ref m0)] := hl
  have loop : ∀ (n k : Nat) (row9 : Nat → Int32) (ls : Array Slot) (H : Heap) (locs : List Loc), k + n = 2200 → lv_has ls 2 [(0, .ref m0), (1, .int (nI k))] → MOw D cI cL m0 ra rb rc ((md, fl, er, kx, ky, sx, sy, px, py), (fx, fy), (pr, bi), row9, oth, rg) s H → va_S (mA m0 ra rb rc) s.heap H locs → (∀ j, j < k → row9 j = 0) → W p l e rmM_clear s m args below meth c H locs 0 0 Q (F0 m 2 ls []) := by
    intro n
    induction n with
    | zero =>
      intro k row9 ls H locs hk hl hw hS hz
      obtain rfl : k = 2200 := by omega
      refine lv_iload_n (pc := 2) hx hb dM_clear_2 rfl (lv_at hl 1 rfl) ?_
      refine lv_aload_n (pc := 3) hx hb dM_clear_3 rfl (lv_at hl 0 rfl) ?_
      refine mo_g_row (pc := 4) hx hb hts hown hw w_356 dM_clear_4 ?_
      refine mo_rn (pc := 7) hx hb hw dM_clear_7 ?_
      refine lv_icmp_ge (tgt := 24) (pc := 8) hx hb dM_clear_8 (by decide) (fun _ => ?_) (fun h => absurd (Int32.le_refl _) h)
      exact hret _ _ _ _ _ rfl (mo_rc hw (fun j hj => by rw [bR_0]; exact hz j hj)) hS dM_clear_24
    | succ n ih =>
      intro k row9 ls H locs hk hl hw hS hz
      refine lv_iload_n (pc := 2) hx hb dM_clear_2 rfl (lv_at hl 1 rfl) ?_
      refine lv_aload_n (pc := 3) hx hb dM_clear_3 rfl (lv_at hl 0 rfl) ?_
      refine mo_g_row (pc := 4) hx hb hts hown hw w_356 dM_clear_4 ?_
      refine mo_rn (pc := 7) hx hb hw dM_clear_7 ?_
      refine lv_icmp_ge (tgt := 24) (pc := 8) hx hb dM_clear_8 (by decide) (fun h => absurd h (nI_ge (by omega) (by decide))) (fun _ => ?_)
      refine lv_aload_n (pc := 11) hx hb dM_clear_11 rfl (lv_at hl 0 rfl) ?_
      refine mo_g_row (pc := 12) hx hb hts hown hw w_356 dM_clear_12 ?_
      refine lv_iload_n (pc := 15) hx hb dM_clear_15 rfl (lv_at hl 1 rfl) ?_
      refine lv_iconst (v := 0) (pc := 16) hx hb dM_clear_16 (by decide) ?_
      refine mo_rs (pc := 17) hx hb hw hS (vp_in_nI (by omega) (by decide)) dM_clear_17 (fun H locs hw hS => ?_)
      refine lv_iinc (k := 1) (v := nI (k + 1)) (lv' := [(1, .int (nI (k + 1))), (0, .ref m0)]) (pc := 18) hx hb dM_clear_18 hl rfl (nI_inc _) (by decide) rfl (fun ls hl => ?_)
      refine lv_goto (tgt := 2) (pc := 21) hx hb dM_clear_21 (by decide) ?_
      refine ih (k + 1) _ ls H locs (by omega) (lv_sub hl [1, 0] rfl) hw hS (fun j hj => ?_)
      rw [nI_cl (by omega), upd_at]
      split
      · rfl
      · exact hz j (by omega)
  refine lv_iconst (v := 0) (pc := 0) hx hb dM_clear_0 (by decide) ?_
  refine lv_istore_n (lv' := [(1, .int 0), (0, .ref m0)]) (pc := 1) hx hb dM_clear_1 rfl hl (by decide) rfl (fun ls hl => ?_)
  exact loop 2200 0 row ls H locs (by omega) (lv_sub hl [1, 0] rfl) hw hS (fun j hj => by omega)
abbrev rmM_lay : Room := { frames := 0, cells := 0, slots := 0, locals := 0 }
theorem cwM_lay {R : Room} {s : State} {args : Array Value} {w0 : Cond} {own : String} {idx : Nat} (hts : ∀ w ∈ (w0 :: bigW), w.before args s = true) (hl : Cond.methodLink own idx yM_lay ∈ bigW) (hR : rmM_lay.frames + 1 ≤ R.frames ∧ 8 + (5 + 11) + rmM_lay.locals ≤ R.locals) : CallW R s args own "FloatUnitModel" idx yM_lay cM_lay 5 none (wsM yM_lay cM_lay 5 none) rmM_lay 0 0 2 :=
  cwV 2 hts (big_V hl w_475 sel_M_lay w_2 w_476) rfl rfl rfl ⟨rfl, by decide, by decide, by decide +kernel⟩ hR
set_option maxRecDepth 100000 in
set_option maxHeartbeats 8000000 in
theorem c_M_lay (l : Launch) (D : va_G) (cI cL : ClassId) (m0 ra rb rc : Nat) (md fl er kx ky sx sy px py : Int32) (fx fy : Int64) (pr bi : Int32) (row oth : Nat → Int32) (rg : Nat → Int64) (x1 : Int64) (k2 : Int32) (h0 : 0 ≤ k2.toInt) (h1 : k2.toInt ≤ 2136) : MoM l D cI cL m0 ra rb rc yM_lay (wsM yM_lay cM_lay 5 none) rmM_lay [.long x1, .int k2] ((md, fl, er, kx, ky, sx, sy, px, py), (fx, fy), (pr, bi), (bR 0), oth, rg) none ((md, fl, er, kx, ky, sx, sy, px, py), (fx, fy), (pr, bi), (bR (uL x1 * 2 ^ k2.toInt.toNat)), oth, rg) := by
  refine mo_ofV (cc := cM_lay) (maxL := 5) (by decide) rfl (Nat.le_of_ble_eq_true rfl) ?_
  intro p e s m args below meth c Q hx hb hml hown hts H locs hS hw hret ls hl
  have hl : lv_has ls 5 [(0, .ref m0), (1, .long x1), (3, .int k2)] := hl
  obtain ⟨a, ha, rfl⟩ : ∃ a : Nat, a ≤ 2136 ∧ k2 = nI a := ⟨k2.toInt.toNat, by omega, by rw [iI_nI, Int.toNat_of_nonneg h0]; exact (Int32.ofInt_toInt k2).symm⟩
  have ea : (nI a).toInt.toNat = a := by rw [nI_toInt (by omega)]; omega
  rw [ea] at hret
  have hp := uL_lt x1
  generalize hpe : uL x1 = q at hp hret
  obtain rfl : x1 = lN q := by rw [← hpe]; exact lN_uL x1
  have loop : ∀ (n k : Nat) (ls : Array Slot) (H : Heap) (locs : List Loc), k + n = 64 → lv_has ls 5 [(0, .ref m0), (1, .long (lN q)), (3, .int (nI a)), (4, .int (nI k))] → MOw D cI cL m0 ra rb rc ((md, fl, er, kx, ky, sx, sy, px, py), (fx, fy), (pr, bi), (bR (q % 2 ^ k * 2 ^ a)), oth, rg) s H → va_S (mA m0 ra rb rc) s.heap H locs → W p l e rmM_lay s m args below meth c H locs 0 0 Q (F0 m 3 ls []) := by
    intro n
    induction n with
    | zero =>
      intro k ls H locs hk hl hw hS
      obtain rfl : k = 64 := by omega
      refine lv_iload (pc := 3) hx hb dM_lay_3 (lv_at hl 3 rfl) ?_
      refine lv_bipush (v := 64) (pc := 5) hx hb dM_lay_5 (by decide) ?_
      refine lv_icmp_ge (tgt := 37) (pc := 7) hx hb dM_lay_7 (by decide) (fun _ => ?_) (fun h => absurd (Int32.le_refl _) h)
      rw [Nat.mod_eq_of_lt hp] at hw
      exact hret _ _ _ _ _ rfl hw hS dM_lay_37
    | succ n ih =>
      intro k ls H locs hk hl hw hS
      refine lv_iload (pc := 3) hx hb dM_lay_3 (lv_at hl 3 rfl) ?_
      refine lv_bipush (v := 64) (pc := 5) hx hb dM_lay_5 (by decide) ?_
      refine lv_icmp_ge (tgt := 37) (pc := 7) hx hb dM_lay_7 (by decide) (fun h => absurd h (nI_ge (b := 64) (by omega) (by decide))) (fun _ => ?_)
      refine lv_lload_n (pc := 10) hx hb dM_lay_10 rfl (lv_at hl 1 rfl) ?_
      refine lv_iload (pc := 11) hx hb dM_lay_11 (lv_at hl 3 rfl) ?_
      refine lv_lushr (v := jUshr (lN q) (nI k)) (pc := 13) hx hb dM_lay_13 rfl ?_
      refine lv_lconst (v := 1) (pc := 14) hx hb dM_lay_14 (by decide) ?_
      refine lv_land (pc := 15) hx hb dM_lay_15 ?_
      refine lv_lconst (v := 1) (pc := 16) hx hb dM_lay_16 (by decide) ?_
      refine W.lcmp (pc := 17) hx hb dM_lay_17 ?_
      have hbit : (jUshr (lN q) (nI k)) &&& 1 = lN (q / 2 ^ k % 2) := wb_bit hp (by omega)
      have hms := z_ms q k
      refine lv_if_ne (tgt := 31) (pc := 18) hx hb dM_lay_18 (by decide) (fun h => ?_) (fun h => ?_)
      · have h : ¬ (jUshr (lN q) (nI k)) &&& 1 = 1 := fun g => h ((lg_cmp_eq _ _).2 g)
        rw [hbit] at h
        have hz : q / 2 ^ k % 2 = 0 := by
          rcases z_2 (q / 2 ^ k) with g | g
          · exact g
          · exact absurd (by rw [g]; rfl) h
        rw [hz, Nat.mul_zero, Nat.add_zero] at hms
        refine lv_iinc (k := 3) (v := nI (k + 1)) (lv' := [(4, .int (nI (k + 1))), (0, .ref m0), (1, .long (lN q)), (3, .int (nI a))]) (pc := 31) hx hb dM_lay_31 hl rfl (nI_inc _) (by decide) rfl (fun ls hl => ?_)
        refine lv_goto (tgt := 3) (pc := 34) hx hb dM_lay_34 (by decide) ?_
        refine ih (k + 1) ls H locs (by omega) (lv_sub hl [1, 2, 3, 0] rfl) ?_ hS
        rw [hms]
        exact hw
      · have h : (jUshr (lN q) (nI k)) &&& 1 = 1 := (lg_cmp_eq _ _).1 h
        rw [hbit] at h
        have hz : q / 2 ^ k % 2 = 1 := by
          rcases z_2 (q / 2 ^ k) with g | g
          · rw [g] at h
            exact absurd h (by decide)
          · exact g
        rw [hz, Nat.mul_one] at hms
        refine lv_aload_n (pc := 21) hx hb dM_lay_21 rfl (lv_at hl 0 rfl) ?_
        refine mo_g_row (pc := 22) hx hb hts hown hw w_356 dM_lay_22 ?_
        refine lv_iload_n (pc := 25) hx hb dM_lay_25 rfl (lv_at hl 2 rfl) ?_
        refine lv_iload (pc := 26) hx hb dM_lay_26 (lv_at hl 3 rfl) ?_
        refine lv_iadd (pc := 28) hx hb dM_lay_28 ?_
        refine lv_iconst (v := 1) (pc := 29) hx hb dM_lay_29 (by decide) ?_
        refine mo_rs (pc := 30) hx hb hw hS (by rw [nI_add]; exact vp_in_nI (by omega) (by decide)) dM_lay_30 (fun H locs hw hS => ?_)
        refine lv_iinc (k := 3) (v := nI (k + 1)) (lv' := [(4, .int (nI (k + 1))), (0, .ref m0), (1, .long (lN q)), (3, .int (nI a))]) (pc := 31) hx hb dM_lay_31 hl rfl (nI_inc _) (by decide) rfl (fun ls hl => ?_)
        refine lv_goto (tgt := 3) (pc := 34) hx hb dM_lay_34 (by decide) ?_
        refine ih (k + 1) ls H locs (by omega) (lv_sub hl [1, 2, 3, 0] rfl) (mo_rc hw (fun j hj => ?_)) hS
        rw [nI_add, nI_cl (by omega), upd_at]
        have hlt : q % 2 ^ k * 2 ^ a < 2 ^ (a + k) := by
          rw [Nat.add_comm, Nat.pow_add]
          exact Nat.mul_lt_mul_of_pos_right (z_mlt q k) (z_p a)
        have e : q % 2 ^ (k + 1) * 2 ^ a = q % 2 ^ k * 2 ^ a + 2 ^ (a + k) := by
          rw [hms, Nat.add_mul, ← Nat.pow_add, Nat.add_comm k a]
        unfold bR
        rw [e, z_bitset hlt]
        split <;> rfl
  have hl : lv_has ls 5 [(0, .ref m0), (1, .long (lN q)), (3, .int (nI a))] := hl
  refine lv_iconst (v := 0) (pc := 0) hx hb dM_lay_0 (by decide) ?_
  refine lv_istore (lv' := [(4, .int 0), (0, .ref m0), (1, .long (lN q)), (3, .int (nI a))]) (pc := 1) hx hb dM_lay_1 hl (by decide) rfl (fun ls hl => ?_)
  exact loop 64 0 ls H locs (by omega) (lv_sub hl [1, 2, 3, 0] rfl) (by rw [Nat.pow_zero, Nat.mod_one, Nat.zero_mul]; exact hw) hS
abbrev rmM_highest : Room := { frames := 0, cells := 0, slots := 0, locals := 0 }
theorem cwM_highest {R : Room} {s : State} {args : Array Value} {w0 : Cond} {own : String} {idx : Nat} (hts : ∀ w ∈ (w0 :: bigW), w.before args s = true) (hl : Cond.methodLink own idx yM_highest ∈ bigW) (hR : rmM_highest.frames + 1 ≤ R.frames ∧ 8 + (2 + 11) + rmM_highest.locals ≤ R.locals) : CallW R s args own "FloatUnitModel" idx yM_highest cM_highest 2 (some .int) (wsM yM_highest cM_highest 2 (some .int)) rmM_highest 0 0 0 :=
  cwV 0 hts (big_V hl w_483 sel_M_highest w_2 w_484) rfl rfl rfl ⟨rfl, by decide, by decide, by decide +kernel⟩ hR
set_option maxRecDepth 100000 in
set_option maxHeartbeats 8000000 in
theorem c_M_highest (l : Launch) (D : va_G) (cI cL : ClassId) (m0 ra rb rc : Nat) (md fl er kx ky sx sy px py : Int32) (fx fy : Int64) (pr bi : Int32) (row oth : Nat → Int32) (rg : Nat → Int64) (N : Nat) (h0 : N ≠ 0) (h1 : N < 2 ^ 2200) : MoM l D cI cL m0 ra rb rc yM_highest (wsM yM_highest cM_highest 2 (some .int)) rmM_highest [] ((md, fl, er, kx, ky, sx, sy, px, py), (fx, fy), (pr, bi), (bR N), oth, rg) (some (.int (nI N.log2))) ((md, fl, er, kx, ky, sx, sy, px, py), (fx, fy), (pr, bi), (bR N), oth, rg) := by
  refine mo_ofI (cc := cM_highest) (maxL := 2) (by decide) rfl (Nat.le_of_ble_eq_true rfl) ?_
  intro p e s m args below meth c Q hx hb hml hown hts H locs hS hw hret ls hl
  have hl : lv_has ls 2 [(0, .ref m0)] := hl
  have hlog := z_log_lt h1 h0
  have loop : ∀ (k : Nat) (ls : Array Slot), k < 2200 → N.log2 ≤ k → lv_has ls 2 [(0, .ref m0), (1, .int (nI k))] → W p l e rmM_highest s m args below meth c H locs 0 0 Q (F0 m 8 ls []) := by
    intro k
    induction k with
    | zero =>
      intro ls hk hN hl
      refine lv_iload_n (pc := 8) hx hb dM_highest_8 rfl (lv_at hl 1 rfl) ?_
      refine lv_if_lt (tgt := 27) (pc := 9) hx hb dM_highest_9 (by decide) (fun h => absurd h (nI_pos (by omega))) (fun _ => ?_)
      refine lv_aload_n (pc := 12) hx hb dM_highest_12 rfl (lv_at hl 0 rfl) ?_
      refine mo_g_row (pc := 13) hx hb hts hown hw w_356 dM_highest_13 ?_
      refine lv_iload_n (pc := 16) hx hb dM_highest_16 rfl (lv_at hl 1 rfl) ?_
      refine mo_rl (pc := 17) hx hb hw (vp_in_nI (by omega) (by decide)) dM_highest_17 ?_
      refine lv_if_ne (tgt := 27) (pc := 18) hx hb dM_highest_18 (by decide) (fun _ => ?_) (fun h => ?_)
      · refine lv_iload_n (pc := 27) hx hb dM_highest_27 rfl (lv_at hl 1 rfl) ?_
        exact hret _ _ _ _ _ _ (by rw [show N.log2 = 0 by omega]) rfl hw hS dM_highest_28
      · exfalso
        rw [nI_cl (by omega)] at h
        have h3 := z_top h0
        rw [show N.log2 = 0 by omega] at h3
        unfold bR at h
        rw [h3] at h
        exact absurd h (by decide)
    | succ k ih =>
      intro ls hk hN hl
      refine lv_iload_n (pc := 8) hx hb dM_highest_8 rfl (lv_at hl 1 rfl) ?_
      refine lv_if_lt (tgt := 27) (pc := 9) hx hb dM_highest_9 (by decide) (fun h => absurd h (nI_pos (by omega))) (fun _ => ?_)
      refine lv_aload_n (pc := 12) hx hb dM_highest_12 rfl (lv_at hl 0 rfl) ?_
      refine mo_g_row (pc := 13) hx hb hts hown hw w_356 dM_highest_13 ?_
      refine lv_iload_n (pc := 16) hx hb dM_highest_16 rfl (lv_at hl 1 rfl) ?_
      refine mo_rl (pc := 17) hx hb hw (vp_in_nI (by omega) (by decide)) dM_highest_17 ?_
      refine lv_if_ne (tgt := 27) (pc := 18) hx hb dM_highest_18 (by decide) (fun h => ?_) (fun h => ?_)
      · have e : N.log2 = k + 1 := by
          rcases Nat.lt_or_ge N.log2 (k + 1) with g | g
          · exfalso
            rw [nI_cl (by omega)] at h
            unfold bR at h
            rw [z_above g] at h
            exact h rfl
          · omega
        refine lv_iload_n (pc := 27) hx hb dM_highest_27 rfl (lv_at hl 1 rfl) ?_
        exact hret _ _ _ _ _ _ (by rw [e]) rfl hw hS dM_highest_28
      · have e : N.log2 ≤ k := by
          rcases Nat.lt_or_ge k N.log2 with g | g
          · exfalso
            rw [nI_cl (by omega)] at h
            have h3 := z_top h0
            rw [show N.log2 = k + 1 by omega] at h3
            unfold bR at h
            rw [h3] at h
            exact absurd h (by decide)
          · exact g
        refine lv_iinc (k := 1) (v := nI k) (lv' := [(1, .int (nI k)), (0, .ref m0)]) (pc := 21) hx hb dM_highest_21 hl rfl (nI_dec _) (by decide) rfl (fun ls hl => ?_)
        refine lv_goto (tgt := 8) (pc := 24) hx hb dM_highest_24 (by decide) ?_
        exact ih ls (by omega) e (lv_sub hl [1, 0] rfl)
  refine lv_aload_n (pc := 0) hx hb dM_highest_0 rfl (lv_at hl 0 rfl) ?_
  refine mo_g_row (pc := 1) hx hb hts hown hw w_356 dM_highest_1 ?_
  refine mo_rn (pc := 4) hx hb hw dM_highest_4 ?_
  refine lv_iconst (v := 1) (pc := 5) hx hb dM_highest_5 (by decide) ?_
  refine lv_isub (pc := 6) hx hb dM_highest_6 ?_
  refine lv_topi (fun v1 e1 => ?_)
  obtain rfl : v1 = nI 2199 := e1.trans (by decide)
  refine lv_istore_n (lv' := [(1, .int (nI 2199)), (0, .ref m0)]) (pc := 7) hx hb dM_highest_7 rfl hl (by decide) rfl (fun ls hl => ?_)
  exact loop 2199 ls (by omega) (by omega) (lv_sub hl [1, 0] rfl)
