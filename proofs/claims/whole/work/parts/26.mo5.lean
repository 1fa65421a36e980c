/-! The reference: product, quotient (loops by hand, the rest by program). -/
theorem pf_lI {a : Nat} (h : a < 2 ^ 63) : (lN a).toInt = (a : Int) := lg_ofNat_toInt h
theorem pf_shr {a d : Nat} {D : Int64} (hD : (D.toBitVec.smod 64).toNat = d) (h : a < 2 ^ 62) : lN a >>> D = lN (a / 2 ^ d) := by
  have hd : a / 2 ^ d ≤ a := Nat.div_le_self _ _
  apply Int64.toInt_inj.mp
  have e : (lN a >>> D).toInt = (lN a).toInt >>> d := by
    rw [← hD]
    exact BitVec.toInt_sshiftRight ..
  rw [e, Int.shiftRight_eq_div_pow, pf_lI (by omega), pf_lI (by omega)]
  rfl
theorem jShr_lN {a k : Nat} (ha : a < 2 ^ 62) (hk : k < 64) : jShr (lN a) (nI k) = lN (a / 2 ^ k) := by
  unfold jShr
  refine pf_shr ?_ ha
  rw [wb_c k hk, wb_tb, wb_sm k hk, BitVec.toNat_ofNat, Nat.mod_eq_of_lt (by omega)]
theorem bit_lN {a k : Nat} (ha : a < 2 ^ 53) (hk : k < 64) : jShr (lN a) (nI k) &&& 1 = lN (a / 2 ^ k % 2) := by
  have p : 2 ^ 53 < 2 ^ 62 := by decide
  have hd := Nat.div_le_self a (2 ^ k)
  rw [jShr_lN (by omega) hk, wb_a1 (by omega)]
theorem lN_bit {N k : Nat} : lN (N / 2 ^ k % 2) = 1 ↔ N / 2 ^ k % 2 = 1 := by
  rcases z_2 (N / 2 ^ k) with g | g <;> rw [g] <;> decide
theorem z_shl_bit (a j k : Nat) : a * 2 ^ j / 2 ^ (j + k) % 2 = a / 2 ^ k % 2 := by
  rw [Nat.pow_add, ← Nat.div_div_eq_div_mul, Nat.mul_div_cancel _ (z_p j)]
theorem z_shl_lo {a j i : Nat} (h : i ≤ j) : a * 2 ^ j % 2 ^ i = 0 := by
  rw [show j = (j - i) + i by omega, Nat.pow_add, ← Nat.mul_assoc, Nat.mul_mod_left]
theorem z_add_lo {N a j i : Nat} (h : i < j) : (N + a * 2 ^ j) / 2 ^ i % 2 = N / 2 ^ i % 2 := by
  have h1 : a * 2 ^ j / 2 ^ i % 2 = 0 := by
    have := z_shl_lo (a := a) (show i + 1 ≤ j by omega)
    rw [z_ms] at this
    have hp := z_p i
    rcases z_2 (a * 2 ^ j / 2 ^ i) with g | g
    · exact g
    · rw [g] at this
      omega
  have h2 : (N % 2 ^ i + a * 2 ^ j % 2 ^ i) / 2 ^ i = 0 := by
    rw [z_shl_lo (by omega), Nat.add_zero]
    exact Nat.div_eq_of_lt (z_mlt N i)
  rw [z_add_bit, h1, h2, Nat.add_zero, Nat.mod_mod]
def C_M_product_99 (md fl9 px py : Int32) (fx fy : Int64) (pr bi u1 : Int32) : Int64 × Int32 × (Nat → Int32) :=
  ((C_M_rounded md fl9 pr bi u1 (px + py) false (uL fx * uL fy)).1, (C_M_rounded md fl9 pr bi u1 (px + py) false (uL fx * uL fy)).2, bR (uL fx * uL fy))
theorem z_divc (A b n : Nat) : A / b / 2 ^ n = A / 2 ^ n / b := by rw [Nat.div_div_eq_div_mul, Nat.div_div_eq_div_mul, Nat.mul_comm]
def zAb (a k : Nat) : Nat := if 120 ≤ k then a / 2 ^ (k - 120) % 2 else 0
theorem z_A120 (a k : Nat) : a * 2 ^ 120 / 2 ^ k % 2 = zAb a k := by
  unfold zAb
  by_cases h : 120 ≤ k
  · rw [if_pos h, show k = 120 + (k - 120) by omega, z_shl_bit, show 120 + (k - 120) - 120 = k - 120 by omega]
  · rw [if_neg h]
    have h3 := z_shl_lo (a := a) (show k + 1 ≤ 120 by omega)
    rw [z_ms] at h3
    have hp := z_p k
    rcases z_2 (a * 2 ^ 120 / 2 ^ k) with g | g
    · exact g
    · rw [g] at h3
      omega
theorem zAb_lt (a k : Nat) : zAb a k < 2 := by
  rw [← z_A120]
  exact z_b2 _ _
/-- a step of the division, bit by bit -/
theorem z_divstep {A b n : Nat} (hb : 0 < b) : A / 2 ^ n % b = (if 2 * (A / 2 ^ (n + 1) % b) + A / 2 ^ n % 2 < b then 2 * (A / 2 ^ (n + 1) % b) + A / 2 ^ n % 2 else 2 * (A / 2 ^ (n + 1) % b) + A / 2 ^ n % 2 - b) ∧ A / b / 2 ^ n % 2 = (if 2 * (A / 2 ^ (n + 1) % b) + A / 2 ^ n % 2 < b then 0 else 1) := by
  rw [z_divc, z_ds]
  generalize A / 2 ^ n = T
  have h1 := Nat.div_add_mod (T / 2) b
  have h2 := Nat.mod_lt (T / 2) hb
  generalize T / 2 / b = q at h1
  generalize T / 2 % b = r at h1 h2
  have hT : T = 2 * r + T % 2 + b * (2 * q) := by
    have : b * (2 * q) = 2 * (b * q) := Nat.mul_left_comm _ _ _
    omega
  have he2 : T % 2 < 2 := Nat.mod_lt _ (by decide)
  generalize T % 2 = e at hT he2 ⊢
  by_cases g : 2 * r + e < b
  · rw [if_pos g, if_pos g, hT, Nat.add_mul_mod_self_left, Nat.add_mul_div_left _ _ hb, Nat.mod_eq_of_lt g, Nat.div_eq_of_lt g]
    omega
  · rw [if_neg g, if_neg g]
    have e1 : T = (2 * r + e - b) + b * (2 * q + 1) := by
      rw [Nat.mul_add, Nat.mul_one]
      omega
    by_cases g2 : 2 * r + e - b < b
    · rw [e1, Nat.add_mul_mod_self_left, Nat.add_mul_div_left _ _ hb, Nat.mod_eq_of_lt g2, Nat.div_eq_of_lt g2]
      omega
    · exfalso
      omega
def C_M_quotient_112 (md fl9 px py : Int32) (fx fy : Int64) (pr bi u1 : Int32) : Int64 × Int32 × (Nat → Int32) :=
  ((C_M_rounded md fl9 pr bi u1 ((px - py) - 120) (decide (uL fx * 2 ^ 120 % uL fy ≠ 0)) (uL fx * 2 ^ 120 / uL fy)).1, (C_M_rounded md fl9 pr bi u1 ((px - py) - 120) (decide (uL fx * 2 ^ 120 % uL fy ≠ 0)) (uL fx * 2 ^ 120 / uL fy)).2, bR (uL fx * 2 ^ 120 / uL fy))
def C_M_product (md : Int32) (fl : Int32) (kx : Int32) (ky : Int32) (sx : Int32) (sy : Int32) (px : Int32) (py : Int32) (fx : Int64) (fy : Int64) (pr : Int32) (bi : Int32) (row : Nat → Int32) : Int64 × Int32 × (Nat → Int32) :=
  if kx = 1 then
    if kx = 2 then
      if fx = 0 then
        ((C_M_invalid fl pr bi).1, (C_M_invalid fl pr bi).2, row)
      else
        if ky = 2 then
          if fy = 0 then
            ((C_M_invalid fl pr bi).1, (C_M_invalid fl pr bi).2, row)
          else
            (C_M_endless pr bi (sx ^^^ sy), fl, row)
        else
          (C_M_endless pr bi (sx ^^^ sy), fl, row)
    else
      if ky = 2 then
        if fy = 0 then
          ((C_M_invalid fl pr bi).1, (C_M_invalid fl pr bi).2, row)
        else
          (C_M_endless pr bi (sx ^^^ sy), fl, row)
      else
        (C_M_endless pr bi (sx ^^^ sy), fl, row)
  else
    if ky = 1 then
      if kx = 2 then
        if fx = 0 then
          ((C_M_invalid fl pr bi).1, (C_M_invalid fl pr bi).2, row)
        else
          if ky = 2 then
            if fy = 0 then
              ((C_M_invalid fl pr bi).1, (C_M_invalid fl pr bi).2, row)
            else
              (C_M_endless pr bi (sx ^^^ sy), fl, row)
          else
            (C_M_endless pr bi (sx ^^^ sy), fl, row)
      else
        if ky = 2 then
          if fy = 0 then
            ((C_M_invalid fl pr bi).1, (C_M_invalid fl pr bi).2, row)
          else
            (C_M_endless pr bi (sx ^^^ sy), fl, row)
        else
          (C_M_endless pr bi (sx ^^^ sy), fl, row)
    else
      if fx = 0 then
        (C_M_made pr (sx ^^^ sy) 0 0, fl, row)
      else
        if fy = 0 then
          (C_M_made pr (sx ^^^ sy) 0 0, fl, row)
        else
          C_M_product_99 md fl px py fx fy pr bi (sx ^^^ sy)
abbrev rmM_product : Room := { frames := 3, cells := 0, slots := 0, locals := 81 }
theorem cwM_product {R : Room} {s : State} {args : Array Value} {w0 : Cond} {own : String} {idx : Nat} (hts : ∀ w ∈ (w0 :: bigW), w.before args s = true) (hl : Cond.methodLink own idx yM_product ∈ bigW) (hR : rmM_product.frames + 1 ≤ R.frames ∧ 8 + (6 + 11) + rmM_product.locals ≤ R.locals) : CallW R s args own "FloatUnitModel" idx yM_product cM_product 6 (some .long) (wsM yM_product cM_product 6 (some .long)) rmM_product 0 0 0 :=
  cwV 0 hts (big_V hl w_488 sel_M_product w_2 w_489) rfl rfl rfl ⟨rfl, by decide, by decide, by decide +kernel⟩ hR
set_option maxRecDepth 100000 in
set_option maxHeartbeats 8000000 in
theorem c_M_product (l : Launch) (D : va_G) (cI cL : ClassId) (m0 ra rb rc : Nat) (md fl er kx ky sx sy px py : Int32) (fx fy : Int64) (pr bi : Int32) (row oth : Nat → Int32) (rg : Nat → Int64) (hfx : uL fx < 2 ^ 53) (hfy : uL fy < 2 ^ 53) (hpr : 1 ≤ pr.toInt ∧ pr.toInt ≤ 64) (hbi : 0 ≤ bi.toInt ∧ bi.toInt ≤ 1023) (hkk : -5000 ≤ (px + py).toInt ∧ (px + py).toInt ≤ 5000) : MoM l D cI cL m0 ra rb rc yM_product (wsM yM_product cM_product 6 (some .long)) rmM_product [] ((md, fl, er, kx, ky, sx, sy, px, py), (fx, fy), (pr, bi), row, oth, rg) (some (.long ((C_M_product md fl kx ky sx sy px py fx fy pr bi row).1))) ((md, ((C_M_product md fl kx ky sx sy px py fx fy pr bi row).2.1), er, kx, ky, sx, sy, px, py), (fx, fy), (pr, bi), ((C_M_product md fl kx ky sx sy px py fx fy pr bi row).2.2), oth, rg) := by
  refine mo_ofL (cc := cM_product) (maxL := 6) (by decide) rfl (Nat.le_of_ble_eq_true rfl) ?_
  intro p e s m args below meth c Q hx hb hml hown hts H locs hS hw hret ls hl
  have hl : lv_has ls 6 [(0, .ref m0)] := hl
  have J99 : ∀ (u1 : Int32) (ls : Array Slot), ¬ fx = 0 → ¬ fy = 0 → lv_has ls 6 [(0, .ref m0), (1, .int u1)] → MOw D cI cL m0 ra rb rc ((md, fl, er, kx, ky, sx, sy, px, py), (fx, fy), (pr, bi), row, oth, rg) s H → va_S (mA m0 ra rb rc) s.heap H locs → C_M_product_99 md fl px py fx fy pr bi u1 = C_M_product md fl kx ky sx sy px py fx fy pr bi row → W p l e rmM_product s m args below meth c H locs 0 0 Q (F0 m 99 ls []) := by
    intro u1 ls hnx hny hl hw hS he
    unfold C_M_product_99 at he
    have hax : fx = lN (uL fx) := lN_uL fx
    have hay : fy = lN (uL fy) := lN_uL fy
    have hx0 : uL fx ≠ 0 := fun q => hnx (by rw [hax, q]; rfl)
    have hy0 : uL fy ≠ 0 := fun q => hny (by rw [hay, q]; rfl)
    generalize uL fx = a at hax hx0 he hfx
    generalize uL fy = b at hay hy0 he hfy
    have hab0 : a * b ≠ 0 := Nat.mul_ne_zero hx0 hy0
    have hab : a * b < 2 ^ 2200 := Nat.lt_of_lt_of_le (Nat.mul_lt_mul_of_lt_of_lt hfx hfy) (by rw [← Nat.pow_add]; exact z_pow_le (by decide))
    have loopI : ∀ (n k j : Nat) (row9 : Nat → Int32) (ls : Array Slot) (H : Heap) (locs : List Loc), j < 53 → k + n = 64 → lv_has ls 6 [(0, .ref m0), (1, .int u1), (2, .int (nI j)), (3, .int (nI (((a * (b % 2 ^ j)) % 2 ^ (j + k) + (a * 2 ^ j) % 2 ^ (j + k)) / 2 ^ (j + k)))), (4, .int (nI k))] → MOw D cI cL m0 ra rb rc ((md, fl, er, kx, ky, sx, sy, px, py), (fx, fy), (pr, bi), row9, oth, rg) s H → va_S (mA m0 ra rb rc) s.heap H locs → (∀ i, i < 2200 → row9 i = if i < j + k then nI (((a * (b % 2 ^ j)) + (a * 2 ^ j)) / 2 ^ i % 2) else nI ((a * (b % 2 ^ j)) / 2 ^ i % 2)) →
        (∀ (row8 : Nat → Int32) (ls : Array Slot) (H : Heap) (locs : List Loc), lv_has ls 6 [(0, .ref m0), (1, .int u1), (2, .int (nI j))] → MOw D cI cL m0 ra rb rc ((md, fl, er, kx, ky, sx, sy, px, py), (fx, fy), (pr, bi), row8, oth, rg) s H → va_S (mA m0 ra rb rc) s.heap H locs → (∀ i, i < 2200 → row8 i = nI (((a * (b % 2 ^ j)) + (a * 2 ^ j)) / 2 ^ i % 2)) → W p l e rmM_product s m args below meth c H locs 0 0 Q (F0 m 184 ls [])) → W p l e rmM_product s m args below meth c H locs 0 0 Q (F0 m 129 ls []) := by
      intro n
      induction n with
      | zero =>
        intro k j row9 ls H locs hj hk hl hw hS hr kk
        obtain rfl : k = 64 := by omega
        refine lv_iload (pc := 129) hx hb dM_product_129 (lv_at hl 4 rfl) ?_
        refine lv_bipush (v := 64) (pc := 131) hx hb dM_product_131 (by decide) ?_
        refine lv_icmp_ge (tgt := 184) (pc := 133) hx hb dM_product_133 (by decide) (fun _ => ?_) (fun h => absurd (Int32.le_refl _) h)
        refine kk row9 ls H locs (lv_sub hl [0, 1, 2] rfl) hw hS (fun i hi => ?_)
        rw [hr i hi]
        by_cases g : i < j + 64
        · rw [if_pos g]
        · rw [if_neg g]
          have h1 : (a * (b % 2 ^ j)) + (a * 2 ^ j) < 2 ^ i := by
            have e1 : (a * (b % 2 ^ j)) + (a * 2 ^ j) = a * (b % 2 ^ j + 2 ^ j) := by rw [Nat.mul_add]
            have e2 : b % 2 ^ j + 2 ^ j < 2 ^ (j + 1) := by
              have := z_mlt b j
              rw [Nat.pow_succ]
              omega
            rw [e1]
            refine Nat.lt_of_lt_of_le (Nat.mul_lt_mul_of_lt_of_lt hfx e2) ?_
            rw [← Nat.pow_add]
            exact z_pow_le (by omega)
          rw [z_bit_hi (by omega), z_bit_hi h1]
      | succ n ih =>
        intro k j row9 ls H locs hj hk hl hw hS hr kk
        have hrk : row9 (nI j + nI k).toNatClampNeg = nI ((a * (b % 2 ^ j)) / 2 ^ (j + k) % 2) := by rw [nI_add, nI_cl (by omega), hr (j + k) (by omega), if_neg (by omega)]
        refine lv_iload (pc := 129) hx hb dM_product_129 (lv_at hl 4 rfl) ?_
        refine lv_bipush (v := 64) (pc := 131) hx hb dM_product_131 (by decide) ?_
        refine lv_icmp_ge (tgt := 184) (pc := 133) hx hb dM_product_133 (by decide) (fun h => absurd h (nI_ge (b := 64) (by omega) (by decide))) (fun _ => ?_)
        refine lv_aload_n (pc := 136) hx hb dM_product_136 rfl (lv_at hl 0 rfl) ?_
        refine mo_g_row (pc := 137) hx hb hts hown hw w_356 dM_product_137 ?_
        refine lv_iload_n (pc := 140) hx hb dM_product_140 rfl (lv_at hl 2 rfl) ?_
        refine lv_iload (pc := 141) hx hb dM_product_141 (lv_at hl 4 rfl) ?_
        refine lv_iadd (pc := 143) hx hb dM_product_143 ?_
        refine mo_rl (pc := 144) hx hb hw (by rw [nI_add]; exact vp_in_nI (by omega) (by decide)) dM_product_144 ?_
        refine lv_topi (fun v501 e501 => ?_)
        obtain rfl : v501 = nI ((a * (b % 2 ^ j)) / 2 ^ (j + k) % 2) := e501.trans hrk
        refine lv_aload_n (pc := 145) hx hb dM_product_145 rfl (lv_at hl 0 rfl) ?_
        refine mo_g_partX (pc := 146) hx hb hts hown hw w_368 dM_product_146 ?_
        refine lv_iload (pc := 149) hx hb dM_product_149 (lv_at hl 4 rfl) ?_
        refine lv_lshr (v := jShr fx (nI k)) (pc := 151) hx hb dM_product_151 rfl ?_
        refine lv_lconst (v := 1) (pc := 152) hx hb dM_product_152 (by decide) ?_
        refine lv_land (pc := 153) hx hb dM_product_153 ?_
        refine lv_l2i (v := ((jShr fx (nI k)) &&& 1).toInt32) (pc := 154) hx hb dM_product_154 rfl ?_
        refine lv_topi (fun v1 e1 => ?_)
        obtain rfl : v1 = nI ((a * 2 ^ j) / 2 ^ (j + k) % 2) := e1.trans (by rw [hax, bit_lN hfx (by omega), lN_i, z_shl_bit])
        refine lv_iadd (pc := 155) hx hb dM_product_155 ?_
        refine lv_iload_n (pc := 156) hx hb dM_product_156 rfl (lv_at hl 3 rfl) ?_
        refine lv_iadd (pc := 157) hx hb dM_product_157 ?_
        refine lv_topi (fun v2 e2 => ?_)
        obtain rfl : v2 = nI ((a * (b % 2 ^ j)) / 2 ^ (j + k) % 2 + (a * 2 ^ j) / 2 ^ (j + k) % 2 + ((a * (b % 2 ^ j)) % 2 ^ (j + k) + (a * 2 ^ j) % 2 ^ (j + k)) / 2 ^ (j + k)) := e2.trans (by rw [nI_add, nI_add])
        have hsm : (a * (b % 2 ^ j)) / 2 ^ (j + k) % 2 + (a * 2 ^ j) / 2 ^ (j + k) % 2 + ((a * (b % 2 ^ j)) % 2 ^ (j + k) + (a * 2 ^ j) % 2 ^ (j + k)) / 2 ^ (j + k) < 4 := by
          have := z_b2 (a * (b % 2 ^ j)) (j + k)
          have := z_b2 (a * 2 ^ j) (j + k)
          have := z_carry_le (a * (b % 2 ^ j)) (a * 2 ^ j) (j + k)
          omega
        refine lv_istore (lv' := [(5, .int (nI ((a * (b % 2 ^ j)) / 2 ^ (j + k) % 2 + (a * 2 ^ j) / 2 ^ (j + k) % 2 + ((a * (b % 2 ^ j)) % 2 ^ (j + k) + (a * 2 ^ j) % 2 ^ (j + k)) / 2 ^ (j + k)))), (0, .ref m0), (1, .int u1), (2, .int (nI j)), (3, .int (nI (((a * (b % 2 ^ j)) % 2 ^ (j + k) + (a * 2 ^ j) % 2 ^ (j + k)) / 2 ^ (j + k)))), (4, .int (nI k))]) (pc := 158) hx hb dM_product_158 hl (by decide) rfl (fun ls hl => ?_)
        refine lv_aload_n (pc := 160) hx hb dM_product_160 rfl (lv_at hl 1 rfl) ?_
        refine mo_g_row (pc := 161) hx hb hts hown hw w_356 dM_product_161 ?_
        refine lv_iload_n (pc := 164) hx hb dM_product_164 rfl (lv_at hl 3 rfl) ?_
        refine lv_iload (pc := 165) hx hb dM_product_165 (lv_at hl 5 rfl) ?_
        refine lv_iadd (pc := 167) hx hb dM_product_167 ?_
        refine lv_iload (pc := 168) hx hb dM_product_168 (lv_at hl 0 rfl) ?_
        refine lv_iconst (v := 1) (pc := 170) hx hb dM_product_170 (by decide) ?_
        refine lv_iand (pc := 171) hx hb dM_product_171 ?_
        refine mo_rs (pc := 172) hx hb hw hS (by rw [nI_add]; exact vp_in_nI (by omega) (by decide)) dM_product_172 (fun H locs hw hS => ?_)
        refine lv_iload (pc := 173) hx hb dM_product_173 (lv_at hl 0 rfl) ?_
        refine lv_iconst (v := 1) (pc := 175) hx hb dM_product_175 (by decide) ?_
        refine lv_ishr (pc := 176) hx hb dM_product_176 ?_
        refine lv_topi (fun v3 e3 => ?_)
        obtain rfl : v3 = nI (((a * (b % 2 ^ j)) % 2 ^ (j + (k + 1)) + (a * 2 ^ j) % 2 ^ (j + (k + 1))) / 2 ^ (j + (k + 1))) := e3.trans (by rw [nI_shr1 (by omega), ← Nat.add_assoc, z_carry])
        refine lv_istore_n (lv' := [(3, .int (nI (((a * (b % 2 ^ j)) % 2 ^ (j + (k + 1)) + (a * 2 ^ j) % 2 ^ (j + (k + 1))) / 2 ^ (j + (k + 1))))), (5, .int (nI ((a * (b % 2 ^ j)) / 2 ^ (j + k) % 2 + (a * 2 ^ j) / 2 ^ (j + k) % 2 + ((a * (b % 2 ^ j)) % 2 ^ (j + k) + (a * 2 ^ j) % 2 ^ (j + k)) / 2 ^ (j + k)))), (0, .ref m0), (1, .int u1), (2, .int (nI j)), (4, .int (nI k))]) (pc := 177) hx hb dM_product_177 rfl hl (by decide) rfl (fun ls hl => ?_)
        refine lv_iinc (k := 5) (v := nI (k + 1)) (lv' := [(4, .int (nI (k + 1))), (3, .int (nI (((a * (b % 2 ^ j)) % 2 ^ (j + (k + 1)) + (a * 2 ^ j) % 2 ^ (j + (k + 1))) / 2 ^ (j + (k + 1))))), (5, .int (nI ((a * (b % 2 ^ j)) / 2 ^ (j + k) % 2 + (a * 2 ^ j) / 2 ^ (j + k) % 2 + ((a * (b % 2 ^ j)) % 2 ^ (j + k) + (a * 2 ^ j) % 2 ^ (j + k)) / 2 ^ (j + k)))), (0, .ref m0), (1, .int u1), (2, .int (nI j))]) (pc := 178) hx hb dM_product_178 hl rfl (nI_inc _) (by decide) rfl (fun ls hl => ?_)
        refine lv_goto (tgt := 129) (pc := 181) hx hb dM_product_181 (by decide) ?_
        refine ih (k + 1) j _ ls H locs hj (by omega) (lv_sub hl [3, 4, 5, 1, 0] rfl) hw hS (fun i hi => ?_) kk
        rw [nI_add, nI_cl (by omega), upd_at]
        by_cases hik : i = j + k
        · subst hik
          rw [if_pos rfl, if_pos (by omega), nI_and1 (by omega), z_add_bit]
        · rw [if_neg hik, hr i hi]
          by_cases g : i < j + k
          · rw [if_pos g, if_pos (by omega)]
          · rw [if_neg g, if_neg (by omega)]
    have loopJ : ∀ (n j : Nat) (ls : Array Slot) (H : Heap) (locs : List Loc), j + n = 53 → lv_has ls 6 [(0, .ref m0), (1, .int u1), (2, .int (nI j))] → MOw D cI cL m0 ra rb rc ((md, fl, er, kx, ky, sx, sy, px, py), (fx, fy), (pr, bi), (bR (a * (b % 2 ^ j))), oth, rg) s H → va_S (mA m0 ra rb rc) s.heap H locs → W p l e rmM_product s m args below meth c H locs 0 0 Q (F0 m 105 ls []) := by
      intro n
      induction n with
      | zero =>
        intro j ls H locs hj hl hw hS
        obtain rfl : j = 53 := by omega
        rw [Nat.mod_eq_of_lt hfy] at hw
        refine lv_iload_n (pc := 105) hx hb dM_product_105 rfl (lv_at hl 2 rfl) ?_
        refine lv_bipush (v := 53) (pc := 106) hx hb dM_product_106 (by decide) ?_
        refine lv_icmp_ge (tgt := 190) (pc := 108) hx hb dM_product_108 (by decide) (fun _ => ?_) (fun h => absurd (Int32.le_refl _) h)
        refine lv_aload_n (pc := 190) hx hb dM_product_190 rfl (lv_at hl 0 rfl) ?_
        refine lv_iload_n (pc := 191) hx hb dM_product_191 rfl (lv_at hl 1 rfl) ?_
        refine lv_aload_n (pc := 192) hx hb dM_product_192 rfl (lv_at hl 0 rfl) ?_
        refine mo_g_powerX (pc := 193) hx hb hts hown hw w_366 dM_product_193 ?_
        refine lv_aload_n (pc := 196) hx hb dM_product_196 rfl (lv_at hl 0 rfl) ?_
        refine mo_g_powerY (pc := 197) hx hb hts hown hw w_367 dM_product_197 ?_
        refine lv_iadd (pc := 200) hx hb dM_product_200 ?_
        refine lv_iconst (v := 0) (pc := 201) hx hb dM_product_201 (by decide) ?_
        refine mo_V (pc := 202) (rest := []) ⟨hx, hb, hml, hown, hts⟩ (c_M_rounded l D cI cL m0 ra rb rc md fl er kx ky sx sy px py fx fy pr bi row oth rg u1 (px + py) false (a * b) hab0 hab hpr hbi hkk) (cwM_rounded hts w_477 ⟨by decide, by decide⟩) hw hS rfl hl.1 rfl (Nat.le_of_ble_eq_true rfl) dM_product_202 ⟨Nat.zero_le _, Nat.zero_le _⟩ (fun H locs hw hS => ?_)
        exact hret _ _ _ _ _ _ (congrArg Prod.fst he) (by rw [← he]) hw hS dM_product_205
      | succ n ih =>
        intro j ls H locs hj hl hw hS
        refine lv_iload_n (pc := 105) hx hb dM_product_105 rfl (lv_at hl 2 rfl) ?_
        refine lv_bipush (v := 53) (pc := 106) hx hb dM_product_106 (by decide) ?_
        refine lv_icmp_ge (tgt := 190) (pc := 108) hx hb dM_product_108 (by decide) (fun h => absurd h (nI_ge (b := 53) (by omega) (by decide))) (fun _ => ?_)
        refine lv_aload_n (pc := 111) hx hb dM_product_111 rfl (lv_at hl 0 rfl) ?_
        refine mo_g_partY (pc := 112) hx hb hts hown hw w_369 dM_product_112 ?_
        refine lv_iload_n (pc := 115) hx hb dM_product_115 rfl (lv_at hl 2 rfl) ?_
        refine lv_lshr (v := jShr fy (nI j)) (pc := 116) hx hb dM_product_116 rfl ?_
        refine lv_lconst (v := 1) (pc := 117) hx hb dM_product_117 (by decide) ?_
        refine lv_land (pc := 118) hx hb dM_product_118 ?_
        refine lv_lconst (v := 1) (pc := 119) hx hb dM_product_119 (by decide) ?_
        refine W.lcmp (pc := 120) hx hb dM_product_120 ?_
        have hbit : (jShr fy (nI j)) &&& 1 = lN (b / 2 ^ j % 2) := by rw [hay]; exact bit_lN hfy (by omega)
        have hms := z_ms b j
        refine lv_if_ne (tgt := 184) (pc := 121) hx hb dM_product_121 (by decide) (fun h => ?_) (fun h => ?_)
        · have h : ¬ (jShr fy (nI j)) &&& 1 = 1 := fun g => h ((lg_cmp_eq _ _).2 g)
          rw [hbit, lN_bit] at h
          have hz : b / 2 ^ j % 2 = 0 := by
            have := z_b2 b j
            omega
          rw [hz, Nat.mul_zero, Nat.add_zero] at hms
          refine lv_iinc (k := 2) (v := nI (j + 1)) (lv' := [(2, .int (nI (j + 1))), (0, .ref m0), (1, .int u1)]) (pc := 184) hx hb dM_product_184 hl rfl (nI_inc _) (by decide) rfl (fun ls hl => ?_)
          refine lv_goto (tgt := 105) (pc := 187) hx hb dM_product_187 (by decide) ?_
          refine ih (j + 1) ls H locs (by omega) (lv_sub hl [1, 2, 0] rfl) ?_ hS
          rw [hms]
          exact hw
        · have h : (jShr fy (nI j)) &&& 1 = 1 := (lg_cmp_eq _ _).1 h
          rw [hbit, lN_bit] at h
          rw [h, Nat.mul_one] at hms
          refine lv_iconst (v := 0) (pc := 124) hx hb dM_product_124 (by decide) ?_
          refine lv_istore_n (lv' := [(3, .int 0), (0, .ref m0), (1, .int u1), (2, .int (nI j))]) (pc := 125) hx hb dM_product_125 rfl hl (by decide) rfl (fun ls hl => ?_)
          refine lv_iconst (v := 0) (pc := 126) hx hb dM_product_126 (by decide) ?_
          refine lv_istore (lv' := [(4, .int 0), (3, .int 0), (0, .ref m0), (1, .int u1), (2, .int (nI j))]) (pc := 127) hx hb dM_product_127 hl (by decide) rfl (fun ls hl => ?_)
          refine loopI 64 0 j (bR (a * (b % 2 ^ j))) ls H locs (by omega) (by omega) ?_ hw hS (fun i hi => ?_) (fun row8 ls H locs hl hw hS hr8 => ?_)
          · have e0 : ((a * (b % 2 ^ j)) % 2 ^ (j + 0) + (a * 2 ^ j) % 2 ^ (j + 0)) / 2 ^ (j + 0) = 0 := by
              rw [Nat.add_zero, z_shl_lo (Nat.le_refl j), Nat.add_zero]
              exact Nat.div_eq_of_lt (z_mlt _ j)
            rw [e0]
            exact lv_sub hl [2, 3, 4, 1, 0] rfl
          · by_cases g : i < j + 0
            · rw [if_pos g, z_add_lo (by omega)]
              rfl
            · rw [if_neg g]
              rfl
          · refine lv_iinc (k := 2) (v := nI (j + 1)) (lv' := [(2, .int (nI (j + 1))), (0, .ref m0), (1, .int u1)]) (pc := 184) hx hb dM_product_184 hl rfl (nI_inc _) (by decide) rfl (fun ls hl => ?_)
            refine lv_goto (tgt := 105) (pc := 187) hx hb dM_product_187 (by decide) ?_
            refine ih (j + 1) ls H locs (by omega) (lv_sub hl [1, 2, 0] rfl) (mo_rc hw (fun i hi => ?_)) hS
            rw [hr8 i hi, hms, Nat.mul_add]
            rfl
    refine lv_aload_n (pc := 99) hx hb dM_product_99 rfl (lv_at hl 0 rfl) ?_
    refine mo_V (pc := 100) (rest := []) ⟨hx, hb, hml, hown, hts⟩ (c_M_clear l D cI cL m0 ra rb rc md fl er kx ky sx sy px py fx fy pr bi row oth rg) (cwM_clear hts w_469 ⟨by decide, by decide⟩) hw hS rfl hl.1 rfl (Nat.le_of_ble_eq_true rfl) dM_product_100 ⟨Nat.zero_le _, Nat.zero_le _⟩ (fun H locs hw hS => ?_)
    refine W.eq (g2 := F0 m 103 ls []) rfl ?_
    refine lv_iconst (v := 0) (pc := 103) hx hb dM_product_103 (by decide) ?_
    refine lv_istore_n (lv' := [(2, .int 0), (0, .ref m0), (1, .int u1)]) (pc := 104) hx hb dM_product_104 rfl hl (by decide) rfl (fun ls hl => ?_)
    refine loopJ 53 0 ls H locs (by omega) (lv_sub hl [1, 2, 0] rfl) ?_ hS
    rw [Nat.pow_zero, Nat.mod_one, Nat.mul_zero]
    exact hw
  refine lv_aload_n (pc := 0) hx hb dM_product_0 rfl (lv_at hl 0 rfl) ?_
  refine mo_g_signX (pc := 1) hx hb hts hown hw w_364 dM_product_1 ?_
  refine lv_aload_n (pc := 4) hx hb dM_product_4 rfl (lv_at hl 0 rfl) ?_
  refine mo_g_signY (pc := 5) hx hb hts hown hw w_365 dM_product_5 ?_
  refine lv_ixor (pc := 8) hx hb dM_product_8 ?_
  refine lv_istore_n (lv' := [(1, .int (sx ^^^ sy)), (0, .ref m0)]) (pc := 9) hx hb dM_product_9 rfl hl (by decide) rfl (fun ls hl => ?_)
  refine lv_aload_n (pc := 10) hx hb dM_product_10 rfl (lv_at hl 1 rfl) ?_
  refine mo_g_kindX (pc := 11) hx hb hts hown hw w_362 dM_product_11 ?_
  refine lv_iconst (v := 1) (pc := 14) hx hb dM_product_14 (by decide) ?_
  refine lv_icmp_eq (tgt := 26) (pc := 15) hx hb dM_product_15 (by decide) (fun h1 => ?_) (fun h1 => ?_)
  · skip
    refine lv_aload_n (pc := 26) hx hb dM_product_26 rfl (lv_at hl 1 rfl) ?_
    refine mo_g_kindX (pc := 27) hx hb hts hown hw w_362 dM_product_27 ?_
    refine lv_iconst (v := 2) (pc := 30) hx hb dM_product_30 (by decide) ?_
    refine lv_icmp_ne (tgt := 43) (pc := 31) hx hb dM_product_31 (by decide) (fun h2 => ?_) (fun h2 => ?_)
    · skip
      refine lv_aload_n (pc := 43) hx hb dM_product_43 rfl (lv_at hl 1 rfl) ?_
      refine mo_g_kindY (pc := 44) hx hb hts hown hw w_363 dM_product_44 ?_
      refine lv_iconst (v := 2) (pc := 47) hx hb dM_product_47 (by decide) ?_
      refine lv_icmp_ne (tgt := 67) (pc := 48) hx hb dM_product_48 (by decide) (fun h3 => ?_) (fun h3 => ?_)
      · skip
        refine lv_aload_n (pc := 67) hx hb dM_product_67 rfl (lv_at hl 1 rfl) ?_
        refine lv_iload_n (pc := 68) hx hb dM_product_68 rfl (lv_at hl 0 rfl) ?_
        refine mo_V (pc := 69) (rest := []) ⟨hx, hb, hml, hown, hts⟩ (c_M_endless l D cI cL m0 ra rb rc md fl er kx ky sx sy px py fx fy pr bi row oth rg (sx ^^^ sy)) (cwM_endless hts w_465 ⟨by decide, by decide⟩) hw hS rfl hl.1 rfl (Nat.le_of_ble_eq_true rfl) dM_product_69 ⟨Nat.zero_le _, Nat.zero_le _⟩ (fun H locs hw hS => ?_)
        refine W.eq (g2 := F0 m 72 ls [.long (C_M_endless pr bi (sx ^^^ sy))]) rfl ?_
        have he9 := (show (C_M_endless pr bi (sx ^^^ sy), fl, row) = C_M_product md fl kx ky sx sy px py fx fy pr bi row from by rw [C_M_product, if_pos h1, if_neg h2, if_neg h3])
        exact hret _ _ _ _ _ _ (congrArg Prod.fst he9) (by rw [← he9]) hw hS dM_product_72
      · skip
        refine lv_aload_n (pc := 51) hx hb dM_product_51 rfl (lv_at hl 1 rfl) ?_
        refine mo_g_partY (pc := 52) hx hb hts hown hw w_369 dM_product_52 ?_
        refine lv_lconst (v := 0) (pc := 55) hx hb dM_product_55 (by decide) ?_
        refine W.lcmp (pc := 56) hx hb dM_product_56 ?_
        refine lv_if_ne (tgt := 67) (pc := 57) hx hb dM_product_57 (by decide) (fun h4 => ?_) (fun h4 => ?_)
        · skip
          have h4 : ¬ (fy = 0) := fun q => h4 ((lg_cmp_eq _ _).2 q)
          refine lv_aload_n (pc := 67) hx hb dM_product_67 rfl (lv_at hl 1 rfl) ?_
          refine lv_iload_n (pc := 68) hx hb dM_product_68 rfl (lv_at hl 0 rfl) ?_
          refine mo_V (pc := 69) (rest := []) ⟨hx, hb, hml, hown, hts⟩ (c_M_endless l D cI cL m0 ra rb rc md fl er kx ky sx sy px py fx fy pr bi row oth rg (sx ^^^ sy)) (cwM_endless hts w_465 ⟨by decide, by decide⟩) hw hS rfl hl.1 rfl (Nat.le_of_ble_eq_true rfl) dM_product_69 ⟨Nat.zero_le _, Nat.zero_le _⟩ (fun H locs hw hS => ?_)
          refine W.eq (g2 := F0 m 72 ls [.long (C_M_endless pr bi (sx ^^^ sy))]) rfl ?_
          have he9 := (show (C_M_endless pr bi (sx ^^^ sy), fl, row) = C_M_product md fl kx ky sx sy px py fx fy pr bi row from by rw [C_M_product, if_pos h1, if_neg h2, if_pos h3, if_neg h4])
          exact hret _ _ _ _ _ _ (congrArg Prod.fst he9) (by rw [← he9]) hw hS dM_product_72
        · skip
          have h4 : fy = 0 := (lg_cmp_eq _ _).1 h4
          refine lv_aload_n (pc := 60) hx hb dM_product_60 rfl (lv_at hl 1 rfl) ?_
          refine mo_V (pc := 61) (rest := []) ⟨hx, hb, hml, hown, hts⟩ (c_M_invalid l D cI cL m0 ra rb rc md fl er kx ky sx sy px py fx fy pr bi row oth rg ) (cwM_invalid hts w_461 ⟨by decide, by decide⟩) hw hS rfl hl.1 rfl (Nat.le_of_ble_eq_true rfl) dM_product_61 ⟨Nat.zero_le _, Nat.zero_le _⟩ (fun H locs hw hS => ?_)
          refine W.eq (g2 := F0 m 64 ls [.long ((C_M_invalid fl pr bi).1)]) rfl ?_
          refine lv_goto (tgt := 72) (pc := 64) hx hb dM_product_64 (by decide) ?_
          have he9 := (show ((C_M_invalid fl pr bi).1, (C_M_invalid fl pr bi).2, row) = C_M_product md fl kx ky sx sy px py fx fy pr bi row from by rw [C_M_product, if_pos h1, if_neg h2, if_pos h3, if_pos h4])
          exact hret _ _ _ _ _ _ (congrArg Prod.fst he9) (by rw [← he9]) hw hS dM_product_72
    · skip
      refine lv_aload_n (pc := 34) hx hb dM_product_34 rfl (lv_at hl 1 rfl) ?_
      refine mo_g_partX (pc := 35) hx hb hts hown hw w_368 dM_product_35 ?_
      refine lv_lconst (v := 0) (pc := 38) hx hb dM_product_38 (by decide) ?_
      refine W.lcmp (pc := 39) hx hb dM_product_39 ?_
      refine lv_if_eq (tgt := 60) (pc := 40) hx hb dM_product_40 (by decide) (fun h5 => ?_) (fun h5 => ?_)
      · skip
        have h5 : fx = 0 := (lg_cmp_eq _ _).1 h5
        refine lv_aload_n (pc := 60) hx hb dM_product_60 rfl (lv_at hl 1 rfl) ?_
        refine mo_V (pc := 61) (rest := []) ⟨hx, hb, hml, hown, hts⟩ (c_M_invalid l D cI cL m0 ra rb rc md fl er kx ky sx sy px py fx fy pr bi row oth rg ) (cwM_invalid hts w_461 ⟨by decide, by decide⟩) hw hS rfl hl.1 rfl (Nat.le_of_ble_eq_true rfl) dM_product_61 ⟨Nat.zero_le _, Nat.zero_le _⟩ (fun H locs hw hS => ?_)
        refine W.eq (g2 := F0 m 64 ls [.long ((C_M_invalid fl pr bi).1)]) rfl ?_
        refine lv_goto (tgt := 72) (pc := 64) hx hb dM_product_64 (by decide) ?_
        have he9 := (show ((C_M_invalid fl pr bi).1, (C_M_invalid fl pr bi).2, row) = C_M_product md fl kx ky sx sy px py fx fy pr bi row from by rw [C_M_product, if_pos h1, if_pos h2, if_pos h5])
        exact hret _ _ _ _ _ _ (congrArg Prod.fst he9) (by rw [← he9]) hw hS dM_product_72
      · skip
        have h5 : ¬ (fx = 0) := fun q => h5 ((lg_cmp_eq _ _).2 q)
        refine lv_aload_n (pc := 43) hx hb dM_product_43 rfl (lv_at hl 1 rfl) ?_
        refine mo_g_kindY (pc := 44) hx hb hts hown hw w_363 dM_product_44 ?_
        refine lv_iconst (v := 2) (pc := 47) hx hb dM_product_47 (by decide) ?_
        refine lv_icmp_ne (tgt := 67) (pc := 48) hx hb dM_product_48 (by decide) (fun h6 => ?_) (fun h6 => ?_)
        · skip
          refine lv_aload_n (pc := 67) hx hb dM_product_67 rfl (lv_at hl 1 rfl) ?_
          refine lv_iload_n (pc := 68) hx hb dM_product_68 rfl (lv_at hl 0 rfl) ?_
          refine mo_V (pc := 69) (rest := []) ⟨hx, hb, hml, hown, hts⟩ (c_M_endless l D cI cL m0 ra rb rc md fl er kx ky sx sy px py fx fy pr bi row oth rg (sx ^^^ sy)) (cwM_endless hts w_465 ⟨by decide, by decide⟩) hw hS rfl hl.1 rfl (Nat.le_of_ble_eq_true rfl) dM_product_69 ⟨Nat.zero_le _, Nat.zero_le _⟩ (fun H locs hw hS => ?_)
          refine W.eq (g2 := F0 m 72 ls [.long (C_M_endless pr bi (sx ^^^ sy))]) rfl ?_
          have he9 := (show (C_M_endless pr bi (sx ^^^ sy), fl, row) = C_M_product md fl kx ky sx sy px py fx fy pr bi row from by rw [C_M_product, if_pos h1, if_pos h2, if_neg h5, if_neg h6])
          exact hret _ _ _ _ _ _ (congrArg Prod.fst he9) (by rw [← he9]) hw hS dM_product_72
        · skip
          refine lv_aload_n (pc := 51) hx hb dM_product_51 rfl (lv_at hl 1 rfl) ?_
          refine mo_g_partY (pc := 52) hx hb hts hown hw w_369 dM_product_52 ?_
          refine lv_lconst (v := 0) (pc := 55) hx hb dM_product_55 (by decide) ?_
          refine W.lcmp (pc := 56) hx hb dM_product_56 ?_
          refine lv_if_ne (tgt := 67) (pc := 57) hx hb dM_product_57 (by decide) (fun h7 => ?_) (fun h7 => ?_)
          · skip
            have h7 : ¬ (fy = 0) := fun q => h7 ((lg_cmp_eq _ _).2 q)
            refine lv_aload_n (pc := 67) hx hb dM_product_67 rfl (lv_at hl 1 rfl) ?_
            refine lv_iload_n (pc := 68) hx hb dM_product_68 rfl (lv_at hl 0 rfl) ?_
            refine mo_V (pc := 69) (rest := []) ⟨hx, hb, hml, hown, hts⟩ (c_M_endless l D cI cL m0 ra rb rc md fl er kx ky sx sy px py fx fy pr bi row oth rg (sx ^^^ sy)) (cwM_endless hts w_465 ⟨by decide, by decide⟩) hw hS rfl hl.1 rfl (Nat.le_of_ble_eq_true rfl) dM_product_69 ⟨Nat.zero_le _, Nat.zero_le _⟩ (fun H locs hw hS => ?_)
            refine W.eq (g2 := F0 m 72 ls [.long (C_M_endless pr bi (sx ^^^ sy))]) rfl ?_
            have he9 := (show (C_M_endless pr bi (sx ^^^ sy), fl, row) = C_M_product md fl kx ky sx sy px py fx fy pr bi row from by rw [C_M_product, if_pos h1, if_pos h2, if_neg h5, if_pos h6, if_neg h7])
            exact hret _ _ _ _ _ _ (congrArg Prod.fst he9) (by rw [← he9]) hw hS dM_product_72
          · skip
            have h7 : fy = 0 := (lg_cmp_eq _ _).1 h7
            refine lv_aload_n (pc := 60) hx hb dM_product_60 rfl (lv_at hl 1 rfl) ?_
            refine mo_V (pc := 61) (rest := []) ⟨hx, hb, hml, hown, hts⟩ (c_M_invalid l D cI cL m0 ra rb rc md fl er kx ky sx sy px py fx fy pr bi row oth rg ) (cwM_invalid hts w_461 ⟨by decide, by decide⟩) hw hS rfl hl.1 rfl (Nat.le_of_ble_eq_true rfl) dM_product_61 ⟨Nat.zero_le _, Nat.zero_le _⟩ (fun H locs hw hS => ?_)
            refine W.eq (g2 := F0 m 64 ls [.long ((C_M_invalid fl pr bi).1)]) rfl ?_
            refine lv_goto (tgt := 72) (pc := 64) hx hb dM_product_64 (by decide) ?_
            have he9 := (show ((C_M_invalid fl pr bi).1, (C_M_invalid fl pr bi).2, row) = C_M_product md fl kx ky sx sy px py fx fy pr bi row from by rw [C_M_product, if_pos h1, if_pos h2, if_neg h5, if_pos h6, if_pos h7])
            exact hret _ _ _ _ _ _ (congrArg Prod.fst he9) (by rw [← he9]) hw hS dM_product_72
  · skip
    refine lv_aload_n (pc := 18) hx hb dM_product_18 rfl (lv_at hl 1 rfl) ?_
    refine mo_g_kindY (pc := 19) hx hb hts hown hw w_363 dM_product_19 ?_
    refine lv_iconst (v := 1) (pc := 22) hx hb dM_product_22 (by decide) ?_
    refine lv_icmp_ne (tgt := 73) (pc := 23) hx hb dM_product_23 (by decide) (fun h8 => ?_) (fun h8 => ?_)
    · skip
      refine lv_aload_n (pc := 73) hx hb dM_product_73 rfl (lv_at hl 1 rfl) ?_
      refine mo_g_partX (pc := 74) hx hb hts hown hw w_368 dM_product_74 ?_
      refine lv_lconst (v := 0) (pc := 77) hx hb dM_product_77 (by decide) ?_
      refine W.lcmp (pc := 78) hx hb dM_product_78 ?_
      refine lv_if_eq (tgt := 91) (pc := 79) hx hb dM_product_79 (by decide) (fun h9 => ?_) (fun h9 => ?_)
      · skip
        have h9 : fx = 0 := (lg_cmp_eq _ _).1 h9
        refine lv_aload_n (pc := 91) hx hb dM_product_91 rfl (lv_at hl 1 rfl) ?_
        refine lv_iload_n (pc := 92) hx hb dM_product_92 rfl (lv_at hl 0 rfl) ?_
        refine lv_lconst (v := 0) (pc := 93) hx hb dM_product_93 (by decide) ?_
        refine lv_lconst (v := 0) (pc := 94) hx hb dM_product_94 (by decide) ?_
        refine mo_V (pc := 95) (rest := []) ⟨hx, hb, hml, hown, hts⟩ (c_M_made l D cI cL m0 ra rb rc md fl er kx ky sx sy px py fx fy pr bi row oth rg (sx ^^^ sy) 0 0) (cwM_made hts w_453 ⟨by decide, by decide⟩) hw hS rfl hl.1 rfl (Nat.le_of_ble_eq_true rfl) dM_product_95 ⟨Nat.zero_le _, Nat.zero_le _⟩ (fun H locs hw hS => ?_)
        refine W.eq (g2 := F0 m 98 ls [.long (C_M_made pr (sx ^^^ sy) 0 0)]) rfl ?_
        have he9 := (show (C_M_made pr (sx ^^^ sy) 0 0, fl, row) = C_M_product md fl kx ky sx sy px py fx fy pr bi row from by rw [C_M_product, if_neg h1, if_neg h8, if_pos h9])
        exact hret _ _ _ _ _ _ (congrArg Prod.fst he9) (by rw [← he9]) hw hS dM_product_98
      · skip
        have h9 : ¬ (fx = 0) := fun q => h9 ((lg_cmp_eq _ _).2 q)
        refine lv_aload_n (pc := 82) hx hb dM_product_82 rfl (lv_at hl 1 rfl) ?_
        refine mo_g_partY (pc := 83) hx hb hts hown hw w_369 dM_product_83 ?_
        refine lv_lconst (v := 0) (pc := 86) hx hb dM_product_86 (by decide) ?_
        refine W.lcmp (pc := 87) hx hb dM_product_87 ?_
        refine lv_if_ne (tgt := 99) (pc := 88) hx hb dM_product_88 (by decide) (fun h10 => ?_) (fun h10 => ?_)
        · skip
          have h10 : ¬ (fy = 0) := fun q => h10 ((lg_cmp_eq _ _).2 q)
          exact J99 (sx ^^^ sy) ls h9 h10 (lv_sub hl [1, 0] rfl) hw hS (show C_M_product_99 md fl px py fx fy pr bi (sx ^^^ sy) = C_M_product md fl kx ky sx sy px py fx fy pr bi row from by rw [C_M_product, if_neg h1, if_neg h8, if_neg h9, if_neg h10])
        · skip
          have h10 : fy = 0 := (lg_cmp_eq _ _).1 h10
          refine lv_aload_n (pc := 91) hx hb dM_product_91 rfl (lv_at hl 1 rfl) ?_
          refine lv_iload_n (pc := 92) hx hb dM_product_92 rfl (lv_at hl 0 rfl) ?_
          refine lv_lconst (v := 0) (pc := 93) hx hb dM_product_93 (by decide) ?_
          refine lv_lconst (v := 0) (pc := 94) hx hb dM_product_94 (by decide) ?_
          refine mo_V (pc := 95) (rest := []) ⟨hx, hb, hml, hown, hts⟩ (c_M_made l D cI cL m0 ra rb rc md fl er kx ky sx sy px py fx fy pr bi row oth rg (sx ^^^ sy) 0 0) (cwM_made hts w_453 ⟨by decide, by decide⟩) hw hS rfl hl.1 rfl (Nat.le_of_ble_eq_true rfl) dM_product_95 ⟨Nat.zero_le _, Nat.zero_le _⟩ (fun H locs hw hS => ?_)
          refine W.eq (g2 := F0 m 98 ls [.long (C_M_made pr (sx ^^^ sy) 0 0)]) rfl ?_
          have he9 := (show (C_M_made pr (sx ^^^ sy) 0 0, fl, row) = C_M_product md fl kx ky sx sy px py fx fy pr bi row from by rw [C_M_product, if_neg h1, if_neg h8, if_neg h9, if_pos h10])
          exact hret _ _ _ _ _ _ (congrArg Prod.fst he9) (by rw [← he9]) hw hS dM_product_98
    · skip
      refine lv_aload_n (pc := 26) hx hb dM_product_26 rfl (lv_at hl 1 rfl) ?_
      refine mo_g_kindX (pc := 27) hx hb hts hown hw w_362 dM_product_27 ?_
      refine lv_iconst (v := 2) (pc := 30) hx hb dM_product_30 (by decide) ?_
      refine lv_icmp_ne (tgt := 43) (pc := 31) hx hb dM_product_31 (by decide) (fun h11 => ?_) (fun h11 => ?_)
      · skip
        refine lv_aload_n (pc := 43) hx hb dM_product_43 rfl (lv_at hl 1 rfl) ?_
        refine mo_g_kindY (pc := 44) hx hb hts hown hw w_363 dM_product_44 ?_
        refine lv_iconst (v := 2) (pc := 47) hx hb dM_product_47 (by decide) ?_
        refine lv_icmp_ne (tgt := 67) (pc := 48) hx hb dM_product_48 (by decide) (fun h12 => ?_) (fun h12 => ?_)
        · skip
          refine lv_aload_n (pc := 67) hx hb dM_product_67 rfl (lv_at hl 1 rfl) ?_
          refine lv_iload_n (pc := 68) hx hb dM_product_68 rfl (lv_at hl 0 rfl) ?_
          refine mo_V (pc := 69) (rest := []) ⟨hx, hb, hml, hown, hts⟩ (c_M_endless l D cI cL m0 ra rb rc md fl er kx ky sx sy px py fx fy pr bi row oth rg (sx ^^^ sy)) (cwM_endless hts w_465 ⟨by decide, by decide⟩) hw hS rfl hl.1 rfl (Nat.le_of_ble_eq_true rfl) dM_product_69 ⟨Nat.zero_le _, Nat.zero_le _⟩ (fun H locs hw hS => ?_)
          refine W.eq (g2 := F0 m 72 ls [.long (C_M_endless pr bi (sx ^^^ sy))]) rfl ?_
          have he9 := (show (C_M_endless pr bi (sx ^^^ sy), fl, row) = C_M_product md fl kx ky sx sy px py fx fy pr bi row from by rw [C_M_product, if_neg h1, if_pos h8, if_neg h11, if_neg h12])
          exact hret _ _ _ _ _ _ (congrArg Prod.fst he9) (by rw [← he9]) hw hS dM_product_72
        · skip
          refine lv_aload_n (pc := 51) hx hb dM_product_51 rfl (lv_at hl 1 rfl) ?_
          refine mo_g_partY (pc := 52) hx hb hts hown hw w_369 dM_product_52 ?_
          refine lv_lconst (v := 0) (pc := 55) hx hb dM_product_55 (by decide) ?_
          refine W.lcmp (pc := 56) hx hb dM_product_56 ?_
          refine lv_if_ne (tgt := 67) (pc := 57) hx hb dM_product_57 (by decide) (fun h13 => ?_) (fun h13 => ?_)
          · skip
            have h13 : ¬ (fy = 0) := fun q => h13 ((lg_cmp_eq _ _).2 q)
            refine lv_aload_n (pc := 67) hx hb dM_product_67 rfl (lv_at hl 1 rfl) ?_
            refine lv_iload_n (pc := 68) hx hb dM_product_68 rfl (lv_at hl 0 rfl) ?_
            refine mo_V (pc := 69) (rest := []) ⟨hx, hb, hml, hown, hts⟩ (c_M_endless l D cI cL m0 ra rb rc md fl er kx ky sx sy px py fx fy pr bi row oth rg (sx ^^^ sy)) (cwM_endless hts w_465 ⟨by decide, by decide⟩) hw hS rfl hl.1 rfl (Nat.le_of_ble_eq_true rfl) dM_product_69 ⟨Nat.zero_le _, Nat.zero_le _⟩ (fun H locs hw hS => ?_)
            refine W.eq (g2 := F0 m 72 ls [.long (C_M_endless pr bi (sx ^^^ sy))]) rfl ?_
            have he9 := (show (C_M_endless pr bi (sx ^^^ sy), fl, row) = C_M_product md fl kx ky sx sy px py fx fy pr bi row from by rw [C_M_product, if_neg h1, if_pos h8, if_neg h11, if_pos h12, if_neg h13])
            exact hret _ _ _ _ _ _ (congrArg Prod.fst he9) (by rw [← he9]) hw hS dM_product_72
          · skip
            have h13 : fy = 0 := (lg_cmp_eq _ _).1 h13
            refine lv_aload_n (pc := 60) hx hb dM_product_60 rfl (lv_at hl 1 rfl) ?_
            refine mo_V (pc := 61) (rest := []) ⟨hx, hb, hml, hown, hts⟩ (c_M_invalid l D cI cL m0 ra rb rc md fl er kx ky sx sy px py fx fy pr bi row oth rg ) (cwM_invalid hts w_461 ⟨by decide, by decide⟩) hw hS rfl hl.1 rfl (Nat.le_of_ble_eq_true rfl) dM_product_61 ⟨Nat.zero_le _, Nat.zero_le _⟩ (fun H locs hw hS => ?_)
            refine W.eq (g2 := F0 m 64 ls [.long ((C_M_invalid fl pr bi).1)]) rfl ?_
            refine lv_goto (tgt := 72) (pc := 64) hx hb dM_product_64 (by decide) ?_
            have he9 := (show ((C_M_invalid fl pr bi).1, (C_M_invalid fl pr bi).2, row) = C_M_product md fl kx ky sx sy px py fx fy pr bi row from by rw [C_M_product, if_neg h1, if_pos h8, if_neg h11, if_pos h12, if_pos h13])
            exact hret _ _ _ _ _ _ (congrArg Prod.fst he9) (by rw [← he9]) hw hS dM_product_72
      · skip
        refine lv_aload_n (pc := 34) hx hb dM_product_34 rfl (lv_at hl 1 rfl) ?_
        refine mo_g_partX (pc := 35) hx hb hts hown hw w_368 dM_product_35 ?_
        refine lv_lconst (v := 0) (pc := 38) hx hb dM_product_38 (by decide) ?_
        refine W.lcmp (pc := 39) hx hb dM_product_39 ?_
        refine lv_if_eq (tgt := 60) (pc := 40) hx hb dM_product_40 (by decide) (fun h14 => ?_) (fun h14 => ?_)
        · skip
          have h14 : fx = 0 := (lg_cmp_eq _ _).1 h14
          refine lv_aload_n (pc := 60) hx hb dM_product_60 rfl (lv_at hl 1 rfl) ?_
          refine mo_V (pc := 61) (rest := []) ⟨hx, hb, hml, hown, hts⟩ (c_M_invalid l D cI cL m0 ra rb rc md fl er kx ky sx sy px py fx fy pr bi row oth rg ) (cwM_invalid hts w_461 ⟨by decide, by decide⟩) hw hS rfl hl.1 rfl (Nat.le_of_ble_eq_true rfl) dM_product_61 ⟨Nat.zero_le _, Nat.zero_le _⟩ (fun H locs hw hS => ?_)
          refine W.eq (g2 := F0 m 64 ls [.long ((C_M_invalid fl pr bi).1)]) rfl ?_
          refine lv_goto (tgt := 72) (pc := 64) hx hb dM_product_64 (by decide) ?_
          have he9 := (show ((C_M_invalid fl pr bi).1, (C_M_invalid fl pr bi).2, row) = C_M_product md fl kx ky sx sy px py fx fy pr bi row from by rw [C_M_product, if_neg h1, if_pos h8, if_pos h11, if_pos h14])
          exact hret _ _ _ _ _ _ (congrArg Prod.fst he9) (by rw [← he9]) hw hS dM_product_72
        · skip
          have h14 : ¬ (fx = 0) := fun q => h14 ((lg_cmp_eq _ _).2 q)
          refine lv_aload_n (pc := 43) hx hb dM_product_43 rfl (lv_at hl 1 rfl) ?_
          refine mo_g_kindY (pc := 44) hx hb hts hown hw w_363 dM_product_44 ?_
          refine lv_iconst (v := 2) (pc := 47) hx hb dM_product_47 (by decide) ?_
          refine lv_icmp_ne (tgt := 67) (pc := 48) hx hb dM_product_48 (by decide) (fun h15 => ?_) (fun h15 => ?_)
          · skip
            refine lv_aload_n (pc := 67) hx hb dM_product_67 rfl (lv_at hl 1 rfl) ?_
            refine lv_iload_n (pc := 68) hx hb dM_product_68 rfl (lv_at hl 0 rfl) ?_
            refine mo_V (pc := 69) (rest := []) ⟨hx, hb, hml, hown, hts⟩ (c_M_endless l D cI cL m0 ra rb rc md fl er kx ky sx sy px py fx fy pr bi row oth rg (sx ^^^ sy)) (cwM_endless hts w_465 ⟨by decide, by decide⟩) hw hS rfl hl.1 rfl (Nat.le_of_ble_eq_true rfl) dM_product_69 ⟨Nat.zero_le _, Nat.zero_le _⟩ (fun H locs hw hS => ?_)
            refine W.eq (g2 := F0 m 72 ls [.long (C_M_endless pr bi (sx ^^^ sy))]) rfl ?_
            have he9 := (show (C_M_endless pr bi (sx ^^^ sy), fl, row) = C_M_product md fl kx ky sx sy px py fx fy pr bi row from by rw [C_M_product, if_neg h1, if_pos h8, if_pos h11, if_neg h14, if_neg h15])
            exact hret _ _ _ _ _ _ (congrArg Prod.fst he9) (by rw [← he9]) hw hS dM_product_72
          · skip
            refine lv_aload_n (pc := 51) hx hb dM_product_51 rfl (lv_at hl 1 rfl) ?_
            refine mo_g_partY (pc := 52) hx hb hts hown hw w_369 dM_product_52 ?_
            refine lv_lconst (v := 0) (pc := 55) hx hb dM_product_55 (by decide) ?_
            refine W.lcmp (pc := 56) hx hb dM_product_56 ?_
            refine lv_if_ne (tgt := 67) (pc := 57) hx hb dM_product_57 (by decide) (fun h16 => ?_) (fun h16 => ?_)
            · skip
              have h16 : ¬ (fy = 0) := fun q => h16 ((lg_cmp_eq _ _).2 q)
              refine lv_aload_n (pc := 67) hx hb dM_product_67 rfl (lv_at hl 1 rfl) ?_
              refine lv_iload_n (pc := 68) hx hb dM_product_68 rfl (lv_at hl 0 rfl) ?_
              refine mo_V (pc := 69) (rest := []) ⟨hx, hb, hml, hown, hts⟩ (c_M_endless l D cI cL m0 ra rb rc md fl er kx ky sx sy px py fx fy pr bi row oth rg (sx ^^^ sy)) (cwM_endless hts w_465 ⟨by decide, by decide⟩) hw hS rfl hl.1 rfl (Nat.le_of_ble_eq_true rfl) dM_product_69 ⟨Nat.zero_le _, Nat.zero_le _⟩ (fun H locs hw hS => ?_)
              refine W.eq (g2 := F0 m 72 ls [.long (C_M_endless pr bi (sx ^^^ sy))]) rfl ?_
              have he9 := (show (C_M_endless pr bi (sx ^^^ sy), fl, row) = C_M_product md fl kx ky sx sy px py fx fy pr bi row from by rw [C_M_product, if_neg h1, if_pos h8, if_pos h11, if_neg h14, if_pos h15, if_neg h16])
              exact hret _ _ _ _ _ _ (congrArg Prod.fst he9) (by rw [← he9]) hw hS dM_product_72
            · skip
              have h16 : fy = 0 := (lg_cmp_eq _ _).1 h16
              refine lv_aload_n (pc := 60) hx hb dM_product_60 rfl (lv_at hl 1 rfl) ?_
              refine mo_V (pc := 61) (rest := []) ⟨hx, hb, hml, hown, hts⟩ (c_M_invalid l D cI cL m0 ra rb rc md fl er kx ky sx sy px py fx fy pr bi row oth rg ) (cwM_invalid hts w_461 ⟨by decide, by decide⟩) hw hS rfl hl.1 rfl (Nat.le_of_ble_eq_true rfl) dM_product_61 ⟨Nat.zero_le _, Nat.zero_le _⟩ (fun H locs hw hS => ?_)
              refine W.eq (g2 := F0 m 64 ls [.long ((C_M_invalid fl pr bi).1)]) rfl ?_
              refine lv_goto (tgt := 72) (pc := 64) hx hb dM_product_64 (by decide) ?_
              have he9 := (show ((C_M_invalid fl pr bi).1, (C_M_invalid fl pr bi).2, row) = C_M_product md fl kx ky sx sy px py fx fy pr bi row from by rw [C_M_product, if_neg h1, if_pos h8, if_pos h11, if_neg h14, if_pos h15, if_pos h16])
              exact hret _ _ _ _ _ _ (congrArg Prod.fst he9) (by rw [← he9]) hw hS dM_product_72
def C_M_quotient (md : Int32) (fl : Int32) (kx : Int32) (ky : Int32) (sx : Int32) (sy : Int32) (px : Int32) (py : Int32) (fx : Int64) (fy : Int64) (pr : Int32) (bi : Int32) (row : Nat → Int32) : Int64 × Int32 × (Nat → Int32) :=
  if kx = 1 then
    if ky = 1 then
      ((C_M_invalid fl pr bi).1, (C_M_invalid fl pr bi).2, row)
    else
      (C_M_endless pr bi (sx ^^^ sy), fl, row)
  else
    if ky = 1 then
      (C_M_made pr (sx ^^^ sy) 0 0, fl, row)
    else
      if fy = 0 then
        if fx = 0 then
          ((C_M_invalid fl pr bi).1, (C_M_invalid fl pr bi).2, row)
        else
          (C_M_endless pr bi (sx ^^^ sy), fl ||| 8, row)
      else
        if fx = 0 then
          (C_M_made pr (sx ^^^ sy) 0 0, fl, row)
        else
          C_M_quotient_112 md fl px py fx fy pr bi (sx ^^^ sy)
abbrev rmM_quotient : Room := { frames := 3, cells := 0, slots := 0, locals := 81 }
theorem cwM_quotient {R : Room} {s : State} {args : Array Value} {w0 : Cond} {own : String} {idx : Nat} (hts : ∀ w ∈ (w0 :: bigW), w.before args s = true) (hl : Cond.methodLink own idx yM_quotient ∈ bigW) (hR : rmM_quotient.frames + 1 ≤ R.frames ∧ 8 + (5 + 11) + rmM_quotient.locals ≤ R.locals) : CallW R s args own "FloatUnitModel" idx yM_quotient cM_quotient 5 (some .long) (wsM yM_quotient cM_quotient 5 (some .long)) rmM_quotient 0 0 0 :=
  cwV 0 hts (big_V hl w_492 sel_M_quotient w_2 w_493) rfl rfl rfl ⟨rfl, by decide, by decide, by decide +kernel⟩ hR
set_option maxRecDepth 100000 in
set_option maxHeartbeats 8000000 in
theorem c_M_quotient (l : Launch) (D : va_G) (cI cL : ClassId) (m0 ra rb rc : Nat) (md fl er kx ky sx sy px py : Int32) (fx fy : Int64) (pr bi : Int32) (row oth : Nat → Int32) (rg : Nat → Int64) (hfx : uL fx < 2 ^ 53) (hfy : uL fy < 2 ^ 53) (hpr : 1 ≤ pr.toInt ∧ pr.toInt ≤ 64) (hbi : 0 ≤ bi.toInt ∧ bi.toInt ≤ 1023) (hkk : -5000 ≤ ((px - py) - 120).toInt ∧ ((px - py) - 120).toInt ≤ 5000) : MoM l D cI cL m0 ra rb rc yM_quotient (wsM yM_quotient cM_quotient 5 (some .long)) rmM_quotient [] ((md, fl, er, kx, ky, sx, sy, px, py), (fx, fy), (pr, bi), row, oth, rg) (some (.long ((C_M_quotient md fl kx ky sx sy px py fx fy pr bi row).1))) ((md, ((C_M_quotient md fl kx ky sx sy px py fx fy pr bi row).2.1), er, kx, ky, sx, sy, px, py), (fx, fy), (pr, bi), ((C_M_quotient md fl kx ky sx sy px py fx fy pr bi row).2.2), oth, rg) := by
  refine mo_ofL (cc := cM_quotient) (maxL := 5) (by decide) rfl (Nat.le_of_ble_eq_true rfl) ?_
  intro p e s m args below meth c Q hx hb hml hown hts H locs hS hw hret ls hl
  have hl : lv_has ls 5 [(0, .ref m0)] := hl
  have J112 : ∀ (u1 : Int32) (ls : Array Slot), ¬ fx = 0 → ¬ fy = 0 → lv_has ls 5 [(0, .ref m0), (1, .int u1)] → MOw D cI cL m0 ra rb rc ((md, fl, er, kx, ky, sx, sy, px, py), (fx, fy), (pr, bi), row, oth, rg) s H → va_S (mA m0 ra rb rc) s.heap H locs → C_M_quotient_112 md fl px py fx fy pr bi u1 = C_M_quotient md fl kx ky sx sy px py fx fy pr bi row → W p l e rmM_quotient s m args below meth c H locs 0 0 Q (F0 m 112 ls []) := by
    intro u1 ls hnx hny hl hw hS he
    unfold C_M_quotient_112 at he
    have hax : fx = lN (uL fx) := lN_uL fx
    have hay : fy = lN (uL fy) := lN_uL fy
    have hx0 : uL fx ≠ 0 := fun q => hnx (by rw [hax, q]; rfl)
    have hy0 : uL fy ≠ 0 := fun q => hny (by rw [hay, q]; rfl)
    generalize uL fx = a at hax hx0 he hfx
    generalize uL fy = b at hay hy0 he hfy
    have hAb : ∀ k, a * 2 ^ 120 / 2 ^ k % 2 = zAb a k := z_A120 a
    have hA : a * 2 ^ 120 < 2 ^ 173 := by
      rw [show 173 = 53 + 120 from rfl, Nat.pow_add]
      exact Nat.mul_lt_mul_of_pos_right hfx (z_p 120)
    have hA2 : 2 ^ 120 ≤ a * 2 ^ 120 := Nat.le_mul_of_pos_left _ (by omega)
    have hb53 : b < 2 ^ 120 := Nat.lt_of_lt_of_le hfy (z_pow_le (by decide))
    generalize a * 2 ^ 120 = AA at hAb hA hA2 he
    have hQ0 : AA / b ≠ 0 := by
      have := Nat.div_pos (show b ≤ AA by omega) (by omega)
      omega
    have hQ173 : AA / b < 2 ^ 173 := Nat.lt_of_le_of_lt (Nat.div_le_self _ _) hA
    have hQ : AA / b < 2 ^ 2200 := Nat.lt_of_lt_of_le hQ173 (z_pow_le (by decide))
    have loop : ∀ (n : Nat) (row9 : Nat → Int32) (ls : Array Slot) (H : Heap) (locs : List Loc), n ≤ 173 → lv_has ls 5 [(0, .ref m0), (1, .int u1), (2, .long (lN (AA / 2 ^ n % b))), (4, .int (iI ((n : Int) - 1)))] → MOw D cI cL m0 ra rb rc ((md, fl, er, kx, ky, sx, sy, px, py), (fx, fy), (pr, bi), row9, oth, rg) s H → va_S (mA m0 ra rb rc) s.heap H locs → (∀ j, j < 2200 → row9 j = if n ≤ j then nI (AA / b / 2 ^ j % 2) else 0) → W p l e rmM_quotient s m args below meth c H locs 0 0 Q (F0 m 123 ls []) := by
      intro n
      induction n with
      | zero =>
        intro row9 ls H locs hn hl hw hS hr
        refine lv_iload (pc := 123) hx hb dM_quotient_123 (lv_at hl 3 rfl) ?_
        refine lv_if_lt (tgt := 188) (pc := 125) hx hb dM_quotient_125 (by decide) (fun _ => ?_) (fun h => absurd (by decide) h)
        have hw : MOw D cI cL m0 ra rb rc ((md, fl, er, kx, ky, sx, sy, px, py), (fx, fy), (pr, bi), (bR (AA / b)), oth, rg) s H := mo_rc hw (fun j hj => by rw [hr j hj, if_pos (Nat.zero_le j)]; rfl)
        rw [Nat.pow_zero, Nat.div_one] at hl
        refine lv_aload_n (pc := 188) hx hb dM_quotient_188 rfl (lv_at hl 0 rfl) ?_
        refine lv_iload_n (pc := 189) hx hb dM_quotient_189 rfl (lv_at hl 1 rfl) ?_
        refine lv_aload_n (pc := 190) hx hb dM_quotient_190 rfl (lv_at hl 0 rfl) ?_
        refine mo_g_powerX (pc := 191) hx hb hts hown hw w_366 dM_quotient_191 ?_
        refine lv_aload_n (pc := 194) hx hb dM_quotient_194 rfl (lv_at hl 0 rfl) ?_
        refine mo_g_powerY (pc := 195) hx hb hts hown hw w_367 dM_quotient_195 ?_
        refine lv_isub (pc := 198) hx hb dM_quotient_198 ?_
        refine lv_bipush (v := 120) (pc := 199) hx hb dM_quotient_199 (by decide) ?_
        refine lv_isub (pc := 201) hx hb dM_quotient_201 ?_
        refine lv_lload_n (pc := 202) hx hb dM_quotient_202 rfl (lv_at hl 2 rfl) ?_
        refine lv_lconst (v := 0) (pc := 203) hx hb dM_quotient_203 (by decide) ?_
        refine W.lcmp (pc := 204) hx hb dM_quotient_204 ?_
        have hm : AA % b < 2 ^ 53 := Nat.lt_trans (Nat.mod_lt _ (by omega)) hfy
        have hm63 : (2 : Nat) ^ 53 < 2 ^ 63 := by decide
        have hz : lN (AA % b) = 0 ↔ AA % b = 0 := pk_lEQ (b := 0) (by omega) (by decide)
        refine lv_if_eq (tgt := 212) (pc := 205) hx hb dM_quotient_205 (by decide) (fun h => ?_) (fun h => ?_)
        · have h : AA % b = 0 := hz.1 ((lg_cmp_eq _ _).1 h)
          have hd : decide (AA % b ≠ 0) = false := by rw [decide_eq_false]; exact fun q => q h
          refine lv_iconst (v := 0) (pc := 212) hx hb dM_quotient_212 (by decide) ?_
          rw [hd] at he
          refine mo_V (pc := 213) (rest := []) ⟨hx, hb, hml, hown, hts⟩ (c_M_rounded l D cI cL m0 ra rb rc md fl er kx ky sx sy px py fx fy pr bi row oth rg u1 ((px - py) - 120) false (AA / b) hQ0 hQ hpr hbi hkk) (cwM_rounded hts w_477 ⟨by decide, by decide⟩) hw hS rfl hl.1 rfl (Nat.le_of_ble_eq_true rfl) dM_quotient_213 ⟨Nat.zero_le _, Nat.zero_le _⟩ (fun H locs hw hS => ?_)
          exact hret _ _ _ _ _ _ (congrArg Prod.fst he) (by rw [← he]) hw hS dM_quotient_216
        · have h : ¬ AA % b = 0 := fun g => h ((lg_cmp_eq _ _).2 (hz.2 g))
          have hd : decide (AA % b ≠ 0) = true := by rw [decide_eq_true]; exact h
          refine lv_iconst (v := 1) (pc := 208) hx hb dM_quotient_208 (by decide) ?_
          refine lv_goto (tgt := 213) (pc := 209) hx hb dM_quotient_209 (by decide) ?_
          rw [hd] at he
          refine mo_V (pc := 213) (rest := []) ⟨hx, hb, hml, hown, hts⟩ (c_M_rounded l D cI cL m0 ra rb rc md fl er kx ky sx sy px py fx fy pr bi row oth rg u1 ((px - py) - 120) true (AA / b) hQ0 hQ hpr hbi hkk) (cwM_rounded hts w_477 ⟨by decide, by decide⟩) hw hS rfl hl.1 rfl (Nat.le_of_ble_eq_true rfl) dM_quotient_213 ⟨Nat.zero_le _, Nat.zero_le _⟩ (fun H locs hw hS => ?_)
          exact hret _ _ _ _ _ _ (congrArg Prod.fst he) (by rw [← he]) hw hS dM_quotient_216
      | succ n ih =>
        intro row9 ls H locs hn hl hw hS hr
        have en : iI (((n + 1 : Nat) : Int) - 1) = nI n := by rw [iI_nI, show (((n + 1 : Nat) : Int) - 1) = (n : Int) by omega]
        rw [en] at hl
        obtain ⟨st1, st2⟩ := z_divstep (A := AA) (b := b) (n := n) (by omega)
        rw [hAb] at st1 st2
        have hr1 : AA / 2 ^ (n + 1) % b < b := Nat.mod_lt _ (by omega)
        have hzb := zAb_lt a n
        have q53 : 2 * 2 ^ 53 + 2 < 2 ^ 63 := by decide
        generalize AA / 2 ^ (n + 1) % b = r at hl st1 st2 hr1
        refine lv_iload (pc := 123) hx hb dM_quotient_123 (lv_at hl 3 rfl) ?_
        refine lv_if_lt (tgt := 188) (pc := 125) hx hb dM_quotient_125 (by decide) (fun h => absurd h (nI_pos (by omega))) (fun _ => ?_)
        have K156 : ∀ v9 : Int64, v9 = lN (zAb a n) → W p l e rmM_quotient s m args below meth c H locs 0 0 Q (F0 m 156 ls [.long v9, .long (2 * lN r)]) := by
          intro v9 hv9
          subst hv9
          refine lv_ladd (pc := 156) hx hb dM_quotient_156 ?_
          refine lv_topl (fun v1 e1 => ?_)
          obtain rfl : v1 = lN (2 * r + zAb a n) := e1.trans (by rw [show (2 : Int64) = lN 2 from rfl, lN_mul, lN_add])
          refine lv_lstore_n (lv' := [(2, .long (lN (2 * r + zAb a n))), (0, .ref m0), (1, .int u1), (4, .int (nI n))]) (pc := 157) hx hb dM_quotient_157 rfl hl (by decide) rfl (fun ls hl => ?_)
          refine lv_lload_n (pc := 158) hx hb dM_quotient_158 rfl (lv_at hl 0 rfl) ?_
          refine lv_aload_n (pc := 159) hx hb dM_quotient_159 rfl (lv_at hl 1 rfl) ?_
          refine mo_g_partY (pc := 160) hx hb hts hown hw w_369 dM_quotient_160 ?_
          refine W.lcmp (pc := 163) hx hb dM_quotient_163 ?_
          have hcmp : lN (2 * r + zAb a n) < fy ↔ 2 * r + zAb a n < b := by rw [hay]; exact pk_lLT (by omega) (by omega)
          refine lv_if_lt (tgt := 182) (pc := 164) hx hb dM_quotient_164 (by decide) (fun h => ?_) (fun h => ?_)
          · have h : 2 * r + zAb a n < b := hcmp.1 ((lg_cmp_lt _ _).1 h)
            rw [if_pos h] at st1 st2
            refine lv_iinc (k := 3) (v := iI ((n : Int) - 1)) (lv' := [(4, .int (iI ((n : Int) - 1))), (2, .long (lN (2 * r + zAb a n))), (0, .ref m0), (1, .int u1)]) (pc := 182) hx hb dM_quotient_182 hl rfl (by rw [iI_nI]; exact iI_dec _) (by decide) rfl (fun ls hl => ?_)
            refine lv_goto (tgt := 123) (pc := 185) hx hb dM_quotient_185 (by decide) ?_
            refine ih row9 ls H locs (by omega) (by rw [st1]; exact lv_sub hl [2, 3, 1, 0] rfl) hw hS (fun j hj => ?_)
            rw [hr j hj]
            by_cases g : n + 1 ≤ j
            · rw [if_pos g, if_pos (by omega)]
            · rw [if_neg g]
              by_cases g2 : n ≤ j
              · obtain rfl : j = n := by omega
                rw [if_pos g2, st2]
                rfl
              · rw [if_neg g2]
          · have h : ¬ 2 * r + zAb a n < b := fun q => h ((lg_cmp_lt _ _).2 (hcmp.2 q))
            rw [if_neg h] at st1 st2
            refine lv_lload_n (pc := 167) hx hb dM_quotient_167 rfl (lv_at hl 0 rfl) ?_
            refine lv_aload_n (pc := 168) hx hb dM_quotient_168 rfl (lv_at hl 1 rfl) ?_
            refine mo_g_partY (pc := 169) hx hb hts hown hw w_369 dM_quotient_169 ?_
            refine lv_lsub (pc := 172) hx hb dM_quotient_172 ?_
            refine lv_topl (fun v2 e2 => ?_)
            obtain rfl : v2 = lN (2 * r + zAb a n - b) := e2.trans (by rw [hay, lN_sub (by omega)])
            refine lv_lstore_n (lv' := [(2, .long (lN (2 * r + zAb a n - b))), (0, .ref m0), (1, .int u1), (4, .int (nI n))]) (pc := 173) hx hb dM_quotient_173 rfl hl (by decide) rfl (fun ls hl => ?_)
            refine lv_aload_n (pc := 174) hx hb dM_quotient_174 rfl (lv_at hl 1 rfl) ?_
            refine mo_g_row (pc := 175) hx hb hts hown hw w_356 dM_quotient_175 ?_
            refine lv_iload (pc := 178) hx hb dM_quotient_178 (lv_at hl 3 rfl) ?_
            refine lv_iconst (v := 1) (pc := 180) hx hb dM_quotient_180 (by decide) ?_
            refine mo_rs (pc := 181) hx hb hw hS (vp_in_nI (by omega) (by decide)) dM_quotient_181 (fun H locs hw hS => ?_)
            refine lv_iinc (k := 3) (v := iI ((n : Int) - 1)) (lv' := [(4, .int (iI ((n : Int) - 1))), (2, .long (lN (2 * r + zAb a n - b))), (0, .ref m0), (1, .int u1)]) (pc := 182) hx hb dM_quotient_182 hl rfl (by rw [iI_nI]; exact iI_dec _) (by decide) rfl (fun ls hl => ?_)
            refine lv_goto (tgt := 123) (pc := 185) hx hb dM_quotient_185 (by decide) ?_
            refine ih _ ls H locs (by omega) (by rw [st1]; exact lv_sub hl [2, 3, 1, 0] rfl) hw hS (fun j hj => ?_)
            rw [nI_cl (by omega), upd_at]
            by_cases hjn : j = n
            · subst hjn
              rw [if_pos rfl, if_pos (Nat.le_refl j), st2]
              rfl
            · rw [if_neg hjn, hr j hj]
              by_cases g : n + 1 ≤ j
              · rw [if_pos g, if_pos (by omega)]
              · rw [if_neg g, if_neg (by omega)]
        refine lv_ldc2 (v := 2) (pc := 128) hx hb hown (hts _ (List.mem_cons_of_mem _ w_485)) dM_quotient_128 ?_
        refine lv_lload_n (pc := 131) hx hb dM_quotient_131 rfl (lv_at hl 2 rfl) ?_
        refine lv_lmul (pc := 132) hx hb dM_quotient_132 ?_
        refine lv_iload (pc := 133) hx hb dM_quotient_133 (lv_at hl 3 rfl) ?_
        refine lv_bipush (v := 120) (pc := 135) hx hb dM_quotient_135 (by decide) ?_
        refine lv_icmp_lt (tgt := 155) (pc := 137) hx hb dM_quotient_137 (by decide) (fun h => ?_) (fun h => ?_)
        · have h : n < 120 := (nI_ltI (b := 120) (by omega) (by decide)).1 h
          refine lv_lconst (v := 0) (pc := 155) hx hb dM_quotient_155 (by decide) ?_
          exact K156 _ (by unfold zAb; rw [if_neg (by omega)]; rfl)
        · have h : ¬ n < 120 := fun q => h (nI_lt q (by decide))
          refine lv_aload_n (pc := 140) hx hb dM_quotient_140 rfl (lv_at hl 0 rfl) ?_
          refine mo_g_partX (pc := 141) hx hb hts hown hw w_368 dM_quotient_141 ?_
          refine lv_iload (pc := 144) hx hb dM_quotient_144 (lv_at hl 3 rfl) ?_
          refine lv_bipush (v := 120) (pc := 146) hx hb dM_quotient_146 (by decide) ?_
          refine lv_isub (pc := 148) hx hb dM_quotient_148 ?_
          refine lv_lshr (v := jShr fx ((nI n) - 120)) (pc := 149) hx hb dM_quotient_149 rfl ?_
          refine lv_lconst (v := 1) (pc := 150) hx hb dM_quotient_150 (by decide) ?_
          refine lv_land (pc := 151) hx hb dM_quotient_151 ?_
          refine lv_goto (tgt := 156) (pc := 152) hx hb dM_quotient_152 (by decide) ?_
          exact K156 _ (by rw [hax, show (120 : Int32) = nI 120 from rfl, pk_sub (by omega), bit_lN hfx (by omega)]; unfold zAb; rw [if_pos (by omega)])
    refine lv_aload_n (pc := 112) hx hb dM_quotient_112 rfl (lv_at hl 0 rfl) ?_
    refine mo_V (pc := 113) (rest := []) ⟨hx, hb, hml, hown, hts⟩ (c_M_clear l D cI cL m0 ra rb rc md fl er kx ky sx sy px py fx fy pr bi row oth rg) (cwM_clear hts w_469 ⟨by decide, by decide⟩) hw hS rfl hl.1 rfl (Nat.le_of_ble_eq_true rfl) dM_quotient_113 ⟨Nat.zero_le _, Nat.zero_le _⟩ (fun H locs hw hS => ?_)
    refine W.eq (g2 := F0 m 116 ls []) rfl ?_
    refine lv_lconst (v := 0) (pc := 116) hx hb dM_quotient_116 (by decide) ?_
    refine lv_lstore_n (lv' := [(2, .long 0), (0, .ref m0), (1, .int u1)]) (pc := 117) hx hb dM_quotient_117 rfl hl (by decide) rfl (fun ls hl => ?_)
    refine lv_sipush (v := 172) (pc := 118) hx hb dM_quotient_118 (by decide) ?_
    refine lv_istore (lv' := [(4, .int 172), (2, .long 0), (0, .ref m0), (1, .int u1)]) (pc := 121) hx hb dM_quotient_121 hl (by decide) rfl (fun ls hl => ?_)
    refine loop 173 (bR 0) ls H locs (Nat.le_refl _) ?_ hw hS (fun j hj => ?_)
    · rw [Nat.div_eq_of_lt hA, Nat.zero_mod, show iI (((173 : Nat) : Int) - 1) = 172 from rfl]
      exact lv_sub hl [2, 3, 1, 0] rfl
    · rw [bR_0]
      by_cases g : 173 ≤ j
      · rw [if_pos g, z_bit_hi (Nat.lt_of_lt_of_le hQ173 (z_pow_le g))]
        rfl
      · rw [if_neg g]
  refine lv_aload_n (pc := 0) hx hb dM_quotient_0 rfl (lv_at hl 0 rfl) ?_
  refine mo_g_signX (pc := 1) hx hb hts hown hw w_364 dM_quotient_1 ?_
  refine lv_aload_n (pc := 4) hx hb dM_quotient_4 rfl (lv_at hl 0 rfl) ?_
  refine mo_g_signY (pc := 5) hx hb hts hown hw w_365 dM_quotient_5 ?_
  refine lv_ixor (pc := 8) hx hb dM_quotient_8 ?_
  refine lv_istore_n (lv' := [(1, .int (sx ^^^ sy)), (0, .ref m0)]) (pc := 9) hx hb dM_quotient_9 rfl hl (by decide) rfl (fun ls hl => ?_)
  refine lv_aload_n (pc := 10) hx hb dM_quotient_10 rfl (lv_at hl 1 rfl) ?_
  refine mo_g_kindX (pc := 11) hx hb hts hown hw w_362 dM_quotient_11 ?_
  refine lv_iconst (v := 1) (pc := 14) hx hb dM_quotient_14 (by decide) ?_
  refine lv_icmp_ne (tgt := 39) (pc := 15) hx hb dM_quotient_15 (by decide) (fun h1 => ?_) (fun h1 => ?_)
  · skip
    refine lv_aload_n (pc := 39) hx hb dM_quotient_39 rfl (lv_at hl 1 rfl) ?_
    refine mo_g_kindY (pc := 40) hx hb hts hown hw w_363 dM_quotient_40 ?_
    refine lv_iconst (v := 1) (pc := 43) hx hb dM_quotient_43 (by decide) ?_
    refine lv_icmp_ne (tgt := 55) (pc := 44) hx hb dM_quotient_44 (by decide) (fun h2 => ?_) (fun h2 => ?_)
    · skip
      refine lv_aload_n (pc := 55) hx hb dM_quotient_55 rfl (lv_at hl 1 rfl) ?_
      refine mo_g_partY (pc := 56) hx hb hts hown hw w_369 dM_quotient_56 ?_
      refine lv_lconst (v := 0) (pc := 59) hx hb dM_quotient_59 (by decide) ?_
      refine W.lcmp (pc := 60) hx hb dM_quotient_60 ?_
      refine lv_if_ne (tgt := 95) (pc := 61) hx hb dM_quotient_61 (by decide) (fun h3 => ?_) (fun h3 => ?_)
      · skip
        have h3 : ¬ (fy = 0) := fun q => h3 ((lg_cmp_eq _ _).2 q)
        refine lv_aload_n (pc := 95) hx hb dM_quotient_95 rfl (lv_at hl 1 rfl) ?_
        refine mo_g_partX (pc := 96) hx hb hts hown hw w_368 dM_quotient_96 ?_
        refine lv_lconst (v := 0) (pc := 99) hx hb dM_quotient_99 (by decide) ?_
        refine W.lcmp (pc := 100) hx hb dM_quotient_100 ?_
        refine lv_if_ne (tgt := 112) (pc := 101) hx hb dM_quotient_101 (by decide) (fun h4 => ?_) (fun h4 => ?_)
        · skip
          have h4 : ¬ (fx = 0) := fun q => h4 ((lg_cmp_eq _ _).2 q)
          exact J112 (sx ^^^ sy) ls h4 h3 (lv_sub hl [1, 0] rfl) hw hS (show C_M_quotient_112 md fl px py fx fy pr bi (sx ^^^ sy) = C_M_quotient md fl kx ky sx sy px py fx fy pr bi row from by rw [C_M_quotient, if_neg h1, if_neg h2, if_neg h3, if_neg h4])
        · skip
          have h4 : fx = 0 := (lg_cmp_eq _ _).1 h4
          refine lv_aload_n (pc := 104) hx hb dM_quotient_104 rfl (lv_at hl 1 rfl) ?_
          refine lv_iload_n (pc := 105) hx hb dM_quotient_105 rfl (lv_at hl 0 rfl) ?_
          refine lv_lconst (v := 0) (pc := 106) hx hb dM_quotient_106 (by decide) ?_
          refine lv_lconst (v := 0) (pc := 107) hx hb dM_quotient_107 (by decide) ?_
          refine mo_V (pc := 108) (rest := []) ⟨hx, hb, hml, hown, hts⟩ (c_M_made l D cI cL m0 ra rb rc md fl er kx ky sx sy px py fx fy pr bi row oth rg (sx ^^^ sy) 0 0) (cwM_made hts w_453 ⟨by decide, by decide⟩) hw hS rfl hl.1 rfl (Nat.le_of_ble_eq_true rfl) dM_quotient_108 ⟨Nat.zero_le _, Nat.zero_le _⟩ (fun H locs hw hS => ?_)
          refine W.eq (g2 := F0 m 111 ls [.long (C_M_made pr (sx ^^^ sy) 0 0)]) rfl ?_
          have he9 := (show (C_M_made pr (sx ^^^ sy) 0 0, fl, row) = C_M_quotient md fl kx ky sx sy px py fx fy pr bi row from by rw [C_M_quotient, if_neg h1, if_neg h2, if_neg h3, if_pos h4])
          exact hret _ _ _ _ _ _ (congrArg Prod.fst he9) (by rw [← he9]) hw hS dM_quotient_111
      · skip
        have h3 : fy = 0 := (lg_cmp_eq _ _).1 h3
        refine lv_aload_n (pc := 64) hx hb dM_quotient_64 rfl (lv_at hl 1 rfl) ?_
        refine mo_g_partX (pc := 65) hx hb hts hown hw w_368 dM_quotient_65 ?_
        refine lv_lconst (v := 0) (pc := 68) hx hb dM_quotient_68 (by decide) ?_
        refine W.lcmp (pc := 69) hx hb dM_quotient_69 ?_
        refine lv_if_ne (tgt := 78) (pc := 70) hx hb dM_quotient_70 (by decide) (fun h5 => ?_) (fun h5 => ?_)
        · skip
          have h5 : ¬ (fx = 0) := fun q => h5 ((lg_cmp_eq _ _).2 q)
          refine lv_aload_n (pc := 78) hx hb dM_quotient_78 rfl (lv_at hl 1 rfl) ?_
          refine lv_dup (pc := 79) hx hb dM_quotient_79 rfl ?_
          refine mo_g_flags (pc := 80) hx hb hts hown hw w_360 dM_quotient_80 ?_
          refine lv_bipush (v := 8) (pc := 83) hx hb dM_quotient_83 (by decide) ?_
          refine lv_ior (pc := 85) hx hb dM_quotient_85 ?_
          refine mo_p_flags (pc := 86) hx hb hts hown hw hS w_360 dM_quotient_86 (fun H locs hw hS => ?_)
          refine lv_aload_n (pc := 89) hx hb dM_quotient_89 rfl (lv_at hl 1 rfl) ?_
          refine lv_iload_n (pc := 90) hx hb dM_quotient_90 rfl (lv_at hl 0 rfl) ?_
          refine mo_V (pc := 91) (rest := []) ⟨hx, hb, hml, hown, hts⟩ (c_M_endless l D cI cL m0 ra rb rc md (fl ||| 8) er kx ky sx sy px py fx fy pr bi row oth rg (sx ^^^ sy)) (cwM_endless hts w_465 ⟨by decide, by decide⟩) hw hS rfl hl.1 rfl (Nat.le_of_ble_eq_true rfl) dM_quotient_91 ⟨Nat.zero_le _, Nat.zero_le _⟩ (fun H locs hw hS => ?_)
          refine W.eq (g2 := F0 m 94 ls [.long (C_M_endless pr bi (sx ^^^ sy))]) rfl ?_
          have he9 := (show (C_M_endless pr bi (sx ^^^ sy), fl ||| 8, row) = C_M_quotient md fl kx ky sx sy px py fx fy pr bi row from by rw [C_M_quotient, if_neg h1, if_neg h2, if_pos h3, if_neg h5])
          exact hret _ _ _ _ _ _ (congrArg Prod.fst he9) (by rw [← he9]) hw hS dM_quotient_94
        · skip
          have h5 : fx = 0 := (lg_cmp_eq _ _).1 h5
          refine lv_aload_n (pc := 73) hx hb dM_quotient_73 rfl (lv_at hl 1 rfl) ?_
          refine mo_V (pc := 74) (rest := []) ⟨hx, hb, hml, hown, hts⟩ (c_M_invalid l D cI cL m0 ra rb rc md fl er kx ky sx sy px py fx fy pr bi row oth rg ) (cwM_invalid hts w_461 ⟨by decide, by decide⟩) hw hS rfl hl.1 rfl (Nat.le_of_ble_eq_true rfl) dM_quotient_74 ⟨Nat.zero_le _, Nat.zero_le _⟩ (fun H locs hw hS => ?_)
          refine W.eq (g2 := F0 m 77 ls [.long ((C_M_invalid fl pr bi).1)]) rfl ?_
          have he9 := (show ((C_M_invalid fl pr bi).1, (C_M_invalid fl pr bi).2, row) = C_M_quotient md fl kx ky sx sy px py fx fy pr bi row from by rw [C_M_quotient, if_neg h1, if_neg h2, if_pos h3, if_pos h5])
          exact hret _ _ _ _ _ _ (congrArg Prod.fst he9) (by rw [← he9]) hw hS dM_quotient_77
    · skip
      refine lv_aload_n (pc := 47) hx hb dM_quotient_47 rfl (lv_at hl 1 rfl) ?_
      refine lv_iload_n (pc := 48) hx hb dM_quotient_48 rfl (lv_at hl 0 rfl) ?_
      refine lv_lconst (v := 0) (pc := 49) hx hb dM_quotient_49 (by decide) ?_
      refine lv_lconst (v := 0) (pc := 50) hx hb dM_quotient_50 (by decide) ?_
      refine mo_V (pc := 51) (rest := []) ⟨hx, hb, hml, hown, hts⟩ (c_M_made l D cI cL m0 ra rb rc md fl er kx ky sx sy px py fx fy pr bi row oth rg (sx ^^^ sy) 0 0) (cwM_made hts w_453 ⟨by decide, by decide⟩) hw hS rfl hl.1 rfl (Nat.le_of_ble_eq_true rfl) dM_quotient_51 ⟨Nat.zero_le _, Nat.zero_le _⟩ (fun H locs hw hS => ?_)
      refine W.eq (g2 := F0 m 54 ls [.long (C_M_made pr (sx ^^^ sy) 0 0)]) rfl ?_
      have he9 := (show (C_M_made pr (sx ^^^ sy) 0 0, fl, row) = C_M_quotient md fl kx ky sx sy px py fx fy pr bi row from by rw [C_M_quotient, if_neg h1, if_pos h2])
      exact hret _ _ _ _ _ _ (congrArg Prod.fst he9) (by rw [← he9]) hw hS dM_quotient_54
  · skip
    refine lv_aload_n (pc := 18) hx hb dM_quotient_18 rfl (lv_at hl 1 rfl) ?_
    refine mo_g_kindY (pc := 19) hx hb hts hown hw w_363 dM_quotient_19 ?_
    refine lv_iconst (v := 1) (pc := 22) hx hb dM_quotient_22 (by decide) ?_
    refine lv_icmp_ne (tgt := 33) (pc := 23) hx hb dM_quotient_23 (by decide) (fun h6 => ?_) (fun h6 => ?_)
    · skip
      refine lv_aload_n (pc := 33) hx hb dM_quotient_33 rfl (lv_at hl 1 rfl) ?_
      refine lv_iload_n (pc := 34) hx hb dM_quotient_34 rfl (lv_at hl 0 rfl) ?_
      refine mo_V (pc := 35) (rest := []) ⟨hx, hb, hml, hown, hts⟩ (c_M_endless l D cI cL m0 ra rb rc md fl er kx ky sx sy px py fx fy pr bi row oth rg (sx ^^^ sy)) (cwM_endless hts w_465 ⟨by decide, by decide⟩) hw hS rfl hl.1 rfl (Nat.le_of_ble_eq_true rfl) dM_quotient_35 ⟨Nat.zero_le _, Nat.zero_le _⟩ (fun H locs hw hS => ?_)
      refine W.eq (g2 := F0 m 38 ls [.long (C_M_endless pr bi (sx ^^^ sy))]) rfl ?_
      have he9 := (show (C_M_endless pr bi (sx ^^^ sy), fl, row) = C_M_quotient md fl kx ky sx sy px py fx fy pr bi row from by rw [C_M_quotient, if_pos h1, if_neg h6])
      exact hret _ _ _ _ _ _ (congrArg Prod.fst he9) (by rw [← he9]) hw hS dM_quotient_38
    · skip
      refine lv_aload_n (pc := 26) hx hb dM_quotient_26 rfl (lv_at hl 1 rfl) ?_
      refine mo_V (pc := 27) (rest := []) ⟨hx, hb, hml, hown, hts⟩ (c_M_invalid l D cI cL m0 ra rb rc md fl er kx ky sx sy px py fx fy pr bi row oth rg ) (cwM_invalid hts w_461 ⟨by decide, by decide⟩) hw hS rfl hl.1 rfl (Nat.le_of_ble_eq_true rfl) dM_quotient_27 ⟨Nat.zero_le _, Nat.zero_le _⟩ (fun H locs hw hS => ?_)
      refine W.eq (g2 := F0 m 30 ls [.long ((C_M_invalid fl pr bi).1)]) rfl ?_
      refine lv_goto (tgt := 38) (pc := 30) hx hb dM_quotient_30 (by decide) ?_
      have he9 := (show ((C_M_invalid fl pr bi).1, (C_M_invalid fl pr bi).2, row) = C_M_quotient md fl kx ky sx sy px py fx fy pr bi row from by rw [C_M_quotient, if_pos h1, if_pos h6])
      exact hret _ _ _ _ _ _ (congrArg Prod.fst he9) (by rw [← he9]) hw hS dM_quotient_38
